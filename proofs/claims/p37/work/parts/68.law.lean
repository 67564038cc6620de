def F_L_law (S u : bT8 × bT9) : Prop := True
set_option maxRecDepth 20000 in
set_option maxHeartbeats 40000000 in
theorem sf_law {L : Nat} {scr : Nat → Int32} (hL : L ≤ 3584) {S : bT8 × bT9} (hJ : J8 S.1 ∧ J9 S.2) (hR0 : (b8g_isKept S.1).toInt = (b9g_hasImage S.2).toInt) (hR1 : 0 ≤ (b8g_isKept S.1).toInt) (hR2 : (b8g_isKept S.1).toInt ≤ 1) (hR3 : (b0g_count (b2g_questions (b8g_now S.1))).toInt = (b9g_now S.2 10).toInt) (hR4 : (b0g_count (b2g_questions (b8g_kept S.1))).toInt = (b9g_images S.2 10).toInt) : wp_L_law L scr S 0 := by
  unfold wp_L_law
  have eL : (Int32.ofNat L).toInt = (L : Int) := nI_toInt (by omega)
  have hFS : F_L_law S S := trivial
  have jf1 := J0g_count (J2g_questions (J8g_now hJ.1))
  have jf2 := J0g_count (J2g_questions (J8g_kept hJ.1))
  refine ⟨fun n x3q1 Sq1 => (J8 Sq1.1 ∧ J9 Sq1.2) ∧ (F_L_law S Sq1) ∧ (0 ≤ (x3q1).toInt) ∧ ((x3q1).toInt ≤ 4000) ∧ ((b8g_isKept Sq1.1).toInt = (b9g_hasImage Sq1.2).toInt) ∧ (0 ≤ (b8g_isKept Sq1.1).toInt) ∧ ((b8g_isKept Sq1.1).toInt ≤ 1) ∧ ((b0g_count (b2g_questions (b8g_now Sq1.1))).toInt = (b9g_now Sq1.2 10).toInt) ∧ ((b0g_count (b2g_questions (b8g_kept Sq1.1))).toInt = (b9g_images Sq1.2 10).toInt) ∧ n = ((L : Int) + 8 - (x3q1).toInt).toNat, ⟨_, hJ, hFS, (by first | omega | ((try simp (disch := first | ((try simp (disch := first | ((try simp only [pn]) <;> omega) | fail) only [pn, pq]) <;> omega) | fail) only [pn, pq]) <;> (intros; (try simp (disch := first | ((try simp (disch := first | ((try simp only [pn]) <;> omega) | fail) only [pn, pq]) <;> omega) | fail) only [pn, pq]) <;> omega))), (by first | omega | ((try simp (disch := first | ((try simp (disch := first | ((try simp only [pn]) <;> omega) | fail) only [pn, pq]) <;> omega) | fail) only [pn, pq]) <;> (intros; (try simp (disch := first | ((try simp (disch := first | ((try simp only [pn]) <;> omega) | fail) only [pn, pq]) <;> omega) | fail) only [pn, pq]) <;> omega))), (by first | omega | ((try simp (disch := first | ((try simp (disch := first | ((try simp only [pn]) <;> omega) | fail) only [pn, pq]) <;> omega) | fail) only [pn, pq]) <;> (intros; (try simp (disch := first | ((try simp (disch := first | ((try simp only [pn]) <;> omega) | fail) only [pn, pq]) <;> omega) | fail) only [pn, pq]) <;> omega))), (by first | omega | ((try simp (disch := first | ((try simp (disch := first | ((try simp only [pn]) <;> omega) | fail) only [pn, pq]) <;> omega) | fail) only [pn, pq]) <;> (intros; (try simp (disch := first | ((try simp (disch := first | ((try simp only [pn]) <;> omega) | fail) only [pn, pq]) <;> omega) | fail) only [pn, pq]) <;> omega))), (by first | omega | ((try simp (disch := first | ((try simp (disch := first | ((try simp only [pn]) <;> omega) | fail) only [pn, pq]) <;> omega) | fail) only [pn, pq]) <;> (intros; (try simp (disch := first | ((try simp (disch := first | ((try simp only [pn]) <;> omega) | fail) only [pn, pq]) <;> omega) | fail) only [pn, pq]) <;> omega))), (by first | omega | ((try simp (disch := first | ((try simp (disch := first | ((try simp only [pn]) <;> omega) | fail) only [pn, pq]) <;> omega) | fail) only [pn, pq]) <;> (intros; (try simp (disch := first | ((try simp (disch := first | ((try simp only [pn]) <;> omega) | fail) only [pn, pq]) <;> omega) | fail) only [pn, pq]) <;> omega))), (by first | omega | ((try simp (disch := first | ((try simp (disch := first | ((try simp only [pn]) <;> omega) | fail) only [pn, pq]) <;> omega) | fail) only [pn, pq]) <;> (intros; (try simp (disch := first | ((try simp (disch := first | ((try simp only [pn]) <;> omega) | fail) only [pn, pq]) <;> omega) | fail) only [pn, pq]) <;> omega))), rfl⟩, ?_⟩
  rintro n2 x3q1 Sq1 ⟨hJSq1, hFSq1, hiq1_0, hiq1_1, hiq1_2, hiq1_3, hiq1_4, hiq1_5, hiq1_6, hn2⟩
  have rgx3q1 := pt_rg x3q1
  unfold wp_L_law_18b
  have jf3 := J0g_count (J2g_questions (J8g_now hJSq1.1))
  have jf4 := J0g_count (J2g_questions (J8g_kept hJSq1.1))
  refine ⟨fun c3 => ?_, fun c3 => ?_⟩
  · try simp (disch := first | ((try simp (disch := first | ((try simp only [pn]) <;> omega) | fail) only [pn, pq]) <;> omega) | fail) only [pn, pq] at c3
    exact rfl
  · try simp (disch := first | ((try simp (disch := first | ((try simp only [pn]) <;> omega) | fail) only [pn, pq]) <;> omega) | fail) only [pn, pq] at c3
    refine ⟨pt_in (by first | omega | ((try simp (disch := first | ((try simp (disch := first | ((try simp only [pn]) <;> omega) | fail) only [pn, pq]) <;> omega) | fail) only [pn, pq]) <;> (intros; (try simp (disch := first | ((try simp (disch := first | ((try simp only [pn]) <;> omega) | fail) only [pn, pq]) <;> omega) | fail) only [pn, pq]) <;> omega))) (by first | omega | ((try simp (disch := first | ((try simp (disch := first | ((try simp only [pn]) <;> omega) | fail) only [pn, pq]) <;> omega) | fail) only [pn, pq]) <;> (intros; (try simp (disch := first | ((try simp (disch := first | ((try simp only [pn]) <;> omega) | fail) only [pn, pq]) <;> omega) | fail) only [pn, pq]) <;> omega))), ?_⟩
    have vin1 : vp_in (x3q1 + (1 : Int32)) L := pt_in (by first | omega | ((try simp (disch := first | ((try simp (disch := first | ((try simp only [pn]) <;> omega) | fail) only [pn, pq]) <;> omega) | fail) only [pn, pq]) <;> (intros; (try simp (disch := first | ((try simp (disch := first | ((try simp only [pn]) <;> omega) | fail) only [pn, pq]) <;> omega) | fail) only [pn, pq]) <;> omega))) (by first | omega | ((try simp (disch := first | ((try simp (disch := first | ((try simp only [pn]) <;> omega) | fail) only [pn, pq]) <;> omega) | fail) only [pn, pq]) <;> (intros; (try simp (disch := first | ((try simp (disch := first | ((try simp only [pn]) <;> omega) | fail) only [pn, pq]) <;> omega) | fail) only [pn, pq]) <;> omega)))
    have vin2 : vp_in (x3q1 + (2 : Int32)) L := pt_in (by first | omega | ((try simp (disch := first | ((try simp (disch := first | ((try simp only [pn]) <;> omega) | fail) only [pn, pq]) <;> omega) | fail) only [pn, pq]) <;> (intros; (try simp (disch := first | ((try simp (disch := first | ((try simp only [pn]) <;> omega) | fail) only [pn, pq]) <;> omega) | fail) only [pn, pq]) <;> omega))) (by first | omega | ((try simp (disch := first | ((try simp (disch := first | ((try simp only [pn]) <;> omega) | fail) only [pn, pq]) <;> omega) | fail) only [pn, pq]) <;> (intros; (try simp (disch := first | ((try simp (disch := first | ((try simp only [pn]) <;> omega) | fail) only [pn, pq]) <;> omega) | fail) only [pn, pq]) <;> omega)))
    have vin3 : vp_in (x3q1 + (3 : Int32)) L := pt_in (by first | omega | ((try simp (disch := first | ((try simp (disch := first | ((try simp only [pn]) <;> omega) | fail) only [pn, pq]) <;> omega) | fail) only [pn, pq]) <;> (intros; (try simp (disch := first | ((try simp (disch := first | ((try simp only [pn]) <;> omega) | fail) only [pn, pq]) <;> omega) | fail) only [pn, pq]) <;> omega))) (by first | omega | ((try simp (disch := first | ((try simp (disch := first | ((try simp only [pn]) <;> omega) | fail) only [pn, pq]) <;> omega) | fail) only [pn, pq]) <;> (intros; (try simp (disch := first | ((try simp (disch := first | ((try simp only [pn]) <;> omega) | fail) only [pn, pq]) <;> omega) | fail) only [pn, pq]) <;> omega)))
    have vin4 : vp_in (x3q1 + (4 : Int32)) L := pt_in (by first | omega | ((try simp (disch := first | ((try simp (disch := first | ((try simp only [pn]) <;> omega) | fail) only [pn, pq]) <;> omega) | fail) only [pn, pq]) <;> (intros; (try simp (disch := first | ((try simp (disch := first | ((try simp only [pn]) <;> omega) | fail) only [pn, pq]) <;> omega) | fail) only [pn, pq]) <;> omega))) (by first | omega | ((try simp (disch := first | ((try simp (disch := first | ((try simp only [pn]) <;> omega) | fail) only [pn, pq]) <;> omega) | fail) only [pn, pq]) <;> (intros; (try simp (disch := first | ((try simp (disch := first | ((try simp only [pn]) <;> omega) | fail) only [pn, pq]) <;> omega) | fail) only [pn, pq]) <;> omega)))
    have vin5 : vp_in (x3q1 + (5 : Int32)) L := pt_in (by first | omega | ((try simp (disch := first | ((try simp (disch := first | ((try simp only [pn]) <;> omega) | fail) only [pn, pq]) <;> omega) | fail) only [pn, pq]) <;> (intros; (try simp (disch := first | ((try simp (disch := first | ((try simp only [pn]) <;> omega) | fail) only [pn, pq]) <;> omega) | fail) only [pn, pq]) <;> omega))) (by first | omega | ((try simp (disch := first | ((try simp (disch := first | ((try simp only [pn]) <;> omega) | fail) only [pn, pq]) <;> omega) | fail) only [pn, pq]) <;> (intros; (try simp (disch := first | ((try simp (disch := first | ((try simp only [pn]) <;> omega) | fail) only [pn, pq]) <;> omega) | fail) only [pn, pq]) <;> omega)))
    have vin6 : vp_in (x3q1 + (6 : Int32)) L := pt_in (by first | omega | ((try simp (disch := first | ((try simp (disch := first | ((try simp only [pn]) <;> omega) | fail) only [pn, pq]) <;> omega) | fail) only [pn, pq]) <;> (intros; (try simp (disch := first | ((try simp (disch := first | ((try simp only [pn]) <;> omega) | fail) only [pn, pq]) <;> omega) | fail) only [pn, pq]) <;> omega))) (by first | omega | ((try simp (disch := first | ((try simp (disch := first | ((try simp only [pn]) <;> omega) | fail) only [pn, pq]) <;> omega) | fail) only [pn, pq]) <;> (intros; (try simp (disch := first | ((try simp (disch := first | ((try simp only [pn]) <;> omega) | fail) only [pn, pq]) <;> omega) | fail) only [pn, pq]) <;> omega)))
    refine ⟨fun c => ?_, fun c => ?_, fun c => ?_, fun c => ?_, fun c => ?_, fun c => ?_, fun c => ?_, fun c => ?_, fun c => ?_, fun c => ?_, fun c => ?_, fun c => ?_, fun c => ?_, fun c => ?_, fun c => ?_, fun c => ?_, fun c => ?_, fun c => ?_, fun c => ?_, fun c => ?_, fun c => ?_, fun c => ?_, fun c => ?_, fun c => ?_, fun c => ?_, fun c => ?_, fun c => ?_, fun c => ?_, fun c => ?_, fun c => ?_, fun c => ?_, fun c => ?_, fun c => ?_, fun c => ?_, fun c => ?_, fun c => ?_, fun c => ?_, fun c => ?_, fun c => ?_, fun c => ?_, fun c => ?_, fun c => ?_, fun c => ?_, fun c => ?_, fun c => ?_, fun c => ?_⟩
    · skip
      unfold wp_L_law_1745
      refine ⟨_, ?_, ?_, ?_, ?_, ?_, ?_, ?_, ?_, ?_, ?_, rfl⟩
      · first | omega | ((try simp (disch := first | ((try simp (disch := first | ((try simp only [pn]) <;> omega) | fail) only [pn, pq]) <;> omega) | fail) only [pn, pq]) <;> (intros; (try simp (disch := first | ((try simp (disch := first | ((try simp only [pn]) <;> omega) | fail) only [pn, pq]) <;> omega) | fail) only [pn, pq]) <;> omega))
      · exact hJSq1
      · exact hFSq1
      · first | omega | ((try simp (disch := first | ((try simp (disch := first | ((try simp only [pn]) <;> omega) | fail) only [pn, pq]) <;> omega) | fail) only [pn, pq]) <;> (intros; (try simp (disch := first | ((try simp (disch := first | ((try simp only [pn]) <;> omega) | fail) only [pn, pq]) <;> omega) | fail) only [pn, pq]) <;> omega))
      · first | omega | ((try simp (disch := first | ((try simp (disch := first | ((try simp only [pn]) <;> omega) | fail) only [pn, pq]) <;> omega) | fail) only [pn, pq]) <;> (intros; (try simp (disch := first | ((try simp (disch := first | ((try simp only [pn]) <;> omega) | fail) only [pn, pq]) <;> omega) | fail) only [pn, pq]) <;> omega))
      · first | omega | ((try simp (disch := first | ((try simp (disch := first | ((try simp only [pn]) <;> omega) | fail) only [pn, pq]) <;> omega) | fail) only [pn, pq]) <;> (intros; (try simp (disch := first | ((try simp (disch := first | ((try simp only [pn]) <;> omega) | fail) only [pn, pq]) <;> omega) | fail) only [pn, pq]) <;> omega))
      · first | omega | ((try simp (disch := first | ((try simp (disch := first | ((try simp only [pn]) <;> omega) | fail) only [pn, pq]) <;> omega) | fail) only [pn, pq]) <;> (intros; (try simp (disch := first | ((try simp (disch := first | ((try simp only [pn]) <;> omega) | fail) only [pn, pq]) <;> omega) | fail) only [pn, pq]) <;> omega))
      · first | omega | ((try simp (disch := first | ((try simp (disch := first | ((try simp only [pn]) <;> omega) | fail) only [pn, pq]) <;> omega) | fail) only [pn, pq]) <;> (intros; (try simp (disch := first | ((try simp (disch := first | ((try simp only [pn]) <;> omega) | fail) only [pn, pq]) <;> omega) | fail) only [pn, pq]) <;> omega))
      · first | omega | ((try simp (disch := first | ((try simp (disch := first | ((try simp only [pn]) <;> omega) | fail) only [pn, pq]) <;> omega) | fail) only [pn, pq]) <;> (intros; (try simp (disch := first | ((try simp (disch := first | ((try simp only [pn]) <;> omega) | fail) only [pn, pq]) <;> omega) | fail) only [pn, pq]) <;> omega))
      · first | omega | ((try simp (disch := first | ((try simp (disch := first | ((try simp only [pn]) <;> omega) | fail) only [pn, pq]) <;> omega) | fail) only [pn, pq]) <;> (intros; (try simp (disch := first | ((try simp (disch := first | ((try simp only [pn]) <;> omega) | fail) only [pn, pq]) <;> omega) | fail) only [pn, pq]) <;> omega))
    · skip
      refine ⟨vin1, ?_⟩
      refine ⟨vin2, ?_⟩
      refine ⟨vin3, ?_⟩
      refine ⟨vin4, ?_⟩
      refine ⟨vin5, ?_⟩
      refine sf_X8_feed hJSq1.1 (fun r4 u5 hJu5 hfu5 hr4_0 hr4_1 hr4_2 hr4_3 => ?_)
      have je6 : ((b8g_isKept u5)).toInt = ((b8g_isKept Sq1.1)).toInt := congrArg (fun z => (z).toInt) hfu5.2.2.1
      have je8 : ((b0g_count (b2g_questions (b8g_now u5)))).toInt = ((b0g_count (b2g_questions (b8g_now Sq1.1)))).toInt := congrArg (fun z => ((b0g_count (b2g_questions z))).toInt) hfu5.1
      have je10 : ((b0g_count (b2g_questions (b8g_kept u5)))).toInt = ((b0g_count (b2g_questions (b8g_kept Sq1.1)))).toInt := congrArg (fun z => ((b0g_count (b2g_questions z))).toInt) hfu5.2.1
      have rgr4 := pt_rg r4
      clear hr4_0
      clear hr4_1
      clear hr4_2
      clear hr4_3
      intro S6 eS6
      have hGS6 : F_L_law S S6 := trivial
      have hJS6 : J8 S6.1 ∧ J9 S6.2 := by rw [eS6]; exact ⟨hJu5, hJSq1.2⟩
      have hFS6 : F_L_law S S6 := hGS6
      have je11 : ((b8g_isKept S6.1)).toInt = ((b8g_isKept u5)).toInt := by rw [eS6]
      try simp (disch := first | ((try simp (disch := first | ((try simp only [pn]) <;> omega) | fail) only [pn, pq]) <;> omega) | fail) only [pn, pq] at je11
      have je12 : ((b9g_hasImage S6.2)).toInt = ((b9g_hasImage Sq1.2)).toInt := by rw [eS6]
      have je13 : ((b0g_count (b2g_questions (b8g_now S6.1)))).toInt = ((b0g_count (b2g_questions (b8g_now u5)))).toInt := by rw [eS6]
      try simp (disch := first | ((try simp (disch := first | ((try simp only [pn]) <;> omega) | fail) only [pn, pq]) <;> omega) | fail) only [pn, pq] at je13
      have jf14 := J0g_count (J2g_questions (J8g_now hJS6.1))
      have je15 : ((b0g_count (b2g_questions (b8g_kept S6.1)))).toInt = ((b0g_count (b2g_questions (b8g_kept u5)))).toInt := by rw [eS6]
      try simp (disch := first | ((try simp (disch := first | ((try simp only [pn]) <;> omega) | fail) only [pn, pq]) <;> omega) | fail) only [pn, pq] at je15
      have jf16 := J0g_count (J2g_questions (J8g_kept hJS6.1))
      have je17 : ((b9g_now S6.2) 10).toInt = ((b9g_now Sq1.2) 10).toInt := by rw [eS6]
      have je18 : ((b9g_images S6.2) 10).toInt = ((b9g_images Sq1.2) 10).toInt := by rw [eS6]
      refine ⟨vin1, ?_⟩
      refine ⟨vin2, ?_⟩
      refine ⟨vin3, ?_⟩
      refine ⟨vin4, ?_⟩
      refine ⟨vin5, ?_⟩
      refine sf_X9_feed hJS6.2 (fun r7 u8 hJu8 hfu8 hr7_0 hr7_1 hr7_2 hr7_3 => ?_)
      have je20 : ((b9g_hasImage u8)).toInt = ((b9g_hasImage S6.2)).toInt := congrArg (fun z => (z).toInt) hfu8.2.2.2.2.2.2.2.2.2.2.2.2.2.2.2.2.2.2.2.2.2.2.2.2.2.2.2.2.2.2.2.2.2.2.2.2.2.2.2.1
      have je22 : ((b9g_now u8) 10).toInt = ((b9g_now S6.2) 10).toInt := congrArg (fun z => (z 10).toInt) hfu8.1
      have je24 : ((b9g_images u8) 10).toInt = ((b9g_images S6.2) 10).toInt := congrArg (fun z => (z 10).toInt) hfu8.2.2.2.2.2.2.2.2.2.2.2.2.2.2.2.2.2.2.2.2.2.2.2.2.2.2.2.2.2.2.2.2.2.2.2.2.2.2.2.2.1
      have rgr7 := pt_rg r7
      clear hr7_0
      clear hr7_1
      clear hr7_2
      clear hr7_3
      intro S9 eS9
      have hGS9 : F_L_law S S9 := trivial
      have hJS9 : J8 S9.1 ∧ J9 S9.2 := by rw [eS9]; exact ⟨hJS6.1, hJu8⟩
      have hFS9 : F_L_law S S9 := hGS9
      have je25 : ((b8g_isKept S9.1)).toInt = ((b8g_isKept S6.1)).toInt := by rw [eS9]
      have je26 : ((b9g_hasImage S9.2)).toInt = ((b9g_hasImage u8)).toInt := by rw [eS9]
      try simp (disch := first | ((try simp (disch := first | ((try simp only [pn]) <;> omega) | fail) only [pn, pq]) <;> omega) | fail) only [pn, pq] at je26
      have je27 : ((b0g_count (b2g_questions (b8g_now S9.1)))).toInt = ((b0g_count (b2g_questions (b8g_now S6.1)))).toInt := by rw [eS9]
      have jf28 := J0g_count (J2g_questions (J8g_now hJS9.1))
      have je29 : ((b0g_count (b2g_questions (b8g_kept S9.1)))).toInt = ((b0g_count (b2g_questions (b8g_kept S6.1)))).toInt := by rw [eS9]
      have jf30 := J0g_count (J2g_questions (J8g_kept hJS9.1))
      have je31 : ((b9g_now S9.2) 10).toInt = ((b9g_now u8) 10).toInt := by rw [eS9]
      try simp (disch := first | ((try simp (disch := first | ((try simp only [pn]) <;> omega) | fail) only [pn, pq]) <;> omega) | fail) only [pn, pq] at je31
      have je32 : ((b9g_images S9.2) 10).toInt = ((b9g_images u8) 10).toInt := by rw [eS9]
      try simp (disch := first | ((try simp (disch := first | ((try simp only [pn]) <;> omega) | fail) only [pn, pq]) <;> omega) | fail) only [pn, pq] at je32
      unfold wp_L_law_1745
      refine ⟨_, ?_, ?_, ?_, ?_, ?_, ?_, ?_, ?_, ?_, ?_, rfl⟩
      · first | omega | ((try simp (disch := first | ((try simp (disch := first | ((try simp only [pn]) <;> omega) | fail) only [pn, pq]) <;> omega) | fail) only [pn, pq]) <;> (intros; (try simp (disch := first | ((try simp (disch := first | ((try simp only [pn]) <;> omega) | fail) only [pn, pq]) <;> omega) | fail) only [pn, pq]) <;> omega))
      · exact hJS9
      · exact hFS9
      · first | omega | ((try simp (disch := first | ((try simp (disch := first | ((try simp only [pn]) <;> omega) | fail) only [pn, pq]) <;> omega) | fail) only [pn, pq]) <;> (intros; (try simp (disch := first | ((try simp (disch := first | ((try simp only [pn]) <;> omega) | fail) only [pn, pq]) <;> omega) | fail) only [pn, pq]) <;> omega))
      · first | omega | ((try simp (disch := first | ((try simp (disch := first | ((try simp only [pn]) <;> omega) | fail) only [pn, pq]) <;> omega) | fail) only [pn, pq]) <;> (intros; (try simp (disch := first | ((try simp (disch := first | ((try simp only [pn]) <;> omega) | fail) only [pn, pq]) <;> omega) | fail) only [pn, pq]) <;> omega))
      · first | omega | ((try simp (disch := first | ((try simp (disch := first | ((try simp only [pn]) <;> omega) | fail) only [pn, pq]) <;> omega) | fail) only [pn, pq]) <;> (intros; (try simp (disch := first | ((try simp (disch := first | ((try simp only [pn]) <;> omega) | fail) only [pn, pq]) <;> omega) | fail) only [pn, pq]) <;> omega))
      · first | omega | ((try simp (disch := first | ((try simp (disch := first | ((try simp only [pn]) <;> omega) | fail) only [pn, pq]) <;> omega) | fail) only [pn, pq]) <;> (intros; (try simp (disch := first | ((try simp (disch := first | ((try simp only [pn]) <;> omega) | fail) only [pn, pq]) <;> omega) | fail) only [pn, pq]) <;> omega))
      · first | omega | ((try simp (disch := first | ((try simp (disch := first | ((try simp only [pn]) <;> omega) | fail) only [pn, pq]) <;> omega) | fail) only [pn, pq]) <;> (intros; (try simp (disch := first | ((try simp (disch := first | ((try simp only [pn]) <;> omega) | fail) only [pn, pq]) <;> omega) | fail) only [pn, pq]) <;> omega))
      · first | omega | ((try simp (disch := first | ((try simp (disch := first | ((try simp only [pn]) <;> omega) | fail) only [pn, pq]) <;> omega) | fail) only [pn, pq]) <;> (intros; (try simp (disch := first | ((try simp (disch := first | ((try simp only [pn]) <;> omega) | fail) only [pn, pq]) <;> omega) | fail) only [pn, pq]) <;> omega))
      · first | omega | ((try simp (disch := first | ((try simp (disch := first | ((try simp only [pn]) <;> omega) | fail) only [pn, pq]) <;> omega) | fail) only [pn, pq]) <;> (intros; (try simp (disch := first | ((try simp (disch := first | ((try simp only [pn]) <;> omega) | fail) only [pn, pq]) <;> omega) | fail) only [pn, pq]) <;> omega))
    · skip
      refine ⟨vin1, ?_⟩
      refine sf_X8_end hJSq1.1 (fun r10 u11 hJu11 hfu11 hzr10 hr10_0 hr10_1 => ?_)
      have je34 : ((b8g_isKept u11)).toInt = ((b8g_isKept Sq1.1)).toInt := congrArg (fun z => (z).toInt) hfu11.2.2.1
      have je36 : ((b0g_count (b2g_questions (b8g_now u11)))).toInt = ((b0g_count (b2g_questions (b8g_now Sq1.1)))).toInt := congrArg (fun z => ((b0g_count (b2g_questions z))).toInt) hfu11.1
      have je38 : ((b0g_count (b2g_questions (b8g_kept u11)))).toInt = ((b0g_count (b2g_questions (b8g_kept Sq1.1)))).toInt := congrArg (fun z => ((b0g_count (b2g_questions z))).toInt) hfu11.2.1
      clear hr10_0
      clear hr10_1
      intro S12 eS12
      have hGS12 : F_L_law S S12 := trivial
      have hJS12 : J8 S12.1 ∧ J9 S12.2 := by rw [eS12]; exact ⟨hJu11, hJSq1.2⟩
      have hFS12 : F_L_law S S12 := hGS12
      have je39 : ((b8g_isKept S12.1)).toInt = ((b8g_isKept u11)).toInt := by rw [eS12]
      try simp (disch := first | ((try simp (disch := first | ((try simp only [pn]) <;> omega) | fail) only [pn, pq]) <;> omega) | fail) only [pn, pq] at je39
      have je40 : ((b9g_hasImage S12.2)).toInt = ((b9g_hasImage Sq1.2)).toInt := by rw [eS12]
      have je41 : ((b0g_count (b2g_questions (b8g_now S12.1)))).toInt = ((b0g_count (b2g_questions (b8g_now u11)))).toInt := by rw [eS12]
      try simp (disch := first | ((try simp (disch := first | ((try simp only [pn]) <;> omega) | fail) only [pn, pq]) <;> omega) | fail) only [pn, pq] at je41
      have jf42 := J0g_count (J2g_questions (J8g_now hJS12.1))
      have je43 : ((b0g_count (b2g_questions (b8g_kept S12.1)))).toInt = ((b0g_count (b2g_questions (b8g_kept u11)))).toInt := by rw [eS12]
      try simp (disch := first | ((try simp (disch := first | ((try simp only [pn]) <;> omega) | fail) only [pn, pq]) <;> omega) | fail) only [pn, pq] at je43
      have jf44 := J0g_count (J2g_questions (J8g_kept hJS12.1))
      have je45 : ((b9g_now S12.2) 10).toInt = ((b9g_now Sq1.2) 10).toInt := by rw [eS12]
      have je46 : ((b9g_images S12.2) 10).toInt = ((b9g_images Sq1.2) 10).toInt := by rw [eS12]
      refine ⟨vin1, ?_⟩
      refine sf_X9_end hJS12.2 (fun r13 u14 hJu14 hfu14 hzr13 hr13_0 => ?_)
      have je48 : ((b9g_hasImage u14)).toInt = ((b9g_hasImage S12.2)).toInt := congrArg (fun z => (z).toInt) hfu14.2.2.2.2.2.2.2.2.2.2.2.2.2.2.2.2.2.2.2.2.2.2.2.2.2.2.2.2.2.2.2.2.2.2.2.2.2.2.2.2.1
      have je50 : ((b9g_now u14) 10).toInt = ((b9g_now S12.2) 10).toInt := congrArg (fun z => (z 10).toInt) hfu14.1
      have je52 : ((b9g_images u14) 10).toInt = ((b9g_images S12.2) 10).toInt := congrArg (fun z => (z 10).toInt) hfu14.2.2.2.2.2.2.2.2.2.2.2.2.2.2.2.2.2.2.2.2.2.2.2.2.2.2.2.2.2.2.2.2.2.2.2.2.2.2.2.2.2.1
      clear hr13_0
      intro S15 eS15
      have hGS15 : F_L_law S S15 := trivial
      have hJS15 : J8 S15.1 ∧ J9 S15.2 := by rw [eS15]; exact ⟨hJS12.1, hJu14⟩
      have hFS15 : F_L_law S S15 := hGS15
      have je53 : ((b8g_isKept S15.1)).toInt = ((b8g_isKept S12.1)).toInt := by rw [eS15]
      have je54 : ((b9g_hasImage S15.2)).toInt = ((b9g_hasImage u14)).toInt := by rw [eS15]
      try simp (disch := first | ((try simp (disch := first | ((try simp only [pn]) <;> omega) | fail) only [pn, pq]) <;> omega) | fail) only [pn, pq] at je54
      have je55 : ((b0g_count (b2g_questions (b8g_now S15.1)))).toInt = ((b0g_count (b2g_questions (b8g_now S12.1)))).toInt := by rw [eS15]
      have jf56 := J0g_count (J2g_questions (J8g_now hJS15.1))
      have je57 : ((b0g_count (b2g_questions (b8g_kept S15.1)))).toInt = ((b0g_count (b2g_questions (b8g_kept S12.1)))).toInt := by rw [eS15]
      have jf58 := J0g_count (J2g_questions (J8g_kept hJS15.1))
      have je59 : ((b9g_now S15.2) 10).toInt = ((b9g_now u14) 10).toInt := by rw [eS15]
      try simp (disch := first | ((try simp (disch := first | ((try simp only [pn]) <;> omega) | fail) only [pn, pq]) <;> omega) | fail) only [pn, pq] at je59
      have je60 : ((b9g_images S15.2) 10).toInt = ((b9g_images u14) 10).toInt := by rw [eS15]
      try simp (disch := first | ((try simp (disch := first | ((try simp only [pn]) <;> omega) | fail) only [pn, pq]) <;> omega) | fail) only [pn, pq] at je60
      unfold wp_L_law_1745
      refine ⟨_, ?_, ?_, ?_, ?_, ?_, ?_, ?_, ?_, ?_, ?_, rfl⟩
      · first | omega | ((try simp (disch := first | ((try simp (disch := first | ((try simp only [pn]) <;> omega) | fail) only [pn, pq]) <;> omega) | fail) only [pn, pq]) <;> (intros; (try simp (disch := first | ((try simp (disch := first | ((try simp only [pn]) <;> omega) | fail) only [pn, pq]) <;> omega) | fail) only [pn, pq]) <;> omega))
      · exact hJS15
      · exact hFS15
      · first | omega | ((try simp (disch := first | ((try simp (disch := first | ((try simp only [pn]) <;> omega) | fail) only [pn, pq]) <;> omega) | fail) only [pn, pq]) <;> (intros; (try simp (disch := first | ((try simp (disch := first | ((try simp only [pn]) <;> omega) | fail) only [pn, pq]) <;> omega) | fail) only [pn, pq]) <;> omega))
      · first | omega | ((try simp (disch := first | ((try simp (disch := first | ((try simp only [pn]) <;> omega) | fail) only [pn, pq]) <;> omega) | fail) only [pn, pq]) <;> (intros; (try simp (disch := first | ((try simp (disch := first | ((try simp only [pn]) <;> omega) | fail) only [pn, pq]) <;> omega) | fail) only [pn, pq]) <;> omega))
      · first | omega | ((try simp (disch := first | ((try simp (disch := first | ((try simp only [pn]) <;> omega) | fail) only [pn, pq]) <;> omega) | fail) only [pn, pq]) <;> (intros; (try simp (disch := first | ((try simp (disch := first | ((try simp only [pn]) <;> omega) | fail) only [pn, pq]) <;> omega) | fail) only [pn, pq]) <;> omega))
      · first | omega | ((try simp (disch := first | ((try simp (disch := first | ((try simp only [pn]) <;> omega) | fail) only [pn, pq]) <;> omega) | fail) only [pn, pq]) <;> (intros; (try simp (disch := first | ((try simp (disch := first | ((try simp only [pn]) <;> omega) | fail) only [pn, pq]) <;> omega) | fail) only [pn, pq]) <;> omega))
      · first | omega | ((try simp (disch := first | ((try simp (disch := first | ((try simp only [pn]) <;> omega) | fail) only [pn, pq]) <;> omega) | fail) only [pn, pq]) <;> (intros; (try simp (disch := first | ((try simp (disch := first | ((try simp only [pn]) <;> omega) | fail) only [pn, pq]) <;> omega) | fail) only [pn, pq]) <;> omega))
      · first | omega | ((try simp (disch := first | ((try simp (disch := first | ((try simp only [pn]) <;> omega) | fail) only [pn, pq]) <;> omega) | fail) only [pn, pq]) <;> (intros; (try simp (disch := first | ((try simp (disch := first | ((try simp only [pn]) <;> omega) | fail) only [pn, pq]) <;> omega) | fail) only [pn, pq]) <;> omega))
      · first | omega | ((try simp (disch := first | ((try simp (disch := first | ((try simp only [pn]) <;> omega) | fail) only [pn, pq]) <;> omega) | fail) only [pn, pq]) <;> (intros; (try simp (disch := first | ((try simp (disch := first | ((try simp only [pn]) <;> omega) | fail) only [pn, pq]) <;> omega) | fail) only [pn, pq]) <;> omega))
    · skip
      refine sf_X8_mode hJSq1.1 (fun r16 u17 hJu17 hfu17 hr16_0 hr16_1 hr16_2 => ?_)
      have je62 : ((b8g_isKept u17)).toInt = ((b8g_isKept Sq1.1)).toInt := congrArg (fun z => (z).toInt) hfu17.2.2.2.2.2.2.2.1
      have je64 : ((b0g_count (b2g_questions (b8g_now u17)))).toInt = ((b0g_count (b2g_questions (b8g_now Sq1.1)))).toInt := congrArg (fun z => ((b0g_count z)).toInt) hfu17.2.2.2.1
      have je66 : ((b0g_count (b2g_questions (b8g_kept u17)))).toInt = ((b0g_count (b2g_questions (b8g_kept Sq1.1)))).toInt := congrArg (fun z => ((b0g_count (b2g_questions z))).toInt) hfu17.2.2.2.2.2.2.1
      have rgr16 := pt_rg r16
      clear hr16_0
      clear hr16_1
      clear hr16_2
      intro S18 eS18
      have hGS18 : F_L_law S S18 := trivial
      have hJS18 : J8 S18.1 ∧ J9 S18.2 := by rw [eS18]; exact ⟨hJu17, hJSq1.2⟩
      have hFS18 : F_L_law S S18 := hGS18
      have je67 : ((b8g_isKept S18.1)).toInt = ((b8g_isKept u17)).toInt := by rw [eS18]
      try simp (disch := first | ((try simp (disch := first | ((try simp only [pn]) <;> omega) | fail) only [pn, pq]) <;> omega) | fail) only [pn, pq] at je67
      have je68 : ((b9g_hasImage S18.2)).toInt = ((b9g_hasImage Sq1.2)).toInt := by rw [eS18]
      have je69 : ((b0g_count (b2g_questions (b8g_now S18.1)))).toInt = ((b0g_count (b2g_questions (b8g_now u17)))).toInt := by rw [eS18]
      try simp (disch := first | ((try simp (disch := first | ((try simp only [pn]) <;> omega) | fail) only [pn, pq]) <;> omega) | fail) only [pn, pq] at je69
      have jf70 := J0g_count (J2g_questions (J8g_now hJS18.1))
      have je71 : ((b0g_count (b2g_questions (b8g_kept S18.1)))).toInt = ((b0g_count (b2g_questions (b8g_kept u17)))).toInt := by rw [eS18]
      try simp (disch := first | ((try simp (disch := first | ((try simp only [pn]) <;> omega) | fail) only [pn, pq]) <;> omega) | fail) only [pn, pq] at je71
      have jf72 := J0g_count (J2g_questions (J8g_kept hJS18.1))
      have je73 : ((b9g_now S18.2) 10).toInt = ((b9g_now Sq1.2) 10).toInt := by rw [eS18]
      have je74 : ((b9g_images S18.2) 10).toInt = ((b9g_images Sq1.2) 10).toInt := by rw [eS18]
      refine sf_X9_mode hJS18.2 (fun r19 u20 hJu20 hfu20 hr19_0 hr19_1 hr19_2 hr19_3 => ?_)
      have je76 : ((b9g_hasImage u20)).toInt = ((b9g_hasImage S18.2)).toInt := congrArg (fun z => (z).toInt) hfu20.2.2.2.2.2.2.2.2.2.2.2.2.2.2.2.2.2.2.2.2.2.2.2.2.2.2.2.2.2.2.2.2.2.2.2.2.2.2.2.1
      have je78 : ((b9g_images u20) 10).toInt = ((b9g_images S18.2) 10).toInt := congrArg (fun z => (z 10).toInt) hfu20.2.2.2.2.2.2.2.2.2.2.2.2.2.2.2.2.2.2.2.2.2.2.2.2.2.2.2.2.2.2.2.2.2.2.2.2.2.2.2.2.1
      have rgr19 := pt_rg r19
      clear hr19_0
      clear hr19_1
      have hTr19_2 := congrArg Int32.toInt hr19_2
      try simp (disch := first | ((try simp (disch := first | ((try simp only [pn]) <;> omega) | fail) only [pn, pq]) <;> omega) | fail) only [pn, pq] at hTr19_2
      clear hr19_3
      intro S21 eS21
      have hGS21 : F_L_law S S21 := trivial
      have hJS21 : J8 S21.1 ∧ J9 S21.2 := by rw [eS21]; exact ⟨hJS18.1, hJu20⟩
      have hFS21 : F_L_law S S21 := hGS21
      have je79 : ((b8g_isKept S21.1)).toInt = ((b8g_isKept S18.1)).toInt := by rw [eS21]
      have je80 : ((b9g_hasImage S21.2)).toInt = ((b9g_hasImage u20)).toInt := by rw [eS21]
      try simp (disch := first | ((try simp (disch := first | ((try simp only [pn]) <;> omega) | fail) only [pn, pq]) <;> omega) | fail) only [pn, pq] at je80
      have je81 : ((b0g_count (b2g_questions (b8g_now S21.1)))).toInt = ((b0g_count (b2g_questions (b8g_now S18.1)))).toInt := by rw [eS21]
      have jf82 := J0g_count (J2g_questions (J8g_now hJS21.1))
      have je83 : ((b0g_count (b2g_questions (b8g_kept S21.1)))).toInt = ((b0g_count (b2g_questions (b8g_kept S18.1)))).toInt := by rw [eS21]
      have jf84 := J0g_count (J2g_questions (J8g_kept hJS21.1))
      have je85 : ((b9g_now S21.2) 10).toInt = ((b9g_now u20) 10).toInt := by rw [eS21]
      try simp (disch := first | ((try simp (disch := first | ((try simp only [pn]) <;> omega) | fail) only [pn, pq]) <;> omega) | fail) only [pn, pq] at je85
      have je86 : ((b9g_images S21.2) 10).toInt = ((b9g_images u20) 10).toInt := by rw [eS21]
      try simp (disch := first | ((try simp (disch := first | ((try simp only [pn]) <;> omega) | fail) only [pn, pq]) <;> omega) | fail) only [pn, pq] at je86
      unfold wp_L_law_1745
      refine ⟨_, ?_, ?_, ?_, ?_, ?_, ?_, ?_, ?_, ?_, ?_, rfl⟩
      · first | omega | ((try simp (disch := first | ((try simp (disch := first | ((try simp only [pn]) <;> omega) | fail) only [pn, pq]) <;> omega) | fail) only [pn, pq]) <;> (intros; (try simp (disch := first | ((try simp (disch := first | ((try simp only [pn]) <;> omega) | fail) only [pn, pq]) <;> omega) | fail) only [pn, pq]) <;> omega))
      · exact hJS21
      · exact hFS21
      · first | omega | ((try simp (disch := first | ((try simp (disch := first | ((try simp only [pn]) <;> omega) | fail) only [pn, pq]) <;> omega) | fail) only [pn, pq]) <;> (intros; (try simp (disch := first | ((try simp (disch := first | ((try simp only [pn]) <;> omega) | fail) only [pn, pq]) <;> omega) | fail) only [pn, pq]) <;> omega))
      · first | omega | ((try simp (disch := first | ((try simp (disch := first | ((try simp only [pn]) <;> omega) | fail) only [pn, pq]) <;> omega) | fail) only [pn, pq]) <;> (intros; (try simp (disch := first | ((try simp (disch := first | ((try simp only [pn]) <;> omega) | fail) only [pn, pq]) <;> omega) | fail) only [pn, pq]) <;> omega))
      · first | omega | ((try simp (disch := first | ((try simp (disch := first | ((try simp only [pn]) <;> omega) | fail) only [pn, pq]) <;> omega) | fail) only [pn, pq]) <;> (intros; (try simp (disch := first | ((try simp (disch := first | ((try simp only [pn]) <;> omega) | fail) only [pn, pq]) <;> omega) | fail) only [pn, pq]) <;> omega))
      · first | omega | ((try simp (disch := first | ((try simp (disch := first | ((try simp only [pn]) <;> omega) | fail) only [pn, pq]) <;> omega) | fail) only [pn, pq]) <;> (intros; (try simp (disch := first | ((try simp (disch := first | ((try simp only [pn]) <;> omega) | fail) only [pn, pq]) <;> omega) | fail) only [pn, pq]) <;> omega))
      · first | omega | ((try simp (disch := first | ((try simp (disch := first | ((try simp only [pn]) <;> omega) | fail) only [pn, pq]) <;> omega) | fail) only [pn, pq]) <;> (intros; (try simp (disch := first | ((try simp (disch := first | ((try simp only [pn]) <;> omega) | fail) only [pn, pq]) <;> omega) | fail) only [pn, pq]) <;> omega))
      · first | omega | ((try simp (disch := first | ((try simp (disch := first | ((try simp only [pn]) <;> omega) | fail) only [pn, pq]) <;> omega) | fail) only [pn, pq]) <;> (intros; (try simp (disch := first | ((try simp (disch := first | ((try simp only [pn]) <;> omega) | fail) only [pn, pq]) <;> omega) | fail) only [pn, pq]) <;> omega))
      · first | omega | ((try simp (disch := first | ((try simp (disch := first | ((try simp only [pn]) <;> omega) | fail) only [pn, pq]) <;> omega) | fail) only [pn, pq]) <;> (intros; (try simp (disch := first | ((try simp (disch := first | ((try simp only [pn]) <;> omega) | fail) only [pn, pq]) <;> omega) | fail) only [pn, pq]) <;> omega))
    · skip
      refine sf_X8_row hJSq1.1 (fun r22 u23 hJu23 hfu23 hr22_0 hr22_1 hr22_2 => ?_)
      have je88 : ((b8g_isKept u23)).toInt = ((b8g_isKept Sq1.1)).toInt := congrArg (fun z => (z).toInt) hfu23.2.2.1
      have je90 : ((b0g_count (b2g_questions (b8g_now u23)))).toInt = ((b0g_count (b2g_questions (b8g_now Sq1.1)))).toInt := congrArg (fun z => ((b0g_count (b2g_questions z))).toInt) hfu23.1
      have je92 : ((b0g_count (b2g_questions (b8g_kept u23)))).toInt = ((b0g_count (b2g_questions (b8g_kept Sq1.1)))).toInt := congrArg (fun z => ((b0g_count (b2g_questions z))).toInt) hfu23.2.1
      have rgr22 := pt_rg r22
      clear hr22_0
      clear hr22_1
      clear hr22_2
      intro S24 eS24
      have hGS24 : F_L_law S S24 := trivial
      have hJS24 : J8 S24.1 ∧ J9 S24.2 := by rw [eS24]; exact ⟨hJu23, hJSq1.2⟩
      have hFS24 : F_L_law S S24 := hGS24
      have je93 : ((b8g_isKept S24.1)).toInt = ((b8g_isKept u23)).toInt := by rw [eS24]
      try simp (disch := first | ((try simp (disch := first | ((try simp only [pn]) <;> omega) | fail) only [pn, pq]) <;> omega) | fail) only [pn, pq] at je93
      have je94 : ((b9g_hasImage S24.2)).toInt = ((b9g_hasImage Sq1.2)).toInt := by rw [eS24]
      have je95 : ((b0g_count (b2g_questions (b8g_now S24.1)))).toInt = ((b0g_count (b2g_questions (b8g_now u23)))).toInt := by rw [eS24]
      try simp (disch := first | ((try simp (disch := first | ((try simp only [pn]) <;> omega) | fail) only [pn, pq]) <;> omega) | fail) only [pn, pq] at je95
      have jf96 := J0g_count (J2g_questions (J8g_now hJS24.1))
      have je97 : ((b0g_count (b2g_questions (b8g_kept S24.1)))).toInt = ((b0g_count (b2g_questions (b8g_kept u23)))).toInt := by rw [eS24]
      try simp (disch := first | ((try simp (disch := first | ((try simp only [pn]) <;> omega) | fail) only [pn, pq]) <;> omega) | fail) only [pn, pq] at je97
      have jf98 := J0g_count (J2g_questions (J8g_kept hJS24.1))
      have je99 : ((b9g_now S24.2) 10).toInt = ((b9g_now Sq1.2) 10).toInt := by rw [eS24]
      have je100 : ((b9g_images S24.2) 10).toInt = ((b9g_images Sq1.2) 10).toInt := by rw [eS24]
      refine sf_X9_row hJS24.2 (fun r25 u26 hJu26 hfu26 hr25_0 hr25_1 => ?_)
      have je102 : ((b9g_hasImage u26)).toInt = ((b9g_hasImage S24.2)).toInt := congrArg (fun z => (z).toInt) hfu26.2.2.2.2.2.2.2.2.2.2.2.2.2.2.2.2.2.2.2.2.2.2.2.2.2.2.2.2.2.2.2.2.2.2.2.2.2.2.2.1
      have je104 : ((b9g_now u26) 10).toInt = ((b9g_now S24.2) 10).toInt := congrArg (fun z => (z 10).toInt) hfu26.1
      have je106 : ((b9g_images u26) 10).toInt = ((b9g_images S24.2) 10).toInt := congrArg (fun z => (z 10).toInt) hfu26.2.2.2.2.2.2.2.2.2.2.2.2.2.2.2.2.2.2.2.2.2.2.2.2.2.2.2.2.2.2.2.2.2.2.2.2.2.2.2.2.1
      have rgr25 := pt_rg r25
      clear hr25_0
      clear hr25_1
      intro S27 eS27
      have hGS27 : F_L_law S S27 := trivial
      have hJS27 : J8 S27.1 ∧ J9 S27.2 := by rw [eS27]; exact ⟨hJS24.1, hJu26⟩
      have hFS27 : F_L_law S S27 := hGS27
      have je107 : ((b8g_isKept S27.1)).toInt = ((b8g_isKept S24.1)).toInt := by rw [eS27]
      have je108 : ((b9g_hasImage S27.2)).toInt = ((b9g_hasImage u26)).toInt := by rw [eS27]
      try simp (disch := first | ((try simp (disch := first | ((try simp only [pn]) <;> omega) | fail) only [pn, pq]) <;> omega) | fail) only [pn, pq] at je108
      have je109 : ((b0g_count (b2g_questions (b8g_now S27.1)))).toInt = ((b0g_count (b2g_questions (b8g_now S24.1)))).toInt := by rw [eS27]
      have jf110 := J0g_count (J2g_questions (J8g_now hJS27.1))
      have je111 : ((b0g_count (b2g_questions (b8g_kept S27.1)))).toInt = ((b0g_count (b2g_questions (b8g_kept S24.1)))).toInt := by rw [eS27]
      have jf112 := J0g_count (J2g_questions (J8g_kept hJS27.1))
      have je113 : ((b9g_now S27.2) 10).toInt = ((b9g_now u26) 10).toInt := by rw [eS27]
      try simp (disch := first | ((try simp (disch := first | ((try simp only [pn]) <;> omega) | fail) only [pn, pq]) <;> omega) | fail) only [pn, pq] at je113
      have je114 : ((b9g_images S27.2) 10).toInt = ((b9g_images u26) 10).toInt := by rw [eS27]
      try simp (disch := first | ((try simp (disch := first | ((try simp only [pn]) <;> omega) | fail) only [pn, pq]) <;> omega) | fail) only [pn, pq] at je114
      unfold wp_L_law_1745
      refine ⟨_, ?_, ?_, ?_, ?_, ?_, ?_, ?_, ?_, ?_, ?_, rfl⟩
      · first | omega | ((try simp (disch := first | ((try simp (disch := first | ((try simp only [pn]) <;> omega) | fail) only [pn, pq]) <;> omega) | fail) only [pn, pq]) <;> (intros; (try simp (disch := first | ((try simp (disch := first | ((try simp only [pn]) <;> omega) | fail) only [pn, pq]) <;> omega) | fail) only [pn, pq]) <;> omega))
      · exact hJS27
      · exact hFS27
      · first | omega | ((try simp (disch := first | ((try simp (disch := first | ((try simp only [pn]) <;> omega) | fail) only [pn, pq]) <;> omega) | fail) only [pn, pq]) <;> (intros; (try simp (disch := first | ((try simp (disch := first | ((try simp only [pn]) <;> omega) | fail) only [pn, pq]) <;> omega) | fail) only [pn, pq]) <;> omega))
      · first | omega | ((try simp (disch := first | ((try simp (disch := first | ((try simp only [pn]) <;> omega) | fail) only [pn, pq]) <;> omega) | fail) only [pn, pq]) <;> (intros; (try simp (disch := first | ((try simp (disch := first | ((try simp only [pn]) <;> omega) | fail) only [pn, pq]) <;> omega) | fail) only [pn, pq]) <;> omega))
      · first | omega | ((try simp (disch := first | ((try simp (disch := first | ((try simp only [pn]) <;> omega) | fail) only [pn, pq]) <;> omega) | fail) only [pn, pq]) <;> (intros; (try simp (disch := first | ((try simp (disch := first | ((try simp only [pn]) <;> omega) | fail) only [pn, pq]) <;> omega) | fail) only [pn, pq]) <;> omega))
      · first | omega | ((try simp (disch := first | ((try simp (disch := first | ((try simp only [pn]) <;> omega) | fail) only [pn, pq]) <;> omega) | fail) only [pn, pq]) <;> (intros; (try simp (disch := first | ((try simp (disch := first | ((try simp only [pn]) <;> omega) | fail) only [pn, pq]) <;> omega) | fail) only [pn, pq]) <;> omega))
      · first | omega | ((try simp (disch := first | ((try simp (disch := first | ((try simp only [pn]) <;> omega) | fail) only [pn, pq]) <;> omega) | fail) only [pn, pq]) <;> (intros; (try simp (disch := first | ((try simp (disch := first | ((try simp only [pn]) <;> omega) | fail) only [pn, pq]) <;> omega) | fail) only [pn, pq]) <;> omega))
      · first | omega | ((try simp (disch := first | ((try simp (disch := first | ((try simp only [pn]) <;> omega) | fail) only [pn, pq]) <;> omega) | fail) only [pn, pq]) <;> (intros; (try simp (disch := first | ((try simp (disch := first | ((try simp only [pn]) <;> omega) | fail) only [pn, pq]) <;> omega) | fail) only [pn, pq]) <;> omega))
      · first | omega | ((try simp (disch := first | ((try simp (disch := first | ((try simp only [pn]) <;> omega) | fail) only [pn, pq]) <;> omega) | fail) only [pn, pq]) <;> (intros; (try simp (disch := first | ((try simp (disch := first | ((try simp only [pn]) <;> omega) | fail) only [pn, pq]) <;> omega) | fail) only [pn, pq]) <;> omega))
    · skip
      refine sf_X8_keys hJSq1.1 (fun r28 u29 hJu29 hfu29 hr28_0 hr28_1 => ?_)
      have je116 : ((b8g_isKept u29)).toInt = ((b8g_isKept Sq1.1)).toInt := congrArg (fun z => (z).toInt) hfu29.2.2.2.2.2.2.2.1
      have je118 : ((b0g_count (b2g_questions (b8g_now u29)))).toInt = ((b0g_count (b2g_questions (b8g_now Sq1.1)))).toInt := congrArg (fun z => ((b0g_count z)).toInt) hfu29.2.2.2.1
      have je120 : ((b0g_count (b2g_questions (b8g_kept u29)))).toInt = ((b0g_count (b2g_questions (b8g_kept Sq1.1)))).toInt := congrArg (fun z => ((b0g_count (b2g_questions z))).toInt) hfu29.2.2.2.2.2.2.1
      have rgr28 := pt_rg r28
      clear hr28_0
      clear hr28_1
      intro S30 eS30
      have hGS30 : F_L_law S S30 := trivial
      have hJS30 : J8 S30.1 ∧ J9 S30.2 := by rw [eS30]; exact ⟨hJu29, hJSq1.2⟩
      have hFS30 : F_L_law S S30 := hGS30
      have je121 : ((b8g_isKept S30.1)).toInt = ((b8g_isKept u29)).toInt := by rw [eS30]
      try simp (disch := first | ((try simp (disch := first | ((try simp only [pn]) <;> omega) | fail) only [pn, pq]) <;> omega) | fail) only [pn, pq] at je121
      have je122 : ((b9g_hasImage S30.2)).toInt = ((b9g_hasImage Sq1.2)).toInt := by rw [eS30]
      have je123 : ((b0g_count (b2g_questions (b8g_now S30.1)))).toInt = ((b0g_count (b2g_questions (b8g_now u29)))).toInt := by rw [eS30]
      try simp (disch := first | ((try simp (disch := first | ((try simp only [pn]) <;> omega) | fail) only [pn, pq]) <;> omega) | fail) only [pn, pq] at je123
      have jf124 := J0g_count (J2g_questions (J8g_now hJS30.1))
      have je125 : ((b0g_count (b2g_questions (b8g_kept S30.1)))).toInt = ((b0g_count (b2g_questions (b8g_kept u29)))).toInt := by rw [eS30]
      try simp (disch := first | ((try simp (disch := first | ((try simp only [pn]) <;> omega) | fail) only [pn, pq]) <;> omega) | fail) only [pn, pq] at je125
      have jf126 := J0g_count (J2g_questions (J8g_kept hJS30.1))
      have je127 : ((b9g_now S30.2) 10).toInt = ((b9g_now Sq1.2) 10).toInt := by rw [eS30]
      have je128 : ((b9g_images S30.2) 10).toInt = ((b9g_images Sq1.2) 10).toInt := by rw [eS30]
      refine sf_X9_keys hJS30.2 (fun r31 u32 hJu32 hfu32 hr31_0 hr31_1 hr31_2 => ?_)
      have je130 : ((b9g_hasImage u32)).toInt = ((b9g_hasImage S30.2)).toInt := congrArg (fun z => (z).toInt) hfu32.2.2.2.2.2.2.2.2.2.2.2.2.2.2.2.2.2.2.2.2.2.2.2.2.2.2.2.2.2.2.2.2.2.2.2.2.2.1
      have je132 : ((b9g_images u32) 10).toInt = ((b9g_images S30.2) 10).toInt := congrArg (fun z => (z 10).toInt) hfu32.2.2.2.2.2.2.2.2.2.2.2.2.2.2.2.2.2.2.2.2.2.2.2.2.2.2.2.2.2.2.2.2.2.2.2.2.2.2.1
      have rgr31 := pt_rg r31
      clear hr31_0
      have hTr31_1 := congrArg Int32.toInt hr31_1
      try simp (disch := first | ((try simp (disch := first | ((try simp only [pn]) <;> omega) | fail) only [pn, pq]) <;> omega) | fail) only [pn, pq] at hTr31_1
      clear hr31_2
      intro S33 eS33
      have hGS33 : F_L_law S S33 := trivial
      have hJS33 : J8 S33.1 ∧ J9 S33.2 := by rw [eS33]; exact ⟨hJS30.1, hJu32⟩
      have hFS33 : F_L_law S S33 := hGS33
      have je133 : ((b8g_isKept S33.1)).toInt = ((b8g_isKept S30.1)).toInt := by rw [eS33]
      have je134 : ((b9g_hasImage S33.2)).toInt = ((b9g_hasImage u32)).toInt := by rw [eS33]
      try simp (disch := first | ((try simp (disch := first | ((try simp only [pn]) <;> omega) | fail) only [pn, pq]) <;> omega) | fail) only [pn, pq] at je134
      have je135 : ((b0g_count (b2g_questions (b8g_now S33.1)))).toInt = ((b0g_count (b2g_questions (b8g_now S30.1)))).toInt := by rw [eS33]
      have jf136 := J0g_count (J2g_questions (J8g_now hJS33.1))
      have je137 : ((b0g_count (b2g_questions (b8g_kept S33.1)))).toInt = ((b0g_count (b2g_questions (b8g_kept S30.1)))).toInt := by rw [eS33]
      have jf138 := J0g_count (J2g_questions (J8g_kept hJS33.1))
      have je139 : ((b9g_now S33.2) 10).toInt = ((b9g_now u32) 10).toInt := by rw [eS33]
      try simp (disch := first | ((try simp (disch := first | ((try simp only [pn]) <;> omega) | fail) only [pn, pq]) <;> omega) | fail) only [pn, pq] at je139
      have je140 : ((b9g_images S33.2) 10).toInt = ((b9g_images u32) 10).toInt := by rw [eS33]
      try simp (disch := first | ((try simp (disch := first | ((try simp only [pn]) <;> omega) | fail) only [pn, pq]) <;> omega) | fail) only [pn, pq] at je140
      unfold wp_L_law_1745
      refine ⟨_, ?_, ?_, ?_, ?_, ?_, ?_, ?_, ?_, ?_, ?_, rfl⟩
      · first | omega | ((try simp (disch := first | ((try simp (disch := first | ((try simp only [pn]) <;> omega) | fail) only [pn, pq]) <;> omega) | fail) only [pn, pq]) <;> (intros; (try simp (disch := first | ((try simp (disch := first | ((try simp only [pn]) <;> omega) | fail) only [pn, pq]) <;> omega) | fail) only [pn, pq]) <;> omega))
      · exact hJS33
      · exact hFS33
      · first | omega | ((try simp (disch := first | ((try simp (disch := first | ((try simp only [pn]) <;> omega) | fail) only [pn, pq]) <;> omega) | fail) only [pn, pq]) <;> (intros; (try simp (disch := first | ((try simp (disch := first | ((try simp only [pn]) <;> omega) | fail) only [pn, pq]) <;> omega) | fail) only [pn, pq]) <;> omega))
      · first | omega | ((try simp (disch := first | ((try simp (disch := first | ((try simp only [pn]) <;> omega) | fail) only [pn, pq]) <;> omega) | fail) only [pn, pq]) <;> (intros; (try simp (disch := first | ((try simp (disch := first | ((try simp only [pn]) <;> omega) | fail) only [pn, pq]) <;> omega) | fail) only [pn, pq]) <;> omega))
      · first | omega | ((try simp (disch := first | ((try simp (disch := first | ((try simp only [pn]) <;> omega) | fail) only [pn, pq]) <;> omega) | fail) only [pn, pq]) <;> (intros; (try simp (disch := first | ((try simp (disch := first | ((try simp only [pn]) <;> omega) | fail) only [pn, pq]) <;> omega) | fail) only [pn, pq]) <;> omega))
      · first | omega | ((try simp (disch := first | ((try simp (disch := first | ((try simp only [pn]) <;> omega) | fail) only [pn, pq]) <;> omega) | fail) only [pn, pq]) <;> (intros; (try simp (disch := first | ((try simp (disch := first | ((try simp only [pn]) <;> omega) | fail) only [pn, pq]) <;> omega) | fail) only [pn, pq]) <;> omega))
      · first | omega | ((try simp (disch := first | ((try simp (disch := first | ((try simp only [pn]) <;> omega) | fail) only [pn, pq]) <;> omega) | fail) only [pn, pq]) <;> (intros; (try simp (disch := first | ((try simp (disch := first | ((try simp only [pn]) <;> omega) | fail) only [pn, pq]) <;> omega) | fail) only [pn, pq]) <;> omega))
      · first | omega | ((try simp (disch := first | ((try simp (disch := first | ((try simp only [pn]) <;> omega) | fail) only [pn, pq]) <;> omega) | fail) only [pn, pq]) <;> (intros; (try simp (disch := first | ((try simp (disch := first | ((try simp only [pn]) <;> omega) | fail) only [pn, pq]) <;> omega) | fail) only [pn, pq]) <;> omega))
      · first | omega | ((try simp (disch := first | ((try simp (disch := first | ((try simp only [pn]) <;> omega) | fail) only [pn, pq]) <;> omega) | fail) only [pn, pq]) <;> (intros; (try simp (disch := first | ((try simp (disch := first | ((try simp only [pn]) <;> omega) | fail) only [pn, pq]) <;> omega) | fail) only [pn, pq]) <;> omega))
    · skip
      refine ⟨vin1, ?_⟩
      refine ⟨vin2, ?_⟩
      refine sf_X8_set hJSq1.1 (fun r34 u35 hJu35 hfu35 hzr34 hr34_0 => ?_)
      have je142 : ((b8g_isKept u35)).toInt = ((b8g_isKept Sq1.1)).toInt := congrArg (fun z => (z).toInt) hfu35.2.2.2.2.2.2.2.1
      have je144 : ((b0g_count (b2g_questions (b8g_now u35)))).toInt = ((b0g_count (b2g_questions (b8g_now Sq1.1)))).toInt := congrArg (fun z => ((b0g_count z)).toInt) hfu35.2.2.2.1
      have je146 : ((b0g_count (b2g_questions (b8g_kept u35)))).toInt = ((b0g_count (b2g_questions (b8g_kept Sq1.1)))).toInt := congrArg (fun z => ((b0g_count (b2g_questions z))).toInt) hfu35.2.2.2.2.2.2.1
      clear hr34_0
      intro S36 eS36
      have hGS36 : F_L_law S S36 := trivial
      have hJS36 : J8 S36.1 ∧ J9 S36.2 := by rw [eS36]; exact ⟨hJu35, hJSq1.2⟩
      have hFS36 : F_L_law S S36 := hGS36
      have je147 : ((b8g_isKept S36.1)).toInt = ((b8g_isKept u35)).toInt := by rw [eS36]
      try simp (disch := first | ((try simp (disch := first | ((try simp only [pn]) <;> omega) | fail) only [pn, pq]) <;> omega) | fail) only [pn, pq] at je147
      have je148 : ((b9g_hasImage S36.2)).toInt = ((b9g_hasImage Sq1.2)).toInt := by rw [eS36]
      have je149 : ((b0g_count (b2g_questions (b8g_now S36.1)))).toInt = ((b0g_count (b2g_questions (b8g_now u35)))).toInt := by rw [eS36]
      try simp (disch := first | ((try simp (disch := first | ((try simp only [pn]) <;> omega) | fail) only [pn, pq]) <;> omega) | fail) only [pn, pq] at je149
      have jf150 := J0g_count (J2g_questions (J8g_now hJS36.1))
      have je151 : ((b0g_count (b2g_questions (b8g_kept S36.1)))).toInt = ((b0g_count (b2g_questions (b8g_kept u35)))).toInt := by rw [eS36]
      try simp (disch := first | ((try simp (disch := first | ((try simp only [pn]) <;> omega) | fail) only [pn, pq]) <;> omega) | fail) only [pn, pq] at je151
      have jf152 := J0g_count (J2g_questions (J8g_kept hJS36.1))
      have je153 : ((b9g_now S36.2) 10).toInt = ((b9g_now Sq1.2) 10).toInt := by rw [eS36]
      have je154 : ((b9g_images S36.2) 10).toInt = ((b9g_images Sq1.2) 10).toInt := by rw [eS36]
      refine ⟨vin1, ?_⟩
      refine ⟨vin2, ?_⟩
      refine sf_X9_set hJS36.2 (fun r37 u38 hJu38 hfu38 hzr37 hr37_0 hr37_1 hr37_2 => ?_)
      have je156 : ((b9g_hasImage u38)).toInt = ((b9g_hasImage S36.2)).toInt := congrArg (fun z => (z).toInt) hfu38.2.2.2.2.2.2.2.2.2.2.2.2.2.2.2.2.2.2.2.2.2.2.2.2.2.2.2.2.2.2.2.2.2.2.2.2.2.2.2.2.1
      have je158 : ((b9g_images u38) 10).toInt = ((b9g_images S36.2) 10).toInt := congrArg (fun z => (z 10).toInt) hfu38.2.2.2.2.2.2.2.2.2.2.2.2.2.2.2.2.2.2.2.2.2.2.2.2.2.2.2.2.2.2.2.2.2.2.2.2.2.2.2.2.2.1
      clear hr37_0
      have hTr37_1 := congrArg Int32.toInt hr37_1
      try simp (disch := first | ((try simp (disch := first | ((try simp only [pn]) <;> omega) | fail) only [pn, pq]) <;> omega) | fail) only [pn, pq] at hTr37_1
      clear hr37_2
      intro S39 eS39
      have hGS39 : F_L_law S S39 := trivial
      have hJS39 : J8 S39.1 ∧ J9 S39.2 := by rw [eS39]; exact ⟨hJS36.1, hJu38⟩
      have hFS39 : F_L_law S S39 := hGS39
      have je159 : ((b8g_isKept S39.1)).toInt = ((b8g_isKept S36.1)).toInt := by rw [eS39]
      have je160 : ((b9g_hasImage S39.2)).toInt = ((b9g_hasImage u38)).toInt := by rw [eS39]
      try simp (disch := first | ((try simp (disch := first | ((try simp only [pn]) <;> omega) | fail) only [pn, pq]) <;> omega) | fail) only [pn, pq] at je160
      have je161 : ((b0g_count (b2g_questions (b8g_now S39.1)))).toInt = ((b0g_count (b2g_questions (b8g_now S36.1)))).toInt := by rw [eS39]
      have jf162 := J0g_count (J2g_questions (J8g_now hJS39.1))
      have je163 : ((b0g_count (b2g_questions (b8g_kept S39.1)))).toInt = ((b0g_count (b2g_questions (b8g_kept S36.1)))).toInt := by rw [eS39]
      have jf164 := J0g_count (J2g_questions (J8g_kept hJS39.1))
      have je165 : ((b9g_now S39.2) 10).toInt = ((b9g_now u38) 10).toInt := by rw [eS39]
      try simp (disch := first | ((try simp (disch := first | ((try simp only [pn]) <;> omega) | fail) only [pn, pq]) <;> omega) | fail) only [pn, pq] at je165
      have je166 : ((b9g_images S39.2) 10).toInt = ((b9g_images u38) 10).toInt := by rw [eS39]
      try simp (disch := first | ((try simp (disch := first | ((try simp only [pn]) <;> omega) | fail) only [pn, pq]) <;> omega) | fail) only [pn, pq] at je166
      unfold wp_L_law_1745
      refine ⟨_, ?_, ?_, ?_, ?_, ?_, ?_, ?_, ?_, ?_, ?_, rfl⟩
      · first | omega | ((try simp (disch := first | ((try simp (disch := first | ((try simp only [pn]) <;> omega) | fail) only [pn, pq]) <;> omega) | fail) only [pn, pq]) <;> (intros; (try simp (disch := first | ((try simp (disch := first | ((try simp only [pn]) <;> omega) | fail) only [pn, pq]) <;> omega) | fail) only [pn, pq]) <;> omega))
      · exact hJS39
      · exact hFS39
      · first | omega | ((try simp (disch := first | ((try simp (disch := first | ((try simp only [pn]) <;> omega) | fail) only [pn, pq]) <;> omega) | fail) only [pn, pq]) <;> (intros; (try simp (disch := first | ((try simp (disch := first | ((try simp only [pn]) <;> omega) | fail) only [pn, pq]) <;> omega) | fail) only [pn, pq]) <;> omega))
      · first | omega | ((try simp (disch := first | ((try simp (disch := first | ((try simp only [pn]) <;> omega) | fail) only [pn, pq]) <;> omega) | fail) only [pn, pq]) <;> (intros; (try simp (disch := first | ((try simp (disch := first | ((try simp only [pn]) <;> omega) | fail) only [pn, pq]) <;> omega) | fail) only [pn, pq]) <;> omega))
      · first | omega | ((try simp (disch := first | ((try simp (disch := first | ((try simp only [pn]) <;> omega) | fail) only [pn, pq]) <;> omega) | fail) only [pn, pq]) <;> (intros; (try simp (disch := first | ((try simp (disch := first | ((try simp only [pn]) <;> omega) | fail) only [pn, pq]) <;> omega) | fail) only [pn, pq]) <;> omega))
      · first | omega | ((try simp (disch := first | ((try simp (disch := first | ((try simp only [pn]) <;> omega) | fail) only [pn, pq]) <;> omega) | fail) only [pn, pq]) <;> (intros; (try simp (disch := first | ((try simp (disch := first | ((try simp only [pn]) <;> omega) | fail) only [pn, pq]) <;> omega) | fail) only [pn, pq]) <;> omega))
      · first | omega | ((try simp (disch := first | ((try simp (disch := first | ((try simp only [pn]) <;> omega) | fail) only [pn, pq]) <;> omega) | fail) only [pn, pq]) <;> (intros; (try simp (disch := first | ((try simp (disch := first | ((try simp only [pn]) <;> omega) | fail) only [pn, pq]) <;> omega) | fail) only [pn, pq]) <;> omega))
      · first | omega | ((try simp (disch := first | ((try simp (disch := first | ((try simp only [pn]) <;> omega) | fail) only [pn, pq]) <;> omega) | fail) only [pn, pq]) <;> (intros; (try simp (disch := first | ((try simp (disch := first | ((try simp only [pn]) <;> omega) | fail) only [pn, pq]) <;> omega) | fail) only [pn, pq]) <;> omega))
      · first | omega | ((try simp (disch := first | ((try simp (disch := first | ((try simp only [pn]) <;> omega) | fail) only [pn, pq]) <;> omega) | fail) only [pn, pq]) <;> (intros; (try simp (disch := first | ((try simp (disch := first | ((try simp only [pn]) <;> omega) | fail) only [pn, pq]) <;> omega) | fail) only [pn, pq]) <;> omega))
    · skip
      refine ⟨vin1, ?_⟩
      refine sf_X8_state hJSq1.1 (fun r40 u41 hJu41 hfu41 hr40_0 hr40_1 => ?_)
      have je168 : ((b8g_isKept u41)).toInt = ((b8g_isKept Sq1.1)).toInt := congrArg (fun z => (z).toInt) hfu41.2.2.2.2.2.1
      have je170 : ((b0g_count (b2g_questions (b8g_now u41)))).toInt = ((b0g_count (b2g_questions (b8g_now Sq1.1)))).toInt := congrArg (fun z => ((b0g_count z)).toInt) hfu41.2.2.1
      have je172 : ((b0g_count (b2g_questions (b8g_kept u41)))).toInt = ((b0g_count (b2g_questions (b8g_kept Sq1.1)))).toInt := congrArg (fun z => ((b0g_count (b2g_questions z))).toInt) hfu41.2.2.2.2.1
      have rgr40 := pt_rg r40
      clear hr40_0
      clear hr40_1
      intro S42 eS42
      have hGS42 : F_L_law S S42 := trivial
      have hJS42 : J8 S42.1 ∧ J9 S42.2 := by rw [eS42]; exact ⟨hJu41, hJSq1.2⟩
      have hFS42 : F_L_law S S42 := hGS42
      have je173 : ((b8g_isKept S42.1)).toInt = ((b8g_isKept u41)).toInt := by rw [eS42]
      try simp (disch := first | ((try simp (disch := first | ((try simp only [pn]) <;> omega) | fail) only [pn, pq]) <;> omega) | fail) only [pn, pq] at je173
      have je174 : ((b9g_hasImage S42.2)).toInt = ((b9g_hasImage Sq1.2)).toInt := by rw [eS42]
      have je175 : ((b0g_count (b2g_questions (b8g_now S42.1)))).toInt = ((b0g_count (b2g_questions (b8g_now u41)))).toInt := by rw [eS42]
      try simp (disch := first | ((try simp (disch := first | ((try simp only [pn]) <;> omega) | fail) only [pn, pq]) <;> omega) | fail) only [pn, pq] at je175
      have jf176 := J0g_count (J2g_questions (J8g_now hJS42.1))
      have je177 : ((b0g_count (b2g_questions (b8g_kept S42.1)))).toInt = ((b0g_count (b2g_questions (b8g_kept u41)))).toInt := by rw [eS42]
      try simp (disch := first | ((try simp (disch := first | ((try simp only [pn]) <;> omega) | fail) only [pn, pq]) <;> omega) | fail) only [pn, pq] at je177
      have jf178 := J0g_count (J2g_questions (J8g_kept hJS42.1))
      have je179 : ((b9g_now S42.2) 10).toInt = ((b9g_now Sq1.2) 10).toInt := by rw [eS42]
      have je180 : ((b9g_images S42.2) 10).toInt = ((b9g_images Sq1.2) 10).toInt := by rw [eS42]
      refine ⟨vin1, ?_⟩
      refine sf_X9_state hJS42.2 (fun r43 u44 hJu44 hfu44 hr43_0 hr43_1 hr43_2 => ?_)
      have je182 : ((b9g_hasImage u44)).toInt = ((b9g_hasImage S42.2)).toInt := congrArg (fun z => (z).toInt) hfu44.2.2.2.2.2.2.2.2.2.2.2.2.2.2.2.2.2.2.2.2.2.2.2.2.2.2.2.2.2.2.2.2.2.2.2.2.2.2.2.2.1
      have je184 : ((b9g_images u44) 10).toInt = ((b9g_images S42.2) 10).toInt := congrArg (fun z => (z 10).toInt) hfu44.2.2.2.2.2.2.2.2.2.2.2.2.2.2.2.2.2.2.2.2.2.2.2.2.2.2.2.2.2.2.2.2.2.2.2.2.2.2.2.2.2.1
      have rgr43 := pt_rg r43
      clear hr43_0
      clear hr43_1
      have hTr43_2 := congrArg Int32.toInt hr43_2
      try simp (disch := first | ((try simp (disch := first | ((try simp only [pn]) <;> omega) | fail) only [pn, pq]) <;> omega) | fail) only [pn, pq] at hTr43_2
      intro S45 eS45
      have hGS45 : F_L_law S S45 := trivial
      have hJS45 : J8 S45.1 ∧ J9 S45.2 := by rw [eS45]; exact ⟨hJS42.1, hJu44⟩
      have hFS45 : F_L_law S S45 := hGS45
      have je185 : ((b8g_isKept S45.1)).toInt = ((b8g_isKept S42.1)).toInt := by rw [eS45]
      have je186 : ((b9g_hasImage S45.2)).toInt = ((b9g_hasImage u44)).toInt := by rw [eS45]
      try simp (disch := first | ((try simp (disch := first | ((try simp only [pn]) <;> omega) | fail) only [pn, pq]) <;> omega) | fail) only [pn, pq] at je186
      have je187 : ((b0g_count (b2g_questions (b8g_now S45.1)))).toInt = ((b0g_count (b2g_questions (b8g_now S42.1)))).toInt := by rw [eS45]
      have jf188 := J0g_count (J2g_questions (J8g_now hJS45.1))
      have je189 : ((b0g_count (b2g_questions (b8g_kept S45.1)))).toInt = ((b0g_count (b2g_questions (b8g_kept S42.1)))).toInt := by rw [eS45]
      have jf190 := J0g_count (J2g_questions (J8g_kept hJS45.1))
      have je191 : ((b9g_now S45.2) 10).toInt = ((b9g_now u44) 10).toInt := by rw [eS45]
      try simp (disch := first | ((try simp (disch := first | ((try simp only [pn]) <;> omega) | fail) only [pn, pq]) <;> omega) | fail) only [pn, pq] at je191
      have je192 : ((b9g_images S45.2) 10).toInt = ((b9g_images u44) 10).toInt := by rw [eS45]
      try simp (disch := first | ((try simp (disch := first | ((try simp only [pn]) <;> omega) | fail) only [pn, pq]) <;> omega) | fail) only [pn, pq] at je192
      unfold wp_L_law_1745
      refine ⟨_, ?_, ?_, ?_, ?_, ?_, ?_, ?_, ?_, ?_, ?_, rfl⟩
      · first | omega | ((try simp (disch := first | ((try simp (disch := first | ((try simp only [pn]) <;> omega) | fail) only [pn, pq]) <;> omega) | fail) only [pn, pq]) <;> (intros; (try simp (disch := first | ((try simp (disch := first | ((try simp only [pn]) <;> omega) | fail) only [pn, pq]) <;> omega) | fail) only [pn, pq]) <;> omega))
      · exact hJS45
      · exact hFS45
      · first | omega | ((try simp (disch := first | ((try simp (disch := first | ((try simp only [pn]) <;> omega) | fail) only [pn, pq]) <;> omega) | fail) only [pn, pq]) <;> (intros; (try simp (disch := first | ((try simp (disch := first | ((try simp only [pn]) <;> omega) | fail) only [pn, pq]) <;> omega) | fail) only [pn, pq]) <;> omega))
      · first | omega | ((try simp (disch := first | ((try simp (disch := first | ((try simp only [pn]) <;> omega) | fail) only [pn, pq]) <;> omega) | fail) only [pn, pq]) <;> (intros; (try simp (disch := first | ((try simp (disch := first | ((try simp only [pn]) <;> omega) | fail) only [pn, pq]) <;> omega) | fail) only [pn, pq]) <;> omega))
      · first | omega | ((try simp (disch := first | ((try simp (disch := first | ((try simp only [pn]) <;> omega) | fail) only [pn, pq]) <;> omega) | fail) only [pn, pq]) <;> (intros; (try simp (disch := first | ((try simp (disch := first | ((try simp only [pn]) <;> omega) | fail) only [pn, pq]) <;> omega) | fail) only [pn, pq]) <;> omega))
      · first | omega | ((try simp (disch := first | ((try simp (disch := first | ((try simp only [pn]) <;> omega) | fail) only [pn, pq]) <;> omega) | fail) only [pn, pq]) <;> (intros; (try simp (disch := first | ((try simp (disch := first | ((try simp only [pn]) <;> omega) | fail) only [pn, pq]) <;> omega) | fail) only [pn, pq]) <;> omega))
      · first | omega | ((try simp (disch := first | ((try simp (disch := first | ((try simp only [pn]) <;> omega) | fail) only [pn, pq]) <;> omega) | fail) only [pn, pq]) <;> (intros; (try simp (disch := first | ((try simp (disch := first | ((try simp only [pn]) <;> omega) | fail) only [pn, pq]) <;> omega) | fail) only [pn, pq]) <;> omega))
      · first | omega | ((try simp (disch := first | ((try simp (disch := first | ((try simp only [pn]) <;> omega) | fail) only [pn, pq]) <;> omega) | fail) only [pn, pq]) <;> (intros; (try simp (disch := first | ((try simp (disch := first | ((try simp only [pn]) <;> omega) | fail) only [pn, pq]) <;> omega) | fail) only [pn, pq]) <;> omega))
      · first | omega | ((try simp (disch := first | ((try simp (disch := first | ((try simp only [pn]) <;> omega) | fail) only [pn, pq]) <;> omega) | fail) only [pn, pq]) <;> (intros; (try simp (disch := first | ((try simp (disch := first | ((try simp only [pn]) <;> omega) | fail) only [pn, pq]) <;> omega) | fail) only [pn, pq]) <;> omega))
    · skip
      refine ⟨vin1, ?_⟩
      refine ⟨vin2, ?_⟩
      refine ⟨vin3, ?_⟩
      refine sf_X8_add hJSq1.1 (fun r46 u47 hJu47 hfu47 hr46_0 => ?_)
      have je194 : ((b8g_isKept u47)).toInt = ((b8g_isKept Sq1.1)).toInt := congrArg (fun z => (z).toInt) hfu47.2.2.2.2.2.2.2.1
      have je196 : ((b0g_count (b2g_questions (b8g_now u47)))).toInt = ((b0g_count (b2g_questions (b8g_now Sq1.1)))).toInt := congrArg (fun z => ((b0g_count z)).toInt) hfu47.2.2.2.1
      have je198 : ((b0g_count (b2g_questions (b8g_kept u47)))).toInt = ((b0g_count (b2g_questions (b8g_kept Sq1.1)))).toInt := congrArg (fun z => ((b0g_count (b2g_questions z))).toInt) hfu47.2.2.2.2.2.2.1
      have rgr46 := pt_rg r46
      clear hr46_0
      intro S48 eS48
      have hGS48 : F_L_law S S48 := trivial
      have hJS48 : J8 S48.1 ∧ J9 S48.2 := by rw [eS48]; exact ⟨hJu47, hJSq1.2⟩
      have hFS48 : F_L_law S S48 := hGS48
      have je199 : ((b8g_isKept S48.1)).toInt = ((b8g_isKept u47)).toInt := by rw [eS48]
      try simp (disch := first | ((try simp (disch := first | ((try simp only [pn]) <;> omega) | fail) only [pn, pq]) <;> omega) | fail) only [pn, pq] at je199
      have je200 : ((b9g_hasImage S48.2)).toInt = ((b9g_hasImage Sq1.2)).toInt := by rw [eS48]
      have je201 : ((b0g_count (b2g_questions (b8g_now S48.1)))).toInt = ((b0g_count (b2g_questions (b8g_now u47)))).toInt := by rw [eS48]
      try simp (disch := first | ((try simp (disch := first | ((try simp only [pn]) <;> omega) | fail) only [pn, pq]) <;> omega) | fail) only [pn, pq] at je201
      have jf202 := J0g_count (J2g_questions (J8g_now hJS48.1))
      have je203 : ((b0g_count (b2g_questions (b8g_kept S48.1)))).toInt = ((b0g_count (b2g_questions (b8g_kept u47)))).toInt := by rw [eS48]
      try simp (disch := first | ((try simp (disch := first | ((try simp only [pn]) <;> omega) | fail) only [pn, pq]) <;> omega) | fail) only [pn, pq] at je203
      have jf204 := J0g_count (J2g_questions (J8g_kept hJS48.1))
      have je205 : ((b9g_now S48.2) 10).toInt = ((b9g_now Sq1.2) 10).toInt := by rw [eS48]
      have je206 : ((b9g_images S48.2) 10).toInt = ((b9g_images Sq1.2) 10).toInt := by rw [eS48]
      refine ⟨vin1, ?_⟩
      refine ⟨vin2, ?_⟩
      refine ⟨vin3, ?_⟩
      refine sf_X9_add hJS48.2 (fun r49 u50 hJu50 hfu50 hr49_0 hr49_1 hr49_2 hr49_3 hr49_4 => ?_)
      have je208 : ((b9g_hasImage u50)).toInt = ((b9g_hasImage S48.2)).toInt := congrArg (fun z => (z).toInt) hfu50.2.2.2.2.2.2.2.2.2.2.2.2.2.2.2.2.2.2.2.2.2.2.2.2.2.2.2.2.2.2.2.2.2.2.2.2.2.2.1
      have je210 : ((b9g_images u50) 10).toInt = ((b9g_images S48.2) 10).toInt := congrArg (fun z => (z 10).toInt) hfu50.2.2.2.2.2.2.2.2.2.2.2.2.2.2.2.2.2.2.2.2.2.2.2.2.2.2.2.2.2.2.2.2.2.2.2.2.2.2.2.1
      have rgr49 := pt_rg r49
      clear hr49_0
      clear hr49_1
      clear hr49_2
      have hTr49_3 := congrArg Int32.toInt hr49_3
      try simp (disch := first | ((try simp (disch := first | ((try simp only [pn]) <;> omega) | fail) only [pn, pq]) <;> omega) | fail) only [pn, pq] at hTr49_3
      clear hr49_4
      intro S51 eS51
      have hGS51 : F_L_law S S51 := trivial
      have hJS51 : J8 S51.1 ∧ J9 S51.2 := by rw [eS51]; exact ⟨hJS48.1, hJu50⟩
      have hFS51 : F_L_law S S51 := hGS51
      have je211 : ((b8g_isKept S51.1)).toInt = ((b8g_isKept S48.1)).toInt := by rw [eS51]
      have je212 : ((b9g_hasImage S51.2)).toInt = ((b9g_hasImage u50)).toInt := by rw [eS51]
      try simp (disch := first | ((try simp (disch := first | ((try simp only [pn]) <;> omega) | fail) only [pn, pq]) <;> omega) | fail) only [pn, pq] at je212
      have je213 : ((b0g_count (b2g_questions (b8g_now S51.1)))).toInt = ((b0g_count (b2g_questions (b8g_now S48.1)))).toInt := by rw [eS51]
      have jf214 := J0g_count (J2g_questions (J8g_now hJS51.1))
      have je215 : ((b0g_count (b2g_questions (b8g_kept S51.1)))).toInt = ((b0g_count (b2g_questions (b8g_kept S48.1)))).toInt := by rw [eS51]
      have jf216 := J0g_count (J2g_questions (J8g_kept hJS51.1))
      have je217 : ((b9g_now S51.2) 10).toInt = ((b9g_now u50) 10).toInt := by rw [eS51]
      try simp (disch := first | ((try simp (disch := first | ((try simp only [pn]) <;> omega) | fail) only [pn, pq]) <;> omega) | fail) only [pn, pq] at je217
      have je218 : ((b9g_images S51.2) 10).toInt = ((b9g_images u50) 10).toInt := by rw [eS51]
      try simp (disch := first | ((try simp (disch := first | ((try simp only [pn]) <;> omega) | fail) only [pn, pq]) <;> omega) | fail) only [pn, pq] at je218
      unfold wp_L_law_1745
      refine ⟨_, ?_, ?_, ?_, ?_, ?_, ?_, ?_, ?_, ?_, ?_, rfl⟩
      · first | omega | ((try simp (disch := first | ((try simp (disch := first | ((try simp only [pn]) <;> omega) | fail) only [pn, pq]) <;> omega) | fail) only [pn, pq]) <;> (intros; (try simp (disch := first | ((try simp (disch := first | ((try simp only [pn]) <;> omega) | fail) only [pn, pq]) <;> omega) | fail) only [pn, pq]) <;> omega))
      · exact hJS51
      · exact hFS51
      · first | omega | ((try simp (disch := first | ((try simp (disch := first | ((try simp only [pn]) <;> omega) | fail) only [pn, pq]) <;> omega) | fail) only [pn, pq]) <;> (intros; (try simp (disch := first | ((try simp (disch := first | ((try simp only [pn]) <;> omega) | fail) only [pn, pq]) <;> omega) | fail) only [pn, pq]) <;> omega))
      · first | omega | ((try simp (disch := first | ((try simp (disch := first | ((try simp only [pn]) <;> omega) | fail) only [pn, pq]) <;> omega) | fail) only [pn, pq]) <;> (intros; (try simp (disch := first | ((try simp (disch := first | ((try simp only [pn]) <;> omega) | fail) only [pn, pq]) <;> omega) | fail) only [pn, pq]) <;> omega))
      · first | omega | ((try simp (disch := first | ((try simp (disch := first | ((try simp only [pn]) <;> omega) | fail) only [pn, pq]) <;> omega) | fail) only [pn, pq]) <;> (intros; (try simp (disch := first | ((try simp (disch := first | ((try simp only [pn]) <;> omega) | fail) only [pn, pq]) <;> omega) | fail) only [pn, pq]) <;> omega))
      · first | omega | ((try simp (disch := first | ((try simp (disch := first | ((try simp only [pn]) <;> omega) | fail) only [pn, pq]) <;> omega) | fail) only [pn, pq]) <;> (intros; (try simp (disch := first | ((try simp (disch := first | ((try simp only [pn]) <;> omega) | fail) only [pn, pq]) <;> omega) | fail) only [pn, pq]) <;> omega))
      · first | omega | ((try simp (disch := first | ((try simp (disch := first | ((try simp only [pn]) <;> omega) | fail) only [pn, pq]) <;> omega) | fail) only [pn, pq]) <;> (intros; (try simp (disch := first | ((try simp (disch := first | ((try simp only [pn]) <;> omega) | fail) only [pn, pq]) <;> omega) | fail) only [pn, pq]) <;> omega))
      · first | omega | ((try simp (disch := first | ((try simp (disch := first | ((try simp only [pn]) <;> omega) | fail) only [pn, pq]) <;> omega) | fail) only [pn, pq]) <;> (intros; (try simp (disch := first | ((try simp (disch := first | ((try simp only [pn]) <;> omega) | fail) only [pn, pq]) <;> omega) | fail) only [pn, pq]) <;> omega))
      · first | omega | ((try simp (disch := first | ((try simp (disch := first | ((try simp only [pn]) <;> omega) | fail) only [pn, pq]) <;> omega) | fail) only [pn, pq]) <;> (intros; (try simp (disch := first | ((try simp (disch := first | ((try simp only [pn]) <;> omega) | fail) only [pn, pq]) <;> omega) | fail) only [pn, pq]) <;> omega))
    · skip
      refine ⟨vin1, ?_⟩
      refine ⟨vin2, ?_⟩
      refine ⟨vin3, ?_⟩
      refine sf_X8_remove hJSq1.1 (fun r52 u53 hJu53 hfu53 hr52_0 hr52_1 => ?_)
      have je220 : ((b8g_isKept u53)).toInt = ((b8g_isKept Sq1.1)).toInt := congrArg (fun z => (z).toInt) hfu53.2.2.2.2.2.2.2.1
      have je222 : ((b0g_count (b2g_questions (b8g_now u53)))).toInt = ((b0g_count (b2g_questions (b8g_now Sq1.1)))).toInt := congrArg (fun z => ((b0g_count z)).toInt) hfu53.2.2.2.1
      have je224 : ((b0g_count (b2g_questions (b8g_kept u53)))).toInt = ((b0g_count (b2g_questions (b8g_kept Sq1.1)))).toInt := congrArg (fun z => ((b0g_count (b2g_questions z))).toInt) hfu53.2.2.2.2.2.2.1
      have rgr52 := pt_rg r52
      clear hr52_0
      clear hr52_1
      intro S54 eS54
      have hGS54 : F_L_law S S54 := trivial
      have hJS54 : J8 S54.1 ∧ J9 S54.2 := by rw [eS54]; exact ⟨hJu53, hJSq1.2⟩
      have hFS54 : F_L_law S S54 := hGS54
      have je225 : ((b8g_isKept S54.1)).toInt = ((b8g_isKept u53)).toInt := by rw [eS54]
      try simp (disch := first | ((try simp (disch := first | ((try simp only [pn]) <;> omega) | fail) only [pn, pq]) <;> omega) | fail) only [pn, pq] at je225
      have je226 : ((b9g_hasImage S54.2)).toInt = ((b9g_hasImage Sq1.2)).toInt := by rw [eS54]
      have je227 : ((b0g_count (b2g_questions (b8g_now S54.1)))).toInt = ((b0g_count (b2g_questions (b8g_now u53)))).toInt := by rw [eS54]
      try simp (disch := first | ((try simp (disch := first | ((try simp only [pn]) <;> omega) | fail) only [pn, pq]) <;> omega) | fail) only [pn, pq] at je227
      have jf228 := J0g_count (J2g_questions (J8g_now hJS54.1))
      have je229 : ((b0g_count (b2g_questions (b8g_kept S54.1)))).toInt = ((b0g_count (b2g_questions (b8g_kept u53)))).toInt := by rw [eS54]
      try simp (disch := first | ((try simp (disch := first | ((try simp only [pn]) <;> omega) | fail) only [pn, pq]) <;> omega) | fail) only [pn, pq] at je229
      have jf230 := J0g_count (J2g_questions (J8g_kept hJS54.1))
      have je231 : ((b9g_now S54.2) 10).toInt = ((b9g_now Sq1.2) 10).toInt := by rw [eS54]
      have je232 : ((b9g_images S54.2) 10).toInt = ((b9g_images Sq1.2) 10).toInt := by rw [eS54]
      refine ⟨vin1, ?_⟩
      refine ⟨vin2, ?_⟩
      refine ⟨vin3, ?_⟩
      refine sf_X9_remove hJS54.2 (fun r55 u56 hJu56 hfu56 hr55_0 hr55_1 hr55_2 hr55_3 hr55_4 hr55_5 => ?_)
      have je234 : ((b9g_hasImage u56)).toInt = ((b9g_hasImage S54.2)).toInt := congrArg (fun z => (z).toInt) hfu56.2.2.2.2.2.2.2.2.2.2.2.2.2.2.2.2.2.2.2.2.2.2.2.2.2.2.2.2.2.2.2.2.2.2.2.2.2.2.1
      have je236 : ((b9g_images u56) 10).toInt = ((b9g_images S54.2) 10).toInt := congrArg (fun z => (z 10).toInt) hfu56.2.2.2.2.2.2.2.2.2.2.2.2.2.2.2.2.2.2.2.2.2.2.2.2.2.2.2.2.2.2.2.2.2.2.2.2.2.2.2.1
      have rgr55 := pt_rg r55
      clear hr55_0
      clear hr55_1
      clear hr55_2
      clear hr55_3
      have hTr55_4 := congrArg Int32.toInt hr55_4
      try simp (disch := first | ((try simp (disch := first | ((try simp only [pn]) <;> omega) | fail) only [pn, pq]) <;> omega) | fail) only [pn, pq] at hTr55_4
      clear hr55_5
      intro S57 eS57
      have hGS57 : F_L_law S S57 := trivial
      have hJS57 : J8 S57.1 ∧ J9 S57.2 := by rw [eS57]; exact ⟨hJS54.1, hJu56⟩
      have hFS57 : F_L_law S S57 := hGS57
      have je237 : ((b8g_isKept S57.1)).toInt = ((b8g_isKept S54.1)).toInt := by rw [eS57]
      have je238 : ((b9g_hasImage S57.2)).toInt = ((b9g_hasImage u56)).toInt := by rw [eS57]
      try simp (disch := first | ((try simp (disch := first | ((try simp only [pn]) <;> omega) | fail) only [pn, pq]) <;> omega) | fail) only [pn, pq] at je238
      have je239 : ((b0g_count (b2g_questions (b8g_now S57.1)))).toInt = ((b0g_count (b2g_questions (b8g_now S54.1)))).toInt := by rw [eS57]
      have jf240 := J0g_count (J2g_questions (J8g_now hJS57.1))
      have je241 : ((b0g_count (b2g_questions (b8g_kept S57.1)))).toInt = ((b0g_count (b2g_questions (b8g_kept S54.1)))).toInt := by rw [eS57]
      have jf242 := J0g_count (J2g_questions (J8g_kept hJS57.1))
      have je243 : ((b9g_now S57.2) 10).toInt = ((b9g_now u56) 10).toInt := by rw [eS57]
      try simp (disch := first | ((try simp (disch := first | ((try simp only [pn]) <;> omega) | fail) only [pn, pq]) <;> omega) | fail) only [pn, pq] at je243
      have je244 : ((b9g_images S57.2) 10).toInt = ((b9g_images u56) 10).toInt := by rw [eS57]
      try simp (disch := first | ((try simp (disch := first | ((try simp only [pn]) <;> omega) | fail) only [pn, pq]) <;> omega) | fail) only [pn, pq] at je244
      unfold wp_L_law_1745
      refine ⟨_, ?_, ?_, ?_, ?_, ?_, ?_, ?_, ?_, ?_, ?_, rfl⟩
      · first | omega | ((try simp (disch := first | ((try simp (disch := first | ((try simp only [pn]) <;> omega) | fail) only [pn, pq]) <;> omega) | fail) only [pn, pq]) <;> (intros; (try simp (disch := first | ((try simp (disch := first | ((try simp only [pn]) <;> omega) | fail) only [pn, pq]) <;> omega) | fail) only [pn, pq]) <;> omega))
      · exact hJS57
      · exact hFS57
      · first | omega | ((try simp (disch := first | ((try simp (disch := first | ((try simp only [pn]) <;> omega) | fail) only [pn, pq]) <;> omega) | fail) only [pn, pq]) <;> (intros; (try simp (disch := first | ((try simp (disch := first | ((try simp only [pn]) <;> omega) | fail) only [pn, pq]) <;> omega) | fail) only [pn, pq]) <;> omega))
      · first | omega | ((try simp (disch := first | ((try simp (disch := first | ((try simp only [pn]) <;> omega) | fail) only [pn, pq]) <;> omega) | fail) only [pn, pq]) <;> (intros; (try simp (disch := first | ((try simp (disch := first | ((try simp only [pn]) <;> omega) | fail) only [pn, pq]) <;> omega) | fail) only [pn, pq]) <;> omega))
      · first | omega | ((try simp (disch := first | ((try simp (disch := first | ((try simp only [pn]) <;> omega) | fail) only [pn, pq]) <;> omega) | fail) only [pn, pq]) <;> (intros; (try simp (disch := first | ((try simp (disch := first | ((try simp only [pn]) <;> omega) | fail) only [pn, pq]) <;> omega) | fail) only [pn, pq]) <;> omega))
      · first | omega | ((try simp (disch := first | ((try simp (disch := first | ((try simp only [pn]) <;> omega) | fail) only [pn, pq]) <;> omega) | fail) only [pn, pq]) <;> (intros; (try simp (disch := first | ((try simp (disch := first | ((try simp only [pn]) <;> omega) | fail) only [pn, pq]) <;> omega) | fail) only [pn, pq]) <;> omega))
      · first | omega | ((try simp (disch := first | ((try simp (disch := first | ((try simp only [pn]) <;> omega) | fail) only [pn, pq]) <;> omega) | fail) only [pn, pq]) <;> (intros; (try simp (disch := first | ((try simp (disch := first | ((try simp only [pn]) <;> omega) | fail) only [pn, pq]) <;> omega) | fail) only [pn, pq]) <;> omega))
      · first | omega | ((try simp (disch := first | ((try simp (disch := first | ((try simp only [pn]) <;> omega) | fail) only [pn, pq]) <;> omega) | fail) only [pn, pq]) <;> (intros; (try simp (disch := first | ((try simp (disch := first | ((try simp only [pn]) <;> omega) | fail) only [pn, pq]) <;> omega) | fail) only [pn, pq]) <;> omega))
      · first | omega | ((try simp (disch := first | ((try simp (disch := first | ((try simp only [pn]) <;> omega) | fail) only [pn, pq]) <;> omega) | fail) only [pn, pq]) <;> (intros; (try simp (disch := first | ((try simp (disch := first | ((try simp only [pn]) <;> omega) | fail) only [pn, pq]) <;> omega) | fail) only [pn, pq]) <;> omega))
    · skip
      refine ⟨vin1, ?_⟩
      refine ⟨vin2, ?_⟩
      refine sf_X8_fill hJSq1.1 (fun r58 u59 hJu59 hfu59 hr58_0 => ?_)
      have je246 : ((b8g_isKept u59)).toInt = ((b8g_isKept Sq1.1)).toInt := congrArg (fun z => (z).toInt) hfu59.2.2.2.2.2.2.1
      have je248 : ((b0g_count (b2g_questions (b8g_now u59)))).toInt = ((b0g_count (b2g_questions (b8g_now Sq1.1)))).toInt := congrArg (fun z => ((b0g_count z)).toInt) hfu59.2.2.2.1
      have je250 : ((b0g_count (b2g_questions (b8g_kept u59)))).toInt = ((b0g_count (b2g_questions (b8g_kept Sq1.1)))).toInt := congrArg (fun z => ((b0g_count (b2g_questions z))).toInt) hfu59.2.2.2.2.2.1
      have rgr58 := pt_rg r58
      clear hr58_0
      intro S60 eS60
      have hGS60 : F_L_law S S60 := trivial
      have hJS60 : J8 S60.1 ∧ J9 S60.2 := by rw [eS60]; exact ⟨hJu59, hJSq1.2⟩
      have hFS60 : F_L_law S S60 := hGS60
      have je251 : ((b8g_isKept S60.1)).toInt = ((b8g_isKept u59)).toInt := by rw [eS60]
      try simp (disch := first | ((try simp (disch := first | ((try simp only [pn]) <;> omega) | fail) only [pn, pq]) <;> omega) | fail) only [pn, pq] at je251
      have je252 : ((b9g_hasImage S60.2)).toInt = ((b9g_hasImage Sq1.2)).toInt := by rw [eS60]
      have je253 : ((b0g_count (b2g_questions (b8g_now S60.1)))).toInt = ((b0g_count (b2g_questions (b8g_now u59)))).toInt := by rw [eS60]
      try simp (disch := first | ((try simp (disch := first | ((try simp only [pn]) <;> omega) | fail) only [pn, pq]) <;> omega) | fail) only [pn, pq] at je253
      have jf254 := J0g_count (J2g_questions (J8g_now hJS60.1))
      have je255 : ((b0g_count (b2g_questions (b8g_kept S60.1)))).toInt = ((b0g_count (b2g_questions (b8g_kept u59)))).toInt := by rw [eS60]
      try simp (disch := first | ((try simp (disch := first | ((try simp only [pn]) <;> omega) | fail) only [pn, pq]) <;> omega) | fail) only [pn, pq] at je255
      have jf256 := J0g_count (J2g_questions (J8g_kept hJS60.1))
      have je257 : ((b9g_now S60.2) 10).toInt = ((b9g_now Sq1.2) 10).toInt := by rw [eS60]
      have je258 : ((b9g_images S60.2) 10).toInt = ((b9g_images Sq1.2) 10).toInt := by rw [eS60]
      refine ⟨vin1, ?_⟩
      refine ⟨vin2, ?_⟩
      refine sf_X9_fill hJS60.2 (fun r61 u62 hJu62 hfu62 hr61_0 hr61_1 => ?_)
      have je260 : ((b9g_hasImage u62)).toInt = ((b9g_hasImage S60.2)).toInt := congrArg (fun z => (z).toInt) hfu62.2.2.2.2.2.2.2.2.2.2.2.2.2.2.2.2.2.2.2.2.2.2.2.2.2.2.2.2.2.2.2.2.2.2.2.2.1
      have je262 : ((b9g_images u62) 10).toInt = ((b9g_images S60.2) 10).toInt := congrArg (fun z => (z 10).toInt) hfu62.2.2.2.2.2.2.2.2.2.2.2.2.2.2.2.2.2.2.2.2.2.2.2.2.2.2.2.2.2.2.2.2.2.2.2.2.2.1
      have rgr61 := pt_rg r61
      clear hr61_0
      have hTr61_1 := congrArg Int32.toInt hr61_1
      try simp (disch := first | ((try simp (disch := first | ((try simp only [pn]) <;> omega) | fail) only [pn, pq]) <;> omega) | fail) only [pn, pq] at hTr61_1
      intro S63 eS63
      have hGS63 : F_L_law S S63 := trivial
      have hJS63 : J8 S63.1 ∧ J9 S63.2 := by rw [eS63]; exact ⟨hJS60.1, hJu62⟩
      have hFS63 : F_L_law S S63 := hGS63
      have je263 : ((b8g_isKept S63.1)).toInt = ((b8g_isKept S60.1)).toInt := by rw [eS63]
      have je264 : ((b9g_hasImage S63.2)).toInt = ((b9g_hasImage u62)).toInt := by rw [eS63]
      try simp (disch := first | ((try simp (disch := first | ((try simp only [pn]) <;> omega) | fail) only [pn, pq]) <;> omega) | fail) only [pn, pq] at je264
      have je265 : ((b0g_count (b2g_questions (b8g_now S63.1)))).toInt = ((b0g_count (b2g_questions (b8g_now S60.1)))).toInt := by rw [eS63]
      have jf266 := J0g_count (J2g_questions (J8g_now hJS63.1))
      have je267 : ((b0g_count (b2g_questions (b8g_kept S63.1)))).toInt = ((b0g_count (b2g_questions (b8g_kept S60.1)))).toInt := by rw [eS63]
      have jf268 := J0g_count (J2g_questions (J8g_kept hJS63.1))
      have je269 : ((b9g_now S63.2) 10).toInt = ((b9g_now u62) 10).toInt := by rw [eS63]
      try simp (disch := first | ((try simp (disch := first | ((try simp only [pn]) <;> omega) | fail) only [pn, pq]) <;> omega) | fail) only [pn, pq] at je269
      have je270 : ((b9g_images S63.2) 10).toInt = ((b9g_images u62) 10).toInt := by rw [eS63]
      try simp (disch := first | ((try simp (disch := first | ((try simp only [pn]) <;> omega) | fail) only [pn, pq]) <;> omega) | fail) only [pn, pq] at je270
      unfold wp_L_law_1745
      refine ⟨_, ?_, ?_, ?_, ?_, ?_, ?_, ?_, ?_, ?_, ?_, rfl⟩
      · first | omega | ((try simp (disch := first | ((try simp (disch := first | ((try simp only [pn]) <;> omega) | fail) only [pn, pq]) <;> omega) | fail) only [pn, pq]) <;> (intros; (try simp (disch := first | ((try simp (disch := first | ((try simp only [pn]) <;> omega) | fail) only [pn, pq]) <;> omega) | fail) only [pn, pq]) <;> omega))
      · exact hJS63
      · exact hFS63
      · first | omega | ((try simp (disch := first | ((try simp (disch := first | ((try simp only [pn]) <;> omega) | fail) only [pn, pq]) <;> omega) | fail) only [pn, pq]) <;> (intros; (try simp (disch := first | ((try simp (disch := first | ((try simp only [pn]) <;> omega) | fail) only [pn, pq]) <;> omega) | fail) only [pn, pq]) <;> omega))
      · first | omega | ((try simp (disch := first | ((try simp (disch := first | ((try simp only [pn]) <;> omega) | fail) only [pn, pq]) <;> omega) | fail) only [pn, pq]) <;> (intros; (try simp (disch := first | ((try simp (disch := first | ((try simp only [pn]) <;> omega) | fail) only [pn, pq]) <;> omega) | fail) only [pn, pq]) <;> omega))
      · first | omega | ((try simp (disch := first | ((try simp (disch := first | ((try simp only [pn]) <;> omega) | fail) only [pn, pq]) <;> omega) | fail) only [pn, pq]) <;> (intros; (try simp (disch := first | ((try simp (disch := first | ((try simp only [pn]) <;> omega) | fail) only [pn, pq]) <;> omega) | fail) only [pn, pq]) <;> omega))
      · first | omega | ((try simp (disch := first | ((try simp (disch := first | ((try simp only [pn]) <;> omega) | fail) only [pn, pq]) <;> omega) | fail) only [pn, pq]) <;> (intros; (try simp (disch := first | ((try simp (disch := first | ((try simp only [pn]) <;> omega) | fail) only [pn, pq]) <;> omega) | fail) only [pn, pq]) <;> omega))
      · first | omega | ((try simp (disch := first | ((try simp (disch := first | ((try simp only [pn]) <;> omega) | fail) only [pn, pq]) <;> omega) | fail) only [pn, pq]) <;> (intros; (try simp (disch := first | ((try simp (disch := first | ((try simp only [pn]) <;> omega) | fail) only [pn, pq]) <;> omega) | fail) only [pn, pq]) <;> omega))
      · first | omega | ((try simp (disch := first | ((try simp (disch := first | ((try simp only [pn]) <;> omega) | fail) only [pn, pq]) <;> omega) | fail) only [pn, pq]) <;> (intros; (try simp (disch := first | ((try simp (disch := first | ((try simp only [pn]) <;> omega) | fail) only [pn, pq]) <;> omega) | fail) only [pn, pq]) <;> omega))
      · first | omega | ((try simp (disch := first | ((try simp (disch := first | ((try simp only [pn]) <;> omega) | fail) only [pn, pq]) <;> omega) | fail) only [pn, pq]) <;> (intros; (try simp (disch := first | ((try simp (disch := first | ((try simp only [pn]) <;> omega) | fail) only [pn, pq]) <;> omega) | fail) only [pn, pq]) <;> omega))
    · skip
      refine sf_X8_build hJSq1.1 (fun r64 u65 hJu65 hfu65  => ?_)
      have je272 : ((b8g_isKept u65)).toInt = ((b8g_isKept Sq1.1)).toInt := congrArg (fun z => (z).toInt) hfu65.2.2.2.2.2.1
      have je274 : ((b0g_count (b2g_questions (b8g_now u65)))).toInt = ((b0g_count (b2g_questions (b8g_now Sq1.1)))).toInt := congrArg (fun z => ((b0g_count z)).toInt) hfu65.2.1
      have je276 : ((b0g_count (b2g_questions (b8g_kept u65)))).toInt = ((b0g_count (b2g_questions (b8g_kept Sq1.1)))).toInt := congrArg (fun z => ((b0g_count (b2g_questions z))).toInt) hfu65.2.2.2.2.1
      have rgr64 := pt_rg r64
      intro S66 eS66
      have hGS66 : F_L_law S S66 := trivial
      have hJS66 : J8 S66.1 ∧ J9 S66.2 := by rw [eS66]; exact ⟨hJu65, hJSq1.2⟩
      have hFS66 : F_L_law S S66 := hGS66
      have je277 : ((b8g_isKept S66.1)).toInt = ((b8g_isKept u65)).toInt := by rw [eS66]
      try simp (disch := first | ((try simp (disch := first | ((try simp only [pn]) <;> omega) | fail) only [pn, pq]) <;> omega) | fail) only [pn, pq] at je277
      have je278 : ((b9g_hasImage S66.2)).toInt = ((b9g_hasImage Sq1.2)).toInt := by rw [eS66]
      have je279 : ((b0g_count (b2g_questions (b8g_now S66.1)))).toInt = ((b0g_count (b2g_questions (b8g_now u65)))).toInt := by rw [eS66]
      try simp (disch := first | ((try simp (disch := first | ((try simp only [pn]) <;> omega) | fail) only [pn, pq]) <;> omega) | fail) only [pn, pq] at je279
      have jf280 := J0g_count (J2g_questions (J8g_now hJS66.1))
      have je281 : ((b0g_count (b2g_questions (b8g_kept S66.1)))).toInt = ((b0g_count (b2g_questions (b8g_kept u65)))).toInt := by rw [eS66]
      try simp (disch := first | ((try simp (disch := first | ((try simp only [pn]) <;> omega) | fail) only [pn, pq]) <;> omega) | fail) only [pn, pq] at je281
      have jf282 := J0g_count (J2g_questions (J8g_kept hJS66.1))
      have je283 : ((b9g_now S66.2) 10).toInt = ((b9g_now Sq1.2) 10).toInt := by rw [eS66]
      have je284 : ((b9g_images S66.2) 10).toInt = ((b9g_images Sq1.2) 10).toInt := by rw [eS66]
      refine sf_X9_build hJS66.2 (fun r67 u68 hJu68 hfu68 hr67_0 hr67_1 => ?_)
      have je286 : ((b9g_hasImage u68)).toInt = ((b9g_hasImage S66.2)).toInt := congrArg (fun z => (z).toInt) hfu68.2.2.2.2.2.2.2.2.2.2.2.2.2.2.2.2.2.2.2.2.2.2.2.2.2.2.2.2.2.2.2.2.2.2.2.2.1
      have je288 : ((b9g_images u68) 10).toInt = ((b9g_images S66.2) 10).toInt := congrArg (fun z => (z 10).toInt) hfu68.2.2.2.2.2.2.2.2.2.2.2.2.2.2.2.2.2.2.2.2.2.2.2.2.2.2.2.2.2.2.2.2.2.2.2.2.2.1
      have rgr67 := pt_rg r67
      have hTr67_0 := congrArg Int32.toInt hr67_0
      try simp (disch := first | ((try simp (disch := first | ((try simp only [pn]) <;> omega) | fail) only [pn, pq]) <;> omega) | fail) only [pn, pq] at hTr67_0
      clear hr67_1
      intro S69 eS69
      have hGS69 : F_L_law S S69 := trivial
      have hJS69 : J8 S69.1 ∧ J9 S69.2 := by rw [eS69]; exact ⟨hJS66.1, hJu68⟩
      have hFS69 : F_L_law S S69 := hGS69
      have je289 : ((b8g_isKept S69.1)).toInt = ((b8g_isKept S66.1)).toInt := by rw [eS69]
      have je290 : ((b9g_hasImage S69.2)).toInt = ((b9g_hasImage u68)).toInt := by rw [eS69]
      try simp (disch := first | ((try simp (disch := first | ((try simp only [pn]) <;> omega) | fail) only [pn, pq]) <;> omega) | fail) only [pn, pq] at je290
      have je291 : ((b0g_count (b2g_questions (b8g_now S69.1)))).toInt = ((b0g_count (b2g_questions (b8g_now S66.1)))).toInt := by rw [eS69]
      have jf292 := J0g_count (J2g_questions (J8g_now hJS69.1))
      have je293 : ((b0g_count (b2g_questions (b8g_kept S69.1)))).toInt = ((b0g_count (b2g_questions (b8g_kept S66.1)))).toInt := by rw [eS69]
      have jf294 := J0g_count (J2g_questions (J8g_kept hJS69.1))
      have je295 : ((b9g_now S69.2) 10).toInt = ((b9g_now u68) 10).toInt := by rw [eS69]
      try simp (disch := first | ((try simp (disch := first | ((try simp only [pn]) <;> omega) | fail) only [pn, pq]) <;> omega) | fail) only [pn, pq] at je295
      have je296 : ((b9g_images S69.2) 10).toInt = ((b9g_images u68) 10).toInt := by rw [eS69]
      try simp (disch := first | ((try simp (disch := first | ((try simp only [pn]) <;> omega) | fail) only [pn, pq]) <;> omega) | fail) only [pn, pq] at je296
      unfold wp_L_law_1745
      refine ⟨_, ?_, ?_, ?_, ?_, ?_, ?_, ?_, ?_, ?_, ?_, rfl⟩
      · first | omega | ((try simp (disch := first | ((try simp (disch := first | ((try simp only [pn]) <;> omega) | fail) only [pn, pq]) <;> omega) | fail) only [pn, pq]) <;> (intros; (try simp (disch := first | ((try simp (disch := first | ((try simp only [pn]) <;> omega) | fail) only [pn, pq]) <;> omega) | fail) only [pn, pq]) <;> omega))
      · exact hJS69
      · exact hFS69
      · first | omega | ((try simp (disch := first | ((try simp (disch := first | ((try simp only [pn]) <;> omega) | fail) only [pn, pq]) <;> omega) | fail) only [pn, pq]) <;> (intros; (try simp (disch := first | ((try simp (disch := first | ((try simp only [pn]) <;> omega) | fail) only [pn, pq]) <;> omega) | fail) only [pn, pq]) <;> omega))
      · first | omega | ((try simp (disch := first | ((try simp (disch := first | ((try simp only [pn]) <;> omega) | fail) only [pn, pq]) <;> omega) | fail) only [pn, pq]) <;> (intros; (try simp (disch := first | ((try simp (disch := first | ((try simp only [pn]) <;> omega) | fail) only [pn, pq]) <;> omega) | fail) only [pn, pq]) <;> omega))
      · first | omega | ((try simp (disch := first | ((try simp (disch := first | ((try simp only [pn]) <;> omega) | fail) only [pn, pq]) <;> omega) | fail) only [pn, pq]) <;> (intros; (try simp (disch := first | ((try simp (disch := first | ((try simp only [pn]) <;> omega) | fail) only [pn, pq]) <;> omega) | fail) only [pn, pq]) <;> omega))
      · first | omega | ((try simp (disch := first | ((try simp (disch := first | ((try simp only [pn]) <;> omega) | fail) only [pn, pq]) <;> omega) | fail) only [pn, pq]) <;> (intros; (try simp (disch := first | ((try simp (disch := first | ((try simp only [pn]) <;> omega) | fail) only [pn, pq]) <;> omega) | fail) only [pn, pq]) <;> omega))
      · first | omega | ((try simp (disch := first | ((try simp (disch := first | ((try simp only [pn]) <;> omega) | fail) only [pn, pq]) <;> omega) | fail) only [pn, pq]) <;> (intros; (try simp (disch := first | ((try simp (disch := first | ((try simp only [pn]) <;> omega) | fail) only [pn, pq]) <;> omega) | fail) only [pn, pq]) <;> omega))
      · first | omega | ((try simp (disch := first | ((try simp (disch := first | ((try simp only [pn]) <;> omega) | fail) only [pn, pq]) <;> omega) | fail) only [pn, pq]) <;> (intros; (try simp (disch := first | ((try simp (disch := first | ((try simp only [pn]) <;> omega) | fail) only [pn, pq]) <;> omega) | fail) only [pn, pq]) <;> omega))
      · first | omega | ((try simp (disch := first | ((try simp (disch := first | ((try simp only [pn]) <;> omega) | fail) only [pn, pq]) <;> omega) | fail) only [pn, pq]) <;> (intros; (try simp (disch := first | ((try simp (disch := first | ((try simp only [pn]) <;> omega) | fail) only [pn, pq]) <;> omega) | fail) only [pn, pq]) <;> omega))
    · skip
      refine ⟨vin1, ?_⟩
      refine ⟨vin2, ?_⟩
      refine ⟨vin3, ?_⟩
      refine ⟨vin4, ?_⟩
      refine sf_X8_has hJSq1.1 (fun r70  => ?_)
      have rgr70 := pt_rg r70
      refine ⟨vin1, ?_⟩
      refine ⟨vin2, ?_⟩
      refine ⟨vin3, ?_⟩
      refine ⟨vin4, ?_⟩
      refine sf_X9_has hJSq1.2 (fun r72 u73 hJu73 hfu73  => ?_)
      have je298 : ((b9g_hasImage u73)).toInt = ((b9g_hasImage Sq1.2)).toInt := congrArg (fun z => (z).toInt) hfu73.2.2.2.2.2.2.2.2.2.2.2.2.2.2.2.2.2.2.2.2.2.2.2.2.2.2.2.2.2.2.2.2.2.2.2.2.2.2.2.2.2.1
      have je300 : ((b9g_now u73) 10).toInt = ((b9g_now Sq1.2) 10).toInt := congrArg (fun z => (z 10).toInt) hfu73.1
      have je302 : ((b9g_images u73) 10).toInt = ((b9g_images Sq1.2) 10).toInt := congrArg (fun z => (z 10).toInt) hfu73.2.2.2.2.2.2.2.2.2.2.2.2.2.2.2.2.2.2.2.2.2.2.2.2.2.2.2.2.2.2.2.2.2.2.2.2.2.2.2.2.2.2.1
      have rgr72 := pt_rg r72
      intro S74 eS74
      have hGS74 : F_L_law S S74 := trivial
      have hJS74 : J8 S74.1 ∧ J9 S74.2 := by rw [eS74]; exact ⟨hJSq1.1, hJu73⟩
      have hFS74 : F_L_law S S74 := hGS74
      have je303 : ((b8g_isKept S74.1)).toInt = ((b8g_isKept Sq1.1)).toInt := by rw [eS74]
      have je304 : ((b9g_hasImage S74.2)).toInt = ((b9g_hasImage u73)).toInt := by rw [eS74]
      try simp (disch := first | ((try simp (disch := first | ((try simp only [pn]) <;> omega) | fail) only [pn, pq]) <;> omega) | fail) only [pn, pq] at je304
      have je305 : ((b0g_count (b2g_questions (b8g_now S74.1)))).toInt = ((b0g_count (b2g_questions (b8g_now Sq1.1)))).toInt := by rw [eS74]
      have jf306 := J0g_count (J2g_questions (J8g_now hJS74.1))
      have je307 : ((b0g_count (b2g_questions (b8g_kept S74.1)))).toInt = ((b0g_count (b2g_questions (b8g_kept Sq1.1)))).toInt := by rw [eS74]
      have jf308 := J0g_count (J2g_questions (J8g_kept hJS74.1))
      have je309 : ((b9g_now S74.2) 10).toInt = ((b9g_now u73) 10).toInt := by rw [eS74]
      try simp (disch := first | ((try simp (disch := first | ((try simp only [pn]) <;> omega) | fail) only [pn, pq]) <;> omega) | fail) only [pn, pq] at je309
      have je310 : ((b9g_images S74.2) 10).toInt = ((b9g_images u73) 10).toInt := by rw [eS74]
      try simp (disch := first | ((try simp (disch := first | ((try simp only [pn]) <;> omega) | fail) only [pn, pq]) <;> omega) | fail) only [pn, pq] at je310
      unfold wp_L_law_1745
      refine ⟨_, ?_, ?_, ?_, ?_, ?_, ?_, ?_, ?_, ?_, ?_, rfl⟩
      · first | omega | ((try simp (disch := first | ((try simp (disch := first | ((try simp only [pn]) <;> omega) | fail) only [pn, pq]) <;> omega) | fail) only [pn, pq]) <;> (intros; (try simp (disch := first | ((try simp (disch := first | ((try simp only [pn]) <;> omega) | fail) only [pn, pq]) <;> omega) | fail) only [pn, pq]) <;> omega))
      · exact hJS74
      · exact hFS74
      · first | omega | ((try simp (disch := first | ((try simp (disch := first | ((try simp only [pn]) <;> omega) | fail) only [pn, pq]) <;> omega) | fail) only [pn, pq]) <;> (intros; (try simp (disch := first | ((try simp (disch := first | ((try simp only [pn]) <;> omega) | fail) only [pn, pq]) <;> omega) | fail) only [pn, pq]) <;> omega))
      · first | omega | ((try simp (disch := first | ((try simp (disch := first | ((try simp only [pn]) <;> omega) | fail) only [pn, pq]) <;> omega) | fail) only [pn, pq]) <;> (intros; (try simp (disch := first | ((try simp (disch := first | ((try simp only [pn]) <;> omega) | fail) only [pn, pq]) <;> omega) | fail) only [pn, pq]) <;> omega))
      · first | omega | ((try simp (disch := first | ((try simp (disch := first | ((try simp only [pn]) <;> omega) | fail) only [pn, pq]) <;> omega) | fail) only [pn, pq]) <;> (intros; (try simp (disch := first | ((try simp (disch := first | ((try simp only [pn]) <;> omega) | fail) only [pn, pq]) <;> omega) | fail) only [pn, pq]) <;> omega))
      · first | omega | ((try simp (disch := first | ((try simp (disch := first | ((try simp only [pn]) <;> omega) | fail) only [pn, pq]) <;> omega) | fail) only [pn, pq]) <;> (intros; (try simp (disch := first | ((try simp (disch := first | ((try simp only [pn]) <;> omega) | fail) only [pn, pq]) <;> omega) | fail) only [pn, pq]) <;> omega))
      · first | omega | ((try simp (disch := first | ((try simp (disch := first | ((try simp only [pn]) <;> omega) | fail) only [pn, pq]) <;> omega) | fail) only [pn, pq]) <;> (intros; (try simp (disch := first | ((try simp (disch := first | ((try simp only [pn]) <;> omega) | fail) only [pn, pq]) <;> omega) | fail) only [pn, pq]) <;> omega))
      · first | omega | ((try simp (disch := first | ((try simp (disch := first | ((try simp only [pn]) <;> omega) | fail) only [pn, pq]) <;> omega) | fail) only [pn, pq]) <;> (intros; (try simp (disch := first | ((try simp (disch := first | ((try simp only [pn]) <;> omega) | fail) only [pn, pq]) <;> omega) | fail) only [pn, pq]) <;> omega))
      · first | omega | ((try simp (disch := first | ((try simp (disch := first | ((try simp only [pn]) <;> omega) | fail) only [pn, pq]) <;> omega) | fail) only [pn, pq]) <;> (intros; (try simp (disch := first | ((try simp (disch := first | ((try simp only [pn]) <;> omega) | fail) only [pn, pq]) <;> omega) | fail) only [pn, pq]) <;> omega))
    · skip
      refine ⟨vin1, ?_⟩
      refine ⟨vin2, ?_⟩
      refine ⟨vin3, ?_⟩
      refine sf_X8_may hJSq1.1 (fun r75 u76 hJu76 hfu76  => ?_)
      have je312 : ((b8g_isKept u76)).toInt = ((b8g_isKept Sq1.1)).toInt := congrArg (fun z => (z).toInt) hfu76.2.2.2.2.2.1
      have je314 : ((b0g_count (b2g_questions (b8g_now u76)))).toInt = ((b0g_count (b2g_questions (b8g_now Sq1.1)))).toInt := congrArg (fun z => ((b0g_count z)).toInt) hfu76.2.2.1
      have je316 : ((b0g_count (b2g_questions (b8g_kept u76)))).toInt = ((b0g_count (b2g_questions (b8g_kept Sq1.1)))).toInt := congrArg (fun z => ((b0g_count (b2g_questions z))).toInt) hfu76.2.2.2.2.1
      have rgr75 := pt_rg r75
      intro S77 eS77
      have hGS77 : F_L_law S S77 := trivial
      have hJS77 : J8 S77.1 ∧ J9 S77.2 := by rw [eS77]; exact ⟨hJu76, hJSq1.2⟩
      have hFS77 : F_L_law S S77 := hGS77
      have je317 : ((b8g_isKept S77.1)).toInt = ((b8g_isKept u76)).toInt := by rw [eS77]
      try simp (disch := first | ((try simp (disch := first | ((try simp only [pn]) <;> omega) | fail) only [pn, pq]) <;> omega) | fail) only [pn, pq] at je317
      have je318 : ((b9g_hasImage S77.2)).toInt = ((b9g_hasImage Sq1.2)).toInt := by rw [eS77]
      have je319 : ((b0g_count (b2g_questions (b8g_now S77.1)))).toInt = ((b0g_count (b2g_questions (b8g_now u76)))).toInt := by rw [eS77]
      try simp (disch := first | ((try simp (disch := first | ((try simp only [pn]) <;> omega) | fail) only [pn, pq]) <;> omega) | fail) only [pn, pq] at je319
      have jf320 := J0g_count (J2g_questions (J8g_now hJS77.1))
      have je321 : ((b0g_count (b2g_questions (b8g_kept S77.1)))).toInt = ((b0g_count (b2g_questions (b8g_kept u76)))).toInt := by rw [eS77]
      try simp (disch := first | ((try simp (disch := first | ((try simp only [pn]) <;> omega) | fail) only [pn, pq]) <;> omega) | fail) only [pn, pq] at je321
      have jf322 := J0g_count (J2g_questions (J8g_kept hJS77.1))
      have je323 : ((b9g_now S77.2) 10).toInt = ((b9g_now Sq1.2) 10).toInt := by rw [eS77]
      have je324 : ((b9g_images S77.2) 10).toInt = ((b9g_images Sq1.2) 10).toInt := by rw [eS77]
      refine ⟨vin1, ?_⟩
      refine ⟨vin2, ?_⟩
      refine ⟨vin3, ?_⟩
      refine sf_X9_may hJS77.2 (fun r78 u79 hJu79 hfu79 hr78_0 hr78_1 => ?_)
      have je326 : ((b9g_hasImage u79)).toInt = ((b9g_hasImage S77.2)).toInt := congrArg (fun z => (z).toInt) hfu79.2.2.2.2.2.2.2.2.2.2.2.2.2.2.2.2.2.2.2.2.2.2.2.2.2.2.2.2.2.2.2.2.2.1
      have je328 : ((b9g_images u79) 10).toInt = ((b9g_images S77.2) 10).toInt := congrArg (fun z => (z 10).toInt) hfu79.2.2.2.2.2.2.2.2.2.2.2.2.2.2.2.2.2.2.2.2.2.2.2.2.2.2.2.2.2.2.2.2.2.2.1
      have rgr78 := pt_rg r78
      have hTr78_0 := congrArg Int32.toInt hr78_0
      try simp (disch := first | ((try simp (disch := first | ((try simp only [pn]) <;> omega) | fail) only [pn, pq]) <;> omega) | fail) only [pn, pq] at hTr78_0
      clear hr78_1
      intro S80 eS80
      have hGS80 : F_L_law S S80 := trivial
      have hJS80 : J8 S80.1 ∧ J9 S80.2 := by rw [eS80]; exact ⟨hJS77.1, hJu79⟩
      have hFS80 : F_L_law S S80 := hGS80
      have je329 : ((b8g_isKept S80.1)).toInt = ((b8g_isKept S77.1)).toInt := by rw [eS80]
      have je330 : ((b9g_hasImage S80.2)).toInt = ((b9g_hasImage u79)).toInt := by rw [eS80]
      try simp (disch := first | ((try simp (disch := first | ((try simp only [pn]) <;> omega) | fail) only [pn, pq]) <;> omega) | fail) only [pn, pq] at je330
      have je331 : ((b0g_count (b2g_questions (b8g_now S80.1)))).toInt = ((b0g_count (b2g_questions (b8g_now S77.1)))).toInt := by rw [eS80]
      have jf332 := J0g_count (J2g_questions (J8g_now hJS80.1))
      have je333 : ((b0g_count (b2g_questions (b8g_kept S80.1)))).toInt = ((b0g_count (b2g_questions (b8g_kept S77.1)))).toInt := by rw [eS80]
      have jf334 := J0g_count (J2g_questions (J8g_kept hJS80.1))
      have je335 : ((b9g_now S80.2) 10).toInt = ((b9g_now u79) 10).toInt := by rw [eS80]
      try simp (disch := first | ((try simp (disch := first | ((try simp only [pn]) <;> omega) | fail) only [pn, pq]) <;> omega) | fail) only [pn, pq] at je335
      have je336 : ((b9g_images S80.2) 10).toInt = ((b9g_images u79) 10).toInt := by rw [eS80]
      try simp (disch := first | ((try simp (disch := first | ((try simp only [pn]) <;> omega) | fail) only [pn, pq]) <;> omega) | fail) only [pn, pq] at je336
      unfold wp_L_law_1745
      refine ⟨_, ?_, ?_, ?_, ?_, ?_, ?_, ?_, ?_, ?_, ?_, rfl⟩
      · first | omega | ((try simp (disch := first | ((try simp (disch := first | ((try simp only [pn]) <;> omega) | fail) only [pn, pq]) <;> omega) | fail) only [pn, pq]) <;> (intros; (try simp (disch := first | ((try simp (disch := first | ((try simp only [pn]) <;> omega) | fail) only [pn, pq]) <;> omega) | fail) only [pn, pq]) <;> omega))
      · exact hJS80
      · exact hFS80
      · first | omega | ((try simp (disch := first | ((try simp (disch := first | ((try simp only [pn]) <;> omega) | fail) only [pn, pq]) <;> omega) | fail) only [pn, pq]) <;> (intros; (try simp (disch := first | ((try simp (disch := first | ((try simp only [pn]) <;> omega) | fail) only [pn, pq]) <;> omega) | fail) only [pn, pq]) <;> omega))
      · first | omega | ((try simp (disch := first | ((try simp (disch := first | ((try simp only [pn]) <;> omega) | fail) only [pn, pq]) <;> omega) | fail) only [pn, pq]) <;> (intros; (try simp (disch := first | ((try simp (disch := first | ((try simp only [pn]) <;> omega) | fail) only [pn, pq]) <;> omega) | fail) only [pn, pq]) <;> omega))
      · first | omega | ((try simp (disch := first | ((try simp (disch := first | ((try simp only [pn]) <;> omega) | fail) only [pn, pq]) <;> omega) | fail) only [pn, pq]) <;> (intros; (try simp (disch := first | ((try simp (disch := first | ((try simp only [pn]) <;> omega) | fail) only [pn, pq]) <;> omega) | fail) only [pn, pq]) <;> omega))
      · first | omega | ((try simp (disch := first | ((try simp (disch := first | ((try simp only [pn]) <;> omega) | fail) only [pn, pq]) <;> omega) | fail) only [pn, pq]) <;> (intros; (try simp (disch := first | ((try simp (disch := first | ((try simp only [pn]) <;> omega) | fail) only [pn, pq]) <;> omega) | fail) only [pn, pq]) <;> omega))
      · first | omega | ((try simp (disch := first | ((try simp (disch := first | ((try simp only [pn]) <;> omega) | fail) only [pn, pq]) <;> omega) | fail) only [pn, pq]) <;> (intros; (try simp (disch := first | ((try simp (disch := first | ((try simp only [pn]) <;> omega) | fail) only [pn, pq]) <;> omega) | fail) only [pn, pq]) <;> omega))
      · first | omega | ((try simp (disch := first | ((try simp (disch := first | ((try simp only [pn]) <;> omega) | fail) only [pn, pq]) <;> omega) | fail) only [pn, pq]) <;> (intros; (try simp (disch := first | ((try simp (disch := first | ((try simp only [pn]) <;> omega) | fail) only [pn, pq]) <;> omega) | fail) only [pn, pq]) <;> omega))
      · first | omega | ((try simp (disch := first | ((try simp (disch := first | ((try simp only [pn]) <;> omega) | fail) only [pn, pq]) <;> omega) | fail) only [pn, pq]) <;> (intros; (try simp (disch := first | ((try simp (disch := first | ((try simp only [pn]) <;> omega) | fail) only [pn, pq]) <;> omega) | fail) only [pn, pq]) <;> omega))
    · skip
      refine ⟨vin1, ?_⟩
      refine ⟨vin2, ?_⟩
      refine ⟨vin3, ?_⟩
      refine sf_X8_leafOf hJSq1.1 (fun r81  => ?_)
      have rgr81 := pt_rg r81
      refine ⟨vin1, ?_⟩
      refine ⟨vin2, ?_⟩
      refine ⟨vin3, ?_⟩
      refine sf_X9_leafOf hJSq1.2 (fun r83 u84 hJu84 hfu84  => ?_)
      have je338 : ((b9g_hasImage u84)).toInt = ((b9g_hasImage Sq1.2)).toInt := congrArg (fun z => (z).toInt) hfu84.2.2.2.2.2.2.2.2.2.2.2.2.2.2.2.2.2.2.2.2.2.2.2.2.2.2.2.2.2.2.2.2.2.2.1
      have je340 : ((b9g_now u84) 10).toInt = ((b9g_now Sq1.2) 10).toInt := congrArg (fun z => (z 10).toInt) hfu84.1
      have je342 : ((b9g_images u84) 10).toInt = ((b9g_images Sq1.2) 10).toInt := congrArg (fun z => (z 10).toInt) hfu84.2.2.2.2.2.2.2.2.2.2.2.2.2.2.2.2.2.2.2.2.2.2.2.2.2.2.2.2.2.2.2.2.2.2.2.1
      have rgr83 := pt_rg r83
      intro S85 eS85
      have hGS85 : F_L_law S S85 := trivial
      have hJS85 : J8 S85.1 ∧ J9 S85.2 := by rw [eS85]; exact ⟨hJSq1.1, hJu84⟩
      have hFS85 : F_L_law S S85 := hGS85
      have je343 : ((b8g_isKept S85.1)).toInt = ((b8g_isKept Sq1.1)).toInt := by rw [eS85]
      have je344 : ((b9g_hasImage S85.2)).toInt = ((b9g_hasImage u84)).toInt := by rw [eS85]
      try simp (disch := first | ((try simp (disch := first | ((try simp only [pn]) <;> omega) | fail) only [pn, pq]) <;> omega) | fail) only [pn, pq] at je344
      have je345 : ((b0g_count (b2g_questions (b8g_now S85.1)))).toInt = ((b0g_count (b2g_questions (b8g_now Sq1.1)))).toInt := by rw [eS85]
      have jf346 := J0g_count (J2g_questions (J8g_now hJS85.1))
      have je347 : ((b0g_count (b2g_questions (b8g_kept S85.1)))).toInt = ((b0g_count (b2g_questions (b8g_kept Sq1.1)))).toInt := by rw [eS85]
      have jf348 := J0g_count (J2g_questions (J8g_kept hJS85.1))
      have je349 : ((b9g_now S85.2) 10).toInt = ((b9g_now u84) 10).toInt := by rw [eS85]
      try simp (disch := first | ((try simp (disch := first | ((try simp only [pn]) <;> omega) | fail) only [pn, pq]) <;> omega) | fail) only [pn, pq] at je349
      have je350 : ((b9g_images S85.2) 10).toInt = ((b9g_images u84) 10).toInt := by rw [eS85]
      try simp (disch := first | ((try simp (disch := first | ((try simp only [pn]) <;> omega) | fail) only [pn, pq]) <;> omega) | fail) only [pn, pq] at je350
      unfold wp_L_law_1745
      refine ⟨_, ?_, ?_, ?_, ?_, ?_, ?_, ?_, ?_, ?_, ?_, rfl⟩
      · first | omega | ((try simp (disch := first | ((try simp (disch := first | ((try simp only [pn]) <;> omega) | fail) only [pn, pq]) <;> omega) | fail) only [pn, pq]) <;> (intros; (try simp (disch := first | ((try simp (disch := first | ((try simp only [pn]) <;> omega) | fail) only [pn, pq]) <;> omega) | fail) only [pn, pq]) <;> omega))
      · exact hJS85
      · exact hFS85
      · first | omega | ((try simp (disch := first | ((try simp (disch := first | ((try simp only [pn]) <;> omega) | fail) only [pn, pq]) <;> omega) | fail) only [pn, pq]) <;> (intros; (try simp (disch := first | ((try simp (disch := first | ((try simp only [pn]) <;> omega) | fail) only [pn, pq]) <;> omega) | fail) only [pn, pq]) <;> omega))
      · first | omega | ((try simp (disch := first | ((try simp (disch := first | ((try simp only [pn]) <;> omega) | fail) only [pn, pq]) <;> omega) | fail) only [pn, pq]) <;> (intros; (try simp (disch := first | ((try simp (disch := first | ((try simp only [pn]) <;> omega) | fail) only [pn, pq]) <;> omega) | fail) only [pn, pq]) <;> omega))
      · first | omega | ((try simp (disch := first | ((try simp (disch := first | ((try simp only [pn]) <;> omega) | fail) only [pn, pq]) <;> omega) | fail) only [pn, pq]) <;> (intros; (try simp (disch := first | ((try simp (disch := first | ((try simp only [pn]) <;> omega) | fail) only [pn, pq]) <;> omega) | fail) only [pn, pq]) <;> omega))
      · first | omega | ((try simp (disch := first | ((try simp (disch := first | ((try simp only [pn]) <;> omega) | fail) only [pn, pq]) <;> omega) | fail) only [pn, pq]) <;> (intros; (try simp (disch := first | ((try simp (disch := first | ((try simp only [pn]) <;> omega) | fail) only [pn, pq]) <;> omega) | fail) only [pn, pq]) <;> omega))
      · first | omega | ((try simp (disch := first | ((try simp (disch := first | ((try simp only [pn]) <;> omega) | fail) only [pn, pq]) <;> omega) | fail) only [pn, pq]) <;> (intros; (try simp (disch := first | ((try simp (disch := first | ((try simp only [pn]) <;> omega) | fail) only [pn, pq]) <;> omega) | fail) only [pn, pq]) <;> omega))
      · first | omega | ((try simp (disch := first | ((try simp (disch := first | ((try simp only [pn]) <;> omega) | fail) only [pn, pq]) <;> omega) | fail) only [pn, pq]) <;> (intros; (try simp (disch := first | ((try simp (disch := first | ((try simp only [pn]) <;> omega) | fail) only [pn, pq]) <;> omega) | fail) only [pn, pq]) <;> omega))
      · first | omega | ((try simp (disch := first | ((try simp (disch := first | ((try simp only [pn]) <;> omega) | fail) only [pn, pq]) <;> omega) | fail) only [pn, pq]) <;> (intros; (try simp (disch := first | ((try simp (disch := first | ((try simp only [pn]) <;> omega) | fail) only [pn, pq]) <;> omega) | fail) only [pn, pq]) <;> omega))
    · skip
      refine ⟨vin1, ?_⟩
      refine ⟨vin2, ?_⟩
      refine ⟨vin3, ?_⟩
      refine ⟨vin4, ?_⟩
      refine ⟨vin5, ?_⟩
      refine ⟨vin6, ?_⟩
      refine sf_X8_range hJSq1.1 (fun r86 u87 hJu87 hfu87  => ?_)
      have je352 : ((b8g_isKept u87)).toInt = ((b8g_isKept Sq1.1)).toInt := congrArg (fun z => (z).toInt) hfu87.2.2.2.2.2.1
      have je354 : ((b0g_count (b2g_questions (b8g_now u87)))).toInt = ((b0g_count (b2g_questions (b8g_now Sq1.1)))).toInt := congrArg (fun z => ((b0g_count z)).toInt) hfu87.2.2.1
      have je356 : ((b0g_count (b2g_questions (b8g_kept u87)))).toInt = ((b0g_count (b2g_questions (b8g_kept Sq1.1)))).toInt := congrArg (fun z => ((b0g_count (b2g_questions z))).toInt) hfu87.2.2.2.2.1
      have rgr86 := pt_rg r86
      intro S88 eS88
      have hGS88 : F_L_law S S88 := trivial
      have hJS88 : J8 S88.1 ∧ J9 S88.2 := by rw [eS88]; exact ⟨hJu87, hJSq1.2⟩
      have hFS88 : F_L_law S S88 := hGS88
      have je357 : ((b8g_isKept S88.1)).toInt = ((b8g_isKept u87)).toInt := by rw [eS88]
      try simp (disch := first | ((try simp (disch := first | ((try simp only [pn]) <;> omega) | fail) only [pn, pq]) <;> omega) | fail) only [pn, pq] at je357
      have je358 : ((b9g_hasImage S88.2)).toInt = ((b9g_hasImage Sq1.2)).toInt := by rw [eS88]
      have je359 : ((b0g_count (b2g_questions (b8g_now S88.1)))).toInt = ((b0g_count (b2g_questions (b8g_now u87)))).toInt := by rw [eS88]
      try simp (disch := first | ((try simp (disch := first | ((try simp only [pn]) <;> omega) | fail) only [pn, pq]) <;> omega) | fail) only [pn, pq] at je359
      have jf360 := J0g_count (J2g_questions (J8g_now hJS88.1))
      have je361 : ((b0g_count (b2g_questions (b8g_kept S88.1)))).toInt = ((b0g_count (b2g_questions (b8g_kept u87)))).toInt := by rw [eS88]
      try simp (disch := first | ((try simp (disch := first | ((try simp only [pn]) <;> omega) | fail) only [pn, pq]) <;> omega) | fail) only [pn, pq] at je361
      have jf362 := J0g_count (J2g_questions (J8g_kept hJS88.1))
      have je363 : ((b9g_now S88.2) 10).toInt = ((b9g_now Sq1.2) 10).toInt := by rw [eS88]
      have je364 : ((b9g_images S88.2) 10).toInt = ((b9g_images Sq1.2) 10).toInt := by rw [eS88]
      refine ⟨vin1, ?_⟩
      refine ⟨vin2, ?_⟩
      refine ⟨vin3, ?_⟩
      refine ⟨vin4, ?_⟩
      refine ⟨vin5, ?_⟩
      refine ⟨vin6, ?_⟩
      refine sf_X9_range hJS88.2 (fun r89 u90 hJu90 hfu90 hr89_0 hr89_1 => ?_)
      have je366 : ((b9g_hasImage u90)).toInt = ((b9g_hasImage S88.2)).toInt := congrArg (fun z => (z).toInt) hfu90.2.2.2.2.2.2.2.2.2.2.2.2.2.2.2.2.2.2.2.2.2.2.2.2.2.2.2.2.2.1
      have je368 : ((b9g_images u90) 10).toInt = ((b9g_images S88.2) 10).toInt := congrArg (fun z => (z 10).toInt) hfu90.2.2.2.2.2.2.2.2.2.2.2.2.2.2.2.2.2.2.2.2.2.2.2.2.2.2.2.2.2.2.1
      have rgr89 := pt_rg r89
      have hTr89_0 := congrArg Int32.toInt hr89_0
      try simp (disch := first | ((try simp (disch := first | ((try simp only [pn]) <;> omega) | fail) only [pn, pq]) <;> omega) | fail) only [pn, pq] at hTr89_0
      clear hr89_1
      intro S91 eS91
      have hGS91 : F_L_law S S91 := trivial
      have hJS91 : J8 S91.1 ∧ J9 S91.2 := by rw [eS91]; exact ⟨hJS88.1, hJu90⟩
      have hFS91 : F_L_law S S91 := hGS91
      have je369 : ((b8g_isKept S91.1)).toInt = ((b8g_isKept S88.1)).toInt := by rw [eS91]
      have je370 : ((b9g_hasImage S91.2)).toInt = ((b9g_hasImage u90)).toInt := by rw [eS91]
      try simp (disch := first | ((try simp (disch := first | ((try simp only [pn]) <;> omega) | fail) only [pn, pq]) <;> omega) | fail) only [pn, pq] at je370
      have je371 : ((b0g_count (b2g_questions (b8g_now S91.1)))).toInt = ((b0g_count (b2g_questions (b8g_now S88.1)))).toInt := by rw [eS91]
      have jf372 := J0g_count (J2g_questions (J8g_now hJS91.1))
      have je373 : ((b0g_count (b2g_questions (b8g_kept S91.1)))).toInt = ((b0g_count (b2g_questions (b8g_kept S88.1)))).toInt := by rw [eS91]
      have jf374 := J0g_count (J2g_questions (J8g_kept hJS91.1))
      have je375 : ((b9g_now S91.2) 10).toInt = ((b9g_now u90) 10).toInt := by rw [eS91]
      try simp (disch := first | ((try simp (disch := first | ((try simp only [pn]) <;> omega) | fail) only [pn, pq]) <;> omega) | fail) only [pn, pq] at je375
      have je376 : ((b9g_images S91.2) 10).toInt = ((b9g_images u90) 10).toInt := by rw [eS91]
      try simp (disch := first | ((try simp (disch := first | ((try simp only [pn]) <;> omega) | fail) only [pn, pq]) <;> omega) | fail) only [pn, pq] at je376
      unfold wp_L_law_1745
      refine ⟨_, ?_, ?_, ?_, ?_, ?_, ?_, ?_, ?_, ?_, ?_, rfl⟩
      · first | omega | ((try simp (disch := first | ((try simp (disch := first | ((try simp only [pn]) <;> omega) | fail) only [pn, pq]) <;> omega) | fail) only [pn, pq]) <;> (intros; (try simp (disch := first | ((try simp (disch := first | ((try simp only [pn]) <;> omega) | fail) only [pn, pq]) <;> omega) | fail) only [pn, pq]) <;> omega))
      · exact hJS91
      · exact hFS91
      · first | omega | ((try simp (disch := first | ((try simp (disch := first | ((try simp only [pn]) <;> omega) | fail) only [pn, pq]) <;> omega) | fail) only [pn, pq]) <;> (intros; (try simp (disch := first | ((try simp (disch := first | ((try simp only [pn]) <;> omega) | fail) only [pn, pq]) <;> omega) | fail) only [pn, pq]) <;> omega))
      · first | omega | ((try simp (disch := first | ((try simp (disch := first | ((try simp only [pn]) <;> omega) | fail) only [pn, pq]) <;> omega) | fail) only [pn, pq]) <;> (intros; (try simp (disch := first | ((try simp (disch := first | ((try simp only [pn]) <;> omega) | fail) only [pn, pq]) <;> omega) | fail) only [pn, pq]) <;> omega))
      · first | omega | ((try simp (disch := first | ((try simp (disch := first | ((try simp only [pn]) <;> omega) | fail) only [pn, pq]) <;> omega) | fail) only [pn, pq]) <;> (intros; (try simp (disch := first | ((try simp (disch := first | ((try simp only [pn]) <;> omega) | fail) only [pn, pq]) <;> omega) | fail) only [pn, pq]) <;> omega))
      · first | omega | ((try simp (disch := first | ((try simp (disch := first | ((try simp only [pn]) <;> omega) | fail) only [pn, pq]) <;> omega) | fail) only [pn, pq]) <;> (intros; (try simp (disch := first | ((try simp (disch := first | ((try simp only [pn]) <;> omega) | fail) only [pn, pq]) <;> omega) | fail) only [pn, pq]) <;> omega))
      · first | omega | ((try simp (disch := first | ((try simp (disch := first | ((try simp only [pn]) <;> omega) | fail) only [pn, pq]) <;> omega) | fail) only [pn, pq]) <;> (intros; (try simp (disch := first | ((try simp (disch := first | ((try simp only [pn]) <;> omega) | fail) only [pn, pq]) <;> omega) | fail) only [pn, pq]) <;> omega))
      · first | omega | ((try simp (disch := first | ((try simp (disch := first | ((try simp only [pn]) <;> omega) | fail) only [pn, pq]) <;> omega) | fail) only [pn, pq]) <;> (intros; (try simp (disch := first | ((try simp (disch := first | ((try simp only [pn]) <;> omega) | fail) only [pn, pq]) <;> omega) | fail) only [pn, pq]) <;> omega))
      · first | omega | ((try simp (disch := first | ((try simp (disch := first | ((try simp only [pn]) <;> omega) | fail) only [pn, pq]) <;> omega) | fail) only [pn, pq]) <;> (intros; (try simp (disch := first | ((try simp (disch := first | ((try simp only [pn]) <;> omega) | fail) only [pn, pq]) <;> omega) | fail) only [pn, pq]) <;> omega))
    · skip
      refine ⟨vin1, ?_⟩
      refine ⟨vin2, ?_⟩
      refine ⟨vin3, ?_⟩
      refine ⟨vin4, ?_⟩
      refine ⟨vin5, ?_⟩
      refine ⟨vin6, ?_⟩
      refine sf_X8_meets hJSq1.1 (fun r92  => ?_)
      have rgr92 := pt_rg r92
      refine ⟨vin1, ?_⟩
      refine ⟨vin2, ?_⟩
      refine ⟨vin3, ?_⟩
      refine ⟨vin4, ?_⟩
      refine ⟨vin5, ?_⟩
      refine ⟨vin6, ?_⟩
      refine sf_X9_meets hJSq1.2 (fun r94 u95 hJu95 hfu95  => ?_)
      have je378 : ((b9g_hasImage u95)).toInt = ((b9g_hasImage Sq1.2)).toInt := congrArg (fun z => (z).toInt) hfu95.2.2.2.2.2.2.2.2.2.2.2.2.2.2.2.2.2.2.2.2.2.2.2.2.2.2.2.2.2.2.1
      have je380 : ((b9g_now u95) 10).toInt = ((b9g_now Sq1.2) 10).toInt := congrArg (fun z => (z 10).toInt) hfu95.1
      have je382 : ((b9g_images u95) 10).toInt = ((b9g_images Sq1.2) 10).toInt := congrArg (fun z => (z 10).toInt) hfu95.2.2.2.2.2.2.2.2.2.2.2.2.2.2.2.2.2.2.2.2.2.2.2.2.2.2.2.2.2.2.2.1
      have rgr94 := pt_rg r94
      intro S96 eS96
      have hGS96 : F_L_law S S96 := trivial
      have hJS96 : J8 S96.1 ∧ J9 S96.2 := by rw [eS96]; exact ⟨hJSq1.1, hJu95⟩
      have hFS96 : F_L_law S S96 := hGS96
      have je383 : ((b8g_isKept S96.1)).toInt = ((b8g_isKept Sq1.1)).toInt := by rw [eS96]
      have je384 : ((b9g_hasImage S96.2)).toInt = ((b9g_hasImage u95)).toInt := by rw [eS96]
      try simp (disch := first | ((try simp (disch := first | ((try simp only [pn]) <;> omega) | fail) only [pn, pq]) <;> omega) | fail) only [pn, pq] at je384
      have je385 : ((b0g_count (b2g_questions (b8g_now S96.1)))).toInt = ((b0g_count (b2g_questions (b8g_now Sq1.1)))).toInt := by rw [eS96]
      have jf386 := J0g_count (J2g_questions (J8g_now hJS96.1))
      have je387 : ((b0g_count (b2g_questions (b8g_kept S96.1)))).toInt = ((b0g_count (b2g_questions (b8g_kept Sq1.1)))).toInt := by rw [eS96]
      have jf388 := J0g_count (J2g_questions (J8g_kept hJS96.1))
      have je389 : ((b9g_now S96.2) 10).toInt = ((b9g_now u95) 10).toInt := by rw [eS96]
      try simp (disch := first | ((try simp (disch := first | ((try simp only [pn]) <;> omega) | fail) only [pn, pq]) <;> omega) | fail) only [pn, pq] at je389
      have je390 : ((b9g_images S96.2) 10).toInt = ((b9g_images u95) 10).toInt := by rw [eS96]
      try simp (disch := first | ((try simp (disch := first | ((try simp only [pn]) <;> omega) | fail) only [pn, pq]) <;> omega) | fail) only [pn, pq] at je390
      unfold wp_L_law_1745
      refine ⟨_, ?_, ?_, ?_, ?_, ?_, ?_, ?_, ?_, ?_, ?_, rfl⟩
      · first | omega | ((try simp (disch := first | ((try simp (disch := first | ((try simp only [pn]) <;> omega) | fail) only [pn, pq]) <;> omega) | fail) only [pn, pq]) <;> (intros; (try simp (disch := first | ((try simp (disch := first | ((try simp only [pn]) <;> omega) | fail) only [pn, pq]) <;> omega) | fail) only [pn, pq]) <;> omega))
      · exact hJS96
      · exact hFS96
      · first | omega | ((try simp (disch := first | ((try simp (disch := first | ((try simp only [pn]) <;> omega) | fail) only [pn, pq]) <;> omega) | fail) only [pn, pq]) <;> (intros; (try simp (disch := first | ((try simp (disch := first | ((try simp only [pn]) <;> omega) | fail) only [pn, pq]) <;> omega) | fail) only [pn, pq]) <;> omega))
      · first | omega | ((try simp (disch := first | ((try simp (disch := first | ((try simp only [pn]) <;> omega) | fail) only [pn, pq]) <;> omega) | fail) only [pn, pq]) <;> (intros; (try simp (disch := first | ((try simp (disch := first | ((try simp only [pn]) <;> omega) | fail) only [pn, pq]) <;> omega) | fail) only [pn, pq]) <;> omega))
      · first | omega | ((try simp (disch := first | ((try simp (disch := first | ((try simp only [pn]) <;> omega) | fail) only [pn, pq]) <;> omega) | fail) only [pn, pq]) <;> (intros; (try simp (disch := first | ((try simp (disch := first | ((try simp only [pn]) <;> omega) | fail) only [pn, pq]) <;> omega) | fail) only [pn, pq]) <;> omega))
      · first | omega | ((try simp (disch := first | ((try simp (disch := first | ((try simp only [pn]) <;> omega) | fail) only [pn, pq]) <;> omega) | fail) only [pn, pq]) <;> (intros; (try simp (disch := first | ((try simp (disch := first | ((try simp only [pn]) <;> omega) | fail) only [pn, pq]) <;> omega) | fail) only [pn, pq]) <;> omega))
      · first | omega | ((try simp (disch := first | ((try simp (disch := first | ((try simp only [pn]) <;> omega) | fail) only [pn, pq]) <;> omega) | fail) only [pn, pq]) <;> (intros; (try simp (disch := first | ((try simp (disch := first | ((try simp only [pn]) <;> omega) | fail) only [pn, pq]) <;> omega) | fail) only [pn, pq]) <;> omega))
      · first | omega | ((try simp (disch := first | ((try simp (disch := first | ((try simp only [pn]) <;> omega) | fail) only [pn, pq]) <;> omega) | fail) only [pn, pq]) <;> (intros; (try simp (disch := first | ((try simp (disch := first | ((try simp only [pn]) <;> omega) | fail) only [pn, pq]) <;> omega) | fail) only [pn, pq]) <;> omega))
      · first | omega | ((try simp (disch := first | ((try simp (disch := first | ((try simp only [pn]) <;> omega) | fail) only [pn, pq]) <;> omega) | fail) only [pn, pq]) <;> (intros; (try simp (disch := first | ((try simp (disch := first | ((try simp only [pn]) <;> omega) | fail) only [pn, pq]) <;> omega) | fail) only [pn, pq]) <;> omega))
    · skip
      refine ⟨vin1, ?_⟩
      refine ⟨vin2, ?_⟩
      refine ⟨vin3, ?_⟩
      refine ⟨vin4, ?_⟩
      refine ⟨vin5, ?_⟩
      refine ⟨vin6, ?_⟩
      refine sf_X8_holds hJSq1.1 (fun r97  => ?_)
      have rgr97 := pt_rg r97
      refine ⟨vin1, ?_⟩
      refine ⟨vin2, ?_⟩
      refine ⟨vin3, ?_⟩
      refine ⟨vin4, ?_⟩
      refine ⟨vin5, ?_⟩
      refine ⟨vin6, ?_⟩
      refine sf_X9_holds hJSq1.2 (fun r99 u100 hJu100 hfu100  => ?_)
      have je392 : ((b9g_hasImage u100)).toInt = ((b9g_hasImage Sq1.2)).toInt := congrArg (fun z => (z).toInt) hfu100.2.2.2.2.2.2.2.2.2.2.2.2.2.2.2.2.2.2.2.2.2.2.2.2.2.2.2.2.2.2.1
      have je394 : ((b9g_now u100) 10).toInt = ((b9g_now Sq1.2) 10).toInt := congrArg (fun z => (z 10).toInt) hfu100.1
      have je396 : ((b9g_images u100) 10).toInt = ((b9g_images Sq1.2) 10).toInt := congrArg (fun z => (z 10).toInt) hfu100.2.2.2.2.2.2.2.2.2.2.2.2.2.2.2.2.2.2.2.2.2.2.2.2.2.2.2.2.2.2.2.1
      have rgr99 := pt_rg r99
      intro S101 eS101
      have hGS101 : F_L_law S S101 := trivial
      have hJS101 : J8 S101.1 ∧ J9 S101.2 := by rw [eS101]; exact ⟨hJSq1.1, hJu100⟩
      have hFS101 : F_L_law S S101 := hGS101
      have je397 : ((b8g_isKept S101.1)).toInt = ((b8g_isKept Sq1.1)).toInt := by rw [eS101]
      have je398 : ((b9g_hasImage S101.2)).toInt = ((b9g_hasImage u100)).toInt := by rw [eS101]
      try simp (disch := first | ((try simp (disch := first | ((try simp only [pn]) <;> omega) | fail) only [pn, pq]) <;> omega) | fail) only [pn, pq] at je398
      have je399 : ((b0g_count (b2g_questions (b8g_now S101.1)))).toInt = ((b0g_count (b2g_questions (b8g_now Sq1.1)))).toInt := by rw [eS101]
      have jf400 := J0g_count (J2g_questions (J8g_now hJS101.1))
      have je401 : ((b0g_count (b2g_questions (b8g_kept S101.1)))).toInt = ((b0g_count (b2g_questions (b8g_kept Sq1.1)))).toInt := by rw [eS101]
      have jf402 := J0g_count (J2g_questions (J8g_kept hJS101.1))
      have je403 : ((b9g_now S101.2) 10).toInt = ((b9g_now u100) 10).toInt := by rw [eS101]
      try simp (disch := first | ((try simp (disch := first | ((try simp only [pn]) <;> omega) | fail) only [pn, pq]) <;> omega) | fail) only [pn, pq] at je403
      have je404 : ((b9g_images S101.2) 10).toInt = ((b9g_images u100) 10).toInt := by rw [eS101]
      try simp (disch := first | ((try simp (disch := first | ((try simp only [pn]) <;> omega) | fail) only [pn, pq]) <;> omega) | fail) only [pn, pq] at je404
      unfold wp_L_law_1745
      refine ⟨_, ?_, ?_, ?_, ?_, ?_, ?_, ?_, ?_, ?_, ?_, rfl⟩
      · first | omega | ((try simp (disch := first | ((try simp (disch := first | ((try simp only [pn]) <;> omega) | fail) only [pn, pq]) <;> omega) | fail) only [pn, pq]) <;> (intros; (try simp (disch := first | ((try simp (disch := first | ((try simp only [pn]) <;> omega) | fail) only [pn, pq]) <;> omega) | fail) only [pn, pq]) <;> omega))
      · exact hJS101
      · exact hFS101
      · first | omega | ((try simp (disch := first | ((try simp (disch := first | ((try simp only [pn]) <;> omega) | fail) only [pn, pq]) <;> omega) | fail) only [pn, pq]) <;> (intros; (try simp (disch := first | ((try simp (disch := first | ((try simp only [pn]) <;> omega) | fail) only [pn, pq]) <;> omega) | fail) only [pn, pq]) <;> omega))
      · first | omega | ((try simp (disch := first | ((try simp (disch := first | ((try simp only [pn]) <;> omega) | fail) only [pn, pq]) <;> omega) | fail) only [pn, pq]) <;> (intros; (try simp (disch := first | ((try simp (disch := first | ((try simp only [pn]) <;> omega) | fail) only [pn, pq]) <;> omega) | fail) only [pn, pq]) <;> omega))
      · first | omega | ((try simp (disch := first | ((try simp (disch := first | ((try simp only [pn]) <;> omega) | fail) only [pn, pq]) <;> omega) | fail) only [pn, pq]) <;> (intros; (try simp (disch := first | ((try simp (disch := first | ((try simp only [pn]) <;> omega) | fail) only [pn, pq]) <;> omega) | fail) only [pn, pq]) <;> omega))
      · first | omega | ((try simp (disch := first | ((try simp (disch := first | ((try simp only [pn]) <;> omega) | fail) only [pn, pq]) <;> omega) | fail) only [pn, pq]) <;> (intros; (try simp (disch := first | ((try simp (disch := first | ((try simp only [pn]) <;> omega) | fail) only [pn, pq]) <;> omega) | fail) only [pn, pq]) <;> omega))
      · first | omega | ((try simp (disch := first | ((try simp (disch := first | ((try simp only [pn]) <;> omega) | fail) only [pn, pq]) <;> omega) | fail) only [pn, pq]) <;> (intros; (try simp (disch := first | ((try simp (disch := first | ((try simp only [pn]) <;> omega) | fail) only [pn, pq]) <;> omega) | fail) only [pn, pq]) <;> omega))
      · first | omega | ((try simp (disch := first | ((try simp (disch := first | ((try simp only [pn]) <;> omega) | fail) only [pn, pq]) <;> omega) | fail) only [pn, pq]) <;> (intros; (try simp (disch := first | ((try simp (disch := first | ((try simp only [pn]) <;> omega) | fail) only [pn, pq]) <;> omega) | fail) only [pn, pq]) <;> omega))
      · first | omega | ((try simp (disch := first | ((try simp (disch := first | ((try simp only [pn]) <;> omega) | fail) only [pn, pq]) <;> omega) | fail) only [pn, pq]) <;> (intros; (try simp (disch := first | ((try simp (disch := first | ((try simp only [pn]) <;> omega) | fail) only [pn, pq]) <;> omega) | fail) only [pn, pq]) <;> omega))
    · skip
      refine ⟨vin1, ?_⟩
      refine ⟨vin2, ?_⟩
      refine ⟨vin3, ?_⟩
      refine sf_X8_seek hJSq1.1 (fun r102  => ?_)
      have rgr102 := pt_rg r102
      refine ⟨vin1, ?_⟩
      refine ⟨vin2, ?_⟩
      refine ⟨vin3, ?_⟩
      refine sf_X9_seek hJSq1.2 (fun r104 u105 hJu105 hfu105  => ?_)
      have je406 : ((b9g_hasImage u105)).toInt = ((b9g_hasImage Sq1.2)).toInt := congrArg (fun z => (z).toInt) hfu105.2.2.2.2.2.2.2.2.2.2.2.2.2.2.2.2.2.2.2.2.2.2.2.2.2.2.2.2.2.2.2.2.2.2.1
      have je408 : ((b9g_now u105) 10).toInt = ((b9g_now Sq1.2) 10).toInt := congrArg (fun z => (z 10).toInt) hfu105.1
      have je410 : ((b9g_images u105) 10).toInt = ((b9g_images Sq1.2) 10).toInt := congrArg (fun z => (z 10).toInt) hfu105.2.2.2.2.2.2.2.2.2.2.2.2.2.2.2.2.2.2.2.2.2.2.2.2.2.2.2.2.2.2.2.2.2.2.2.1
      have rgr104 := pt_rg r104
      intro S106 eS106
      have hGS106 : F_L_law S S106 := trivial
      have hJS106 : J8 S106.1 ∧ J9 S106.2 := by rw [eS106]; exact ⟨hJSq1.1, hJu105⟩
      have hFS106 : F_L_law S S106 := hGS106
      have je411 : ((b8g_isKept S106.1)).toInt = ((b8g_isKept Sq1.1)).toInt := by rw [eS106]
      have je412 : ((b9g_hasImage S106.2)).toInt = ((b9g_hasImage u105)).toInt := by rw [eS106]
      try simp (disch := first | ((try simp (disch := first | ((try simp only [pn]) <;> omega) | fail) only [pn, pq]) <;> omega) | fail) only [pn, pq] at je412
      have je413 : ((b0g_count (b2g_questions (b8g_now S106.1)))).toInt = ((b0g_count (b2g_questions (b8g_now Sq1.1)))).toInt := by rw [eS106]
      have jf414 := J0g_count (J2g_questions (J8g_now hJS106.1))
      have je415 : ((b0g_count (b2g_questions (b8g_kept S106.1)))).toInt = ((b0g_count (b2g_questions (b8g_kept Sq1.1)))).toInt := by rw [eS106]
      have jf416 := J0g_count (J2g_questions (J8g_kept hJS106.1))
      have je417 : ((b9g_now S106.2) 10).toInt = ((b9g_now u105) 10).toInt := by rw [eS106]
      try simp (disch := first | ((try simp (disch := first | ((try simp only [pn]) <;> omega) | fail) only [pn, pq]) <;> omega) | fail) only [pn, pq] at je417
      have je418 : ((b9g_images S106.2) 10).toInt = ((b9g_images u105) 10).toInt := by rw [eS106]
      try simp (disch := first | ((try simp (disch := first | ((try simp only [pn]) <;> omega) | fail) only [pn, pq]) <;> omega) | fail) only [pn, pq] at je418
      unfold wp_L_law_1745
      refine ⟨_, ?_, ?_, ?_, ?_, ?_, ?_, ?_, ?_, ?_, ?_, rfl⟩
      · first | omega | ((try simp (disch := first | ((try simp (disch := first | ((try simp only [pn]) <;> omega) | fail) only [pn, pq]) <;> omega) | fail) only [pn, pq]) <;> (intros; (try simp (disch := first | ((try simp (disch := first | ((try simp only [pn]) <;> omega) | fail) only [pn, pq]) <;> omega) | fail) only [pn, pq]) <;> omega))
      · exact hJS106
      · exact hFS106
      · first | omega | ((try simp (disch := first | ((try simp (disch := first | ((try simp only [pn]) <;> omega) | fail) only [pn, pq]) <;> omega) | fail) only [pn, pq]) <;> (intros; (try simp (disch := first | ((try simp (disch := first | ((try simp only [pn]) <;> omega) | fail) only [pn, pq]) <;> omega) | fail) only [pn, pq]) <;> omega))
      · first | omega | ((try simp (disch := first | ((try simp (disch := first | ((try simp only [pn]) <;> omega) | fail) only [pn, pq]) <;> omega) | fail) only [pn, pq]) <;> (intros; (try simp (disch := first | ((try simp (disch := first | ((try simp only [pn]) <;> omega) | fail) only [pn, pq]) <;> omega) | fail) only [pn, pq]) <;> omega))
      · first | omega | ((try simp (disch := first | ((try simp (disch := first | ((try simp only [pn]) <;> omega) | fail) only [pn, pq]) <;> omega) | fail) only [pn, pq]) <;> (intros; (try simp (disch := first | ((try simp (disch := first | ((try simp only [pn]) <;> omega) | fail) only [pn, pq]) <;> omega) | fail) only [pn, pq]) <;> omega))
      · first | omega | ((try simp (disch := first | ((try simp (disch := first | ((try simp only [pn]) <;> omega) | fail) only [pn, pq]) <;> omega) | fail) only [pn, pq]) <;> (intros; (try simp (disch := first | ((try simp (disch := first | ((try simp only [pn]) <;> omega) | fail) only [pn, pq]) <;> omega) | fail) only [pn, pq]) <;> omega))
      · first | omega | ((try simp (disch := first | ((try simp (disch := first | ((try simp only [pn]) <;> omega) | fail) only [pn, pq]) <;> omega) | fail) only [pn, pq]) <;> (intros; (try simp (disch := first | ((try simp (disch := first | ((try simp only [pn]) <;> omega) | fail) only [pn, pq]) <;> omega) | fail) only [pn, pq]) <;> omega))
      · first | omega | ((try simp (disch := first | ((try simp (disch := first | ((try simp only [pn]) <;> omega) | fail) only [pn, pq]) <;> omega) | fail) only [pn, pq]) <;> (intros; (try simp (disch := first | ((try simp (disch := first | ((try simp only [pn]) <;> omega) | fail) only [pn, pq]) <;> omega) | fail) only [pn, pq]) <;> omega))
      · first | omega | ((try simp (disch := first | ((try simp (disch := first | ((try simp only [pn]) <;> omega) | fail) only [pn, pq]) <;> omega) | fail) only [pn, pq]) <;> (intros; (try simp (disch := first | ((try simp (disch := first | ((try simp only [pn]) <;> omega) | fail) only [pn, pq]) <;> omega) | fail) only [pn, pq]) <;> omega))
    · skip
      refine ⟨vin1, ?_⟩
      refine ⟨vin2, ?_⟩
      refine ⟨vin3, ?_⟩
      refine sf_X8_seekBack hJSq1.1 (fun r107  => ?_)
      have rgr107 := pt_rg r107
      refine ⟨vin1, ?_⟩
      refine ⟨vin2, ?_⟩
      refine ⟨vin3, ?_⟩
      refine sf_X9_seekBack hJSq1.2 (fun r109 u110 hJu110 hfu110  => ?_)
      have je420 : ((b9g_hasImage u110)).toInt = ((b9g_hasImage Sq1.2)).toInt := congrArg (fun z => (z).toInt) hfu110.2.2.2.2.2.2.2.2.2.2.2.2.2.2.2.2.2.2.2.2.2.2.2.2.2.2.2.2.2.2.2.2.2.2.1
      have je422 : ((b9g_now u110) 10).toInt = ((b9g_now Sq1.2) 10).toInt := congrArg (fun z => (z 10).toInt) hfu110.1
      have je424 : ((b9g_images u110) 10).toInt = ((b9g_images Sq1.2) 10).toInt := congrArg (fun z => (z 10).toInt) hfu110.2.2.2.2.2.2.2.2.2.2.2.2.2.2.2.2.2.2.2.2.2.2.2.2.2.2.2.2.2.2.2.2.2.2.2.1
      have rgr109 := pt_rg r109
      intro S111 eS111
      have hGS111 : F_L_law S S111 := trivial
      have hJS111 : J8 S111.1 ∧ J9 S111.2 := by rw [eS111]; exact ⟨hJSq1.1, hJu110⟩
      have hFS111 : F_L_law S S111 := hGS111
      have je425 : ((b8g_isKept S111.1)).toInt = ((b8g_isKept Sq1.1)).toInt := by rw [eS111]
      have je426 : ((b9g_hasImage S111.2)).toInt = ((b9g_hasImage u110)).toInt := by rw [eS111]
      try simp (disch := first | ((try simp (disch := first | ((try simp only [pn]) <;> omega) | fail) only [pn, pq]) <;> omega) | fail) only [pn, pq] at je426
      have je427 : ((b0g_count (b2g_questions (b8g_now S111.1)))).toInt = ((b0g_count (b2g_questions (b8g_now Sq1.1)))).toInt := by rw [eS111]
      have jf428 := J0g_count (J2g_questions (J8g_now hJS111.1))
      have je429 : ((b0g_count (b2g_questions (b8g_kept S111.1)))).toInt = ((b0g_count (b2g_questions (b8g_kept Sq1.1)))).toInt := by rw [eS111]
      have jf430 := J0g_count (J2g_questions (J8g_kept hJS111.1))
      have je431 : ((b9g_now S111.2) 10).toInt = ((b9g_now u110) 10).toInt := by rw [eS111]
      try simp (disch := first | ((try simp (disch := first | ((try simp only [pn]) <;> omega) | fail) only [pn, pq]) <;> omega) | fail) only [pn, pq] at je431
      have je432 : ((b9g_images S111.2) 10).toInt = ((b9g_images u110) 10).toInt := by rw [eS111]
      try simp (disch := first | ((try simp (disch := first | ((try simp only [pn]) <;> omega) | fail) only [pn, pq]) <;> omega) | fail) only [pn, pq] at je432
      unfold wp_L_law_1745
      refine ⟨_, ?_, ?_, ?_, ?_, ?_, ?_, ?_, ?_, ?_, ?_, rfl⟩
      · first | omega | ((try simp (disch := first | ((try simp (disch := first | ((try simp only [pn]) <;> omega) | fail) only [pn, pq]) <;> omega) | fail) only [pn, pq]) <;> (intros; (try simp (disch := first | ((try simp (disch := first | ((try simp only [pn]) <;> omega) | fail) only [pn, pq]) <;> omega) | fail) only [pn, pq]) <;> omega))
      · exact hJS111
      · exact hFS111
      · first | omega | ((try simp (disch := first | ((try simp (disch := first | ((try simp only [pn]) <;> omega) | fail) only [pn, pq]) <;> omega) | fail) only [pn, pq]) <;> (intros; (try simp (disch := first | ((try simp (disch := first | ((try simp only [pn]) <;> omega) | fail) only [pn, pq]) <;> omega) | fail) only [pn, pq]) <;> omega))
      · first | omega | ((try simp (disch := first | ((try simp (disch := first | ((try simp only [pn]) <;> omega) | fail) only [pn, pq]) <;> omega) | fail) only [pn, pq]) <;> (intros; (try simp (disch := first | ((try simp (disch := first | ((try simp only [pn]) <;> omega) | fail) only [pn, pq]) <;> omega) | fail) only [pn, pq]) <;> omega))
      · first | omega | ((try simp (disch := first | ((try simp (disch := first | ((try simp only [pn]) <;> omega) | fail) only [pn, pq]) <;> omega) | fail) only [pn, pq]) <;> (intros; (try simp (disch := first | ((try simp (disch := first | ((try simp only [pn]) <;> omega) | fail) only [pn, pq]) <;> omega) | fail) only [pn, pq]) <;> omega))
      · first | omega | ((try simp (disch := first | ((try simp (disch := first | ((try simp only [pn]) <;> omega) | fail) only [pn, pq]) <;> omega) | fail) only [pn, pq]) <;> (intros; (try simp (disch := first | ((try simp (disch := first | ((try simp only [pn]) <;> omega) | fail) only [pn, pq]) <;> omega) | fail) only [pn, pq]) <;> omega))
      · first | omega | ((try simp (disch := first | ((try simp (disch := first | ((try simp only [pn]) <;> omega) | fail) only [pn, pq]) <;> omega) | fail) only [pn, pq]) <;> (intros; (try simp (disch := first | ((try simp (disch := first | ((try simp only [pn]) <;> omega) | fail) only [pn, pq]) <;> omega) | fail) only [pn, pq]) <;> omega))
      · first | omega | ((try simp (disch := first | ((try simp (disch := first | ((try simp only [pn]) <;> omega) | fail) only [pn, pq]) <;> omega) | fail) only [pn, pq]) <;> (intros; (try simp (disch := first | ((try simp (disch := first | ((try simp only [pn]) <;> omega) | fail) only [pn, pq]) <;> omega) | fail) only [pn, pq]) <;> omega))
      · first | omega | ((try simp (disch := first | ((try simp (disch := first | ((try simp only [pn]) <;> omega) | fail) only [pn, pq]) <;> omega) | fail) only [pn, pq]) <;> (intros; (try simp (disch := first | ((try simp (disch := first | ((try simp only [pn]) <;> omega) | fail) only [pn, pq]) <;> omega) | fail) only [pn, pq]) <;> omega))
    · skip
      refine ⟨vin1, ?_⟩
      refine ⟨vin2, ?_⟩
      refine sf_X8_leaf hJSq1.1 (fun r112  => ?_)
      have rgr112 := pt_rg r112
      refine ⟨vin1, ?_⟩
      refine ⟨vin2, ?_⟩
      refine sf_X9_leaf hJSq1.2 (fun r114 u115 hJu115 hfu115  => ?_)
      have je434 : ((b9g_hasImage u115)).toInt = ((b9g_hasImage Sq1.2)).toInt := congrArg (fun z => (z).toInt) hfu115.2.2.2.2.2.2.2.2.2.2.2.2.2.2.2.2.2.2.2.2.2.2.1
      have je436 : ((b9g_now u115) 10).toInt = ((b9g_now Sq1.2) 10).toInt := congrArg (fun z => (z 10).toInt) hfu115.1
      have je438 : ((b9g_images u115) 10).toInt = ((b9g_images Sq1.2) 10).toInt := congrArg (fun z => (z 10).toInt) hfu115.2.2.2.2.2.2.2.2.2.2.2.2.2.2.2.2.2.2.2.2.2.2.2.1
      have rgr114 := pt_rg r114
      intro S116 eS116
      have hGS116 : F_L_law S S116 := trivial
      have hJS116 : J8 S116.1 ∧ J9 S116.2 := by rw [eS116]; exact ⟨hJSq1.1, hJu115⟩
      have hFS116 : F_L_law S S116 := hGS116
      have je439 : ((b8g_isKept S116.1)).toInt = ((b8g_isKept Sq1.1)).toInt := by rw [eS116]
      have je440 : ((b9g_hasImage S116.2)).toInt = ((b9g_hasImage u115)).toInt := by rw [eS116]
      try simp (disch := first | ((try simp (disch := first | ((try simp only [pn]) <;> omega) | fail) only [pn, pq]) <;> omega) | fail) only [pn, pq] at je440
      have je441 : ((b0g_count (b2g_questions (b8g_now S116.1)))).toInt = ((b0g_count (b2g_questions (b8g_now Sq1.1)))).toInt := by rw [eS116]
      have jf442 := J0g_count (J2g_questions (J8g_now hJS116.1))
      have je443 : ((b0g_count (b2g_questions (b8g_kept S116.1)))).toInt = ((b0g_count (b2g_questions (b8g_kept Sq1.1)))).toInt := by rw [eS116]
      have jf444 := J0g_count (J2g_questions (J8g_kept hJS116.1))
      have je445 : ((b9g_now S116.2) 10).toInt = ((b9g_now u115) 10).toInt := by rw [eS116]
      try simp (disch := first | ((try simp (disch := first | ((try simp only [pn]) <;> omega) | fail) only [pn, pq]) <;> omega) | fail) only [pn, pq] at je445
      have je446 : ((b9g_images S116.2) 10).toInt = ((b9g_images u115) 10).toInt := by rw [eS116]
      try simp (disch := first | ((try simp (disch := first | ((try simp only [pn]) <;> omega) | fail) only [pn, pq]) <;> omega) | fail) only [pn, pq] at je446
      unfold wp_L_law_1745
      refine ⟨_, ?_, ?_, ?_, ?_, ?_, ?_, ?_, ?_, ?_, ?_, rfl⟩
      · first | omega | ((try simp (disch := first | ((try simp (disch := first | ((try simp only [pn]) <;> omega) | fail) only [pn, pq]) <;> omega) | fail) only [pn, pq]) <;> (intros; (try simp (disch := first | ((try simp (disch := first | ((try simp only [pn]) <;> omega) | fail) only [pn, pq]) <;> omega) | fail) only [pn, pq]) <;> omega))
      · exact hJS116
      · exact hFS116
      · first | omega | ((try simp (disch := first | ((try simp (disch := first | ((try simp only [pn]) <;> omega) | fail) only [pn, pq]) <;> omega) | fail) only [pn, pq]) <;> (intros; (try simp (disch := first | ((try simp (disch := first | ((try simp only [pn]) <;> omega) | fail) only [pn, pq]) <;> omega) | fail) only [pn, pq]) <;> omega))
      · first | omega | ((try simp (disch := first | ((try simp (disch := first | ((try simp only [pn]) <;> omega) | fail) only [pn, pq]) <;> omega) | fail) only [pn, pq]) <;> (intros; (try simp (disch := first | ((try simp (disch := first | ((try simp only [pn]) <;> omega) | fail) only [pn, pq]) <;> omega) | fail) only [pn, pq]) <;> omega))
      · first | omega | ((try simp (disch := first | ((try simp (disch := first | ((try simp only [pn]) <;> omega) | fail) only [pn, pq]) <;> omega) | fail) only [pn, pq]) <;> (intros; (try simp (disch := first | ((try simp (disch := first | ((try simp only [pn]) <;> omega) | fail) only [pn, pq]) <;> omega) | fail) only [pn, pq]) <;> omega))
      · first | omega | ((try simp (disch := first | ((try simp (disch := first | ((try simp only [pn]) <;> omega) | fail) only [pn, pq]) <;> omega) | fail) only [pn, pq]) <;> (intros; (try simp (disch := first | ((try simp (disch := first | ((try simp only [pn]) <;> omega) | fail) only [pn, pq]) <;> omega) | fail) only [pn, pq]) <;> omega))
      · first | omega | ((try simp (disch := first | ((try simp (disch := first | ((try simp only [pn]) <;> omega) | fail) only [pn, pq]) <;> omega) | fail) only [pn, pq]) <;> (intros; (try simp (disch := first | ((try simp (disch := first | ((try simp only [pn]) <;> omega) | fail) only [pn, pq]) <;> omega) | fail) only [pn, pq]) <;> omega))
      · first | omega | ((try simp (disch := first | ((try simp (disch := first | ((try simp only [pn]) <;> omega) | fail) only [pn, pq]) <;> omega) | fail) only [pn, pq]) <;> (intros; (try simp (disch := first | ((try simp (disch := first | ((try simp only [pn]) <;> omega) | fail) only [pn, pq]) <;> omega) | fail) only [pn, pq]) <;> omega))
      · first | omega | ((try simp (disch := first | ((try simp (disch := first | ((try simp only [pn]) <;> omega) | fail) only [pn, pq]) <;> omega) | fail) only [pn, pq]) <;> (intros; (try simp (disch := first | ((try simp (disch := first | ((try simp only [pn]) <;> omega) | fail) only [pn, pq]) <;> omega) | fail) only [pn, pq]) <;> omega))
    · skip
      refine ⟨vin1, ?_⟩
      refine sf_X8_leafAt hJSq1.1 (fun r117  => ?_)
      have rgr117 := pt_rg r117
      refine ⟨vin1, ?_⟩
      refine sf_X9_leafAt hJSq1.2 (fun r119 u120 hJu120 hfu120  => ?_)
      have je448 : ((b9g_hasImage u120)).toInt = ((b9g_hasImage Sq1.2)).toInt := congrArg (fun z => (z).toInt) hfu120.2.2.2.2.2.2.2.2.2.2.2.2.2.2.2.2.2.2.2.2.2.2.1
      have je450 : ((b9g_now u120) 10).toInt = ((b9g_now Sq1.2) 10).toInt := congrArg (fun z => (z 10).toInt) hfu120.1
      have je452 : ((b9g_images u120) 10).toInt = ((b9g_images Sq1.2) 10).toInt := congrArg (fun z => (z 10).toInt) hfu120.2.2.2.2.2.2.2.2.2.2.2.2.2.2.2.2.2.2.2.2.2.2.2.1
      have rgr119 := pt_rg r119
      intro S121 eS121
      have hGS121 : F_L_law S S121 := trivial
      have hJS121 : J8 S121.1 ∧ J9 S121.2 := by rw [eS121]; exact ⟨hJSq1.1, hJu120⟩
      have hFS121 : F_L_law S S121 := hGS121
      have je453 : ((b8g_isKept S121.1)).toInt = ((b8g_isKept Sq1.1)).toInt := by rw [eS121]
      have je454 : ((b9g_hasImage S121.2)).toInt = ((b9g_hasImage u120)).toInt := by rw [eS121]
      try simp (disch := first | ((try simp (disch := first | ((try simp only [pn]) <;> omega) | fail) only [pn, pq]) <;> omega) | fail) only [pn, pq] at je454
      have je455 : ((b0g_count (b2g_questions (b8g_now S121.1)))).toInt = ((b0g_count (b2g_questions (b8g_now Sq1.1)))).toInt := by rw [eS121]
      have jf456 := J0g_count (J2g_questions (J8g_now hJS121.1))
      have je457 : ((b0g_count (b2g_questions (b8g_kept S121.1)))).toInt = ((b0g_count (b2g_questions (b8g_kept Sq1.1)))).toInt := by rw [eS121]
      have jf458 := J0g_count (J2g_questions (J8g_kept hJS121.1))
      have je459 : ((b9g_now S121.2) 10).toInt = ((b9g_now u120) 10).toInt := by rw [eS121]
      try simp (disch := first | ((try simp (disch := first | ((try simp only [pn]) <;> omega) | fail) only [pn, pq]) <;> omega) | fail) only [pn, pq] at je459
      have je460 : ((b9g_images S121.2) 10).toInt = ((b9g_images u120) 10).toInt := by rw [eS121]
      try simp (disch := first | ((try simp (disch := first | ((try simp only [pn]) <;> omega) | fail) only [pn, pq]) <;> omega) | fail) only [pn, pq] at je460
      unfold wp_L_law_1745
      refine ⟨_, ?_, ?_, ?_, ?_, ?_, ?_, ?_, ?_, ?_, ?_, rfl⟩
      · first | omega | ((try simp (disch := first | ((try simp (disch := first | ((try simp only [pn]) <;> omega) | fail) only [pn, pq]) <;> omega) | fail) only [pn, pq]) <;> (intros; (try simp (disch := first | ((try simp (disch := first | ((try simp only [pn]) <;> omega) | fail) only [pn, pq]) <;> omega) | fail) only [pn, pq]) <;> omega))
      · exact hJS121
      · exact hFS121
      · first | omega | ((try simp (disch := first | ((try simp (disch := first | ((try simp only [pn]) <;> omega) | fail) only [pn, pq]) <;> omega) | fail) only [pn, pq]) <;> (intros; (try simp (disch := first | ((try simp (disch := first | ((try simp only [pn]) <;> omega) | fail) only [pn, pq]) <;> omega) | fail) only [pn, pq]) <;> omega))
      · first | omega | ((try simp (disch := first | ((try simp (disch := first | ((try simp only [pn]) <;> omega) | fail) only [pn, pq]) <;> omega) | fail) only [pn, pq]) <;> (intros; (try simp (disch := first | ((try simp (disch := first | ((try simp only [pn]) <;> omega) | fail) only [pn, pq]) <;> omega) | fail) only [pn, pq]) <;> omega))
      · first | omega | ((try simp (disch := first | ((try simp (disch := first | ((try simp only [pn]) <;> omega) | fail) only [pn, pq]) <;> omega) | fail) only [pn, pq]) <;> (intros; (try simp (disch := first | ((try simp (disch := first | ((try simp only [pn]) <;> omega) | fail) only [pn, pq]) <;> omega) | fail) only [pn, pq]) <;> omega))
      · first | omega | ((try simp (disch := first | ((try simp (disch := first | ((try simp only [pn]) <;> omega) | fail) only [pn, pq]) <;> omega) | fail) only [pn, pq]) <;> (intros; (try simp (disch := first | ((try simp (disch := first | ((try simp only [pn]) <;> omega) | fail) only [pn, pq]) <;> omega) | fail) only [pn, pq]) <;> omega))
      · first | omega | ((try simp (disch := first | ((try simp (disch := first | ((try simp only [pn]) <;> omega) | fail) only [pn, pq]) <;> omega) | fail) only [pn, pq]) <;> (intros; (try simp (disch := first | ((try simp (disch := first | ((try simp only [pn]) <;> omega) | fail) only [pn, pq]) <;> omega) | fail) only [pn, pq]) <;> omega))
      · first | omega | ((try simp (disch := first | ((try simp (disch := first | ((try simp only [pn]) <;> omega) | fail) only [pn, pq]) <;> omega) | fail) only [pn, pq]) <;> (intros; (try simp (disch := first | ((try simp (disch := first | ((try simp only [pn]) <;> omega) | fail) only [pn, pq]) <;> omega) | fail) only [pn, pq]) <;> omega))
      · first | omega | ((try simp (disch := first | ((try simp (disch := first | ((try simp only [pn]) <;> omega) | fail) only [pn, pq]) <;> omega) | fail) only [pn, pq]) <;> (intros; (try simp (disch := first | ((try simp (disch := first | ((try simp only [pn]) <;> omega) | fail) only [pn, pq]) <;> omega) | fail) only [pn, pq]) <;> omega))
    · skip
      refine ⟨vin1, ?_⟩
      refine ⟨vin2, ?_⟩
      refine sf_X8_node hJSq1.1 (fun r122  => ?_)
      have rgr122 := pt_rg r122
      refine ⟨vin1, ?_⟩
      refine ⟨vin2, ?_⟩
      refine sf_X9_node hJSq1.2 (fun r124 u125 hJu125 hfu125  => ?_)
      have je462 : ((b9g_hasImage u125)).toInt = ((b9g_hasImage Sq1.2)).toInt := congrArg (fun z => (z).toInt) hfu125.2.2.2.2.2.2.2.2.2.2.2.2.2.2.2.2.2.2.2.2.2.2.1
      have je464 : ((b9g_now u125) 10).toInt = ((b9g_now Sq1.2) 10).toInt := congrArg (fun z => (z 10).toInt) hfu125.1
      have je466 : ((b9g_images u125) 10).toInt = ((b9g_images Sq1.2) 10).toInt := congrArg (fun z => (z 10).toInt) hfu125.2.2.2.2.2.2.2.2.2.2.2.2.2.2.2.2.2.2.2.2.2.2.2.1
      have rgr124 := pt_rg r124
      intro S126 eS126
      have hGS126 : F_L_law S S126 := trivial
      have hJS126 : J8 S126.1 ∧ J9 S126.2 := by rw [eS126]; exact ⟨hJSq1.1, hJu125⟩
      have hFS126 : F_L_law S S126 := hGS126
      have je467 : ((b8g_isKept S126.1)).toInt = ((b8g_isKept Sq1.1)).toInt := by rw [eS126]
      have je468 : ((b9g_hasImage S126.2)).toInt = ((b9g_hasImage u125)).toInt := by rw [eS126]
      try simp (disch := first | ((try simp (disch := first | ((try simp only [pn]) <;> omega) | fail) only [pn, pq]) <;> omega) | fail) only [pn, pq] at je468
      have je469 : ((b0g_count (b2g_questions (b8g_now S126.1)))).toInt = ((b0g_count (b2g_questions (b8g_now Sq1.1)))).toInt := by rw [eS126]
      have jf470 := J0g_count (J2g_questions (J8g_now hJS126.1))
      have je471 : ((b0g_count (b2g_questions (b8g_kept S126.1)))).toInt = ((b0g_count (b2g_questions (b8g_kept Sq1.1)))).toInt := by rw [eS126]
      have jf472 := J0g_count (J2g_questions (J8g_kept hJS126.1))
      have je473 : ((b9g_now S126.2) 10).toInt = ((b9g_now u125) 10).toInt := by rw [eS126]
      try simp (disch := first | ((try simp (disch := first | ((try simp only [pn]) <;> omega) | fail) only [pn, pq]) <;> omega) | fail) only [pn, pq] at je473
      have je474 : ((b9g_images S126.2) 10).toInt = ((b9g_images u125) 10).toInt := by rw [eS126]
      try simp (disch := first | ((try simp (disch := first | ((try simp only [pn]) <;> omega) | fail) only [pn, pq]) <;> omega) | fail) only [pn, pq] at je474
      unfold wp_L_law_1745
      refine ⟨_, ?_, ?_, ?_, ?_, ?_, ?_, ?_, ?_, ?_, ?_, rfl⟩
      · first | omega | ((try simp (disch := first | ((try simp (disch := first | ((try simp only [pn]) <;> omega) | fail) only [pn, pq]) <;> omega) | fail) only [pn, pq]) <;> (intros; (try simp (disch := first | ((try simp (disch := first | ((try simp only [pn]) <;> omega) | fail) only [pn, pq]) <;> omega) | fail) only [pn, pq]) <;> omega))
      · exact hJS126
      · exact hFS126
      · first | omega | ((try simp (disch := first | ((try simp (disch := first | ((try simp only [pn]) <;> omega) | fail) only [pn, pq]) <;> omega) | fail) only [pn, pq]) <;> (intros; (try simp (disch := first | ((try simp (disch := first | ((try simp only [pn]) <;> omega) | fail) only [pn, pq]) <;> omega) | fail) only [pn, pq]) <;> omega))
      · first | omega | ((try simp (disch := first | ((try simp (disch := first | ((try simp only [pn]) <;> omega) | fail) only [pn, pq]) <;> omega) | fail) only [pn, pq]) <;> (intros; (try simp (disch := first | ((try simp (disch := first | ((try simp only [pn]) <;> omega) | fail) only [pn, pq]) <;> omega) | fail) only [pn, pq]) <;> omega))
      · first | omega | ((try simp (disch := first | ((try simp (disch := first | ((try simp only [pn]) <;> omega) | fail) only [pn, pq]) <;> omega) | fail) only [pn, pq]) <;> (intros; (try simp (disch := first | ((try simp (disch := first | ((try simp only [pn]) <;> omega) | fail) only [pn, pq]) <;> omega) | fail) only [pn, pq]) <;> omega))
      · first | omega | ((try simp (disch := first | ((try simp (disch := first | ((try simp only [pn]) <;> omega) | fail) only [pn, pq]) <;> omega) | fail) only [pn, pq]) <;> (intros; (try simp (disch := first | ((try simp (disch := first | ((try simp only [pn]) <;> omega) | fail) only [pn, pq]) <;> omega) | fail) only [pn, pq]) <;> omega))
      · first | omega | ((try simp (disch := first | ((try simp (disch := first | ((try simp only [pn]) <;> omega) | fail) only [pn, pq]) <;> omega) | fail) only [pn, pq]) <;> (intros; (try simp (disch := first | ((try simp (disch := first | ((try simp only [pn]) <;> omega) | fail) only [pn, pq]) <;> omega) | fail) only [pn, pq]) <;> omega))
      · first | omega | ((try simp (disch := first | ((try simp (disch := first | ((try simp only [pn]) <;> omega) | fail) only [pn, pq]) <;> omega) | fail) only [pn, pq]) <;> (intros; (try simp (disch := first | ((try simp (disch := first | ((try simp only [pn]) <;> omega) | fail) only [pn, pq]) <;> omega) | fail) only [pn, pq]) <;> omega))
      · first | omega | ((try simp (disch := first | ((try simp (disch := first | ((try simp only [pn]) <;> omega) | fail) only [pn, pq]) <;> omega) | fail) only [pn, pq]) <;> (intros; (try simp (disch := first | ((try simp (disch := first | ((try simp only [pn]) <;> omega) | fail) only [pn, pq]) <;> omega) | fail) only [pn, pq]) <;> omega))
    · skip
      refine ⟨vin1, ?_⟩
      refine ⟨vin2, ?_⟩
      refine sf_X8_child hJSq1.1 (fun r127  => ?_)
      have rgr127 := pt_rg r127
      refine ⟨vin1, ?_⟩
      refine ⟨vin2, ?_⟩
      refine sf_X9_child hJSq1.2 (fun r129 u130 hJu130 hfu130  => ?_)
      have je476 : ((b9g_hasImage u130)).toInt = ((b9g_hasImage Sq1.2)).toInt := congrArg (fun z => (z).toInt) hfu130.2.2.2.2.2.2.2.2.2.2.2.2.2.2.2.2.2.2.2.2.2.2.1
      have je478 : ((b9g_now u130) 10).toInt = ((b9g_now Sq1.2) 10).toInt := congrArg (fun z => (z 10).toInt) hfu130.1
      have je480 : ((b9g_images u130) 10).toInt = ((b9g_images Sq1.2) 10).toInt := congrArg (fun z => (z 10).toInt) hfu130.2.2.2.2.2.2.2.2.2.2.2.2.2.2.2.2.2.2.2.2.2.2.2.1
      have rgr129 := pt_rg r129
      intro S131 eS131
      have hGS131 : F_L_law S S131 := trivial
      have hJS131 : J8 S131.1 ∧ J9 S131.2 := by rw [eS131]; exact ⟨hJSq1.1, hJu130⟩
      have hFS131 : F_L_law S S131 := hGS131
      have je481 : ((b8g_isKept S131.1)).toInt = ((b8g_isKept Sq1.1)).toInt := by rw [eS131]
      have je482 : ((b9g_hasImage S131.2)).toInt = ((b9g_hasImage u130)).toInt := by rw [eS131]
      try simp (disch := first | ((try simp (disch := first | ((try simp only [pn]) <;> omega) | fail) only [pn, pq]) <;> omega) | fail) only [pn, pq] at je482
      have je483 : ((b0g_count (b2g_questions (b8g_now S131.1)))).toInt = ((b0g_count (b2g_questions (b8g_now Sq1.1)))).toInt := by rw [eS131]
      have jf484 := J0g_count (J2g_questions (J8g_now hJS131.1))
      have je485 : ((b0g_count (b2g_questions (b8g_kept S131.1)))).toInt = ((b0g_count (b2g_questions (b8g_kept Sq1.1)))).toInt := by rw [eS131]
      have jf486 := J0g_count (J2g_questions (J8g_kept hJS131.1))
      have je487 : ((b9g_now S131.2) 10).toInt = ((b9g_now u130) 10).toInt := by rw [eS131]
      try simp (disch := first | ((try simp (disch := first | ((try simp only [pn]) <;> omega) | fail) only [pn, pq]) <;> omega) | fail) only [pn, pq] at je487
      have je488 : ((b9g_images S131.2) 10).toInt = ((b9g_images u130) 10).toInt := by rw [eS131]
      try simp (disch := first | ((try simp (disch := first | ((try simp only [pn]) <;> omega) | fail) only [pn, pq]) <;> omega) | fail) only [pn, pq] at je488
      unfold wp_L_law_1745
      refine ⟨_, ?_, ?_, ?_, ?_, ?_, ?_, ?_, ?_, ?_, ?_, rfl⟩
      · first | omega | ((try simp (disch := first | ((try simp (disch := first | ((try simp only [pn]) <;> omega) | fail) only [pn, pq]) <;> omega) | fail) only [pn, pq]) <;> (intros; (try simp (disch := first | ((try simp (disch := first | ((try simp only [pn]) <;> omega) | fail) only [pn, pq]) <;> omega) | fail) only [pn, pq]) <;> omega))
      · exact hJS131
      · exact hFS131
      · first | omega | ((try simp (disch := first | ((try simp (disch := first | ((try simp only [pn]) <;> omega) | fail) only [pn, pq]) <;> omega) | fail) only [pn, pq]) <;> (intros; (try simp (disch := first | ((try simp (disch := first | ((try simp only [pn]) <;> omega) | fail) only [pn, pq]) <;> omega) | fail) only [pn, pq]) <;> omega))
      · first | omega | ((try simp (disch := first | ((try simp (disch := first | ((try simp only [pn]) <;> omega) | fail) only [pn, pq]) <;> omega) | fail) only [pn, pq]) <;> (intros; (try simp (disch := first | ((try simp (disch := first | ((try simp only [pn]) <;> omega) | fail) only [pn, pq]) <;> omega) | fail) only [pn, pq]) <;> omega))
      · first | omega | ((try simp (disch := first | ((try simp (disch := first | ((try simp only [pn]) <;> omega) | fail) only [pn, pq]) <;> omega) | fail) only [pn, pq]) <;> (intros; (try simp (disch := first | ((try simp (disch := first | ((try simp only [pn]) <;> omega) | fail) only [pn, pq]) <;> omega) | fail) only [pn, pq]) <;> omega))
      · first | omega | ((try simp (disch := first | ((try simp (disch := first | ((try simp only [pn]) <;> omega) | fail) only [pn, pq]) <;> omega) | fail) only [pn, pq]) <;> (intros; (try simp (disch := first | ((try simp (disch := first | ((try simp only [pn]) <;> omega) | fail) only [pn, pq]) <;> omega) | fail) only [pn, pq]) <;> omega))
      · first | omega | ((try simp (disch := first | ((try simp (disch := first | ((try simp only [pn]) <;> omega) | fail) only [pn, pq]) <;> omega) | fail) only [pn, pq]) <;> (intros; (try simp (disch := first | ((try simp (disch := first | ((try simp only [pn]) <;> omega) | fail) only [pn, pq]) <;> omega) | fail) only [pn, pq]) <;> omega))
      · first | omega | ((try simp (disch := first | ((try simp (disch := first | ((try simp only [pn]) <;> omega) | fail) only [pn, pq]) <;> omega) | fail) only [pn, pq]) <;> (intros; (try simp (disch := first | ((try simp (disch := first | ((try simp only [pn]) <;> omega) | fail) only [pn, pq]) <;> omega) | fail) only [pn, pq]) <;> omega))
      · first | omega | ((try simp (disch := first | ((try simp (disch := first | ((try simp only [pn]) <;> omega) | fail) only [pn, pq]) <;> omega) | fail) only [pn, pq]) <;> (intros; (try simp (disch := first | ((try simp (disch := first | ((try simp only [pn]) <;> omega) | fail) only [pn, pq]) <;> omega) | fail) only [pn, pq]) <;> omega))
    · skip
      refine ⟨vin1, ?_⟩
      refine ⟨vin2, ?_⟩
      refine sf_X8_level hJSq1.1 (fun r132  => ?_)
      have rgr132 := pt_rg r132
      refine ⟨vin1, ?_⟩
      refine ⟨vin2, ?_⟩
      refine sf_X9_level hJSq1.2 (fun r134 u135 hJu135 hfu135  => ?_)
      have je490 : ((b9g_hasImage u135)).toInt = ((b9g_hasImage Sq1.2)).toInt := congrArg (fun z => (z).toInt) hfu135.2.2.2.2.2.2.2.2.2.2.2.2.2.2.2.2.2.2.2.2.2.2.1
      have je492 : ((b9g_now u135) 10).toInt = ((b9g_now Sq1.2) 10).toInt := congrArg (fun z => (z 10).toInt) hfu135.1
      have je494 : ((b9g_images u135) 10).toInt = ((b9g_images Sq1.2) 10).toInt := congrArg (fun z => (z 10).toInt) hfu135.2.2.2.2.2.2.2.2.2.2.2.2.2.2.2.2.2.2.2.2.2.2.2.1
      have rgr134 := pt_rg r134
      intro S136 eS136
      have hGS136 : F_L_law S S136 := trivial
      have hJS136 : J8 S136.1 ∧ J9 S136.2 := by rw [eS136]; exact ⟨hJSq1.1, hJu135⟩
      have hFS136 : F_L_law S S136 := hGS136
      have je495 : ((b8g_isKept S136.1)).toInt = ((b8g_isKept Sq1.1)).toInt := by rw [eS136]
      have je496 : ((b9g_hasImage S136.2)).toInt = ((b9g_hasImage u135)).toInt := by rw [eS136]
      try simp (disch := first | ((try simp (disch := first | ((try simp only [pn]) <;> omega) | fail) only [pn, pq]) <;> omega) | fail) only [pn, pq] at je496
      have je497 : ((b0g_count (b2g_questions (b8g_now S136.1)))).toInt = ((b0g_count (b2g_questions (b8g_now Sq1.1)))).toInt := by rw [eS136]
      have jf498 := J0g_count (J2g_questions (J8g_now hJS136.1))
      have je499 : ((b0g_count (b2g_questions (b8g_kept S136.1)))).toInt = ((b0g_count (b2g_questions (b8g_kept Sq1.1)))).toInt := by rw [eS136]
      have jf500 := J0g_count (J2g_questions (J8g_kept hJS136.1))
      have je501 : ((b9g_now S136.2) 10).toInt = ((b9g_now u135) 10).toInt := by rw [eS136]
      try simp (disch := first | ((try simp (disch := first | ((try simp only [pn]) <;> omega) | fail) only [pn, pq]) <;> omega) | fail) only [pn, pq] at je501
      have je502 : ((b9g_images S136.2) 10).toInt = ((b9g_images u135) 10).toInt := by rw [eS136]
      try simp (disch := first | ((try simp (disch := first | ((try simp only [pn]) <;> omega) | fail) only [pn, pq]) <;> omega) | fail) only [pn, pq] at je502
      unfold wp_L_law_1745
      refine ⟨_, ?_, ?_, ?_, ?_, ?_, ?_, ?_, ?_, ?_, ?_, rfl⟩
      · first | omega | ((try simp (disch := first | ((try simp (disch := first | ((try simp only [pn]) <;> omega) | fail) only [pn, pq]) <;> omega) | fail) only [pn, pq]) <;> (intros; (try simp (disch := first | ((try simp (disch := first | ((try simp only [pn]) <;> omega) | fail) only [pn, pq]) <;> omega) | fail) only [pn, pq]) <;> omega))
      · exact hJS136
      · exact hFS136
      · first | omega | ((try simp (disch := first | ((try simp (disch := first | ((try simp only [pn]) <;> omega) | fail) only [pn, pq]) <;> omega) | fail) only [pn, pq]) <;> (intros; (try simp (disch := first | ((try simp (disch := first | ((try simp only [pn]) <;> omega) | fail) only [pn, pq]) <;> omega) | fail) only [pn, pq]) <;> omega))
      · first | omega | ((try simp (disch := first | ((try simp (disch := first | ((try simp only [pn]) <;> omega) | fail) only [pn, pq]) <;> omega) | fail) only [pn, pq]) <;> (intros; (try simp (disch := first | ((try simp (disch := first | ((try simp only [pn]) <;> omega) | fail) only [pn, pq]) <;> omega) | fail) only [pn, pq]) <;> omega))
      · first | omega | ((try simp (disch := first | ((try simp (disch := first | ((try simp only [pn]) <;> omega) | fail) only [pn, pq]) <;> omega) | fail) only [pn, pq]) <;> (intros; (try simp (disch := first | ((try simp (disch := first | ((try simp only [pn]) <;> omega) | fail) only [pn, pq]) <;> omega) | fail) only [pn, pq]) <;> omega))
      · first | omega | ((try simp (disch := first | ((try simp (disch := first | ((try simp only [pn]) <;> omega) | fail) only [pn, pq]) <;> omega) | fail) only [pn, pq]) <;> (intros; (try simp (disch := first | ((try simp (disch := first | ((try simp only [pn]) <;> omega) | fail) only [pn, pq]) <;> omega) | fail) only [pn, pq]) <;> omega))
      · first | omega | ((try simp (disch := first | ((try simp (disch := first | ((try simp only [pn]) <;> omega) | fail) only [pn, pq]) <;> omega) | fail) only [pn, pq]) <;> (intros; (try simp (disch := first | ((try simp (disch := first | ((try simp only [pn]) <;> omega) | fail) only [pn, pq]) <;> omega) | fail) only [pn, pq]) <;> omega))
      · first | omega | ((try simp (disch := first | ((try simp (disch := first | ((try simp only [pn]) <;> omega) | fail) only [pn, pq]) <;> omega) | fail) only [pn, pq]) <;> (intros; (try simp (disch := first | ((try simp (disch := first | ((try simp only [pn]) <;> omega) | fail) only [pn, pq]) <;> omega) | fail) only [pn, pq]) <;> omega))
      · first | omega | ((try simp (disch := first | ((try simp (disch := first | ((try simp only [pn]) <;> omega) | fail) only [pn, pq]) <;> omega) | fail) only [pn, pq]) <;> (intros; (try simp (disch := first | ((try simp (disch := first | ((try simp only [pn]) <;> omega) | fail) only [pn, pq]) <;> omega) | fail) only [pn, pq]) <;> omega))
    · skip
      refine ⟨vin1, ?_⟩
      refine ⟨vin2, ?_⟩
      refine sf_X8_item hJSq1.1 (fun r137  => ?_)
      have rgr137 := pt_rg r137
      refine ⟨vin1, ?_⟩
      refine ⟨vin2, ?_⟩
      refine sf_X9_item hJSq1.2 (fun r139 u140 hJu140 hfu140  => ?_)
      have je504 : ((b9g_hasImage u140)).toInt = ((b9g_hasImage Sq1.2)).toInt := congrArg (fun z => (z).toInt) hfu140.2.2.2.2.2.2.2.2.2.2.2.2.2.2.2.2.2.2.2.2.2.2.1
      have je506 : ((b9g_now u140) 10).toInt = ((b9g_now Sq1.2) 10).toInt := congrArg (fun z => (z 10).toInt) hfu140.1
      have je508 : ((b9g_images u140) 10).toInt = ((b9g_images Sq1.2) 10).toInt := congrArg (fun z => (z 10).toInt) hfu140.2.2.2.2.2.2.2.2.2.2.2.2.2.2.2.2.2.2.2.2.2.2.2.1
      have rgr139 := pt_rg r139
      intro S141 eS141
      have hGS141 : F_L_law S S141 := trivial
      have hJS141 : J8 S141.1 ∧ J9 S141.2 := by rw [eS141]; exact ⟨hJSq1.1, hJu140⟩
      have hFS141 : F_L_law S S141 := hGS141
      have je509 : ((b8g_isKept S141.1)).toInt = ((b8g_isKept Sq1.1)).toInt := by rw [eS141]
      have je510 : ((b9g_hasImage S141.2)).toInt = ((b9g_hasImage u140)).toInt := by rw [eS141]
      try simp (disch := first | ((try simp (disch := first | ((try simp only [pn]) <;> omega) | fail) only [pn, pq]) <;> omega) | fail) only [pn, pq] at je510
      have je511 : ((b0g_count (b2g_questions (b8g_now S141.1)))).toInt = ((b0g_count (b2g_questions (b8g_now Sq1.1)))).toInt := by rw [eS141]
      have jf512 := J0g_count (J2g_questions (J8g_now hJS141.1))
      have je513 : ((b0g_count (b2g_questions (b8g_kept S141.1)))).toInt = ((b0g_count (b2g_questions (b8g_kept Sq1.1)))).toInt := by rw [eS141]
      have jf514 := J0g_count (J2g_questions (J8g_kept hJS141.1))
      have je515 : ((b9g_now S141.2) 10).toInt = ((b9g_now u140) 10).toInt := by rw [eS141]
      try simp (disch := first | ((try simp (disch := first | ((try simp only [pn]) <;> omega) | fail) only [pn, pq]) <;> omega) | fail) only [pn, pq] at je515
      have je516 : ((b9g_images S141.2) 10).toInt = ((b9g_images u140) 10).toInt := by rw [eS141]
      try simp (disch := first | ((try simp (disch := first | ((try simp only [pn]) <;> omega) | fail) only [pn, pq]) <;> omega) | fail) only [pn, pq] at je516
      unfold wp_L_law_1745
      refine ⟨_, ?_, ?_, ?_, ?_, ?_, ?_, ?_, ?_, ?_, ?_, rfl⟩
      · first | omega | ((try simp (disch := first | ((try simp (disch := first | ((try simp only [pn]) <;> omega) | fail) only [pn, pq]) <;> omega) | fail) only [pn, pq]) <;> (intros; (try simp (disch := first | ((try simp (disch := first | ((try simp only [pn]) <;> omega) | fail) only [pn, pq]) <;> omega) | fail) only [pn, pq]) <;> omega))
      · exact hJS141
      · exact hFS141
      · first | omega | ((try simp (disch := first | ((try simp (disch := first | ((try simp only [pn]) <;> omega) | fail) only [pn, pq]) <;> omega) | fail) only [pn, pq]) <;> (intros; (try simp (disch := first | ((try simp (disch := first | ((try simp only [pn]) <;> omega) | fail) only [pn, pq]) <;> omega) | fail) only [pn, pq]) <;> omega))
      · first | omega | ((try simp (disch := first | ((try simp (disch := first | ((try simp only [pn]) <;> omega) | fail) only [pn, pq]) <;> omega) | fail) only [pn, pq]) <;> (intros; (try simp (disch := first | ((try simp (disch := first | ((try simp only [pn]) <;> omega) | fail) only [pn, pq]) <;> omega) | fail) only [pn, pq]) <;> omega))
      · first | omega | ((try simp (disch := first | ((try simp (disch := first | ((try simp only [pn]) <;> omega) | fail) only [pn, pq]) <;> omega) | fail) only [pn, pq]) <;> (intros; (try simp (disch := first | ((try simp (disch := first | ((try simp only [pn]) <;> omega) | fail) only [pn, pq]) <;> omega) | fail) only [pn, pq]) <;> omega))
      · first | omega | ((try simp (disch := first | ((try simp (disch := first | ((try simp only [pn]) <;> omega) | fail) only [pn, pq]) <;> omega) | fail) only [pn, pq]) <;> (intros; (try simp (disch := first | ((try simp (disch := first | ((try simp only [pn]) <;> omega) | fail) only [pn, pq]) <;> omega) | fail) only [pn, pq]) <;> omega))
      · first | omega | ((try simp (disch := first | ((try simp (disch := first | ((try simp only [pn]) <;> omega) | fail) only [pn, pq]) <;> omega) | fail) only [pn, pq]) <;> (intros; (try simp (disch := first | ((try simp (disch := first | ((try simp only [pn]) <;> omega) | fail) only [pn, pq]) <;> omega) | fail) only [pn, pq]) <;> omega))
      · first | omega | ((try simp (disch := first | ((try simp (disch := first | ((try simp only [pn]) <;> omega) | fail) only [pn, pq]) <;> omega) | fail) only [pn, pq]) <;> (intros; (try simp (disch := first | ((try simp (disch := first | ((try simp only [pn]) <;> omega) | fail) only [pn, pq]) <;> omega) | fail) only [pn, pq]) <;> omega))
      · first | omega | ((try simp (disch := first | ((try simp (disch := first | ((try simp only [pn]) <;> omega) | fail) only [pn, pq]) <;> omega) | fail) only [pn, pq]) <;> (intros; (try simp (disch := first | ((try simp (disch := first | ((try simp only [pn]) <;> omega) | fail) only [pn, pq]) <;> omega) | fail) only [pn, pq]) <;> omega))
    · skip
      refine ⟨vin1, ?_⟩
      refine sf_X8_bit hJSq1.1 (fun r142  => ?_)
      have rgr142 := pt_rg r142
      refine ⟨vin1, ?_⟩
      refine sf_X9_bit hJSq1.2 (fun r144 u145 hJu145 hfu145  => ?_)
      have je518 : ((b9g_hasImage u145)).toInt = ((b9g_hasImage Sq1.2)).toInt := congrArg (fun z => (z).toInt) hfu145.2.2.2.2.2.2.2.2.2.2.2.2.2.2.2.2.2.2.2.1
      have je520 : ((b9g_now u145) 10).toInt = ((b9g_now Sq1.2) 10).toInt := congrArg (fun z => (z 10).toInt) hfu145.1
      have je522 : ((b9g_images u145) 10).toInt = ((b9g_images Sq1.2) 10).toInt := congrArg (fun z => (z 10).toInt) hfu145.2.2.2.2.2.2.2.2.2.2.2.2.2.2.2.2.2.2.2.2.1
      have rgr144 := pt_rg r144
      intro S146 eS146
      have hGS146 : F_L_law S S146 := trivial
      have hJS146 : J8 S146.1 ∧ J9 S146.2 := by rw [eS146]; exact ⟨hJSq1.1, hJu145⟩
      have hFS146 : F_L_law S S146 := hGS146
      have je523 : ((b8g_isKept S146.1)).toInt = ((b8g_isKept Sq1.1)).toInt := by rw [eS146]
      have je524 : ((b9g_hasImage S146.2)).toInt = ((b9g_hasImage u145)).toInt := by rw [eS146]
      try simp (disch := first | ((try simp (disch := first | ((try simp only [pn]) <;> omega) | fail) only [pn, pq]) <;> omega) | fail) only [pn, pq] at je524
      have je525 : ((b0g_count (b2g_questions (b8g_now S146.1)))).toInt = ((b0g_count (b2g_questions (b8g_now Sq1.1)))).toInt := by rw [eS146]
      have jf526 := J0g_count (J2g_questions (J8g_now hJS146.1))
      have je527 : ((b0g_count (b2g_questions (b8g_kept S146.1)))).toInt = ((b0g_count (b2g_questions (b8g_kept Sq1.1)))).toInt := by rw [eS146]
      have jf528 := J0g_count (J2g_questions (J8g_kept hJS146.1))
      have je529 : ((b9g_now S146.2) 10).toInt = ((b9g_now u145) 10).toInt := by rw [eS146]
      try simp (disch := first | ((try simp (disch := first | ((try simp only [pn]) <;> omega) | fail) only [pn, pq]) <;> omega) | fail) only [pn, pq] at je529
      have je530 : ((b9g_images S146.2) 10).toInt = ((b9g_images u145) 10).toInt := by rw [eS146]
      try simp (disch := first | ((try simp (disch := first | ((try simp only [pn]) <;> omega) | fail) only [pn, pq]) <;> omega) | fail) only [pn, pq] at je530
      unfold wp_L_law_1745
      refine ⟨_, ?_, ?_, ?_, ?_, ?_, ?_, ?_, ?_, ?_, ?_, rfl⟩
      · first | omega | ((try simp (disch := first | ((try simp (disch := first | ((try simp only [pn]) <;> omega) | fail) only [pn, pq]) <;> omega) | fail) only [pn, pq]) <;> (intros; (try simp (disch := first | ((try simp (disch := first | ((try simp only [pn]) <;> omega) | fail) only [pn, pq]) <;> omega) | fail) only [pn, pq]) <;> omega))
      · exact hJS146
      · exact hFS146
      · first | omega | ((try simp (disch := first | ((try simp (disch := first | ((try simp only [pn]) <;> omega) | fail) only [pn, pq]) <;> omega) | fail) only [pn, pq]) <;> (intros; (try simp (disch := first | ((try simp (disch := first | ((try simp only [pn]) <;> omega) | fail) only [pn, pq]) <;> omega) | fail) only [pn, pq]) <;> omega))
      · first | omega | ((try simp (disch := first | ((try simp (disch := first | ((try simp only [pn]) <;> omega) | fail) only [pn, pq]) <;> omega) | fail) only [pn, pq]) <;> (intros; (try simp (disch := first | ((try simp (disch := first | ((try simp only [pn]) <;> omega) | fail) only [pn, pq]) <;> omega) | fail) only [pn, pq]) <;> omega))
      · first | omega | ((try simp (disch := first | ((try simp (disch := first | ((try simp only [pn]) <;> omega) | fail) only [pn, pq]) <;> omega) | fail) only [pn, pq]) <;> (intros; (try simp (disch := first | ((try simp (disch := first | ((try simp only [pn]) <;> omega) | fail) only [pn, pq]) <;> omega) | fail) only [pn, pq]) <;> omega))
      · first | omega | ((try simp (disch := first | ((try simp (disch := first | ((try simp only [pn]) <;> omega) | fail) only [pn, pq]) <;> omega) | fail) only [pn, pq]) <;> (intros; (try simp (disch := first | ((try simp (disch := first | ((try simp only [pn]) <;> omega) | fail) only [pn, pq]) <;> omega) | fail) only [pn, pq]) <;> omega))
      · first | omega | ((try simp (disch := first | ((try simp (disch := first | ((try simp only [pn]) <;> omega) | fail) only [pn, pq]) <;> omega) | fail) only [pn, pq]) <;> (intros; (try simp (disch := first | ((try simp (disch := first | ((try simp only [pn]) <;> omega) | fail) only [pn, pq]) <;> omega) | fail) only [pn, pq]) <;> omega))
      · first | omega | ((try simp (disch := first | ((try simp (disch := first | ((try simp only [pn]) <;> omega) | fail) only [pn, pq]) <;> omega) | fail) only [pn, pq]) <;> (intros; (try simp (disch := first | ((try simp (disch := first | ((try simp only [pn]) <;> omega) | fail) only [pn, pq]) <;> omega) | fail) only [pn, pq]) <;> omega))
      · first | omega | ((try simp (disch := first | ((try simp (disch := first | ((try simp only [pn]) <;> omega) | fail) only [pn, pq]) <;> omega) | fail) only [pn, pq]) <;> (intros; (try simp (disch := first | ((try simp (disch := first | ((try simp only [pn]) <;> omega) | fail) only [pn, pq]) <;> omega) | fail) only [pn, pq]) <;> omega))
    · skip
      refine ⟨vin1, ?_⟩
      refine sf_X8_rank hJSq1.1 (fun r147  => ?_)
      have rgr147 := pt_rg r147
      refine ⟨vin1, ?_⟩
      refine sf_X9_rank hJSq1.2 (fun r149 u150 hJu150 hfu150  => ?_)
      have je532 : ((b9g_hasImage u150)).toInt = ((b9g_hasImage Sq1.2)).toInt := congrArg (fun z => (z).toInt) hfu150.2.2.2.2.2.2.2.2.2.2.2.2.2.2.2.2.2.2.2.1
      have je534 : ((b9g_now u150) 10).toInt = ((b9g_now Sq1.2) 10).toInt := congrArg (fun z => (z 10).toInt) hfu150.1
      have je536 : ((b9g_images u150) 10).toInt = ((b9g_images Sq1.2) 10).toInt := congrArg (fun z => (z 10).toInt) hfu150.2.2.2.2.2.2.2.2.2.2.2.2.2.2.2.2.2.2.2.2.1
      have rgr149 := pt_rg r149
      intro S151 eS151
      have hGS151 : F_L_law S S151 := trivial
      have hJS151 : J8 S151.1 ∧ J9 S151.2 := by rw [eS151]; exact ⟨hJSq1.1, hJu150⟩
      have hFS151 : F_L_law S S151 := hGS151
      have je537 : ((b8g_isKept S151.1)).toInt = ((b8g_isKept Sq1.1)).toInt := by rw [eS151]
      have je538 : ((b9g_hasImage S151.2)).toInt = ((b9g_hasImage u150)).toInt := by rw [eS151]
      try simp (disch := first | ((try simp (disch := first | ((try simp only [pn]) <;> omega) | fail) only [pn, pq]) <;> omega) | fail) only [pn, pq] at je538
      have je539 : ((b0g_count (b2g_questions (b8g_now S151.1)))).toInt = ((b0g_count (b2g_questions (b8g_now Sq1.1)))).toInt := by rw [eS151]
      have jf540 := J0g_count (J2g_questions (J8g_now hJS151.1))
      have je541 : ((b0g_count (b2g_questions (b8g_kept S151.1)))).toInt = ((b0g_count (b2g_questions (b8g_kept Sq1.1)))).toInt := by rw [eS151]
      have jf542 := J0g_count (J2g_questions (J8g_kept hJS151.1))
      have je543 : ((b9g_now S151.2) 10).toInt = ((b9g_now u150) 10).toInt := by rw [eS151]
      try simp (disch := first | ((try simp (disch := first | ((try simp only [pn]) <;> omega) | fail) only [pn, pq]) <;> omega) | fail) only [pn, pq] at je543
      have je544 : ((b9g_images S151.2) 10).toInt = ((b9g_images u150) 10).toInt := by rw [eS151]
      try simp (disch := first | ((try simp (disch := first | ((try simp only [pn]) <;> omega) | fail) only [pn, pq]) <;> omega) | fail) only [pn, pq] at je544
      unfold wp_L_law_1745
      refine ⟨_, ?_, ?_, ?_, ?_, ?_, ?_, ?_, ?_, ?_, ?_, rfl⟩
      · first | omega | ((try simp (disch := first | ((try simp (disch := first | ((try simp only [pn]) <;> omega) | fail) only [pn, pq]) <;> omega) | fail) only [pn, pq]) <;> (intros; (try simp (disch := first | ((try simp (disch := first | ((try simp only [pn]) <;> omega) | fail) only [pn, pq]) <;> omega) | fail) only [pn, pq]) <;> omega))
      · exact hJS151
      · exact hFS151
      · first | omega | ((try simp (disch := first | ((try simp (disch := first | ((try simp only [pn]) <;> omega) | fail) only [pn, pq]) <;> omega) | fail) only [pn, pq]) <;> (intros; (try simp (disch := first | ((try simp (disch := first | ((try simp only [pn]) <;> omega) | fail) only [pn, pq]) <;> omega) | fail) only [pn, pq]) <;> omega))
      · first | omega | ((try simp (disch := first | ((try simp (disch := first | ((try simp only [pn]) <;> omega) | fail) only [pn, pq]) <;> omega) | fail) only [pn, pq]) <;> (intros; (try simp (disch := first | ((try simp (disch := first | ((try simp only [pn]) <;> omega) | fail) only [pn, pq]) <;> omega) | fail) only [pn, pq]) <;> omega))
      · first | omega | ((try simp (disch := first | ((try simp (disch := first | ((try simp only [pn]) <;> omega) | fail) only [pn, pq]) <;> omega) | fail) only [pn, pq]) <;> (intros; (try simp (disch := first | ((try simp (disch := first | ((try simp only [pn]) <;> omega) | fail) only [pn, pq]) <;> omega) | fail) only [pn, pq]) <;> omega))
      · first | omega | ((try simp (disch := first | ((try simp (disch := first | ((try simp only [pn]) <;> omega) | fail) only [pn, pq]) <;> omega) | fail) only [pn, pq]) <;> (intros; (try simp (disch := first | ((try simp (disch := first | ((try simp only [pn]) <;> omega) | fail) only [pn, pq]) <;> omega) | fail) only [pn, pq]) <;> omega))
      · first | omega | ((try simp (disch := first | ((try simp (disch := first | ((try simp only [pn]) <;> omega) | fail) only [pn, pq]) <;> omega) | fail) only [pn, pq]) <;> (intros; (try simp (disch := first | ((try simp (disch := first | ((try simp only [pn]) <;> omega) | fail) only [pn, pq]) <;> omega) | fail) only [pn, pq]) <;> omega))
      · first | omega | ((try simp (disch := first | ((try simp (disch := first | ((try simp only [pn]) <;> omega) | fail) only [pn, pq]) <;> omega) | fail) only [pn, pq]) <;> (intros; (try simp (disch := first | ((try simp (disch := first | ((try simp only [pn]) <;> omega) | fail) only [pn, pq]) <;> omega) | fail) only [pn, pq]) <;> omega))
      · first | omega | ((try simp (disch := first | ((try simp (disch := first | ((try simp only [pn]) <;> omega) | fail) only [pn, pq]) <;> omega) | fail) only [pn, pq]) <;> (intros; (try simp (disch := first | ((try simp (disch := first | ((try simp only [pn]) <;> omega) | fail) only [pn, pq]) <;> omega) | fail) only [pn, pq]) <;> omega))
    · skip
      refine ⟨vin1, ?_⟩
      refine sf_X8_select hJSq1.1 (fun r152  => ?_)
      have rgr152 := pt_rg r152
      refine ⟨vin1, ?_⟩
      refine sf_X9_select hJSq1.2 (fun r154 u155 hJu155 hfu155  => ?_)
      have je546 : ((b9g_hasImage u155)).toInt = ((b9g_hasImage Sq1.2)).toInt := congrArg (fun z => (z).toInt) hfu155.2.2.2.2.2.2.2.2.2.2.2.2.2.2.2.2.2.2.2.1
      have je548 : ((b9g_now u155) 10).toInt = ((b9g_now Sq1.2) 10).toInt := congrArg (fun z => (z 10).toInt) hfu155.1
      have je550 : ((b9g_images u155) 10).toInt = ((b9g_images Sq1.2) 10).toInt := congrArg (fun z => (z 10).toInt) hfu155.2.2.2.2.2.2.2.2.2.2.2.2.2.2.2.2.2.2.2.2.1
      have rgr154 := pt_rg r154
      intro S156 eS156
      have hGS156 : F_L_law S S156 := trivial
      have hJS156 : J8 S156.1 ∧ J9 S156.2 := by rw [eS156]; exact ⟨hJSq1.1, hJu155⟩
      have hFS156 : F_L_law S S156 := hGS156
      have je551 : ((b8g_isKept S156.1)).toInt = ((b8g_isKept Sq1.1)).toInt := by rw [eS156]
      have je552 : ((b9g_hasImage S156.2)).toInt = ((b9g_hasImage u155)).toInt := by rw [eS156]
      try simp (disch := first | ((try simp (disch := first | ((try simp only [pn]) <;> omega) | fail) only [pn, pq]) <;> omega) | fail) only [pn, pq] at je552
      have je553 : ((b0g_count (b2g_questions (b8g_now S156.1)))).toInt = ((b0g_count (b2g_questions (b8g_now Sq1.1)))).toInt := by rw [eS156]
      have jf554 := J0g_count (J2g_questions (J8g_now hJS156.1))
      have je555 : ((b0g_count (b2g_questions (b8g_kept S156.1)))).toInt = ((b0g_count (b2g_questions (b8g_kept Sq1.1)))).toInt := by rw [eS156]
      have jf556 := J0g_count (J2g_questions (J8g_kept hJS156.1))
      have je557 : ((b9g_now S156.2) 10).toInt = ((b9g_now u155) 10).toInt := by rw [eS156]
      try simp (disch := first | ((try simp (disch := first | ((try simp only [pn]) <;> omega) | fail) only [pn, pq]) <;> omega) | fail) only [pn, pq] at je557
      have je558 : ((b9g_images S156.2) 10).toInt = ((b9g_images u155) 10).toInt := by rw [eS156]
      try simp (disch := first | ((try simp (disch := first | ((try simp only [pn]) <;> omega) | fail) only [pn, pq]) <;> omega) | fail) only [pn, pq] at je558
      unfold wp_L_law_1745
      refine ⟨_, ?_, ?_, ?_, ?_, ?_, ?_, ?_, ?_, ?_, ?_, rfl⟩
      · first | omega | ((try simp (disch := first | ((try simp (disch := first | ((try simp only [pn]) <;> omega) | fail) only [pn, pq]) <;> omega) | fail) only [pn, pq]) <;> (intros; (try simp (disch := first | ((try simp (disch := first | ((try simp only [pn]) <;> omega) | fail) only [pn, pq]) <;> omega) | fail) only [pn, pq]) <;> omega))
      · exact hJS156
      · exact hFS156
      · first | omega | ((try simp (disch := first | ((try simp (disch := first | ((try simp only [pn]) <;> omega) | fail) only [pn, pq]) <;> omega) | fail) only [pn, pq]) <;> (intros; (try simp (disch := first | ((try simp (disch := first | ((try simp only [pn]) <;> omega) | fail) only [pn, pq]) <;> omega) | fail) only [pn, pq]) <;> omega))
      · first | omega | ((try simp (disch := first | ((try simp (disch := first | ((try simp only [pn]) <;> omega) | fail) only [pn, pq]) <;> omega) | fail) only [pn, pq]) <;> (intros; (try simp (disch := first | ((try simp (disch := first | ((try simp only [pn]) <;> omega) | fail) only [pn, pq]) <;> omega) | fail) only [pn, pq]) <;> omega))
      · first | omega | ((try simp (disch := first | ((try simp (disch := first | ((try simp only [pn]) <;> omega) | fail) only [pn, pq]) <;> omega) | fail) only [pn, pq]) <;> (intros; (try simp (disch := first | ((try simp (disch := first | ((try simp only [pn]) <;> omega) | fail) only [pn, pq]) <;> omega) | fail) only [pn, pq]) <;> omega))
      · first | omega | ((try simp (disch := first | ((try simp (disch := first | ((try simp only [pn]) <;> omega) | fail) only [pn, pq]) <;> omega) | fail) only [pn, pq]) <;> (intros; (try simp (disch := first | ((try simp (disch := first | ((try simp only [pn]) <;> omega) | fail) only [pn, pq]) <;> omega) | fail) only [pn, pq]) <;> omega))
      · first | omega | ((try simp (disch := first | ((try simp (disch := first | ((try simp only [pn]) <;> omega) | fail) only [pn, pq]) <;> omega) | fail) only [pn, pq]) <;> (intros; (try simp (disch := first | ((try simp (disch := first | ((try simp only [pn]) <;> omega) | fail) only [pn, pq]) <;> omega) | fail) only [pn, pq]) <;> omega))
      · first | omega | ((try simp (disch := first | ((try simp (disch := first | ((try simp only [pn]) <;> omega) | fail) only [pn, pq]) <;> omega) | fail) only [pn, pq]) <;> (intros; (try simp (disch := first | ((try simp (disch := first | ((try simp only [pn]) <;> omega) | fail) only [pn, pq]) <;> omega) | fail) only [pn, pq]) <;> omega))
      · first | omega | ((try simp (disch := first | ((try simp (disch := first | ((try simp only [pn]) <;> omega) | fail) only [pn, pq]) <;> omega) | fail) only [pn, pq]) <;> (intros; (try simp (disch := first | ((try simp (disch := first | ((try simp only [pn]) <;> omega) | fail) only [pn, pq]) <;> omega) | fail) only [pn, pq]) <;> omega))
    · skip
      refine ⟨vin1, ?_⟩
      refine sf_X8_bits hJSq1.1 (fun r157  => ?_)
      have rgr157 := pt_rg r157
      refine ⟨vin1, ?_⟩
      refine sf_X9_bits hJSq1.2 (fun r159 u160 hJu160 hfu160  => ?_)
      have je560 : ((b9g_hasImage u160)).toInt = ((b9g_hasImage Sq1.2)).toInt := congrArg (fun z => (z).toInt) hfu160.2.2.2.2.2.2.2.2.2.2.2.2.2.2.2.2.2.2.2.1
      have je562 : ((b9g_now u160) 10).toInt = ((b9g_now Sq1.2) 10).toInt := congrArg (fun z => (z 10).toInt) hfu160.1
      have je564 : ((b9g_images u160) 10).toInt = ((b9g_images Sq1.2) 10).toInt := congrArg (fun z => (z 10).toInt) hfu160.2.2.2.2.2.2.2.2.2.2.2.2.2.2.2.2.2.2.2.2.1
      have rgr159 := pt_rg r159
      intro S161 eS161
      have hGS161 : F_L_law S S161 := trivial
      have hJS161 : J8 S161.1 ∧ J9 S161.2 := by rw [eS161]; exact ⟨hJSq1.1, hJu160⟩
      have hFS161 : F_L_law S S161 := hGS161
      have je565 : ((b8g_isKept S161.1)).toInt = ((b8g_isKept Sq1.1)).toInt := by rw [eS161]
      have je566 : ((b9g_hasImage S161.2)).toInt = ((b9g_hasImage u160)).toInt := by rw [eS161]
      try simp (disch := first | ((try simp (disch := first | ((try simp only [pn]) <;> omega) | fail) only [pn, pq]) <;> omega) | fail) only [pn, pq] at je566
      have je567 : ((b0g_count (b2g_questions (b8g_now S161.1)))).toInt = ((b0g_count (b2g_questions (b8g_now Sq1.1)))).toInt := by rw [eS161]
      have jf568 := J0g_count (J2g_questions (J8g_now hJS161.1))
      have je569 : ((b0g_count (b2g_questions (b8g_kept S161.1)))).toInt = ((b0g_count (b2g_questions (b8g_kept Sq1.1)))).toInt := by rw [eS161]
      have jf570 := J0g_count (J2g_questions (J8g_kept hJS161.1))
      have je571 : ((b9g_now S161.2) 10).toInt = ((b9g_now u160) 10).toInt := by rw [eS161]
      try simp (disch := first | ((try simp (disch := first | ((try simp only [pn]) <;> omega) | fail) only [pn, pq]) <;> omega) | fail) only [pn, pq] at je571
      have je572 : ((b9g_images S161.2) 10).toInt = ((b9g_images u160) 10).toInt := by rw [eS161]
      try simp (disch := first | ((try simp (disch := first | ((try simp only [pn]) <;> omega) | fail) only [pn, pq]) <;> omega) | fail) only [pn, pq] at je572
      unfold wp_L_law_1745
      refine ⟨_, ?_, ?_, ?_, ?_, ?_, ?_, ?_, ?_, ?_, ?_, rfl⟩
      · first | omega | ((try simp (disch := first | ((try simp (disch := first | ((try simp only [pn]) <;> omega) | fail) only [pn, pq]) <;> omega) | fail) only [pn, pq]) <;> (intros; (try simp (disch := first | ((try simp (disch := first | ((try simp only [pn]) <;> omega) | fail) only [pn, pq]) <;> omega) | fail) only [pn, pq]) <;> omega))
      · exact hJS161
      · exact hFS161
      · first | omega | ((try simp (disch := first | ((try simp (disch := first | ((try simp only [pn]) <;> omega) | fail) only [pn, pq]) <;> omega) | fail) only [pn, pq]) <;> (intros; (try simp (disch := first | ((try simp (disch := first | ((try simp only [pn]) <;> omega) | fail) only [pn, pq]) <;> omega) | fail) only [pn, pq]) <;> omega))
      · first | omega | ((try simp (disch := first | ((try simp (disch := first | ((try simp only [pn]) <;> omega) | fail) only [pn, pq]) <;> omega) | fail) only [pn, pq]) <;> (intros; (try simp (disch := first | ((try simp (disch := first | ((try simp only [pn]) <;> omega) | fail) only [pn, pq]) <;> omega) | fail) only [pn, pq]) <;> omega))
      · first | omega | ((try simp (disch := first | ((try simp (disch := first | ((try simp only [pn]) <;> omega) | fail) only [pn, pq]) <;> omega) | fail) only [pn, pq]) <;> (intros; (try simp (disch := first | ((try simp (disch := first | ((try simp only [pn]) <;> omega) | fail) only [pn, pq]) <;> omega) | fail) only [pn, pq]) <;> omega))
      · first | omega | ((try simp (disch := first | ((try simp (disch := first | ((try simp only [pn]) <;> omega) | fail) only [pn, pq]) <;> omega) | fail) only [pn, pq]) <;> (intros; (try simp (disch := first | ((try simp (disch := first | ((try simp only [pn]) <;> omega) | fail) only [pn, pq]) <;> omega) | fail) only [pn, pq]) <;> omega))
      · first | omega | ((try simp (disch := first | ((try simp (disch := first | ((try simp only [pn]) <;> omega) | fail) only [pn, pq]) <;> omega) | fail) only [pn, pq]) <;> (intros; (try simp (disch := first | ((try simp (disch := first | ((try simp only [pn]) <;> omega) | fail) only [pn, pq]) <;> omega) | fail) only [pn, pq]) <;> omega))
      · first | omega | ((try simp (disch := first | ((try simp (disch := first | ((try simp only [pn]) <;> omega) | fail) only [pn, pq]) <;> omega) | fail) only [pn, pq]) <;> (intros; (try simp (disch := first | ((try simp (disch := first | ((try simp only [pn]) <;> omega) | fail) only [pn, pq]) <;> omega) | fail) only [pn, pq]) <;> omega))
      · first | omega | ((try simp (disch := first | ((try simp (disch := first | ((try simp only [pn]) <;> omega) | fail) only [pn, pq]) <;> omega) | fail) only [pn, pq]) <;> (intros; (try simp (disch := first | ((try simp (disch := first | ((try simp only [pn]) <;> omega) | fail) only [pn, pq]) <;> omega) | fail) only [pn, pq]) <;> omega))
    · skip
      refine ⟨vin1, ?_⟩
      refine sf_X8_least hJSq1.1 (fun r162  => ?_)
      have rgr162 := pt_rg r162
      refine ⟨vin1, ?_⟩
      refine sf_X9_least hJSq1.2 (fun r164 u165 hJu165 hfu165  => ?_)
      have je574 : ((b9g_hasImage u165)).toInt = ((b9g_hasImage Sq1.2)).toInt := congrArg (fun z => (z).toInt) hfu165.2.2.2.2.2.2.2.2.2.2.2.2.2.2.2.2.2.2.2.2.2.2.1
      have je576 : ((b9g_now u165) 10).toInt = ((b9g_now Sq1.2) 10).toInt := congrArg (fun z => (z 10).toInt) hfu165.1
      have je578 : ((b9g_images u165) 10).toInt = ((b9g_images Sq1.2) 10).toInt := congrArg (fun z => (z 10).toInt) hfu165.2.2.2.2.2.2.2.2.2.2.2.2.2.2.2.2.2.2.2.2.2.2.2.1
      have rgr164 := pt_rg r164
      intro S166 eS166
      have hGS166 : F_L_law S S166 := trivial
      have hJS166 : J8 S166.1 ∧ J9 S166.2 := by rw [eS166]; exact ⟨hJSq1.1, hJu165⟩
      have hFS166 : F_L_law S S166 := hGS166
      have je579 : ((b8g_isKept S166.1)).toInt = ((b8g_isKept Sq1.1)).toInt := by rw [eS166]
      have je580 : ((b9g_hasImage S166.2)).toInt = ((b9g_hasImage u165)).toInt := by rw [eS166]
      try simp (disch := first | ((try simp (disch := first | ((try simp only [pn]) <;> omega) | fail) only [pn, pq]) <;> omega) | fail) only [pn, pq] at je580
      have je581 : ((b0g_count (b2g_questions (b8g_now S166.1)))).toInt = ((b0g_count (b2g_questions (b8g_now Sq1.1)))).toInt := by rw [eS166]
      have jf582 := J0g_count (J2g_questions (J8g_now hJS166.1))
      have je583 : ((b0g_count (b2g_questions (b8g_kept S166.1)))).toInt = ((b0g_count (b2g_questions (b8g_kept Sq1.1)))).toInt := by rw [eS166]
      have jf584 := J0g_count (J2g_questions (J8g_kept hJS166.1))
      have je585 : ((b9g_now S166.2) 10).toInt = ((b9g_now u165) 10).toInt := by rw [eS166]
      try simp (disch := first | ((try simp (disch := first | ((try simp only [pn]) <;> omega) | fail) only [pn, pq]) <;> omega) | fail) only [pn, pq] at je585
      have je586 : ((b9g_images S166.2) 10).toInt = ((b9g_images u165) 10).toInt := by rw [eS166]
      try simp (disch := first | ((try simp (disch := first | ((try simp only [pn]) <;> omega) | fail) only [pn, pq]) <;> omega) | fail) only [pn, pq] at je586
      unfold wp_L_law_1745
      refine ⟨_, ?_, ?_, ?_, ?_, ?_, ?_, ?_, ?_, ?_, ?_, rfl⟩
      · first | omega | ((try simp (disch := first | ((try simp (disch := first | ((try simp only [pn]) <;> omega) | fail) only [pn, pq]) <;> omega) | fail) only [pn, pq]) <;> (intros; (try simp (disch := first | ((try simp (disch := first | ((try simp only [pn]) <;> omega) | fail) only [pn, pq]) <;> omega) | fail) only [pn, pq]) <;> omega))
      · exact hJS166
      · exact hFS166
      · first | omega | ((try simp (disch := first | ((try simp (disch := first | ((try simp only [pn]) <;> omega) | fail) only [pn, pq]) <;> omega) | fail) only [pn, pq]) <;> (intros; (try simp (disch := first | ((try simp (disch := first | ((try simp only [pn]) <;> omega) | fail) only [pn, pq]) <;> omega) | fail) only [pn, pq]) <;> omega))
      · first | omega | ((try simp (disch := first | ((try simp (disch := first | ((try simp only [pn]) <;> omega) | fail) only [pn, pq]) <;> omega) | fail) only [pn, pq]) <;> (intros; (try simp (disch := first | ((try simp (disch := first | ((try simp only [pn]) <;> omega) | fail) only [pn, pq]) <;> omega) | fail) only [pn, pq]) <;> omega))
      · first | omega | ((try simp (disch := first | ((try simp (disch := first | ((try simp only [pn]) <;> omega) | fail) only [pn, pq]) <;> omega) | fail) only [pn, pq]) <;> (intros; (try simp (disch := first | ((try simp (disch := first | ((try simp only [pn]) <;> omega) | fail) only [pn, pq]) <;> omega) | fail) only [pn, pq]) <;> omega))
      · first | omega | ((try simp (disch := first | ((try simp (disch := first | ((try simp only [pn]) <;> omega) | fail) only [pn, pq]) <;> omega) | fail) only [pn, pq]) <;> (intros; (try simp (disch := first | ((try simp (disch := first | ((try simp only [pn]) <;> omega) | fail) only [pn, pq]) <;> omega) | fail) only [pn, pq]) <;> omega))
      · first | omega | ((try simp (disch := first | ((try simp (disch := first | ((try simp only [pn]) <;> omega) | fail) only [pn, pq]) <;> omega) | fail) only [pn, pq]) <;> (intros; (try simp (disch := first | ((try simp (disch := first | ((try simp only [pn]) <;> omega) | fail) only [pn, pq]) <;> omega) | fail) only [pn, pq]) <;> omega))
      · first | omega | ((try simp (disch := first | ((try simp (disch := first | ((try simp only [pn]) <;> omega) | fail) only [pn, pq]) <;> omega) | fail) only [pn, pq]) <;> (intros; (try simp (disch := first | ((try simp (disch := first | ((try simp only [pn]) <;> omega) | fail) only [pn, pq]) <;> omega) | fail) only [pn, pq]) <;> omega))
      · first | omega | ((try simp (disch := first | ((try simp (disch := first | ((try simp only [pn]) <;> omega) | fail) only [pn, pq]) <;> omega) | fail) only [pn, pq]) <;> (intros; (try simp (disch := first | ((try simp (disch := first | ((try simp only [pn]) <;> omega) | fail) only [pn, pq]) <;> omega) | fail) only [pn, pq]) <;> omega))
    · skip
      refine ⟨vin1, ?_⟩
      refine sf_X8_cover hJSq1.1 (fun r167  => ?_)
      refine ⟨vin1, ?_⟩
      refine sf_X9_cover hJSq1.2 (fun r169 u170 hJu170 hfu170  => ?_)
      have je588 : ((b9g_hasImage u170)).toInt = ((b9g_hasImage Sq1.2)).toInt := congrArg (fun z => (z).toInt) hfu170.2.2.2.2.2.2.2.2.2.2.2.2.2.2.2.2.2.2.2.2.2.2.2.2.2.2.2.2.2.2.2.2.2.2.1
      have je590 : ((b9g_now u170) 10).toInt = ((b9g_now Sq1.2) 10).toInt := congrArg (fun z => (z 10).toInt) hfu170.1
      have je592 : ((b9g_images u170) 10).toInt = ((b9g_images Sq1.2) 10).toInt := congrArg (fun z => (z 10).toInt) hfu170.2.2.2.2.2.2.2.2.2.2.2.2.2.2.2.2.2.2.2.2.2.2.2.2.2.2.2.2.2.2.2.2.2.2.2.1
      intro S171 eS171
      have hGS171 : F_L_law S S171 := trivial
      have hJS171 : J8 S171.1 ∧ J9 S171.2 := by rw [eS171]; exact ⟨hJSq1.1, hJu170⟩
      have hFS171 : F_L_law S S171 := hGS171
      have je593 : ((b8g_isKept S171.1)).toInt = ((b8g_isKept Sq1.1)).toInt := by rw [eS171]
      have je594 : ((b9g_hasImage S171.2)).toInt = ((b9g_hasImage u170)).toInt := by rw [eS171]
      try simp (disch := first | ((try simp (disch := first | ((try simp only [pn]) <;> omega) | fail) only [pn, pq]) <;> omega) | fail) only [pn, pq] at je594
      have je595 : ((b0g_count (b2g_questions (b8g_now S171.1)))).toInt = ((b0g_count (b2g_questions (b8g_now Sq1.1)))).toInt := by rw [eS171]
      have jf596 := J0g_count (J2g_questions (J8g_now hJS171.1))
      have je597 : ((b0g_count (b2g_questions (b8g_kept S171.1)))).toInt = ((b0g_count (b2g_questions (b8g_kept Sq1.1)))).toInt := by rw [eS171]
      have jf598 := J0g_count (J2g_questions (J8g_kept hJS171.1))
      have je599 : ((b9g_now S171.2) 10).toInt = ((b9g_now u170) 10).toInt := by rw [eS171]
      try simp (disch := first | ((try simp (disch := first | ((try simp only [pn]) <;> omega) | fail) only [pn, pq]) <;> omega) | fail) only [pn, pq] at je599
      have je600 : ((b9g_images S171.2) 10).toInt = ((b9g_images u170) 10).toInt := by rw [eS171]
      try simp (disch := first | ((try simp (disch := first | ((try simp only [pn]) <;> omega) | fail) only [pn, pq]) <;> omega) | fail) only [pn, pq] at je600
      unfold wp_L_law_1745
      refine ⟨_, ?_, ?_, ?_, ?_, ?_, ?_, ?_, ?_, ?_, ?_, rfl⟩
      · first | omega | ((try simp (disch := first | ((try simp (disch := first | ((try simp only [pn]) <;> omega) | fail) only [pn, pq]) <;> omega) | fail) only [pn, pq]) <;> (intros; (try simp (disch := first | ((try simp (disch := first | ((try simp only [pn]) <;> omega) | fail) only [pn, pq]) <;> omega) | fail) only [pn, pq]) <;> omega))
      · exact hJS171
      · exact hFS171
      · first | omega | ((try simp (disch := first | ((try simp (disch := first | ((try simp only [pn]) <;> omega) | fail) only [pn, pq]) <;> omega) | fail) only [pn, pq]) <;> (intros; (try simp (disch := first | ((try simp (disch := first | ((try simp only [pn]) <;> omega) | fail) only [pn, pq]) <;> omega) | fail) only [pn, pq]) <;> omega))
      · first | omega | ((try simp (disch := first | ((try simp (disch := first | ((try simp only [pn]) <;> omega) | fail) only [pn, pq]) <;> omega) | fail) only [pn, pq]) <;> (intros; (try simp (disch := first | ((try simp (disch := first | ((try simp only [pn]) <;> omega) | fail) only [pn, pq]) <;> omega) | fail) only [pn, pq]) <;> omega))
      · first | omega | ((try simp (disch := first | ((try simp (disch := first | ((try simp only [pn]) <;> omega) | fail) only [pn, pq]) <;> omega) | fail) only [pn, pq]) <;> (intros; (try simp (disch := first | ((try simp (disch := first | ((try simp only [pn]) <;> omega) | fail) only [pn, pq]) <;> omega) | fail) only [pn, pq]) <;> omega))
      · first | omega | ((try simp (disch := first | ((try simp (disch := first | ((try simp only [pn]) <;> omega) | fail) only [pn, pq]) <;> omega) | fail) only [pn, pq]) <;> (intros; (try simp (disch := first | ((try simp (disch := first | ((try simp only [pn]) <;> omega) | fail) only [pn, pq]) <;> omega) | fail) only [pn, pq]) <;> omega))
      · first | omega | ((try simp (disch := first | ((try simp (disch := first | ((try simp only [pn]) <;> omega) | fail) only [pn, pq]) <;> omega) | fail) only [pn, pq]) <;> (intros; (try simp (disch := first | ((try simp (disch := first | ((try simp only [pn]) <;> omega) | fail) only [pn, pq]) <;> omega) | fail) only [pn, pq]) <;> omega))
      · first | omega | ((try simp (disch := first | ((try simp (disch := first | ((try simp only [pn]) <;> omega) | fail) only [pn, pq]) <;> omega) | fail) only [pn, pq]) <;> (intros; (try simp (disch := first | ((try simp (disch := first | ((try simp only [pn]) <;> omega) | fail) only [pn, pq]) <;> omega) | fail) only [pn, pq]) <;> omega))
      · first | omega | ((try simp (disch := first | ((try simp (disch := first | ((try simp only [pn]) <;> omega) | fail) only [pn, pq]) <;> omega) | fail) only [pn, pq]) <;> (intros; (try simp (disch := first | ((try simp (disch := first | ((try simp only [pn]) <;> omega) | fail) only [pn, pq]) <;> omega) | fail) only [pn, pq]) <;> omega))
    · skip
      refine ⟨vin1, ?_⟩
      refine sf_X8_loose hJSq1.1 (fun r172  => ?_)
      refine ⟨vin1, ?_⟩
      refine sf_X9_loose hJSq1.2 (fun r174 u175 hJu175 hfu175  => ?_)
      have je602 : ((b9g_hasImage u175)).toInt = ((b9g_hasImage Sq1.2)).toInt := congrArg (fun z => (z).toInt) hfu175.2.2.2.2.2.2.2.2.2.2.2.2.2.2.2.2.2.2.2.2.2.2.2.2.2.2.2.2.2.2.2.2.2.2.1
      have je604 : ((b9g_now u175) 10).toInt = ((b9g_now Sq1.2) 10).toInt := congrArg (fun z => (z 10).toInt) hfu175.1
      have je606 : ((b9g_images u175) 10).toInt = ((b9g_images Sq1.2) 10).toInt := congrArg (fun z => (z 10).toInt) hfu175.2.2.2.2.2.2.2.2.2.2.2.2.2.2.2.2.2.2.2.2.2.2.2.2.2.2.2.2.2.2.2.2.2.2.2.1
      intro S176 eS176
      have hGS176 : F_L_law S S176 := trivial
      have hJS176 : J8 S176.1 ∧ J9 S176.2 := by rw [eS176]; exact ⟨hJSq1.1, hJu175⟩
      have hFS176 : F_L_law S S176 := hGS176
      have je607 : ((b8g_isKept S176.1)).toInt = ((b8g_isKept Sq1.1)).toInt := by rw [eS176]
      have je608 : ((b9g_hasImage S176.2)).toInt = ((b9g_hasImage u175)).toInt := by rw [eS176]
      try simp (disch := first | ((try simp (disch := first | ((try simp only [pn]) <;> omega) | fail) only [pn, pq]) <;> omega) | fail) only [pn, pq] at je608
      have je609 : ((b0g_count (b2g_questions (b8g_now S176.1)))).toInt = ((b0g_count (b2g_questions (b8g_now Sq1.1)))).toInt := by rw [eS176]
      have jf610 := J0g_count (J2g_questions (J8g_now hJS176.1))
      have je611 : ((b0g_count (b2g_questions (b8g_kept S176.1)))).toInt = ((b0g_count (b2g_questions (b8g_kept Sq1.1)))).toInt := by rw [eS176]
      have jf612 := J0g_count (J2g_questions (J8g_kept hJS176.1))
      have je613 : ((b9g_now S176.2) 10).toInt = ((b9g_now u175) 10).toInt := by rw [eS176]
      try simp (disch := first | ((try simp (disch := first | ((try simp only [pn]) <;> omega) | fail) only [pn, pq]) <;> omega) | fail) only [pn, pq] at je613
      have je614 : ((b9g_images S176.2) 10).toInt = ((b9g_images u175) 10).toInt := by rw [eS176]
      try simp (disch := first | ((try simp (disch := first | ((try simp only [pn]) <;> omega) | fail) only [pn, pq]) <;> omega) | fail) only [pn, pq] at je614
      unfold wp_L_law_1745
      refine ⟨_, ?_, ?_, ?_, ?_, ?_, ?_, ?_, ?_, ?_, ?_, rfl⟩
      · first | omega | ((try simp (disch := first | ((try simp (disch := first | ((try simp only [pn]) <;> omega) | fail) only [pn, pq]) <;> omega) | fail) only [pn, pq]) <;> (intros; (try simp (disch := first | ((try simp (disch := first | ((try simp only [pn]) <;> omega) | fail) only [pn, pq]) <;> omega) | fail) only [pn, pq]) <;> omega))
      · exact hJS176
      · exact hFS176
      · first | omega | ((try simp (disch := first | ((try simp (disch := first | ((try simp only [pn]) <;> omega) | fail) only [pn, pq]) <;> omega) | fail) only [pn, pq]) <;> (intros; (try simp (disch := first | ((try simp (disch := first | ((try simp only [pn]) <;> omega) | fail) only [pn, pq]) <;> omega) | fail) only [pn, pq]) <;> omega))
      · first | omega | ((try simp (disch := first | ((try simp (disch := first | ((try simp only [pn]) <;> omega) | fail) only [pn, pq]) <;> omega) | fail) only [pn, pq]) <;> (intros; (try simp (disch := first | ((try simp (disch := first | ((try simp only [pn]) <;> omega) | fail) only [pn, pq]) <;> omega) | fail) only [pn, pq]) <;> omega))
      · first | omega | ((try simp (disch := first | ((try simp (disch := first | ((try simp only [pn]) <;> omega) | fail) only [pn, pq]) <;> omega) | fail) only [pn, pq]) <;> (intros; (try simp (disch := first | ((try simp (disch := first | ((try simp only [pn]) <;> omega) | fail) only [pn, pq]) <;> omega) | fail) only [pn, pq]) <;> omega))
      · first | omega | ((try simp (disch := first | ((try simp (disch := first | ((try simp only [pn]) <;> omega) | fail) only [pn, pq]) <;> omega) | fail) only [pn, pq]) <;> (intros; (try simp (disch := first | ((try simp (disch := first | ((try simp only [pn]) <;> omega) | fail) only [pn, pq]) <;> omega) | fail) only [pn, pq]) <;> omega))
      · first | omega | ((try simp (disch := first | ((try simp (disch := first | ((try simp only [pn]) <;> omega) | fail) only [pn, pq]) <;> omega) | fail) only [pn, pq]) <;> (intros; (try simp (disch := first | ((try simp (disch := first | ((try simp only [pn]) <;> omega) | fail) only [pn, pq]) <;> omega) | fail) only [pn, pq]) <;> omega))
      · first | omega | ((try simp (disch := first | ((try simp (disch := first | ((try simp only [pn]) <;> omega) | fail) only [pn, pq]) <;> omega) | fail) only [pn, pq]) <;> (intros; (try simp (disch := first | ((try simp (disch := first | ((try simp only [pn]) <;> omega) | fail) only [pn, pq]) <;> omega) | fail) only [pn, pq]) <;> omega))
      · first | omega | ((try simp (disch := first | ((try simp (disch := first | ((try simp only [pn]) <;> omega) | fail) only [pn, pq]) <;> omega) | fail) only [pn, pq]) <;> (intros; (try simp (disch := first | ((try simp (disch := first | ((try simp only [pn]) <;> omega) | fail) only [pn, pq]) <;> omega) | fail) only [pn, pq]) <;> omega))
    · skip
      refine ⟨vin1, ?_⟩
      refine ⟨vin2, ?_⟩
      refine sf_X8_free hJSq1.1 (fun r177  => ?_)
      refine ⟨vin1, ?_⟩
      refine ⟨vin2, ?_⟩
      refine sf_X9_free hJSq1.2 (fun r179 u180 hJu180 hfu180  => ?_)
      have je616 : ((b9g_hasImage u180)).toInt = ((b9g_hasImage Sq1.2)).toInt := congrArg (fun z => (z).toInt) hfu180.2.2.2.2.2.2.2.2.2.2.2.2.2.2.2.2.2.2.2.2.2.2.2.2.2.2.2.2.2.2.2.2.2.2.1
      have je618 : ((b9g_now u180) 10).toInt = ((b9g_now Sq1.2) 10).toInt := congrArg (fun z => (z 10).toInt) hfu180.1
      have je620 : ((b9g_images u180) 10).toInt = ((b9g_images Sq1.2) 10).toInt := congrArg (fun z => (z 10).toInt) hfu180.2.2.2.2.2.2.2.2.2.2.2.2.2.2.2.2.2.2.2.2.2.2.2.2.2.2.2.2.2.2.2.2.2.2.2.1
      intro S181 eS181
      have hGS181 : F_L_law S S181 := trivial
      have hJS181 : J8 S181.1 ∧ J9 S181.2 := by rw [eS181]; exact ⟨hJSq1.1, hJu180⟩
      have hFS181 : F_L_law S S181 := hGS181
      have je621 : ((b8g_isKept S181.1)).toInt = ((b8g_isKept Sq1.1)).toInt := by rw [eS181]
      have je622 : ((b9g_hasImage S181.2)).toInt = ((b9g_hasImage u180)).toInt := by rw [eS181]
      try simp (disch := first | ((try simp (disch := first | ((try simp only [pn]) <;> omega) | fail) only [pn, pq]) <;> omega) | fail) only [pn, pq] at je622
      have je623 : ((b0g_count (b2g_questions (b8g_now S181.1)))).toInt = ((b0g_count (b2g_questions (b8g_now Sq1.1)))).toInt := by rw [eS181]
      have jf624 := J0g_count (J2g_questions (J8g_now hJS181.1))
      have je625 : ((b0g_count (b2g_questions (b8g_kept S181.1)))).toInt = ((b0g_count (b2g_questions (b8g_kept Sq1.1)))).toInt := by rw [eS181]
      have jf626 := J0g_count (J2g_questions (J8g_kept hJS181.1))
      have je627 : ((b9g_now S181.2) 10).toInt = ((b9g_now u180) 10).toInt := by rw [eS181]
      try simp (disch := first | ((try simp (disch := first | ((try simp only [pn]) <;> omega) | fail) only [pn, pq]) <;> omega) | fail) only [pn, pq] at je627
      have je628 : ((b9g_images S181.2) 10).toInt = ((b9g_images u180) 10).toInt := by rw [eS181]
      try simp (disch := first | ((try simp (disch := first | ((try simp only [pn]) <;> omega) | fail) only [pn, pq]) <;> omega) | fail) only [pn, pq] at je628
      unfold wp_L_law_1745
      refine ⟨_, ?_, ?_, ?_, ?_, ?_, ?_, ?_, ?_, ?_, ?_, rfl⟩
      · first | omega | ((try simp (disch := first | ((try simp (disch := first | ((try simp only [pn]) <;> omega) | fail) only [pn, pq]) <;> omega) | fail) only [pn, pq]) <;> (intros; (try simp (disch := first | ((try simp (disch := first | ((try simp only [pn]) <;> omega) | fail) only [pn, pq]) <;> omega) | fail) only [pn, pq]) <;> omega))
      · exact hJS181
      · exact hFS181
      · first | omega | ((try simp (disch := first | ((try simp (disch := first | ((try simp only [pn]) <;> omega) | fail) only [pn, pq]) <;> omega) | fail) only [pn, pq]) <;> (intros; (try simp (disch := first | ((try simp (disch := first | ((try simp only [pn]) <;> omega) | fail) only [pn, pq]) <;> omega) | fail) only [pn, pq]) <;> omega))
      · first | omega | ((try simp (disch := first | ((try simp (disch := first | ((try simp only [pn]) <;> omega) | fail) only [pn, pq]) <;> omega) | fail) only [pn, pq]) <;> (intros; (try simp (disch := first | ((try simp (disch := first | ((try simp only [pn]) <;> omega) | fail) only [pn, pq]) <;> omega) | fail) only [pn, pq]) <;> omega))
      · first | omega | ((try simp (disch := first | ((try simp (disch := first | ((try simp only [pn]) <;> omega) | fail) only [pn, pq]) <;> omega) | fail) only [pn, pq]) <;> (intros; (try simp (disch := first | ((try simp (disch := first | ((try simp only [pn]) <;> omega) | fail) only [pn, pq]) <;> omega) | fail) only [pn, pq]) <;> omega))
      · first | omega | ((try simp (disch := first | ((try simp (disch := first | ((try simp only [pn]) <;> omega) | fail) only [pn, pq]) <;> omega) | fail) only [pn, pq]) <;> (intros; (try simp (disch := first | ((try simp (disch := first | ((try simp only [pn]) <;> omega) | fail) only [pn, pq]) <;> omega) | fail) only [pn, pq]) <;> omega))
      · first | omega | ((try simp (disch := first | ((try simp (disch := first | ((try simp only [pn]) <;> omega) | fail) only [pn, pq]) <;> omega) | fail) only [pn, pq]) <;> (intros; (try simp (disch := first | ((try simp (disch := first | ((try simp only [pn]) <;> omega) | fail) only [pn, pq]) <;> omega) | fail) only [pn, pq]) <;> omega))
      · first | omega | ((try simp (disch := first | ((try simp (disch := first | ((try simp only [pn]) <;> omega) | fail) only [pn, pq]) <;> omega) | fail) only [pn, pq]) <;> (intros; (try simp (disch := first | ((try simp (disch := first | ((try simp only [pn]) <;> omega) | fail) only [pn, pq]) <;> omega) | fail) only [pn, pq]) <;> omega))
      · first | omega | ((try simp (disch := first | ((try simp (disch := first | ((try simp only [pn]) <;> omega) | fail) only [pn, pq]) <;> omega) | fail) only [pn, pq]) <;> (intros; (try simp (disch := first | ((try simp (disch := first | ((try simp only [pn]) <;> omega) | fail) only [pn, pq]) <;> omega) | fail) only [pn, pq]) <;> omega))
    · skip
      refine ⟨vin1, ?_⟩
      refine ⟨vin2, ?_⟩
      refine ⟨vin3, ?_⟩
      refine ⟨vin4, ?_⟩
      refine sf_X8_spread hJSq1.1 (fun r182  => ?_)
      have rgr182 := pt_rg r182
      refine ⟨vin1, ?_⟩
      refine ⟨vin2, ?_⟩
      refine ⟨vin3, ?_⟩
      refine ⟨vin4, ?_⟩
      refine sf_X9_spread hJSq1.2 (fun r184 u185 hJu185 hfu185  => ?_)
      have je630 : ((b9g_hasImage u185)).toInt = ((b9g_hasImage Sq1.2)).toInt := congrArg (fun z => (z).toInt) hfu185.2.2.2.2.2.2.2.2.2.2.2.2.2.2.2.2.2.2.2.2.2.2.2.2.2.2.2.2.2.2.2.2.2.2.1
      have je632 : ((b9g_now u185) 10).toInt = ((b9g_now Sq1.2) 10).toInt := congrArg (fun z => (z 10).toInt) hfu185.1
      have je634 : ((b9g_images u185) 10).toInt = ((b9g_images Sq1.2) 10).toInt := congrArg (fun z => (z 10).toInt) hfu185.2.2.2.2.2.2.2.2.2.2.2.2.2.2.2.2.2.2.2.2.2.2.2.2.2.2.2.2.2.2.2.2.2.2.2.1
      have rgr184 := pt_rg r184
      intro S186 eS186
      have hGS186 : F_L_law S S186 := trivial
      have hJS186 : J8 S186.1 ∧ J9 S186.2 := by rw [eS186]; exact ⟨hJSq1.1, hJu185⟩
      have hFS186 : F_L_law S S186 := hGS186
      have je635 : ((b8g_isKept S186.1)).toInt = ((b8g_isKept Sq1.1)).toInt := by rw [eS186]
      have je636 : ((b9g_hasImage S186.2)).toInt = ((b9g_hasImage u185)).toInt := by rw [eS186]
      try simp (disch := first | ((try simp (disch := first | ((try simp only [pn]) <;> omega) | fail) only [pn, pq]) <;> omega) | fail) only [pn, pq] at je636
      have je637 : ((b0g_count (b2g_questions (b8g_now S186.1)))).toInt = ((b0g_count (b2g_questions (b8g_now Sq1.1)))).toInt := by rw [eS186]
      have jf638 := J0g_count (J2g_questions (J8g_now hJS186.1))
      have je639 : ((b0g_count (b2g_questions (b8g_kept S186.1)))).toInt = ((b0g_count (b2g_questions (b8g_kept Sq1.1)))).toInt := by rw [eS186]
      have jf640 := J0g_count (J2g_questions (J8g_kept hJS186.1))
      have je641 : ((b9g_now S186.2) 10).toInt = ((b9g_now u185) 10).toInt := by rw [eS186]
      try simp (disch := first | ((try simp (disch := first | ((try simp only [pn]) <;> omega) | fail) only [pn, pq]) <;> omega) | fail) only [pn, pq] at je641
      have je642 : ((b9g_images S186.2) 10).toInt = ((b9g_images u185) 10).toInt := by rw [eS186]
      try simp (disch := first | ((try simp (disch := first | ((try simp only [pn]) <;> omega) | fail) only [pn, pq]) <;> omega) | fail) only [pn, pq] at je642
      unfold wp_L_law_1745
      refine ⟨_, ?_, ?_, ?_, ?_, ?_, ?_, ?_, ?_, ?_, ?_, rfl⟩
      · first | omega | ((try simp (disch := first | ((try simp (disch := first | ((try simp only [pn]) <;> omega) | fail) only [pn, pq]) <;> omega) | fail) only [pn, pq]) <;> (intros; (try simp (disch := first | ((try simp (disch := first | ((try simp only [pn]) <;> omega) | fail) only [pn, pq]) <;> omega) | fail) only [pn, pq]) <;> omega))
      · exact hJS186
      · exact hFS186
      · first | omega | ((try simp (disch := first | ((try simp (disch := first | ((try simp only [pn]) <;> omega) | fail) only [pn, pq]) <;> omega) | fail) only [pn, pq]) <;> (intros; (try simp (disch := first | ((try simp (disch := first | ((try simp only [pn]) <;> omega) | fail) only [pn, pq]) <;> omega) | fail) only [pn, pq]) <;> omega))
      · first | omega | ((try simp (disch := first | ((try simp (disch := first | ((try simp only [pn]) <;> omega) | fail) only [pn, pq]) <;> omega) | fail) only [pn, pq]) <;> (intros; (try simp (disch := first | ((try simp (disch := first | ((try simp only [pn]) <;> omega) | fail) only [pn, pq]) <;> omega) | fail) only [pn, pq]) <;> omega))
      · first | omega | ((try simp (disch := first | ((try simp (disch := first | ((try simp only [pn]) <;> omega) | fail) only [pn, pq]) <;> omega) | fail) only [pn, pq]) <;> (intros; (try simp (disch := first | ((try simp (disch := first | ((try simp only [pn]) <;> omega) | fail) only [pn, pq]) <;> omega) | fail) only [pn, pq]) <;> omega))
      · first | omega | ((try simp (disch := first | ((try simp (disch := first | ((try simp only [pn]) <;> omega) | fail) only [pn, pq]) <;> omega) | fail) only [pn, pq]) <;> (intros; (try simp (disch := first | ((try simp (disch := first | ((try simp only [pn]) <;> omega) | fail) only [pn, pq]) <;> omega) | fail) only [pn, pq]) <;> omega))
      · first | omega | ((try simp (disch := first | ((try simp (disch := first | ((try simp only [pn]) <;> omega) | fail) only [pn, pq]) <;> omega) | fail) only [pn, pq]) <;> (intros; (try simp (disch := first | ((try simp (disch := first | ((try simp only [pn]) <;> omega) | fail) only [pn, pq]) <;> omega) | fail) only [pn, pq]) <;> omega))
      · first | omega | ((try simp (disch := first | ((try simp (disch := first | ((try simp only [pn]) <;> omega) | fail) only [pn, pq]) <;> omega) | fail) only [pn, pq]) <;> (intros; (try simp (disch := first | ((try simp (disch := first | ((try simp only [pn]) <;> omega) | fail) only [pn, pq]) <;> omega) | fail) only [pn, pq]) <;> omega))
      · first | omega | ((try simp (disch := first | ((try simp (disch := first | ((try simp only [pn]) <;> omega) | fail) only [pn, pq]) <;> omega) | fail) only [pn, pq]) <;> (intros; (try simp (disch := first | ((try simp (disch := first | ((try simp only [pn]) <;> omega) | fail) only [pn, pq]) <;> omega) | fail) only [pn, pq]) <;> omega))
    · skip
      refine ⟨vin1, ?_⟩
      refine ⟨vin2, ?_⟩
      refine ⟨vin3, ?_⟩
      refine sf_X8_question hJSq1.1 (fun r187 u188 hJu188 hfu188 hr187_0 => ?_)
      have je644 : ((b8g_isKept u188)).toInt = ((b8g_isKept Sq1.1)).toInt := congrArg (fun z => (z).toInt) hfu188.2.2.2.2.2.1
      have je646 : ((b0g_count (b2g_questions (b8g_kept u188)))).toInt = ((b0g_count (b2g_questions (b8g_kept Sq1.1)))).toInt := congrArg (fun z => ((b0g_count (b2g_questions z))).toInt) hfu188.2.2.2.2.1
      have rgr187 := pt_rg r187
      try simp (disch := first | ((try simp (disch := first | ((try simp only [pn]) <;> omega) | fail) only [pn, pq]) <;> omega) | fail) only [pn, pq] at hr187_0
      intro S189 eS189
      have hGS189 : F_L_law S S189 := trivial
      have hJS189 : J8 S189.1 ∧ J9 S189.2 := by rw [eS189]; exact ⟨hJu188, hJSq1.2⟩
      have hFS189 : F_L_law S S189 := hGS189
      have je647 : ((b8g_isKept S189.1)).toInt = ((b8g_isKept u188)).toInt := by rw [eS189]
      try simp (disch := first | ((try simp (disch := first | ((try simp only [pn]) <;> omega) | fail) only [pn, pq]) <;> omega) | fail) only [pn, pq] at je647
      have je648 : ((b9g_hasImage S189.2)).toInt = ((b9g_hasImage Sq1.2)).toInt := by rw [eS189]
      have je649 : ((b0g_count (b2g_questions (b8g_now S189.1)))).toInt = ((b0g_count (b2g_questions (b8g_now u188)))).toInt := by rw [eS189]
      try simp (disch := first | ((try simp (disch := first | ((try simp only [pn]) <;> omega) | fail) only [pn, pq]) <;> omega) | fail) only [pn, pq] at je649
      have jf650 := J0g_count (J2g_questions (J8g_now hJS189.1))
      have je651 : ((b0g_count (b2g_questions (b8g_kept S189.1)))).toInt = ((b0g_count (b2g_questions (b8g_kept u188)))).toInt := by rw [eS189]
      try simp (disch := first | ((try simp (disch := first | ((try simp only [pn]) <;> omega) | fail) only [pn, pq]) <;> omega) | fail) only [pn, pq] at je651
      have jf652 := J0g_count (J2g_questions (J8g_kept hJS189.1))
      have je653 : ((b9g_now S189.2) 10).toInt = ((b9g_now Sq1.2) 10).toInt := by rw [eS189]
      have je654 : ((b9g_images S189.2) 10).toInt = ((b9g_images Sq1.2) 10).toInt := by rw [eS189]
      refine ⟨vin1, ?_⟩
      refine ⟨vin2, ?_⟩
      refine ⟨vin3, ?_⟩
      refine sf_X9_question hJS189.2 (fun r190 u191 hJu191 hfu191 hr190_0 hr190_1 => ?_)
      have je656 : ((b9g_hasImage u191)).toInt = ((b9g_hasImage S189.2)).toInt := congrArg (fun z => (z).toInt) hfu191.2.2.2.2.2.2.2.2.2.2.2.2.2.2.2.2.2.2.2.2.2.2.2.2.2.2.2.2.2.2.2.2.2.2.2.2.2.2.1
      have je658 : ((b9g_images u191) 10).toInt = ((b9g_images S189.2) 10).toInt := congrArg (fun z => (z 10).toInt) hfu191.2.2.2.2.2.2.2.2.2.2.2.2.2.2.2.2.2.2.2.2.2.2.2.2.2.2.2.2.2.2.2.2.2.2.2.2.2.2.2.1
      have rgr190 := pt_rg r190
      try simp (disch := first | ((try simp (disch := first | ((try simp only [pn]) <;> omega) | fail) only [pn, pq]) <;> omega) | fail) only [pn, pq] at hr190_0
      clear hr190_1
      intro S192 eS192
      have hGS192 : F_L_law S S192 := trivial
      have hJS192 : J8 S192.1 ∧ J9 S192.2 := by rw [eS192]; exact ⟨hJS189.1, hJu191⟩
      have hFS192 : F_L_law S S192 := hGS192
      have je659 : ((b8g_isKept S192.1)).toInt = ((b8g_isKept S189.1)).toInt := by rw [eS192]
      have je660 : ((b9g_hasImage S192.2)).toInt = ((b9g_hasImage u191)).toInt := by rw [eS192]
      try simp (disch := first | ((try simp (disch := first | ((try simp only [pn]) <;> omega) | fail) only [pn, pq]) <;> omega) | fail) only [pn, pq] at je660
      have je661 : ((b0g_count (b2g_questions (b8g_now S192.1)))).toInt = ((b0g_count (b2g_questions (b8g_now S189.1)))).toInt := by rw [eS192]
      have jf662 := J0g_count (J2g_questions (J8g_now hJS192.1))
      have je663 : ((b0g_count (b2g_questions (b8g_kept S192.1)))).toInt = ((b0g_count (b2g_questions (b8g_kept S189.1)))).toInt := by rw [eS192]
      have jf664 := J0g_count (J2g_questions (J8g_kept hJS192.1))
      have je665 : ((b9g_now S192.2) 10).toInt = ((b9g_now u191) 10).toInt := by rw [eS192]
      try simp (disch := first | ((try simp (disch := first | ((try simp only [pn]) <;> omega) | fail) only [pn, pq]) <;> omega) | fail) only [pn, pq] at je665
      have je666 : ((b9g_images S192.2) 10).toInt = ((b9g_images u191) 10).toInt := by rw [eS192]
      try simp (disch := first | ((try simp (disch := first | ((try simp only [pn]) <;> omega) | fail) only [pn, pq]) <;> omega) | fail) only [pn, pq] at je666
      unfold wp_L_law_1745
      refine ⟨_, ?_, ?_, ?_, ?_, ?_, ?_, ?_, ?_, ?_, ?_, rfl⟩
      · first | omega | ((try simp (disch := first | ((try simp (disch := first | ((try simp only [pn]) <;> omega) | fail) only [pn, pq]) <;> omega) | fail) only [pn, pq]) <;> (intros; (try simp (disch := first | ((try simp (disch := first | ((try simp only [pn]) <;> omega) | fail) only [pn, pq]) <;> omega) | fail) only [pn, pq]) <;> omega))
      · exact hJS192
      · exact hFS192
      · first | omega | ((try simp (disch := first | ((try simp (disch := first | ((try simp only [pn]) <;> omega) | fail) only [pn, pq]) <;> omega) | fail) only [pn, pq]) <;> (intros; (try simp (disch := first | ((try simp (disch := first | ((try simp only [pn]) <;> omega) | fail) only [pn, pq]) <;> omega) | fail) only [pn, pq]) <;> omega))
      · first | omega | ((try simp (disch := first | ((try simp (disch := first | ((try simp only [pn]) <;> omega) | fail) only [pn, pq]) <;> omega) | fail) only [pn, pq]) <;> (intros; (try simp (disch := first | ((try simp (disch := first | ((try simp only [pn]) <;> omega) | fail) only [pn, pq]) <;> omega) | fail) only [pn, pq]) <;> omega))
      · first | omega | ((try simp (disch := first | ((try simp (disch := first | ((try simp only [pn]) <;> omega) | fail) only [pn, pq]) <;> omega) | fail) only [pn, pq]) <;> (intros; (try simp (disch := first | ((try simp (disch := first | ((try simp only [pn]) <;> omega) | fail) only [pn, pq]) <;> omega) | fail) only [pn, pq]) <;> omega))
      · first | omega | ((try simp (disch := first | ((try simp (disch := first | ((try simp only [pn]) <;> omega) | fail) only [pn, pq]) <;> omega) | fail) only [pn, pq]) <;> (intros; (try simp (disch := first | ((try simp (disch := first | ((try simp only [pn]) <;> omega) | fail) only [pn, pq]) <;> omega) | fail) only [pn, pq]) <;> omega))
      · first | omega | ((try simp (disch := first | ((try simp (disch := first | ((try simp only [pn]) <;> omega) | fail) only [pn, pq]) <;> omega) | fail) only [pn, pq]) <;> (intros; (try simp (disch := first | ((try simp (disch := first | ((try simp only [pn]) <;> omega) | fail) only [pn, pq]) <;> omega) | fail) only [pn, pq]) <;> omega))
      · first | omega | ((try simp (disch := first | ((try simp (disch := first | ((try simp only [pn]) <;> omega) | fail) only [pn, pq]) <;> omega) | fail) only [pn, pq]) <;> (intros; (try simp (disch := first | ((try simp (disch := first | ((try simp only [pn]) <;> omega) | fail) only [pn, pq]) <;> omega) | fail) only [pn, pq]) <;> omega))
      · first | omega | ((try simp (disch := first | ((try simp (disch := first | ((try simp only [pn]) <;> omega) | fail) only [pn, pq]) <;> omega) | fail) only [pn, pq]) <;> (intros; (try simp (disch := first | ((try simp (disch := first | ((try simp only [pn]) <;> omega) | fail) only [pn, pq]) <;> omega) | fail) only [pn, pq]) <;> omega))
    · skip
      refine sf_X8_forget hJSq1.1 (fun r193 u194 hJu194 hfu194 hr193_0 hr193_1 => ?_)
      have je668 : ((b8g_isKept u194)).toInt = ((b8g_isKept Sq1.1)).toInt := congrArg (fun z => (z).toInt) hfu194.2.2.2.2.2.2.2.1
      have je670 : ((b0g_count (b2g_questions (b8g_kept u194)))).toInt = ((b0g_count (b2g_questions (b8g_kept Sq1.1)))).toInt := congrArg (fun z => ((b0g_count (b2g_questions z))).toInt) hfu194.2.2.2.2.2.2.1
      have rgr193 := pt_rg r193
      try simp (disch := first | ((try simp (disch := first | ((try simp only [pn]) <;> omega) | fail) only [pn, pq]) <;> omega) | fail) only [pn, pq] at hr193_0
      try simp (disch := first | ((try simp (disch := first | ((try simp only [pn]) <;> omega) | fail) only [pn, pq]) <;> omega) | fail) only [pn, pq] at hr193_1
      intro S195 eS195
      have hGS195 : F_L_law S S195 := trivial
      have hJS195 : J8 S195.1 ∧ J9 S195.2 := by rw [eS195]; exact ⟨hJu194, hJSq1.2⟩
      have hFS195 : F_L_law S S195 := hGS195
      have je671 : ((b8g_isKept S195.1)).toInt = ((b8g_isKept u194)).toInt := by rw [eS195]
      try simp (disch := first | ((try simp (disch := first | ((try simp only [pn]) <;> omega) | fail) only [pn, pq]) <;> omega) | fail) only [pn, pq] at je671
      have je672 : ((b9g_hasImage S195.2)).toInt = ((b9g_hasImage Sq1.2)).toInt := by rw [eS195]
      have je673 : ((b0g_count (b2g_questions (b8g_now S195.1)))).toInt = ((b0g_count (b2g_questions (b8g_now u194)))).toInt := by rw [eS195]
      try simp (disch := first | ((try simp (disch := first | ((try simp only [pn]) <;> omega) | fail) only [pn, pq]) <;> omega) | fail) only [pn, pq] at je673
      have jf674 := J0g_count (J2g_questions (J8g_now hJS195.1))
      have je675 : ((b0g_count (b2g_questions (b8g_kept S195.1)))).toInt = ((b0g_count (b2g_questions (b8g_kept u194)))).toInt := by rw [eS195]
      try simp (disch := first | ((try simp (disch := first | ((try simp only [pn]) <;> omega) | fail) only [pn, pq]) <;> omega) | fail) only [pn, pq] at je675
      have jf676 := J0g_count (J2g_questions (J8g_kept hJS195.1))
      have je677 : ((b9g_now S195.2) 10).toInt = ((b9g_now Sq1.2) 10).toInt := by rw [eS195]
      have je678 : ((b9g_images S195.2) 10).toInt = ((b9g_images Sq1.2) 10).toInt := by rw [eS195]
      refine sf_X9_forget hJS195.2 (fun r196 u197 hJu197 hfu197 hr196_0 hr196_1 hr196_2 => ?_)
      have je680 : ((b9g_hasImage u197)).toInt = ((b9g_hasImage S195.2)).toInt := congrArg (fun z => (z).toInt) hfu197.2.2.2.2.2.2.2.2.2.2.2.2.2.2.2.2.2.2.2.2.2.2.2.2.2.2.2.2.2.2.2.2.2.2.2.2.2.2.2.2.1
      have je682 : ((b9g_images u197) 10).toInt = ((b9g_images S195.2) 10).toInt := congrArg (fun z => (z 10).toInt) hfu197.2.2.2.2.2.2.2.2.2.2.2.2.2.2.2.2.2.2.2.2.2.2.2.2.2.2.2.2.2.2.2.2.2.2.2.2.2.2.2.2.2.1
      have rgr196 := pt_rg r196
      try simp (disch := first | ((try simp (disch := first | ((try simp only [pn]) <;> omega) | fail) only [pn, pq]) <;> omega) | fail) only [pn, pq] at hr196_0
      try simp (disch := first | ((try simp (disch := first | ((try simp only [pn]) <;> omega) | fail) only [pn, pq]) <;> omega) | fail) only [pn, pq] at hr196_1
      clear hr196_2
      intro S198 eS198
      have hGS198 : F_L_law S S198 := trivial
      have hJS198 : J8 S198.1 ∧ J9 S198.2 := by rw [eS198]; exact ⟨hJS195.1, hJu197⟩
      have hFS198 : F_L_law S S198 := hGS198
      have je683 : ((b8g_isKept S198.1)).toInt = ((b8g_isKept S195.1)).toInt := by rw [eS198]
      have je684 : ((b9g_hasImage S198.2)).toInt = ((b9g_hasImage u197)).toInt := by rw [eS198]
      try simp (disch := first | ((try simp (disch := first | ((try simp only [pn]) <;> omega) | fail) only [pn, pq]) <;> omega) | fail) only [pn, pq] at je684
      have je685 : ((b0g_count (b2g_questions (b8g_now S198.1)))).toInt = ((b0g_count (b2g_questions (b8g_now S195.1)))).toInt := by rw [eS198]
      have jf686 := J0g_count (J2g_questions (J8g_now hJS198.1))
      have je687 : ((b0g_count (b2g_questions (b8g_kept S198.1)))).toInt = ((b0g_count (b2g_questions (b8g_kept S195.1)))).toInt := by rw [eS198]
      have jf688 := J0g_count (J2g_questions (J8g_kept hJS198.1))
      have je689 : ((b9g_now S198.2) 10).toInt = ((b9g_now u197) 10).toInt := by rw [eS198]
      try simp (disch := first | ((try simp (disch := first | ((try simp only [pn]) <;> omega) | fail) only [pn, pq]) <;> omega) | fail) only [pn, pq] at je689
      have je690 : ((b9g_images S198.2) 10).toInt = ((b9g_images u197) 10).toInt := by rw [eS198]
      try simp (disch := first | ((try simp (disch := first | ((try simp only [pn]) <;> omega) | fail) only [pn, pq]) <;> omega) | fail) only [pn, pq] at je690
      refine ⟨fun c199 => ?_, fun c199 => ?_⟩
      · try simp (disch := first | ((try simp (disch := first | ((try simp only [pn]) <;> omega) | fail) only [pn, pq]) <;> omega) | fail) only [pn, pq] at c199
        unfold wp_L_law_1745
        refine ⟨_, ?_, ?_, ?_, ?_, ?_, ?_, ?_, ?_, ?_, ?_, rfl⟩
        · first | omega | ((try simp (disch := first | ((try simp (disch := first | ((try simp only [pn]) <;> omega) | fail) only [pn, pq]) <;> omega) | fail) only [pn, pq]) <;> (intros; (try simp (disch := first | ((try simp (disch := first | ((try simp only [pn]) <;> omega) | fail) only [pn, pq]) <;> omega) | fail) only [pn, pq]) <;> omega))
        · exact hJS198
        · exact hFS198
        · first | omega | ((try simp (disch := first | ((try simp (disch := first | ((try simp only [pn]) <;> omega) | fail) only [pn, pq]) <;> omega) | fail) only [pn, pq]) <;> (intros; (try simp (disch := first | ((try simp (disch := first | ((try simp only [pn]) <;> omega) | fail) only [pn, pq]) <;> omega) | fail) only [pn, pq]) <;> omega))
        · first | omega | ((try simp (disch := first | ((try simp (disch := first | ((try simp only [pn]) <;> omega) | fail) only [pn, pq]) <;> omega) | fail) only [pn, pq]) <;> (intros; (try simp (disch := first | ((try simp (disch := first | ((try simp only [pn]) <;> omega) | fail) only [pn, pq]) <;> omega) | fail) only [pn, pq]) <;> omega))
        · first | omega | ((try simp (disch := first | ((try simp (disch := first | ((try simp only [pn]) <;> omega) | fail) only [pn, pq]) <;> omega) | fail) only [pn, pq]) <;> (intros; (try simp (disch := first | ((try simp (disch := first | ((try simp only [pn]) <;> omega) | fail) only [pn, pq]) <;> omega) | fail) only [pn, pq]) <;> omega))
        · first | omega | ((try simp (disch := first | ((try simp (disch := first | ((try simp only [pn]) <;> omega) | fail) only [pn, pq]) <;> omega) | fail) only [pn, pq]) <;> (intros; (try simp (disch := first | ((try simp (disch := first | ((try simp only [pn]) <;> omega) | fail) only [pn, pq]) <;> omega) | fail) only [pn, pq]) <;> omega))
        · first | omega | ((try simp (disch := first | ((try simp (disch := first | ((try simp only [pn]) <;> omega) | fail) only [pn, pq]) <;> omega) | fail) only [pn, pq]) <;> (intros; (try simp (disch := first | ((try simp (disch := first | ((try simp only [pn]) <;> omega) | fail) only [pn, pq]) <;> omega) | fail) only [pn, pq]) <;> omega))
        · first | omega | ((try simp (disch := first | ((try simp (disch := first | ((try simp only [pn]) <;> omega) | fail) only [pn, pq]) <;> omega) | fail) only [pn, pq]) <;> (intros; (try simp (disch := first | ((try simp (disch := first | ((try simp only [pn]) <;> omega) | fail) only [pn, pq]) <;> omega) | fail) only [pn, pq]) <;> omega))
        · first | omega | ((try simp (disch := first | ((try simp (disch := first | ((try simp only [pn]) <;> omega) | fail) only [pn, pq]) <;> omega) | fail) only [pn, pq]) <;> (intros; (try simp (disch := first | ((try simp (disch := first | ((try simp only [pn]) <;> omega) | fail) only [pn, pq]) <;> omega) | fail) only [pn, pq]) <;> omega))
      · try simp (disch := first | ((try simp (disch := first | ((try simp only [pn]) <;> omega) | fail) only [pn, pq]) <;> omega) | fail) only [pn, pq] at c199
        exfalso
        first | omega | ((try simp (disch := first | ((try simp (disch := first | ((try simp only [pn]) <;> omega) | fail) only [pn, pq]) <;> omega) | fail) only [pn, pq]) <;> (intros; (try simp (disch := first | ((try simp (disch := first | ((try simp only [pn]) <;> omega) | fail) only [pn, pq]) <;> omega) | fail) only [pn, pq]) <;> omega))
    · skip
      refine ⟨vin1, ?_⟩
      refine ⟨vin2, ?_⟩
      refine sf_X8_tuned hJSq1.1 (fun r200 u201 hJu201 hfu201  => ?_)
      have je692 : ((b8g_isKept u201)).toInt = ((b8g_isKept Sq1.1)).toInt := congrArg (fun z => (z).toInt) hfu201.2.2.1
      have je694 : ((b0g_count (b2g_questions (b8g_now u201)))).toInt = ((b0g_count (b2g_questions (b8g_now Sq1.1)))).toInt := congrArg (fun z => ((b0g_count (b2g_questions z))).toInt) hfu201.1
      have je696 : ((b0g_count (b2g_questions (b8g_kept u201)))).toInt = ((b0g_count (b2g_questions (b8g_kept Sq1.1)))).toInt := congrArg (fun z => ((b0g_count (b2g_questions z))).toInt) hfu201.2.1
      have rgr200 := pt_rg r200
      intro S202 eS202
      have hGS202 : F_L_law S S202 := trivial
      have hJS202 : J8 S202.1 ∧ J9 S202.2 := by rw [eS202]; exact ⟨hJu201, hJSq1.2⟩
      have hFS202 : F_L_law S S202 := hGS202
      have je697 : ((b8g_isKept S202.1)).toInt = ((b8g_isKept u201)).toInt := by rw [eS202]
      try simp (disch := first | ((try simp (disch := first | ((try simp only [pn]) <;> omega) | fail) only [pn, pq]) <;> omega) | fail) only [pn, pq] at je697
      have je698 : ((b9g_hasImage S202.2)).toInt = ((b9g_hasImage Sq1.2)).toInt := by rw [eS202]
      have je699 : ((b0g_count (b2g_questions (b8g_now S202.1)))).toInt = ((b0g_count (b2g_questions (b8g_now u201)))).toInt := by rw [eS202]
      try simp (disch := first | ((try simp (disch := first | ((try simp only [pn]) <;> omega) | fail) only [pn, pq]) <;> omega) | fail) only [pn, pq] at je699
      have jf700 := J0g_count (J2g_questions (J8g_now hJS202.1))
      have je701 : ((b0g_count (b2g_questions (b8g_kept S202.1)))).toInt = ((b0g_count (b2g_questions (b8g_kept u201)))).toInt := by rw [eS202]
      try simp (disch := first | ((try simp (disch := first | ((try simp only [pn]) <;> omega) | fail) only [pn, pq]) <;> omega) | fail) only [pn, pq] at je701
      have jf702 := J0g_count (J2g_questions (J8g_kept hJS202.1))
      have je703 : ((b9g_now S202.2) 10).toInt = ((b9g_now Sq1.2) 10).toInt := by rw [eS202]
      have je704 : ((b9g_images S202.2) 10).toInt = ((b9g_images Sq1.2) 10).toInt := by rw [eS202]
      refine ⟨vin1, ?_⟩
      refine ⟨vin2, ?_⟩
      refine sf_X9_tuned hJS202.2 (fun r203 u204 hJu204 hfu204  => ?_)
      have je706 : ((b9g_hasImage u204)).toInt = ((b9g_hasImage S202.2)).toInt := congrArg (fun z => (z).toInt) hfu204.2.2.2.2.2.2.2.2.2.2.2.2.2.2.2.2.2.2.2.2.2.2.2.2.2.2.2.2.2.2.2.2.2.2.1
      have je708 : ((b9g_now u204) 10).toInt = ((b9g_now S202.2) 10).toInt := congrArg (fun z => (z 10).toInt) hfu204.1
      have je710 : ((b9g_images u204) 10).toInt = ((b9g_images S202.2) 10).toInt := congrArg (fun z => (z 10).toInt) hfu204.2.2.2.2.2.2.2.2.2.2.2.2.2.2.2.2.2.2.2.2.2.2.2.2.2.2.2.2.2.2.2.2.2.2.2.1
      have rgr203 := pt_rg r203
      intro S205 eS205
      have hGS205 : F_L_law S S205 := trivial
      have hJS205 : J8 S205.1 ∧ J9 S205.2 := by rw [eS205]; exact ⟨hJS202.1, hJu204⟩
      have hFS205 : F_L_law S S205 := hGS205
      have je711 : ((b8g_isKept S205.1)).toInt = ((b8g_isKept S202.1)).toInt := by rw [eS205]
      have je712 : ((b9g_hasImage S205.2)).toInt = ((b9g_hasImage u204)).toInt := by rw [eS205]
      try simp (disch := first | ((try simp (disch := first | ((try simp only [pn]) <;> omega) | fail) only [pn, pq]) <;> omega) | fail) only [pn, pq] at je712
      have je713 : ((b0g_count (b2g_questions (b8g_now S205.1)))).toInt = ((b0g_count (b2g_questions (b8g_now S202.1)))).toInt := by rw [eS205]
      have jf714 := J0g_count (J2g_questions (J8g_now hJS205.1))
      have je715 : ((b0g_count (b2g_questions (b8g_kept S205.1)))).toInt = ((b0g_count (b2g_questions (b8g_kept S202.1)))).toInt := by rw [eS205]
      have jf716 := J0g_count (J2g_questions (J8g_kept hJS205.1))
      have je717 : ((b9g_now S205.2) 10).toInt = ((b9g_now u204) 10).toInt := by rw [eS205]
      try simp (disch := first | ((try simp (disch := first | ((try simp only [pn]) <;> omega) | fail) only [pn, pq]) <;> omega) | fail) only [pn, pq] at je717
      have je718 : ((b9g_images S205.2) 10).toInt = ((b9g_images u204) 10).toInt := by rw [eS205]
      try simp (disch := first | ((try simp (disch := first | ((try simp only [pn]) <;> omega) | fail) only [pn, pq]) <;> omega) | fail) only [pn, pq] at je718
      unfold wp_L_law_1745
      refine ⟨_, ?_, ?_, ?_, ?_, ?_, ?_, ?_, ?_, ?_, ?_, rfl⟩
      · first | omega | ((try simp (disch := first | ((try simp (disch := first | ((try simp only [pn]) <;> omega) | fail) only [pn, pq]) <;> omega) | fail) only [pn, pq]) <;> (intros; (try simp (disch := first | ((try simp (disch := first | ((try simp only [pn]) <;> omega) | fail) only [pn, pq]) <;> omega) | fail) only [pn, pq]) <;> omega))
      · exact hJS205
      · exact hFS205
      · first | omega | ((try simp (disch := first | ((try simp (disch := first | ((try simp only [pn]) <;> omega) | fail) only [pn, pq]) <;> omega) | fail) only [pn, pq]) <;> (intros; (try simp (disch := first | ((try simp (disch := first | ((try simp only [pn]) <;> omega) | fail) only [pn, pq]) <;> omega) | fail) only [pn, pq]) <;> omega))
      · first | omega | ((try simp (disch := first | ((try simp (disch := first | ((try simp only [pn]) <;> omega) | fail) only [pn, pq]) <;> omega) | fail) only [pn, pq]) <;> (intros; (try simp (disch := first | ((try simp (disch := first | ((try simp only [pn]) <;> omega) | fail) only [pn, pq]) <;> omega) | fail) only [pn, pq]) <;> omega))
      · first | omega | ((try simp (disch := first | ((try simp (disch := first | ((try simp only [pn]) <;> omega) | fail) only [pn, pq]) <;> omega) | fail) only [pn, pq]) <;> (intros; (try simp (disch := first | ((try simp (disch := first | ((try simp only [pn]) <;> omega) | fail) only [pn, pq]) <;> omega) | fail) only [pn, pq]) <;> omega))
      · first | omega | ((try simp (disch := first | ((try simp (disch := first | ((try simp only [pn]) <;> omega) | fail) only [pn, pq]) <;> omega) | fail) only [pn, pq]) <;> (intros; (try simp (disch := first | ((try simp (disch := first | ((try simp only [pn]) <;> omega) | fail) only [pn, pq]) <;> omega) | fail) only [pn, pq]) <;> omega))
      · first | omega | ((try simp (disch := first | ((try simp (disch := first | ((try simp only [pn]) <;> omega) | fail) only [pn, pq]) <;> omega) | fail) only [pn, pq]) <;> (intros; (try simp (disch := first | ((try simp (disch := first | ((try simp only [pn]) <;> omega) | fail) only [pn, pq]) <;> omega) | fail) only [pn, pq]) <;> omega))
      · first | omega | ((try simp (disch := first | ((try simp (disch := first | ((try simp only [pn]) <;> omega) | fail) only [pn, pq]) <;> omega) | fail) only [pn, pq]) <;> (intros; (try simp (disch := first | ((try simp (disch := first | ((try simp only [pn]) <;> omega) | fail) only [pn, pq]) <;> omega) | fail) only [pn, pq]) <;> omega))
      · first | omega | ((try simp (disch := first | ((try simp (disch := first | ((try simp only [pn]) <;> omega) | fail) only [pn, pq]) <;> omega) | fail) only [pn, pq]) <;> (intros; (try simp (disch := first | ((try simp (disch := first | ((try simp only [pn]) <;> omega) | fail) only [pn, pq]) <;> omega) | fail) only [pn, pq]) <;> omega))
    · skip
      refine ⟨vin1, ?_⟩
      refine ⟨vin2, ?_⟩
      refine sf_X8_storm hJSq1.1 (fun r206 u207 hJu207 hfu207 hr206_0 => ?_)
      have je720 : ((b8g_isKept u207)).toInt = ((b8g_isKept Sq1.1)).toInt := congrArg (fun z => (z).toInt) hfu207.2.2.2.2.1
      have je722 : ((b0g_count (b2g_questions (b8g_now u207)))).toInt = ((b0g_count (b2g_questions (b8g_now Sq1.1)))).toInt := congrArg (fun z => ((b0g_count z)).toInt) hfu207.2.2.1
      have je724 : ((b0g_count (b2g_questions (b8g_kept u207)))).toInt = ((b0g_count (b2g_questions (b8g_kept Sq1.1)))).toInt := congrArg (fun z => ((b0g_count (b2g_questions z))).toInt) hfu207.2.2.2.1
      have rgr206 := pt_rg r206
      clear hr206_0
      intro S208 eS208
      have hGS208 : F_L_law S S208 := trivial
      have hJS208 : J8 S208.1 ∧ J9 S208.2 := by rw [eS208]; exact ⟨hJu207, hJSq1.2⟩
      have hFS208 : F_L_law S S208 := hGS208
      have je725 : ((b8g_isKept S208.1)).toInt = ((b8g_isKept u207)).toInt := by rw [eS208]
      try simp (disch := first | ((try simp (disch := first | ((try simp only [pn]) <;> omega) | fail) only [pn, pq]) <;> omega) | fail) only [pn, pq] at je725
      have je726 : ((b9g_hasImage S208.2)).toInt = ((b9g_hasImage Sq1.2)).toInt := by rw [eS208]
      have je727 : ((b0g_count (b2g_questions (b8g_now S208.1)))).toInt = ((b0g_count (b2g_questions (b8g_now u207)))).toInt := by rw [eS208]
      try simp (disch := first | ((try simp (disch := first | ((try simp only [pn]) <;> omega) | fail) only [pn, pq]) <;> omega) | fail) only [pn, pq] at je727
      have jf728 := J0g_count (J2g_questions (J8g_now hJS208.1))
      have je729 : ((b0g_count (b2g_questions (b8g_kept S208.1)))).toInt = ((b0g_count (b2g_questions (b8g_kept u207)))).toInt := by rw [eS208]
      try simp (disch := first | ((try simp (disch := first | ((try simp only [pn]) <;> omega) | fail) only [pn, pq]) <;> omega) | fail) only [pn, pq] at je729
      have jf730 := J0g_count (J2g_questions (J8g_kept hJS208.1))
      have je731 : ((b9g_now S208.2) 10).toInt = ((b9g_now Sq1.2) 10).toInt := by rw [eS208]
      have je732 : ((b9g_images S208.2) 10).toInt = ((b9g_images Sq1.2) 10).toInt := by rw [eS208]
      refine ⟨vin1, ?_⟩
      refine ⟨vin2, ?_⟩
      refine sf_X9_storm hJS208.2 (fun r209 u210 hJu210 hfu210 hr209_0 hr209_1 => ?_)
      have je734 : ((b9g_hasImage u210)).toInt = ((b9g_hasImage S208.2)).toInt := congrArg (fun z => (z).toInt) hfu210.2.2.2.2.2.2.2.2.2.2.2.2.2.2.2.2.2.2.2.2.2.2.2.2.2.2.2.2.2.2.2.1
      have je736 : ((b9g_images u210) 10).toInt = ((b9g_images S208.2) 10).toInt := congrArg (fun z => (z 10).toInt) hfu210.2.2.2.2.2.2.2.2.2.2.2.2.2.2.2.2.2.2.2.2.2.2.2.2.2.2.2.2.2.2.2.2.1
      have rgr209 := pt_rg r209
      clear hr209_0
      have hTr209_1 := congrArg Int32.toInt hr209_1
      try simp (disch := first | ((try simp (disch := first | ((try simp only [pn]) <;> omega) | fail) only [pn, pq]) <;> omega) | fail) only [pn, pq] at hTr209_1
      intro S211 eS211
      have hGS211 : F_L_law S S211 := trivial
      have hJS211 : J8 S211.1 ∧ J9 S211.2 := by rw [eS211]; exact ⟨hJS208.1, hJu210⟩
      have hFS211 : F_L_law S S211 := hGS211
      have je737 : ((b8g_isKept S211.1)).toInt = ((b8g_isKept S208.1)).toInt := by rw [eS211]
      have je738 : ((b9g_hasImage S211.2)).toInt = ((b9g_hasImage u210)).toInt := by rw [eS211]
      try simp (disch := first | ((try simp (disch := first | ((try simp only [pn]) <;> omega) | fail) only [pn, pq]) <;> omega) | fail) only [pn, pq] at je738
      have je739 : ((b0g_count (b2g_questions (b8g_now S211.1)))).toInt = ((b0g_count (b2g_questions (b8g_now S208.1)))).toInt := by rw [eS211]
      have jf740 := J0g_count (J2g_questions (J8g_now hJS211.1))
      have je741 : ((b0g_count (b2g_questions (b8g_kept S211.1)))).toInt = ((b0g_count (b2g_questions (b8g_kept S208.1)))).toInt := by rw [eS211]
      have jf742 := J0g_count (J2g_questions (J8g_kept hJS211.1))
      have je743 : ((b9g_now S211.2) 10).toInt = ((b9g_now u210) 10).toInt := by rw [eS211]
      try simp (disch := first | ((try simp (disch := first | ((try simp only [pn]) <;> omega) | fail) only [pn, pq]) <;> omega) | fail) only [pn, pq] at je743
      have je744 : ((b9g_images S211.2) 10).toInt = ((b9g_images u210) 10).toInt := by rw [eS211]
      try simp (disch := first | ((try simp (disch := first | ((try simp only [pn]) <;> omega) | fail) only [pn, pq]) <;> omega) | fail) only [pn, pq] at je744
      unfold wp_L_law_1745
      refine ⟨_, ?_, ?_, ?_, ?_, ?_, ?_, ?_, ?_, ?_, ?_, rfl⟩
      · first | omega | ((try simp (disch := first | ((try simp (disch := first | ((try simp only [pn]) <;> omega) | fail) only [pn, pq]) <;> omega) | fail) only [pn, pq]) <;> (intros; (try simp (disch := first | ((try simp (disch := first | ((try simp only [pn]) <;> omega) | fail) only [pn, pq]) <;> omega) | fail) only [pn, pq]) <;> omega))
      · exact hJS211
      · exact hFS211
      · first | omega | ((try simp (disch := first | ((try simp (disch := first | ((try simp only [pn]) <;> omega) | fail) only [pn, pq]) <;> omega) | fail) only [pn, pq]) <;> (intros; (try simp (disch := first | ((try simp (disch := first | ((try simp only [pn]) <;> omega) | fail) only [pn, pq]) <;> omega) | fail) only [pn, pq]) <;> omega))
      · first | omega | ((try simp (disch := first | ((try simp (disch := first | ((try simp only [pn]) <;> omega) | fail) only [pn, pq]) <;> omega) | fail) only [pn, pq]) <;> (intros; (try simp (disch := first | ((try simp (disch := first | ((try simp only [pn]) <;> omega) | fail) only [pn, pq]) <;> omega) | fail) only [pn, pq]) <;> omega))
      · first | omega | ((try simp (disch := first | ((try simp (disch := first | ((try simp only [pn]) <;> omega) | fail) only [pn, pq]) <;> omega) | fail) only [pn, pq]) <;> (intros; (try simp (disch := first | ((try simp (disch := first | ((try simp only [pn]) <;> omega) | fail) only [pn, pq]) <;> omega) | fail) only [pn, pq]) <;> omega))
      · first | omega | ((try simp (disch := first | ((try simp (disch := first | ((try simp only [pn]) <;> omega) | fail) only [pn, pq]) <;> omega) | fail) only [pn, pq]) <;> (intros; (try simp (disch := first | ((try simp (disch := first | ((try simp only [pn]) <;> omega) | fail) only [pn, pq]) <;> omega) | fail) only [pn, pq]) <;> omega))
      · first | omega | ((try simp (disch := first | ((try simp (disch := first | ((try simp only [pn]) <;> omega) | fail) only [pn, pq]) <;> omega) | fail) only [pn, pq]) <;> (intros; (try simp (disch := first | ((try simp (disch := first | ((try simp only [pn]) <;> omega) | fail) only [pn, pq]) <;> omega) | fail) only [pn, pq]) <;> omega))
      · first | omega | ((try simp (disch := first | ((try simp (disch := first | ((try simp only [pn]) <;> omega) | fail) only [pn, pq]) <;> omega) | fail) only [pn, pq]) <;> (intros; (try simp (disch := first | ((try simp (disch := first | ((try simp only [pn]) <;> omega) | fail) only [pn, pq]) <;> omega) | fail) only [pn, pq]) <;> omega))
      · first | omega | ((try simp (disch := first | ((try simp (disch := first | ((try simp only [pn]) <;> omega) | fail) only [pn, pq]) <;> omega) | fail) only [pn, pq]) <;> (intros; (try simp (disch := first | ((try simp (disch := first | ((try simp only [pn]) <;> omega) | fail) only [pn, pq]) <;> omega) | fail) only [pn, pq]) <;> omega))
    · skip
      refine ⟨vin1, ?_⟩
      refine ⟨vin2, ?_⟩
      refine ⟨vin3, ?_⟩
      refine sf_X8_stormRange hJSq1.1 (fun r212 u213 hJu213 hfu213 hr212_0 => ?_)
      have je746 : ((b8g_isKept u213)).toInt = ((b8g_isKept Sq1.1)).toInt := congrArg (fun z => (z).toInt) hfu213.2.2.2.2.1
      have je748 : ((b0g_count (b2g_questions (b8g_now u213)))).toInt = ((b0g_count (b2g_questions (b8g_now Sq1.1)))).toInt := congrArg (fun z => ((b0g_count z)).toInt) hfu213.2.2.1
      have je750 : ((b0g_count (b2g_questions (b8g_kept u213)))).toInt = ((b0g_count (b2g_questions (b8g_kept Sq1.1)))).toInt := congrArg (fun z => ((b0g_count (b2g_questions z))).toInt) hfu213.2.2.2.1
      have rgr212 := pt_rg r212
      clear hr212_0
      intro S214 eS214
      have hGS214 : F_L_law S S214 := trivial
      have hJS214 : J8 S214.1 ∧ J9 S214.2 := by rw [eS214]; exact ⟨hJu213, hJSq1.2⟩
      have hFS214 : F_L_law S S214 := hGS214
      have je751 : ((b8g_isKept S214.1)).toInt = ((b8g_isKept u213)).toInt := by rw [eS214]
      try simp (disch := first | ((try simp (disch := first | ((try simp only [pn]) <;> omega) | fail) only [pn, pq]) <;> omega) | fail) only [pn, pq] at je751
      have je752 : ((b9g_hasImage S214.2)).toInt = ((b9g_hasImage Sq1.2)).toInt := by rw [eS214]
      have je753 : ((b0g_count (b2g_questions (b8g_now S214.1)))).toInt = ((b0g_count (b2g_questions (b8g_now u213)))).toInt := by rw [eS214]
      try simp (disch := first | ((try simp (disch := first | ((try simp only [pn]) <;> omega) | fail) only [pn, pq]) <;> omega) | fail) only [pn, pq] at je753
      have jf754 := J0g_count (J2g_questions (J8g_now hJS214.1))
      have je755 : ((b0g_count (b2g_questions (b8g_kept S214.1)))).toInt = ((b0g_count (b2g_questions (b8g_kept u213)))).toInt := by rw [eS214]
      try simp (disch := first | ((try simp (disch := first | ((try simp only [pn]) <;> omega) | fail) only [pn, pq]) <;> omega) | fail) only [pn, pq] at je755
      have jf756 := J0g_count (J2g_questions (J8g_kept hJS214.1))
      have je757 : ((b9g_now S214.2) 10).toInt = ((b9g_now Sq1.2) 10).toInt := by rw [eS214]
      have je758 : ((b9g_images S214.2) 10).toInt = ((b9g_images Sq1.2) 10).toInt := by rw [eS214]
      refine ⟨vin1, ?_⟩
      refine ⟨vin2, ?_⟩
      refine ⟨vin3, ?_⟩
      refine sf_X9_stormRange hJS214.2 (fun r215 u216 hJu216 hfu216 hr215_0 hr215_1 => ?_)
      have je760 : ((b9g_hasImage u216)).toInt = ((b9g_hasImage S214.2)).toInt := congrArg (fun z => (z).toInt) hfu216.2.2.2.2.2.2.2.2.2.2.2.2.2.2.2.2.2.2.2.2.2.2.2.2.2.2.2.1
      have je762 : ((b9g_images u216) 10).toInt = ((b9g_images S214.2) 10).toInt := congrArg (fun z => (z 10).toInt) hfu216.2.2.2.2.2.2.2.2.2.2.2.2.2.2.2.2.2.2.2.2.2.2.2.2.2.2.2.2.1
      have rgr215 := pt_rg r215
      clear hr215_0
      have hTr215_1 := congrArg Int32.toInt hr215_1
      try simp (disch := first | ((try simp (disch := first | ((try simp only [pn]) <;> omega) | fail) only [pn, pq]) <;> omega) | fail) only [pn, pq] at hTr215_1
      intro S217 eS217
      have hGS217 : F_L_law S S217 := trivial
      have hJS217 : J8 S217.1 ∧ J9 S217.2 := by rw [eS217]; exact ⟨hJS214.1, hJu216⟩
      have hFS217 : F_L_law S S217 := hGS217
      have je763 : ((b8g_isKept S217.1)).toInt = ((b8g_isKept S214.1)).toInt := by rw [eS217]
      have je764 : ((b9g_hasImage S217.2)).toInt = ((b9g_hasImage u216)).toInt := by rw [eS217]
      try simp (disch := first | ((try simp (disch := first | ((try simp only [pn]) <;> omega) | fail) only [pn, pq]) <;> omega) | fail) only [pn, pq] at je764
      have je765 : ((b0g_count (b2g_questions (b8g_now S217.1)))).toInt = ((b0g_count (b2g_questions (b8g_now S214.1)))).toInt := by rw [eS217]
      have jf766 := J0g_count (J2g_questions (J8g_now hJS217.1))
      have je767 : ((b0g_count (b2g_questions (b8g_kept S217.1)))).toInt = ((b0g_count (b2g_questions (b8g_kept S214.1)))).toInt := by rw [eS217]
      have jf768 := J0g_count (J2g_questions (J8g_kept hJS217.1))
      have je769 : ((b9g_now S217.2) 10).toInt = ((b9g_now u216) 10).toInt := by rw [eS217]
      try simp (disch := first | ((try simp (disch := first | ((try simp only [pn]) <;> omega) | fail) only [pn, pq]) <;> omega) | fail) only [pn, pq] at je769
      have je770 : ((b9g_images S217.2) 10).toInt = ((b9g_images u216) 10).toInt := by rw [eS217]
      try simp (disch := first | ((try simp (disch := first | ((try simp only [pn]) <;> omega) | fail) only [pn, pq]) <;> omega) | fail) only [pn, pq] at je770
      unfold wp_L_law_1745
      refine ⟨_, ?_, ?_, ?_, ?_, ?_, ?_, ?_, ?_, ?_, ?_, rfl⟩
      · first | omega | ((try simp (disch := first | ((try simp (disch := first | ((try simp only [pn]) <;> omega) | fail) only [pn, pq]) <;> omega) | fail) only [pn, pq]) <;> (intros; (try simp (disch := first | ((try simp (disch := first | ((try simp only [pn]) <;> omega) | fail) only [pn, pq]) <;> omega) | fail) only [pn, pq]) <;> omega))
      · exact hJS217
      · exact hFS217
      · first | omega | ((try simp (disch := first | ((try simp (disch := first | ((try simp only [pn]) <;> omega) | fail) only [pn, pq]) <;> omega) | fail) only [pn, pq]) <;> (intros; (try simp (disch := first | ((try simp (disch := first | ((try simp only [pn]) <;> omega) | fail) only [pn, pq]) <;> omega) | fail) only [pn, pq]) <;> omega))
      · first | omega | ((try simp (disch := first | ((try simp (disch := first | ((try simp only [pn]) <;> omega) | fail) only [pn, pq]) <;> omega) | fail) only [pn, pq]) <;> (intros; (try simp (disch := first | ((try simp (disch := first | ((try simp only [pn]) <;> omega) | fail) only [pn, pq]) <;> omega) | fail) only [pn, pq]) <;> omega))
      · first | omega | ((try simp (disch := first | ((try simp (disch := first | ((try simp only [pn]) <;> omega) | fail) only [pn, pq]) <;> omega) | fail) only [pn, pq]) <;> (intros; (try simp (disch := first | ((try simp (disch := first | ((try simp only [pn]) <;> omega) | fail) only [pn, pq]) <;> omega) | fail) only [pn, pq]) <;> omega))
      · first | omega | ((try simp (disch := first | ((try simp (disch := first | ((try simp only [pn]) <;> omega) | fail) only [pn, pq]) <;> omega) | fail) only [pn, pq]) <;> (intros; (try simp (disch := first | ((try simp (disch := first | ((try simp only [pn]) <;> omega) | fail) only [pn, pq]) <;> omega) | fail) only [pn, pq]) <;> omega))
      · first | omega | ((try simp (disch := first | ((try simp (disch := first | ((try simp only [pn]) <;> omega) | fail) only [pn, pq]) <;> omega) | fail) only [pn, pq]) <;> (intros; (try simp (disch := first | ((try simp (disch := first | ((try simp only [pn]) <;> omega) | fail) only [pn, pq]) <;> omega) | fail) only [pn, pq]) <;> omega))
      · first | omega | ((try simp (disch := first | ((try simp (disch := first | ((try simp only [pn]) <;> omega) | fail) only [pn, pq]) <;> omega) | fail) only [pn, pq]) <;> (intros; (try simp (disch := first | ((try simp (disch := first | ((try simp only [pn]) <;> omega) | fail) only [pn, pq]) <;> omega) | fail) only [pn, pq]) <;> omega))
      · first | omega | ((try simp (disch := first | ((try simp (disch := first | ((try simp only [pn]) <;> omega) | fail) only [pn, pq]) <;> omega) | fail) only [pn, pq]) <;> (intros; (try simp (disch := first | ((try simp (disch := first | ((try simp only [pn]) <;> omega) | fail) only [pn, pq]) <;> omega) | fail) only [pn, pq]) <;> omega))
    · skip
      refine ⟨vin1, ?_⟩
      refine sf_X8_account hJSq1.1 (fun r218  => ?_)
      have rgr218 := pt_rg r218
      refine ⟨vin1, ?_⟩
      refine sf_X9_account hJSq1.2 (fun r220 u221 hJu221 hfu221  => ?_)
      have je772 : ((b9g_hasImage u221)).toInt = ((b9g_hasImage Sq1.2)).toInt := congrArg (fun z => (z).toInt) hfu221.2.2.2.2.2.2.2.2.2.2.2.2.2.2.2.2.2.2.2.2.2.2.2.2.2.2.2.2.2.2.2.2.2.2.2.2.2.2.2.2.2.1
      have je774 : ((b9g_now u221) 10).toInt = ((b9g_now Sq1.2) 10).toInt := congrArg (fun z => (z 10).toInt) hfu221.1
      have je776 : ((b9g_images u221) 10).toInt = ((b9g_images Sq1.2) 10).toInt := congrArg (fun z => (z 10).toInt) hfu221.2.2.2.2.2.2.2.2.2.2.2.2.2.2.2.2.2.2.2.2.2.2.2.2.2.2.2.2.2.2.2.2.2.2.2.2.2.2.2.2.2.2.1
      have rgr220 := pt_rg r220
      intro S222 eS222
      have hGS222 : F_L_law S S222 := trivial
      have hJS222 : J8 S222.1 ∧ J9 S222.2 := by rw [eS222]; exact ⟨hJSq1.1, hJu221⟩
      have hFS222 : F_L_law S S222 := hGS222
      have je777 : ((b8g_isKept S222.1)).toInt = ((b8g_isKept Sq1.1)).toInt := by rw [eS222]
      have je778 : ((b9g_hasImage S222.2)).toInt = ((b9g_hasImage u221)).toInt := by rw [eS222]
      try simp (disch := first | ((try simp (disch := first | ((try simp only [pn]) <;> omega) | fail) only [pn, pq]) <;> omega) | fail) only [pn, pq] at je778
      have je779 : ((b0g_count (b2g_questions (b8g_now S222.1)))).toInt = ((b0g_count (b2g_questions (b8g_now Sq1.1)))).toInt := by rw [eS222]
      have jf780 := J0g_count (J2g_questions (J8g_now hJS222.1))
      have je781 : ((b0g_count (b2g_questions (b8g_kept S222.1)))).toInt = ((b0g_count (b2g_questions (b8g_kept Sq1.1)))).toInt := by rw [eS222]
      have jf782 := J0g_count (J2g_questions (J8g_kept hJS222.1))
      have je783 : ((b9g_now S222.2) 10).toInt = ((b9g_now u221) 10).toInt := by rw [eS222]
      try simp (disch := first | ((try simp (disch := first | ((try simp only [pn]) <;> omega) | fail) only [pn, pq]) <;> omega) | fail) only [pn, pq] at je783
      have je784 : ((b9g_images S222.2) 10).toInt = ((b9g_images u221) 10).toInt := by rw [eS222]
      try simp (disch := first | ((try simp (disch := first | ((try simp only [pn]) <;> omega) | fail) only [pn, pq]) <;> omega) | fail) only [pn, pq] at je784
      unfold wp_L_law_1745
      refine ⟨_, ?_, ?_, ?_, ?_, ?_, ?_, ?_, ?_, ?_, ?_, rfl⟩
      · first | omega | ((try simp (disch := first | ((try simp (disch := first | ((try simp only [pn]) <;> omega) | fail) only [pn, pq]) <;> omega) | fail) only [pn, pq]) <;> (intros; (try simp (disch := first | ((try simp (disch := first | ((try simp only [pn]) <;> omega) | fail) only [pn, pq]) <;> omega) | fail) only [pn, pq]) <;> omega))
      · exact hJS222
      · exact hFS222
      · first | omega | ((try simp (disch := first | ((try simp (disch := first | ((try simp only [pn]) <;> omega) | fail) only [pn, pq]) <;> omega) | fail) only [pn, pq]) <;> (intros; (try simp (disch := first | ((try simp (disch := first | ((try simp only [pn]) <;> omega) | fail) only [pn, pq]) <;> omega) | fail) only [pn, pq]) <;> omega))
      · first | omega | ((try simp (disch := first | ((try simp (disch := first | ((try simp only [pn]) <;> omega) | fail) only [pn, pq]) <;> omega) | fail) only [pn, pq]) <;> (intros; (try simp (disch := first | ((try simp (disch := first | ((try simp only [pn]) <;> omega) | fail) only [pn, pq]) <;> omega) | fail) only [pn, pq]) <;> omega))
      · first | omega | ((try simp (disch := first | ((try simp (disch := first | ((try simp only [pn]) <;> omega) | fail) only [pn, pq]) <;> omega) | fail) only [pn, pq]) <;> (intros; (try simp (disch := first | ((try simp (disch := first | ((try simp only [pn]) <;> omega) | fail) only [pn, pq]) <;> omega) | fail) only [pn, pq]) <;> omega))
      · first | omega | ((try simp (disch := first | ((try simp (disch := first | ((try simp only [pn]) <;> omega) | fail) only [pn, pq]) <;> omega) | fail) only [pn, pq]) <;> (intros; (try simp (disch := first | ((try simp (disch := first | ((try simp only [pn]) <;> omega) | fail) only [pn, pq]) <;> omega) | fail) only [pn, pq]) <;> omega))
      · first | omega | ((try simp (disch := first | ((try simp (disch := first | ((try simp only [pn]) <;> omega) | fail) only [pn, pq]) <;> omega) | fail) only [pn, pq]) <;> (intros; (try simp (disch := first | ((try simp (disch := first | ((try simp only [pn]) <;> omega) | fail) only [pn, pq]) <;> omega) | fail) only [pn, pq]) <;> omega))
      · first | omega | ((try simp (disch := first | ((try simp (disch := first | ((try simp only [pn]) <;> omega) | fail) only [pn, pq]) <;> omega) | fail) only [pn, pq]) <;> (intros; (try simp (disch := first | ((try simp (disch := first | ((try simp only [pn]) <;> omega) | fail) only [pn, pq]) <;> omega) | fail) only [pn, pq]) <;> omega))
      · first | omega | ((try simp (disch := first | ((try simp (disch := first | ((try simp only [pn]) <;> omega) | fail) only [pn, pq]) <;> omega) | fail) only [pn, pq]) <;> (intros; (try simp (disch := first | ((try simp (disch := first | ((try simp only [pn]) <;> omega) | fail) only [pn, pq]) <;> omega) | fail) only [pn, pq]) <;> omega))
    · skip
      refine ⟨vin1, ?_⟩
      refine sf_X8_since hJSq1.1 (fun r223  => ?_)
      have rgr223 := pt_rg r223
      refine ⟨vin1, ?_⟩
      refine sf_X9_since hJSq1.2 (fun r225 u226 hJu226 hfu226  => ?_)
      have je786 : ((b9g_hasImage u226)).toInt = ((b9g_hasImage Sq1.2)).toInt := congrArg (fun z => (z).toInt) hfu226.2.2.2.2.2.2.2.2.2.2.2.2.2.2.2.2.2.2.2.2.2.2.2.2.2.2.2.2.2.2.2.2.2.2.1
      have je788 : ((b9g_now u226) 10).toInt = ((b9g_now Sq1.2) 10).toInt := congrArg (fun z => (z 10).toInt) hfu226.1
      have je790 : ((b9g_images u226) 10).toInt = ((b9g_images Sq1.2) 10).toInt := congrArg (fun z => (z 10).toInt) hfu226.2.2.2.2.2.2.2.2.2.2.2.2.2.2.2.2.2.2.2.2.2.2.2.2.2.2.2.2.2.2.2.2.2.2.2.1
      have rgr225 := pt_rg r225
      intro S227 eS227
      have hGS227 : F_L_law S S227 := trivial
      have hJS227 : J8 S227.1 ∧ J9 S227.2 := by rw [eS227]; exact ⟨hJSq1.1, hJu226⟩
      have hFS227 : F_L_law S S227 := hGS227
      have je791 : ((b8g_isKept S227.1)).toInt = ((b8g_isKept Sq1.1)).toInt := by rw [eS227]
      have je792 : ((b9g_hasImage S227.2)).toInt = ((b9g_hasImage u226)).toInt := by rw [eS227]
      try simp (disch := first | ((try simp (disch := first | ((try simp only [pn]) <;> omega) | fail) only [pn, pq]) <;> omega) | fail) only [pn, pq] at je792
      have je793 : ((b0g_count (b2g_questions (b8g_now S227.1)))).toInt = ((b0g_count (b2g_questions (b8g_now Sq1.1)))).toInt := by rw [eS227]
      have jf794 := J0g_count (J2g_questions (J8g_now hJS227.1))
      have je795 : ((b0g_count (b2g_questions (b8g_kept S227.1)))).toInt = ((b0g_count (b2g_questions (b8g_kept Sq1.1)))).toInt := by rw [eS227]
      have jf796 := J0g_count (J2g_questions (J8g_kept hJS227.1))
      have je797 : ((b9g_now S227.2) 10).toInt = ((b9g_now u226) 10).toInt := by rw [eS227]
      try simp (disch := first | ((try simp (disch := first | ((try simp only [pn]) <;> omega) | fail) only [pn, pq]) <;> omega) | fail) only [pn, pq] at je797
      have je798 : ((b9g_images S227.2) 10).toInt = ((b9g_images u226) 10).toInt := by rw [eS227]
      try simp (disch := first | ((try simp (disch := first | ((try simp only [pn]) <;> omega) | fail) only [pn, pq]) <;> omega) | fail) only [pn, pq] at je798
      unfold wp_L_law_1745
      refine ⟨_, ?_, ?_, ?_, ?_, ?_, ?_, ?_, ?_, ?_, ?_, rfl⟩
      · first | omega | ((try simp (disch := first | ((try simp (disch := first | ((try simp only [pn]) <;> omega) | fail) only [pn, pq]) <;> omega) | fail) only [pn, pq]) <;> (intros; (try simp (disch := first | ((try simp (disch := first | ((try simp only [pn]) <;> omega) | fail) only [pn, pq]) <;> omega) | fail) only [pn, pq]) <;> omega))
      · exact hJS227
      · exact hFS227
      · first | omega | ((try simp (disch := first | ((try simp (disch := first | ((try simp only [pn]) <;> omega) | fail) only [pn, pq]) <;> omega) | fail) only [pn, pq]) <;> (intros; (try simp (disch := first | ((try simp (disch := first | ((try simp only [pn]) <;> omega) | fail) only [pn, pq]) <;> omega) | fail) only [pn, pq]) <;> omega))
      · first | omega | ((try simp (disch := first | ((try simp (disch := first | ((try simp only [pn]) <;> omega) | fail) only [pn, pq]) <;> omega) | fail) only [pn, pq]) <;> (intros; (try simp (disch := first | ((try simp (disch := first | ((try simp only [pn]) <;> omega) | fail) only [pn, pq]) <;> omega) | fail) only [pn, pq]) <;> omega))
      · first | omega | ((try simp (disch := first | ((try simp (disch := first | ((try simp only [pn]) <;> omega) | fail) only [pn, pq]) <;> omega) | fail) only [pn, pq]) <;> (intros; (try simp (disch := first | ((try simp (disch := first | ((try simp only [pn]) <;> omega) | fail) only [pn, pq]) <;> omega) | fail) only [pn, pq]) <;> omega))
      · first | omega | ((try simp (disch := first | ((try simp (disch := first | ((try simp only [pn]) <;> omega) | fail) only [pn, pq]) <;> omega) | fail) only [pn, pq]) <;> (intros; (try simp (disch := first | ((try simp (disch := first | ((try simp only [pn]) <;> omega) | fail) only [pn, pq]) <;> omega) | fail) only [pn, pq]) <;> omega))
      · first | omega | ((try simp (disch := first | ((try simp (disch := first | ((try simp only [pn]) <;> omega) | fail) only [pn, pq]) <;> omega) | fail) only [pn, pq]) <;> (intros; (try simp (disch := first | ((try simp (disch := first | ((try simp only [pn]) <;> omega) | fail) only [pn, pq]) <;> omega) | fail) only [pn, pq]) <;> omega))
      · first | omega | ((try simp (disch := first | ((try simp (disch := first | ((try simp only [pn]) <;> omega) | fail) only [pn, pq]) <;> omega) | fail) only [pn, pq]) <;> (intros; (try simp (disch := first | ((try simp (disch := first | ((try simp only [pn]) <;> omega) | fail) only [pn, pq]) <;> omega) | fail) only [pn, pq]) <;> omega))
      · first | omega | ((try simp (disch := first | ((try simp (disch := first | ((try simp only [pn]) <;> omega) | fail) only [pn, pq]) <;> omega) | fail) only [pn, pq]) <;> (intros; (try simp (disch := first | ((try simp (disch := first | ((try simp only [pn]) <;> omega) | fail) only [pn, pq]) <;> omega) | fail) only [pn, pq]) <;> omega))
    · skip
      refine ⟨vin1, ?_⟩
      refine sf_X8_report hJSq1.1 (fun r228 u229 hJu229 hfu229  => ?_)
      have je800 : ((b8g_isKept u229)).toInt = ((b8g_isKept Sq1.1)).toInt := congrArg (fun z => (z).toInt) hfu229.2.2.1
      have je802 : ((b0g_count (b2g_questions (b8g_now u229)))).toInt = ((b0g_count (b2g_questions (b8g_now Sq1.1)))).toInt := congrArg (fun z => ((b0g_count (b2g_questions z))).toInt) hfu229.1
      have je804 : ((b0g_count (b2g_questions (b8g_kept u229)))).toInt = ((b0g_count (b2g_questions (b8g_kept Sq1.1)))).toInt := congrArg (fun z => ((b0g_count (b2g_questions z))).toInt) hfu229.2.1
      have rgr228 := pt_rg r228
      intro S230 eS230
      have hGS230 : F_L_law S S230 := trivial
      have hJS230 : J8 S230.1 ∧ J9 S230.2 := by rw [eS230]; exact ⟨hJu229, hJSq1.2⟩
      have hFS230 : F_L_law S S230 := hGS230
      have je805 : ((b8g_isKept S230.1)).toInt = ((b8g_isKept u229)).toInt := by rw [eS230]
      try simp (disch := first | ((try simp (disch := first | ((try simp only [pn]) <;> omega) | fail) only [pn, pq]) <;> omega) | fail) only [pn, pq] at je805
      have je806 : ((b9g_hasImage S230.2)).toInt = ((b9g_hasImage Sq1.2)).toInt := by rw [eS230]
      have je807 : ((b0g_count (b2g_questions (b8g_now S230.1)))).toInt = ((b0g_count (b2g_questions (b8g_now u229)))).toInt := by rw [eS230]
      try simp (disch := first | ((try simp (disch := first | ((try simp only [pn]) <;> omega) | fail) only [pn, pq]) <;> omega) | fail) only [pn, pq] at je807
      have jf808 := J0g_count (J2g_questions (J8g_now hJS230.1))
      have je809 : ((b0g_count (b2g_questions (b8g_kept S230.1)))).toInt = ((b0g_count (b2g_questions (b8g_kept u229)))).toInt := by rw [eS230]
      try simp (disch := first | ((try simp (disch := first | ((try simp only [pn]) <;> omega) | fail) only [pn, pq]) <;> omega) | fail) only [pn, pq] at je809
      have jf810 := J0g_count (J2g_questions (J8g_kept hJS230.1))
      have je811 : ((b9g_now S230.2) 10).toInt = ((b9g_now Sq1.2) 10).toInt := by rw [eS230]
      have je812 : ((b9g_images S230.2) 10).toInt = ((b9g_images Sq1.2) 10).toInt := by rw [eS230]
      refine ⟨vin1, ?_⟩
      refine sf_X9_report hJS230.2 (fun r231 u232 hJu232 hfu232  => ?_)
      have je814 : ((b9g_hasImage u232)).toInt = ((b9g_hasImage S230.2)).toInt := congrArg (fun z => (z).toInt) hfu232.2.2.2.2.2.2.2.2.2.2.2.2.2.2.2.2.2.2.2.2.1
      have je816 : ((b9g_now u232) 10).toInt = ((b9g_now S230.2) 10).toInt := congrArg (fun z => (z 10).toInt) hfu232.1
      have je818 : ((b9g_images u232) 10).toInt = ((b9g_images S230.2) 10).toInt := congrArg (fun z => (z 10).toInt) hfu232.2.2.2.2.2.2.2.2.2.2.2.2.2.2.2.2.2.2.2.2.2.1
      have rgr231 := pt_rg r231
      intro S233 eS233
      have hGS233 : F_L_law S S233 := trivial
      have hJS233 : J8 S233.1 ∧ J9 S233.2 := by rw [eS233]; exact ⟨hJS230.1, hJu232⟩
      have hFS233 : F_L_law S S233 := hGS233
      have je819 : ((b8g_isKept S233.1)).toInt = ((b8g_isKept S230.1)).toInt := by rw [eS233]
      have je820 : ((b9g_hasImage S233.2)).toInt = ((b9g_hasImage u232)).toInt := by rw [eS233]
      try simp (disch := first | ((try simp (disch := first | ((try simp only [pn]) <;> omega) | fail) only [pn, pq]) <;> omega) | fail) only [pn, pq] at je820
      have je821 : ((b0g_count (b2g_questions (b8g_now S233.1)))).toInt = ((b0g_count (b2g_questions (b8g_now S230.1)))).toInt := by rw [eS233]
      have jf822 := J0g_count (J2g_questions (J8g_now hJS233.1))
      have je823 : ((b0g_count (b2g_questions (b8g_kept S233.1)))).toInt = ((b0g_count (b2g_questions (b8g_kept S230.1)))).toInt := by rw [eS233]
      have jf824 := J0g_count (J2g_questions (J8g_kept hJS233.1))
      have je825 : ((b9g_now S233.2) 10).toInt = ((b9g_now u232) 10).toInt := by rw [eS233]
      try simp (disch := first | ((try simp (disch := first | ((try simp only [pn]) <;> omega) | fail) only [pn, pq]) <;> omega) | fail) only [pn, pq] at je825
      have je826 : ((b9g_images S233.2) 10).toInt = ((b9g_images u232) 10).toInt := by rw [eS233]
      try simp (disch := first | ((try simp (disch := first | ((try simp only [pn]) <;> omega) | fail) only [pn, pq]) <;> omega) | fail) only [pn, pq] at je826
      unfold wp_L_law_1745
      refine ⟨_, ?_, ?_, ?_, ?_, ?_, ?_, ?_, ?_, ?_, ?_, rfl⟩
      · first | omega | ((try simp (disch := first | ((try simp (disch := first | ((try simp only [pn]) <;> omega) | fail) only [pn, pq]) <;> omega) | fail) only [pn, pq]) <;> (intros; (try simp (disch := first | ((try simp (disch := first | ((try simp only [pn]) <;> omega) | fail) only [pn, pq]) <;> omega) | fail) only [pn, pq]) <;> omega))
      · exact hJS233
      · exact hFS233
      · first | omega | ((try simp (disch := first | ((try simp (disch := first | ((try simp only [pn]) <;> omega) | fail) only [pn, pq]) <;> omega) | fail) only [pn, pq]) <;> (intros; (try simp (disch := first | ((try simp (disch := first | ((try simp only [pn]) <;> omega) | fail) only [pn, pq]) <;> omega) | fail) only [pn, pq]) <;> omega))
      · first | omega | ((try simp (disch := first | ((try simp (disch := first | ((try simp only [pn]) <;> omega) | fail) only [pn, pq]) <;> omega) | fail) only [pn, pq]) <;> (intros; (try simp (disch := first | ((try simp (disch := first | ((try simp only [pn]) <;> omega) | fail) only [pn, pq]) <;> omega) | fail) only [pn, pq]) <;> omega))
      · first | omega | ((try simp (disch := first | ((try simp (disch := first | ((try simp only [pn]) <;> omega) | fail) only [pn, pq]) <;> omega) | fail) only [pn, pq]) <;> (intros; (try simp (disch := first | ((try simp (disch := first | ((try simp only [pn]) <;> omega) | fail) only [pn, pq]) <;> omega) | fail) only [pn, pq]) <;> omega))
      · first | omega | ((try simp (disch := first | ((try simp (disch := first | ((try simp only [pn]) <;> omega) | fail) only [pn, pq]) <;> omega) | fail) only [pn, pq]) <;> (intros; (try simp (disch := first | ((try simp (disch := first | ((try simp only [pn]) <;> omega) | fail) only [pn, pq]) <;> omega) | fail) only [pn, pq]) <;> omega))
      · first | omega | ((try simp (disch := first | ((try simp (disch := first | ((try simp only [pn]) <;> omega) | fail) only [pn, pq]) <;> omega) | fail) only [pn, pq]) <;> (intros; (try simp (disch := first | ((try simp (disch := first | ((try simp only [pn]) <;> omega) | fail) only [pn, pq]) <;> omega) | fail) only [pn, pq]) <;> omega))
      · first | omega | ((try simp (disch := first | ((try simp (disch := first | ((try simp only [pn]) <;> omega) | fail) only [pn, pq]) <;> omega) | fail) only [pn, pq]) <;> (intros; (try simp (disch := first | ((try simp (disch := first | ((try simp only [pn]) <;> omega) | fail) only [pn, pq]) <;> omega) | fail) only [pn, pq]) <;> omega))
      · first | omega | ((try simp (disch := first | ((try simp (disch := first | ((try simp only [pn]) <;> omega) | fail) only [pn, pq]) <;> omega) | fail) only [pn, pq]) <;> (intros; (try simp (disch := first | ((try simp (disch := first | ((try simp only [pn]) <;> omega) | fail) only [pn, pq]) <;> omega) | fail) only [pn, pq]) <;> omega))
    · skip
      refine ⟨vin1, ?_⟩
      refine sf_X8_sign hJSq1.1 (fun r234  => ?_)
      have rgr234 := pt_rg r234
      refine ⟨vin1, ?_⟩
      refine sf_X9_sign hJSq1.2 (fun r236 u237 hJu237 hfu237  => ?_)
      have je828 : ((b9g_hasImage u237)).toInt = ((b9g_hasImage Sq1.2)).toInt := congrArg (fun z => (z).toInt) hfu237.2.2.2.2.2.2.2.2.2.2.2.2.2.2.2.2.2.2.2.2.2.2.2.2.2.2.2.2.2.2.2.2.2.2.2.2.2.2.2.2.2.1
      have je830 : ((b9g_now u237) 10).toInt = ((b9g_now Sq1.2) 10).toInt := congrArg (fun z => (z 10).toInt) hfu237.1
      have je832 : ((b9g_images u237) 10).toInt = ((b9g_images Sq1.2) 10).toInt := congrArg (fun z => (z 10).toInt) hfu237.2.2.2.2.2.2.2.2.2.2.2.2.2.2.2.2.2.2.2.2.2.2.2.2.2.2.2.2.2.2.2.2.2.2.2.2.2.2.2.2.2.2.1
      have rgr236 := pt_rg r236
      intro S238 eS238
      have hGS238 : F_L_law S S238 := trivial
      have hJS238 : J8 S238.1 ∧ J9 S238.2 := by rw [eS238]; exact ⟨hJSq1.1, hJu237⟩
      have hFS238 : F_L_law S S238 := hGS238
      have je833 : ((b8g_isKept S238.1)).toInt = ((b8g_isKept Sq1.1)).toInt := by rw [eS238]
      have je834 : ((b9g_hasImage S238.2)).toInt = ((b9g_hasImage u237)).toInt := by rw [eS238]
      try simp (disch := first | ((try simp (disch := first | ((try simp only [pn]) <;> omega) | fail) only [pn, pq]) <;> omega) | fail) only [pn, pq] at je834
      have je835 : ((b0g_count (b2g_questions (b8g_now S238.1)))).toInt = ((b0g_count (b2g_questions (b8g_now Sq1.1)))).toInt := by rw [eS238]
      have jf836 := J0g_count (J2g_questions (J8g_now hJS238.1))
      have je837 : ((b0g_count (b2g_questions (b8g_kept S238.1)))).toInt = ((b0g_count (b2g_questions (b8g_kept Sq1.1)))).toInt := by rw [eS238]
      have jf838 := J0g_count (J2g_questions (J8g_kept hJS238.1))
      have je839 : ((b9g_now S238.2) 10).toInt = ((b9g_now u237) 10).toInt := by rw [eS238]
      try simp (disch := first | ((try simp (disch := first | ((try simp only [pn]) <;> omega) | fail) only [pn, pq]) <;> omega) | fail) only [pn, pq] at je839
      have je840 : ((b9g_images S238.2) 10).toInt = ((b9g_images u237) 10).toInt := by rw [eS238]
      try simp (disch := first | ((try simp (disch := first | ((try simp only [pn]) <;> omega) | fail) only [pn, pq]) <;> omega) | fail) only [pn, pq] at je840
      unfold wp_L_law_1745
      refine ⟨_, ?_, ?_, ?_, ?_, ?_, ?_, ?_, ?_, ?_, ?_, rfl⟩
      · first | omega | ((try simp (disch := first | ((try simp (disch := first | ((try simp only [pn]) <;> omega) | fail) only [pn, pq]) <;> omega) | fail) only [pn, pq]) <;> (intros; (try simp (disch := first | ((try simp (disch := first | ((try simp only [pn]) <;> omega) | fail) only [pn, pq]) <;> omega) | fail) only [pn, pq]) <;> omega))
      · exact hJS238
      · exact hFS238
      · first | omega | ((try simp (disch := first | ((try simp (disch := first | ((try simp only [pn]) <;> omega) | fail) only [pn, pq]) <;> omega) | fail) only [pn, pq]) <;> (intros; (try simp (disch := first | ((try simp (disch := first | ((try simp only [pn]) <;> omega) | fail) only [pn, pq]) <;> omega) | fail) only [pn, pq]) <;> omega))
      · first | omega | ((try simp (disch := first | ((try simp (disch := first | ((try simp only [pn]) <;> omega) | fail) only [pn, pq]) <;> omega) | fail) only [pn, pq]) <;> (intros; (try simp (disch := first | ((try simp (disch := first | ((try simp only [pn]) <;> omega) | fail) only [pn, pq]) <;> omega) | fail) only [pn, pq]) <;> omega))
      · first | omega | ((try simp (disch := first | ((try simp (disch := first | ((try simp only [pn]) <;> omega) | fail) only [pn, pq]) <;> omega) | fail) only [pn, pq]) <;> (intros; (try simp (disch := first | ((try simp (disch := first | ((try simp only [pn]) <;> omega) | fail) only [pn, pq]) <;> omega) | fail) only [pn, pq]) <;> omega))
      · first | omega | ((try simp (disch := first | ((try simp (disch := first | ((try simp only [pn]) <;> omega) | fail) only [pn, pq]) <;> omega) | fail) only [pn, pq]) <;> (intros; (try simp (disch := first | ((try simp (disch := first | ((try simp only [pn]) <;> omega) | fail) only [pn, pq]) <;> omega) | fail) only [pn, pq]) <;> omega))
      · first | omega | ((try simp (disch := first | ((try simp (disch := first | ((try simp only [pn]) <;> omega) | fail) only [pn, pq]) <;> omega) | fail) only [pn, pq]) <;> (intros; (try simp (disch := first | ((try simp (disch := first | ((try simp only [pn]) <;> omega) | fail) only [pn, pq]) <;> omega) | fail) only [pn, pq]) <;> omega))
      · first | omega | ((try simp (disch := first | ((try simp (disch := first | ((try simp only [pn]) <;> omega) | fail) only [pn, pq]) <;> omega) | fail) only [pn, pq]) <;> (intros; (try simp (disch := first | ((try simp (disch := first | ((try simp only [pn]) <;> omega) | fail) only [pn, pq]) <;> omega) | fail) only [pn, pq]) <;> omega))
      · first | omega | ((try simp (disch := first | ((try simp (disch := first | ((try simp only [pn]) <;> omega) | fail) only [pn, pq]) <;> omega) | fail) only [pn, pq]) <;> (intros; (try simp (disch := first | ((try simp (disch := first | ((try simp only [pn]) <;> omega) | fail) only [pn, pq]) <;> omega) | fail) only [pn, pq]) <;> omega))
    · skip
      refine ⟨vin1, ?_⟩
      refine ⟨fun c239 => ?_, fun c239 => ?_⟩
      · try simp (disch := first | ((try simp (disch := first | ((try simp only [pn]) <;> omega) | fail) only [pn, pq]) <;> omega) | fail) only [pn, pq] at c239
        unfold wp_L_law_1697
        refine sf_X8_image hJSq1.1 (fun r240 u241 hJu241 hfu241 hzr240 hr240_0 => ?_)
        try simp (disch := first | ((try simp (disch := first | ((try simp only [pn]) <;> omega) | fail) only [pn, pq]) <;> omega) | fail) only [pn, pq] at hr240_0
        intro S242 eS242
        have hGS242 : F_L_law S S242 := trivial
        have hJS242 : J8 S242.1 ∧ J9 S242.2 := by rw [eS242]; exact ⟨hJu241, hJSq1.2⟩
        have hFS242 : F_L_law S S242 := hGS242
        have je841 : ((b8g_isKept S242.1)).toInt = ((b8g_isKept u241)).toInt := by rw [eS242]
        try simp (disch := first | ((try simp (disch := first | ((try simp only [pn]) <;> omega) | fail) only [pn, pq]) <;> omega) | fail) only [pn, pq] at je841
        have je842 : ((b9g_hasImage S242.2)).toInt = ((b9g_hasImage Sq1.2)).toInt := by rw [eS242]
        have je843 : ((b0g_count (b2g_questions (b8g_now S242.1)))).toInt = ((b0g_count (b2g_questions (b8g_now u241)))).toInt := by rw [eS242]
        try simp (disch := first | ((try simp (disch := first | ((try simp only [pn]) <;> omega) | fail) only [pn, pq]) <;> omega) | fail) only [pn, pq] at je843
        have jf844 := J0g_count (J2g_questions (J8g_now hJS242.1))
        have je845 : ((b0g_count (b2g_questions (b8g_kept S242.1)))).toInt = ((b0g_count (b2g_questions (b8g_kept u241)))).toInt := by rw [eS242]
        try simp (disch := first | ((try simp (disch := first | ((try simp only [pn]) <;> omega) | fail) only [pn, pq]) <;> omega) | fail) only [pn, pq] at je845
        have jf846 := J0g_count (J2g_questions (J8g_kept hJS242.1))
        have je847 : ((b9g_now S242.2) 10).toInt = ((b9g_now Sq1.2) 10).toInt := by rw [eS242]
        have je848 : ((b9g_images S242.2) 10).toInt = ((b9g_images Sq1.2) 10).toInt := by rw [eS242]
        refine ⟨vin1, ?_⟩
        refine ⟨fun c243 => ?_, fun c243 => ?_⟩
        · try simp (disch := first | ((try simp (disch := first | ((try simp only [pn]) <;> omega) | fail) only [pn, pq]) <;> omega) | fail) only [pn, pq] at c243
          unfold wp_L_law_1715
          refine sf_X9_image hJS242.2 (fun r244 u245 hJu245 hfu245 hzr244 hr244_0 => ?_)
          try simp (disch := first | ((try simp (disch := first | ((try simp only [pn]) <;> omega) | fail) only [pn, pq]) <;> omega) | fail) only [pn, pq] at hr244_0
          intro S246 eS246
          have hGS246 : F_L_law S S246 := trivial
          have hJS246 : J8 S246.1 ∧ J9 S246.2 := by rw [eS246]; exact ⟨hJS242.1, hJu245⟩
          have hFS246 : F_L_law S S246 := hGS246
          have je849 : ((b8g_isKept S246.1)).toInt = ((b8g_isKept S242.1)).toInt := by rw [eS246]
          have je850 : ((b9g_hasImage S246.2)).toInt = ((b9g_hasImage u245)).toInt := by rw [eS246]
          try simp (disch := first | ((try simp (disch := first | ((try simp only [pn]) <;> omega) | fail) only [pn, pq]) <;> omega) | fail) only [pn, pq] at je850
          have je851 : ((b0g_count (b2g_questions (b8g_now S246.1)))).toInt = ((b0g_count (b2g_questions (b8g_now S242.1)))).toInt := by rw [eS246]
          have jf852 := J0g_count (J2g_questions (J8g_now hJS246.1))
          have je853 : ((b0g_count (b2g_questions (b8g_kept S246.1)))).toInt = ((b0g_count (b2g_questions (b8g_kept S242.1)))).toInt := by rw [eS246]
          have jf854 := J0g_count (J2g_questions (J8g_kept hJS246.1))
          have je855 : ((b9g_now S246.2) 10).toInt = ((b9g_now u245) 10).toInt := by rw [eS246]
          try simp (disch := first | ((try simp (disch := first | ((try simp only [pn]) <;> omega) | fail) only [pn, pq]) <;> omega) | fail) only [pn, pq] at je855
          have je856 : ((b9g_images S246.2) 10).toInt = ((b9g_images u245) 10).toInt := by rw [eS246]
          try simp (disch := first | ((try simp (disch := first | ((try simp only [pn]) <;> omega) | fail) only [pn, pq]) <;> omega) | fail) only [pn, pq] at je856
          unfold wp_L_law_1745
          refine ⟨_, ?_, ?_, ?_, ?_, ?_, ?_, ?_, ?_, ?_, ?_, rfl⟩
          · first | omega | ((try simp (disch := first | ((try simp (disch := first | ((try simp only [pn]) <;> omega) | fail) only [pn, pq]) <;> omega) | fail) only [pn, pq]) <;> (intros; (try simp (disch := first | ((try simp (disch := first | ((try simp only [pn]) <;> omega) | fail) only [pn, pq]) <;> omega) | fail) only [pn, pq]) <;> omega))
          · exact hJS246
          · exact hFS246
          · first | omega | ((try simp (disch := first | ((try simp (disch := first | ((try simp only [pn]) <;> omega) | fail) only [pn, pq]) <;> omega) | fail) only [pn, pq]) <;> (intros; (try simp (disch := first | ((try simp (disch := first | ((try simp only [pn]) <;> omega) | fail) only [pn, pq]) <;> omega) | fail) only [pn, pq]) <;> omega))
          · first | omega | ((try simp (disch := first | ((try simp (disch := first | ((try simp only [pn]) <;> omega) | fail) only [pn, pq]) <;> omega) | fail) only [pn, pq]) <;> (intros; (try simp (disch := first | ((try simp (disch := first | ((try simp only [pn]) <;> omega) | fail) only [pn, pq]) <;> omega) | fail) only [pn, pq]) <;> omega))
          · first | omega | ((try simp (disch := first | ((try simp (disch := first | ((try simp only [pn]) <;> omega) | fail) only [pn, pq]) <;> omega) | fail) only [pn, pq]) <;> (intros; (try simp (disch := first | ((try simp (disch := first | ((try simp only [pn]) <;> omega) | fail) only [pn, pq]) <;> omega) | fail) only [pn, pq]) <;> omega))
          · first | omega | ((try simp (disch := first | ((try simp (disch := first | ((try simp only [pn]) <;> omega) | fail) only [pn, pq]) <;> omega) | fail) only [pn, pq]) <;> (intros; (try simp (disch := first | ((try simp (disch := first | ((try simp only [pn]) <;> omega) | fail) only [pn, pq]) <;> omega) | fail) only [pn, pq]) <;> omega))
          · first | omega | ((try simp (disch := first | ((try simp (disch := first | ((try simp only [pn]) <;> omega) | fail) only [pn, pq]) <;> omega) | fail) only [pn, pq]) <;> (intros; (try simp (disch := first | ((try simp (disch := first | ((try simp only [pn]) <;> omega) | fail) only [pn, pq]) <;> omega) | fail) only [pn, pq]) <;> omega))
          · first | omega | ((try simp (disch := first | ((try simp (disch := first | ((try simp only [pn]) <;> omega) | fail) only [pn, pq]) <;> omega) | fail) only [pn, pq]) <;> (intros; (try simp (disch := first | ((try simp (disch := first | ((try simp only [pn]) <;> omega) | fail) only [pn, pq]) <;> omega) | fail) only [pn, pq]) <;> omega))
          · first | omega | ((try simp (disch := first | ((try simp (disch := first | ((try simp only [pn]) <;> omega) | fail) only [pn, pq]) <;> omega) | fail) only [pn, pq]) <;> (intros; (try simp (disch := first | ((try simp (disch := first | ((try simp only [pn]) <;> omega) | fail) only [pn, pq]) <;> omega) | fail) only [pn, pq]) <;> omega))
        · try simp (disch := first | ((try simp (disch := first | ((try simp only [pn]) <;> omega) | fail) only [pn, pq]) <;> omega) | fail) only [pn, pq] at c243
          unfold wp_L_law_1715
          refine sf_X9_image hJS242.2 (fun r247 u248 hJu248 hfu248 hzr247 hr247_0 => ?_)
          try simp (disch := first | ((try simp (disch := first | ((try simp only [pn]) <;> omega) | fail) only [pn, pq]) <;> omega) | fail) only [pn, pq] at hr247_0
          intro S249 eS249
          have hGS249 : F_L_law S S249 := trivial
          have hJS249 : J8 S249.1 ∧ J9 S249.2 := by rw [eS249]; exact ⟨hJS242.1, hJu248⟩
          have hFS249 : F_L_law S S249 := hGS249
          have je857 : ((b8g_isKept S249.1)).toInt = ((b8g_isKept S242.1)).toInt := by rw [eS249]
          have je858 : ((b9g_hasImage S249.2)).toInt = ((b9g_hasImage u248)).toInt := by rw [eS249]
          try simp (disch := first | ((try simp (disch := first | ((try simp only [pn]) <;> omega) | fail) only [pn, pq]) <;> omega) | fail) only [pn, pq] at je858
          have je859 : ((b0g_count (b2g_questions (b8g_now S249.1)))).toInt = ((b0g_count (b2g_questions (b8g_now S242.1)))).toInt := by rw [eS249]
          have jf860 := J0g_count (J2g_questions (J8g_now hJS249.1))
          have je861 : ((b0g_count (b2g_questions (b8g_kept S249.1)))).toInt = ((b0g_count (b2g_questions (b8g_kept S242.1)))).toInt := by rw [eS249]
          have jf862 := J0g_count (J2g_questions (J8g_kept hJS249.1))
          have je863 : ((b9g_now S249.2) 10).toInt = ((b9g_now u248) 10).toInt := by rw [eS249]
          try simp (disch := first | ((try simp (disch := first | ((try simp only [pn]) <;> omega) | fail) only [pn, pq]) <;> omega) | fail) only [pn, pq] at je863
          have je864 : ((b9g_images S249.2) 10).toInt = ((b9g_images u248) 10).toInt := by rw [eS249]
          try simp (disch := first | ((try simp (disch := first | ((try simp only [pn]) <;> omega) | fail) only [pn, pq]) <;> omega) | fail) only [pn, pq] at je864
          unfold wp_L_law_1745
          refine ⟨_, ?_, ?_, ?_, ?_, ?_, ?_, ?_, ?_, ?_, ?_, rfl⟩
          · first | omega | ((try simp (disch := first | ((try simp (disch := first | ((try simp only [pn]) <;> omega) | fail) only [pn, pq]) <;> omega) | fail) only [pn, pq]) <;> (intros; (try simp (disch := first | ((try simp (disch := first | ((try simp only [pn]) <;> omega) | fail) only [pn, pq]) <;> omega) | fail) only [pn, pq]) <;> omega))
          · exact hJS249
          · exact hFS249
          · first | omega | ((try simp (disch := first | ((try simp (disch := first | ((try simp only [pn]) <;> omega) | fail) only [pn, pq]) <;> omega) | fail) only [pn, pq]) <;> (intros; (try simp (disch := first | ((try simp (disch := first | ((try simp only [pn]) <;> omega) | fail) only [pn, pq]) <;> omega) | fail) only [pn, pq]) <;> omega))
          · first | omega | ((try simp (disch := first | ((try simp (disch := first | ((try simp only [pn]) <;> omega) | fail) only [pn, pq]) <;> omega) | fail) only [pn, pq]) <;> (intros; (try simp (disch := first | ((try simp (disch := first | ((try simp only [pn]) <;> omega) | fail) only [pn, pq]) <;> omega) | fail) only [pn, pq]) <;> omega))
          · first | omega | ((try simp (disch := first | ((try simp (disch := first | ((try simp only [pn]) <;> omega) | fail) only [pn, pq]) <;> omega) | fail) only [pn, pq]) <;> (intros; (try simp (disch := first | ((try simp (disch := first | ((try simp only [pn]) <;> omega) | fail) only [pn, pq]) <;> omega) | fail) only [pn, pq]) <;> omega))
          · first | omega | ((try simp (disch := first | ((try simp (disch := first | ((try simp only [pn]) <;> omega) | fail) only [pn, pq]) <;> omega) | fail) only [pn, pq]) <;> (intros; (try simp (disch := first | ((try simp (disch := first | ((try simp only [pn]) <;> omega) | fail) only [pn, pq]) <;> omega) | fail) only [pn, pq]) <;> omega))
          · first | omega | ((try simp (disch := first | ((try simp (disch := first | ((try simp only [pn]) <;> omega) | fail) only [pn, pq]) <;> omega) | fail) only [pn, pq]) <;> (intros; (try simp (disch := first | ((try simp (disch := first | ((try simp only [pn]) <;> omega) | fail) only [pn, pq]) <;> omega) | fail) only [pn, pq]) <;> omega))
          · first | omega | ((try simp (disch := first | ((try simp (disch := first | ((try simp only [pn]) <;> omega) | fail) only [pn, pq]) <;> omega) | fail) only [pn, pq]) <;> (intros; (try simp (disch := first | ((try simp (disch := first | ((try simp only [pn]) <;> omega) | fail) only [pn, pq]) <;> omega) | fail) only [pn, pq]) <;> omega))
          · first | omega | ((try simp (disch := first | ((try simp (disch := first | ((try simp only [pn]) <;> omega) | fail) only [pn, pq]) <;> omega) | fail) only [pn, pq]) <;> (intros; (try simp (disch := first | ((try simp (disch := first | ((try simp only [pn]) <;> omega) | fail) only [pn, pq]) <;> omega) | fail) only [pn, pq]) <;> omega))
      · try simp (disch := first | ((try simp (disch := first | ((try simp only [pn]) <;> omega) | fail) only [pn, pq]) <;> omega) | fail) only [pn, pq] at c239
        unfold wp_L_law_1697
        refine sf_X8_image hJSq1.1 (fun r250 u251 hJu251 hfu251 hzr250 hr250_0 => ?_)
        try simp (disch := first | ((try simp (disch := first | ((try simp only [pn]) <;> omega) | fail) only [pn, pq]) <;> omega) | fail) only [pn, pq] at hr250_0
        intro S252 eS252
        have hGS252 : F_L_law S S252 := trivial
        have hJS252 : J8 S252.1 ∧ J9 S252.2 := by rw [eS252]; exact ⟨hJu251, hJSq1.2⟩
        have hFS252 : F_L_law S S252 := hGS252
        have je865 : ((b8g_isKept S252.1)).toInt = ((b8g_isKept u251)).toInt := by rw [eS252]
        try simp (disch := first | ((try simp (disch := first | ((try simp only [pn]) <;> omega) | fail) only [pn, pq]) <;> omega) | fail) only [pn, pq] at je865
        have je866 : ((b9g_hasImage S252.2)).toInt = ((b9g_hasImage Sq1.2)).toInt := by rw [eS252]
        have je867 : ((b0g_count (b2g_questions (b8g_now S252.1)))).toInt = ((b0g_count (b2g_questions (b8g_now u251)))).toInt := by rw [eS252]
        try simp (disch := first | ((try simp (disch := first | ((try simp only [pn]) <;> omega) | fail) only [pn, pq]) <;> omega) | fail) only [pn, pq] at je867
        have jf868 := J0g_count (J2g_questions (J8g_now hJS252.1))
        have je869 : ((b0g_count (b2g_questions (b8g_kept S252.1)))).toInt = ((b0g_count (b2g_questions (b8g_kept u251)))).toInt := by rw [eS252]
        try simp (disch := first | ((try simp (disch := first | ((try simp only [pn]) <;> omega) | fail) only [pn, pq]) <;> omega) | fail) only [pn, pq] at je869
        have jf870 := J0g_count (J2g_questions (J8g_kept hJS252.1))
        have je871 : ((b9g_now S252.2) 10).toInt = ((b9g_now Sq1.2) 10).toInt := by rw [eS252]
        have je872 : ((b9g_images S252.2) 10).toInt = ((b9g_images Sq1.2) 10).toInt := by rw [eS252]
        refine ⟨vin1, ?_⟩
        refine ⟨fun c253 => ?_, fun c253 => ?_⟩
        · try simp (disch := first | ((try simp (disch := first | ((try simp only [pn]) <;> omega) | fail) only [pn, pq]) <;> omega) | fail) only [pn, pq] at c253
          unfold wp_L_law_1715
          refine sf_X9_image hJS252.2 (fun r254 u255 hJu255 hfu255 hzr254 hr254_0 => ?_)
          try simp (disch := first | ((try simp (disch := first | ((try simp only [pn]) <;> omega) | fail) only [pn, pq]) <;> omega) | fail) only [pn, pq] at hr254_0
          intro S256 eS256
          have hGS256 : F_L_law S S256 := trivial
          have hJS256 : J8 S256.1 ∧ J9 S256.2 := by rw [eS256]; exact ⟨hJS252.1, hJu255⟩
          have hFS256 : F_L_law S S256 := hGS256
          have je873 : ((b8g_isKept S256.1)).toInt = ((b8g_isKept S252.1)).toInt := by rw [eS256]
          have je874 : ((b9g_hasImage S256.2)).toInt = ((b9g_hasImage u255)).toInt := by rw [eS256]
          try simp (disch := first | ((try simp (disch := first | ((try simp only [pn]) <;> omega) | fail) only [pn, pq]) <;> omega) | fail) only [pn, pq] at je874
          have je875 : ((b0g_count (b2g_questions (b8g_now S256.1)))).toInt = ((b0g_count (b2g_questions (b8g_now S252.1)))).toInt := by rw [eS256]
          have jf876 := J0g_count (J2g_questions (J8g_now hJS256.1))
          have je877 : ((b0g_count (b2g_questions (b8g_kept S256.1)))).toInt = ((b0g_count (b2g_questions (b8g_kept S252.1)))).toInt := by rw [eS256]
          have jf878 := J0g_count (J2g_questions (J8g_kept hJS256.1))
          have je879 : ((b9g_now S256.2) 10).toInt = ((b9g_now u255) 10).toInt := by rw [eS256]
          try simp (disch := first | ((try simp (disch := first | ((try simp only [pn]) <;> omega) | fail) only [pn, pq]) <;> omega) | fail) only [pn, pq] at je879
          have je880 : ((b9g_images S256.2) 10).toInt = ((b9g_images u255) 10).toInt := by rw [eS256]
          try simp (disch := first | ((try simp (disch := first | ((try simp only [pn]) <;> omega) | fail) only [pn, pq]) <;> omega) | fail) only [pn, pq] at je880
          unfold wp_L_law_1745
          refine ⟨_, ?_, ?_, ?_, ?_, ?_, ?_, ?_, ?_, ?_, ?_, rfl⟩
          · first | omega | ((try simp (disch := first | ((try simp (disch := first | ((try simp only [pn]) <;> omega) | fail) only [pn, pq]) <;> omega) | fail) only [pn, pq]) <;> (intros; (try simp (disch := first | ((try simp (disch := first | ((try simp only [pn]) <;> omega) | fail) only [pn, pq]) <;> omega) | fail) only [pn, pq]) <;> omega))
          · exact hJS256
          · exact hFS256
          · first | omega | ((try simp (disch := first | ((try simp (disch := first | ((try simp only [pn]) <;> omega) | fail) only [pn, pq]) <;> omega) | fail) only [pn, pq]) <;> (intros; (try simp (disch := first | ((try simp (disch := first | ((try simp only [pn]) <;> omega) | fail) only [pn, pq]) <;> omega) | fail) only [pn, pq]) <;> omega))
          · first | omega | ((try simp (disch := first | ((try simp (disch := first | ((try simp only [pn]) <;> omega) | fail) only [pn, pq]) <;> omega) | fail) only [pn, pq]) <;> (intros; (try simp (disch := first | ((try simp (disch := first | ((try simp only [pn]) <;> omega) | fail) only [pn, pq]) <;> omega) | fail) only [pn, pq]) <;> omega))
          · first | omega | ((try simp (disch := first | ((try simp (disch := first | ((try simp only [pn]) <;> omega) | fail) only [pn, pq]) <;> omega) | fail) only [pn, pq]) <;> (intros; (try simp (disch := first | ((try simp (disch := first | ((try simp only [pn]) <;> omega) | fail) only [pn, pq]) <;> omega) | fail) only [pn, pq]) <;> omega))
          · first | omega | ((try simp (disch := first | ((try simp (disch := first | ((try simp only [pn]) <;> omega) | fail) only [pn, pq]) <;> omega) | fail) only [pn, pq]) <;> (intros; (try simp (disch := first | ((try simp (disch := first | ((try simp only [pn]) <;> omega) | fail) only [pn, pq]) <;> omega) | fail) only [pn, pq]) <;> omega))
          · first | omega | ((try simp (disch := first | ((try simp (disch := first | ((try simp only [pn]) <;> omega) | fail) only [pn, pq]) <;> omega) | fail) only [pn, pq]) <;> (intros; (try simp (disch := first | ((try simp (disch := first | ((try simp only [pn]) <;> omega) | fail) only [pn, pq]) <;> omega) | fail) only [pn, pq]) <;> omega))
          · first | omega | ((try simp (disch := first | ((try simp (disch := first | ((try simp only [pn]) <;> omega) | fail) only [pn, pq]) <;> omega) | fail) only [pn, pq]) <;> (intros; (try simp (disch := first | ((try simp (disch := first | ((try simp only [pn]) <;> omega) | fail) only [pn, pq]) <;> omega) | fail) only [pn, pq]) <;> omega))
          · first | omega | ((try simp (disch := first | ((try simp (disch := first | ((try simp only [pn]) <;> omega) | fail) only [pn, pq]) <;> omega) | fail) only [pn, pq]) <;> (intros; (try simp (disch := first | ((try simp (disch := first | ((try simp only [pn]) <;> omega) | fail) only [pn, pq]) <;> omega) | fail) only [pn, pq]) <;> omega))
        · try simp (disch := first | ((try simp (disch := first | ((try simp only [pn]) <;> omega) | fail) only [pn, pq]) <;> omega) | fail) only [pn, pq] at c253
          unfold wp_L_law_1715
          refine sf_X9_image hJS252.2 (fun r257 u258 hJu258 hfu258 hzr257 hr257_0 => ?_)
          try simp (disch := first | ((try simp (disch := first | ((try simp only [pn]) <;> omega) | fail) only [pn, pq]) <;> omega) | fail) only [pn, pq] at hr257_0
          intro S259 eS259
          have hGS259 : F_L_law S S259 := trivial
          have hJS259 : J8 S259.1 ∧ J9 S259.2 := by rw [eS259]; exact ⟨hJS252.1, hJu258⟩
          have hFS259 : F_L_law S S259 := hGS259
          have je881 : ((b8g_isKept S259.1)).toInt = ((b8g_isKept S252.1)).toInt := by rw [eS259]
          have je882 : ((b9g_hasImage S259.2)).toInt = ((b9g_hasImage u258)).toInt := by rw [eS259]
          try simp (disch := first | ((try simp (disch := first | ((try simp only [pn]) <;> omega) | fail) only [pn, pq]) <;> omega) | fail) only [pn, pq] at je882
          have je883 : ((b0g_count (b2g_questions (b8g_now S259.1)))).toInt = ((b0g_count (b2g_questions (b8g_now S252.1)))).toInt := by rw [eS259]
          have jf884 := J0g_count (J2g_questions (J8g_now hJS259.1))
          have je885 : ((b0g_count (b2g_questions (b8g_kept S259.1)))).toInt = ((b0g_count (b2g_questions (b8g_kept S252.1)))).toInt := by rw [eS259]
          have jf886 := J0g_count (J2g_questions (J8g_kept hJS259.1))
          have je887 : ((b9g_now S259.2) 10).toInt = ((b9g_now u258) 10).toInt := by rw [eS259]
          try simp (disch := first | ((try simp (disch := first | ((try simp only [pn]) <;> omega) | fail) only [pn, pq]) <;> omega) | fail) only [pn, pq] at je887
          have je888 : ((b9g_images S259.2) 10).toInt = ((b9g_images u258) 10).toInt := by rw [eS259]
          try simp (disch := first | ((try simp (disch := first | ((try simp only [pn]) <;> omega) | fail) only [pn, pq]) <;> omega) | fail) only [pn, pq] at je888
          unfold wp_L_law_1745
          refine ⟨_, ?_, ?_, ?_, ?_, ?_, ?_, ?_, ?_, ?_, ?_, rfl⟩
          · first | omega | ((try simp (disch := first | ((try simp (disch := first | ((try simp only [pn]) <;> omega) | fail) only [pn, pq]) <;> omega) | fail) only [pn, pq]) <;> (intros; (try simp (disch := first | ((try simp (disch := first | ((try simp only [pn]) <;> omega) | fail) only [pn, pq]) <;> omega) | fail) only [pn, pq]) <;> omega))
          · exact hJS259
          · exact hFS259
          · first | omega | ((try simp (disch := first | ((try simp (disch := first | ((try simp only [pn]) <;> omega) | fail) only [pn, pq]) <;> omega) | fail) only [pn, pq]) <;> (intros; (try simp (disch := first | ((try simp (disch := first | ((try simp only [pn]) <;> omega) | fail) only [pn, pq]) <;> omega) | fail) only [pn, pq]) <;> omega))
          · first | omega | ((try simp (disch := first | ((try simp (disch := first | ((try simp only [pn]) <;> omega) | fail) only [pn, pq]) <;> omega) | fail) only [pn, pq]) <;> (intros; (try simp (disch := first | ((try simp (disch := first | ((try simp only [pn]) <;> omega) | fail) only [pn, pq]) <;> omega) | fail) only [pn, pq]) <;> omega))
          · first | omega | ((try simp (disch := first | ((try simp (disch := first | ((try simp only [pn]) <;> omega) | fail) only [pn, pq]) <;> omega) | fail) only [pn, pq]) <;> (intros; (try simp (disch := first | ((try simp (disch := first | ((try simp only [pn]) <;> omega) | fail) only [pn, pq]) <;> omega) | fail) only [pn, pq]) <;> omega))
          · first | omega | ((try simp (disch := first | ((try simp (disch := first | ((try simp only [pn]) <;> omega) | fail) only [pn, pq]) <;> omega) | fail) only [pn, pq]) <;> (intros; (try simp (disch := first | ((try simp (disch := first | ((try simp only [pn]) <;> omega) | fail) only [pn, pq]) <;> omega) | fail) only [pn, pq]) <;> omega))
          · first | omega | ((try simp (disch := first | ((try simp (disch := first | ((try simp only [pn]) <;> omega) | fail) only [pn, pq]) <;> omega) | fail) only [pn, pq]) <;> (intros; (try simp (disch := first | ((try simp (disch := first | ((try simp only [pn]) <;> omega) | fail) only [pn, pq]) <;> omega) | fail) only [pn, pq]) <;> omega))
          · first | omega | ((try simp (disch := first | ((try simp (disch := first | ((try simp only [pn]) <;> omega) | fail) only [pn, pq]) <;> omega) | fail) only [pn, pq]) <;> (intros; (try simp (disch := first | ((try simp (disch := first | ((try simp only [pn]) <;> omega) | fail) only [pn, pq]) <;> omega) | fail) only [pn, pq]) <;> omega))
          · first | omega | ((try simp (disch := first | ((try simp (disch := first | ((try simp only [pn]) <;> omega) | fail) only [pn, pq]) <;> omega) | fail) only [pn, pq]) <;> (intros; (try simp (disch := first | ((try simp (disch := first | ((try simp only [pn]) <;> omega) | fail) only [pn, pq]) <;> omega) | fail) only [pn, pq]) <;> omega))
    · skip
      refine ⟨vin1, ?_⟩
      refine sf_X8_look hJSq1.1 (fun r260  => ?_)
      have rgr260 := pt_rg r260
      refine ⟨vin1, ?_⟩
      refine sf_X9_look hJSq1.2 (fun r262 u263 hJu263 hfu263  => ?_)
      have je890 : ((b9g_hasImage u263)).toInt = ((b9g_hasImage Sq1.2)).toInt := congrArg (fun z => (z).toInt) hfu263.2.2.2.2.2.2.2.2.2.2.2.2.2.2.2.2.2.2.2.2.2.2.1
      have je892 : ((b9g_now u263) 10).toInt = ((b9g_now Sq1.2) 10).toInt := congrArg (fun z => (z 10).toInt) hfu263.1
      have je894 : ((b9g_images u263) 10).toInt = ((b9g_images Sq1.2) 10).toInt := congrArg (fun z => (z 10).toInt) hfu263.2.2.2.2.2.2.2.2.2.2.2.2.2.2.2.2.2.2.2.2.2.2.2.1
      have rgr262 := pt_rg r262
      intro S264 eS264
      have hGS264 : F_L_law S S264 := trivial
      have hJS264 : J8 S264.1 ∧ J9 S264.2 := by rw [eS264]; exact ⟨hJSq1.1, hJu263⟩
      have hFS264 : F_L_law S S264 := hGS264
      have je895 : ((b8g_isKept S264.1)).toInt = ((b8g_isKept Sq1.1)).toInt := by rw [eS264]
      have je896 : ((b9g_hasImage S264.2)).toInt = ((b9g_hasImage u263)).toInt := by rw [eS264]
      try simp (disch := first | ((try simp (disch := first | ((try simp only [pn]) <;> omega) | fail) only [pn, pq]) <;> omega) | fail) only [pn, pq] at je896
      have je897 : ((b0g_count (b2g_questions (b8g_now S264.1)))).toInt = ((b0g_count (b2g_questions (b8g_now Sq1.1)))).toInt := by rw [eS264]
      have jf898 := J0g_count (J2g_questions (J8g_now hJS264.1))
      have je899 : ((b0g_count (b2g_questions (b8g_kept S264.1)))).toInt = ((b0g_count (b2g_questions (b8g_kept Sq1.1)))).toInt := by rw [eS264]
      have jf900 := J0g_count (J2g_questions (J8g_kept hJS264.1))
      have je901 : ((b9g_now S264.2) 10).toInt = ((b9g_now u263) 10).toInt := by rw [eS264]
      try simp (disch := first | ((try simp (disch := first | ((try simp only [pn]) <;> omega) | fail) only [pn, pq]) <;> omega) | fail) only [pn, pq] at je901
      have je902 : ((b9g_images S264.2) 10).toInt = ((b9g_images u263) 10).toInt := by rw [eS264]
      try simp (disch := first | ((try simp (disch := first | ((try simp only [pn]) <;> omega) | fail) only [pn, pq]) <;> omega) | fail) only [pn, pq] at je902
      unfold wp_L_law_1745
      refine ⟨_, ?_, ?_, ?_, ?_, ?_, ?_, ?_, ?_, ?_, ?_, rfl⟩
      · first | omega | ((try simp (disch := first | ((try simp (disch := first | ((try simp only [pn]) <;> omega) | fail) only [pn, pq]) <;> omega) | fail) only [pn, pq]) <;> (intros; (try simp (disch := first | ((try simp (disch := first | ((try simp only [pn]) <;> omega) | fail) only [pn, pq]) <;> omega) | fail) only [pn, pq]) <;> omega))
      · exact hJS264
      · exact hFS264
      · first | omega | ((try simp (disch := first | ((try simp (disch := first | ((try simp only [pn]) <;> omega) | fail) only [pn, pq]) <;> omega) | fail) only [pn, pq]) <;> (intros; (try simp (disch := first | ((try simp (disch := first | ((try simp only [pn]) <;> omega) | fail) only [pn, pq]) <;> omega) | fail) only [pn, pq]) <;> omega))
      · first | omega | ((try simp (disch := first | ((try simp (disch := first | ((try simp only [pn]) <;> omega) | fail) only [pn, pq]) <;> omega) | fail) only [pn, pq]) <;> (intros; (try simp (disch := first | ((try simp (disch := first | ((try simp only [pn]) <;> omega) | fail) only [pn, pq]) <;> omega) | fail) only [pn, pq]) <;> omega))
      · first | omega | ((try simp (disch := first | ((try simp (disch := first | ((try simp only [pn]) <;> omega) | fail) only [pn, pq]) <;> omega) | fail) only [pn, pq]) <;> (intros; (try simp (disch := first | ((try simp (disch := first | ((try simp only [pn]) <;> omega) | fail) only [pn, pq]) <;> omega) | fail) only [pn, pq]) <;> omega))
      · first | omega | ((try simp (disch := first | ((try simp (disch := first | ((try simp only [pn]) <;> omega) | fail) only [pn, pq]) <;> omega) | fail) only [pn, pq]) <;> (intros; (try simp (disch := first | ((try simp (disch := first | ((try simp only [pn]) <;> omega) | fail) only [pn, pq]) <;> omega) | fail) only [pn, pq]) <;> omega))
      · first | omega | ((try simp (disch := first | ((try simp (disch := first | ((try simp only [pn]) <;> omega) | fail) only [pn, pq]) <;> omega) | fail) only [pn, pq]) <;> (intros; (try simp (disch := first | ((try simp (disch := first | ((try simp only [pn]) <;> omega) | fail) only [pn, pq]) <;> omega) | fail) only [pn, pq]) <;> omega))
      · first | omega | ((try simp (disch := first | ((try simp (disch := first | ((try simp only [pn]) <;> omega) | fail) only [pn, pq]) <;> omega) | fail) only [pn, pq]) <;> (intros; (try simp (disch := first | ((try simp (disch := first | ((try simp only [pn]) <;> omega) | fail) only [pn, pq]) <;> omega) | fail) only [pn, pq]) <;> omega))
      · first | omega | ((try simp (disch := first | ((try simp (disch := first | ((try simp only [pn]) <;> omega) | fail) only [pn, pq]) <;> omega) | fail) only [pn, pq]) <;> (intros; (try simp (disch := first | ((try simp (disch := first | ((try simp only [pn]) <;> omega) | fail) only [pn, pq]) <;> omega) | fail) only [pn, pq]) <;> omega))
