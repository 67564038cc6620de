def F_L_law (S u : bT8 × bT9) : Prop := True
set_option maxRecDepth 20000 in
set_option maxHeartbeats 40000000 in
theorem sf_law {L : Nat} {scr : Nat → Int32} (hL : L ≤ 3584) {S : bT8 × bT9} (hJ : J8 S.1 ∧ J9 S.2) (hR0 : (b4g_count (b8g_tape S.1)).toInt = (b9g_taped S.2).toInt) : wp_L_law L scr S 0 := by
  unfold wp_L_law
  have eL : (Int32.ofNat L).toInt = (L : Int) := nI_toInt (by omega)
  have hFS : F_L_law S S := trivial
  have jf1 := J4g_count (J8g_tape hJ.1)
  have jf2 := J9g_taped hJ.2
  refine ⟨fun n x3q1 Sq1 => (J8 Sq1.1 ∧ J9 Sq1.2) ∧ (F_L_law S Sq1) ∧ (0 ≤ (x3q1).toInt) ∧ ((x3q1).toInt ≤ 4000) ∧ ((b4g_count (b8g_tape Sq1.1)).toInt = (b9g_taped Sq1.2).toInt) ∧ n = ((L : Int) + 8 - (x3q1).toInt).toNat, ⟨_, hJ, hFS, (by first | omega | ((try simp (disch := first | ((try simp (disch := first | ((try simp only [pn]) <;> omega) | fail) only [pn, pq]) <;> omega) | fail) only [pn, pq]) <;> (intros; (try simp (disch := first | ((try simp (disch := first | ((try simp only [pn]) <;> omega) | fail) only [pn, pq]) <;> omega) | fail) only [pn, pq]) <;> omega))), (by first | omega | ((try simp (disch := first | ((try simp (disch := first | ((try simp only [pn]) <;> omega) | fail) only [pn, pq]) <;> omega) | fail) only [pn, pq]) <;> (intros; (try simp (disch := first | ((try simp (disch := first | ((try simp only [pn]) <;> omega) | fail) only [pn, pq]) <;> omega) | fail) only [pn, pq]) <;> omega))), (by first | omega | ((try simp (disch := first | ((try simp (disch := first | ((try simp only [pn]) <;> omega) | fail) only [pn, pq]) <;> omega) | fail) only [pn, pq]) <;> (intros; (try simp (disch := first | ((try simp (disch := first | ((try simp only [pn]) <;> omega) | fail) only [pn, pq]) <;> omega) | fail) only [pn, pq]) <;> omega))), rfl⟩, ?_⟩
  rintro n2 x3q1 Sq1 ⟨hJSq1, hFSq1, hiq1_0, hiq1_1, hiq1_2, hn2⟩
  have rgx3q1 := pt_rg x3q1
  unfold wp_L_law_18b
  have jf3 := J4g_count (J8g_tape hJSq1.1)
  have jf4 := J9g_taped hJSq1.2
  refine ⟨fun c3 => ?_, fun c3 => ?_⟩
  · try simp (disch := first | ((try simp (disch := first | ((try simp only [pn]) <;> omega) | fail) only [pn, pq]) <;> omega) | fail) only [pn, pq] at c3
    exact rfl
  · try simp (disch := first | ((try simp (disch := first | ((try simp only [pn]) <;> omega) | fail) only [pn, pq]) <;> omega) | fail) only [pn, pq] at c3
    refine ⟨pt_in (by first | omega | ((try simp (disch := first | ((try simp (disch := first | ((try simp only [pn]) <;> omega) | fail) only [pn, pq]) <;> omega) | fail) only [pn, pq]) <;> (intros; (try simp (disch := first | ((try simp (disch := first | ((try simp only [pn]) <;> omega) | fail) only [pn, pq]) <;> omega) | fail) only [pn, pq]) <;> omega))) (by first | omega | ((try simp (disch := first | ((try simp (disch := first | ((try simp only [pn]) <;> omega) | fail) only [pn, pq]) <;> omega) | fail) only [pn, pq]) <;> (intros; (try simp (disch := first | ((try simp (disch := first | ((try simp only [pn]) <;> omega) | fail) only [pn, pq]) <;> omega) | fail) only [pn, pq]) <;> omega))), ?_⟩
    have vin1 : vp_in (x3q1 + (1 : Int32)) L := pt_in (by first | omega | ((try simp (disch := first | ((try simp (disch := first | ((try simp only [pn]) <;> omega) | fail) only [pn, pq]) <;> omega) | fail) only [pn, pq]) <;> (intros; (try simp (disch := first | ((try simp (disch := first | ((try simp only [pn]) <;> omega) | fail) only [pn, pq]) <;> omega) | fail) only [pn, pq]) <;> omega))) (by first | omega | ((try simp (disch := first | ((try simp (disch := first | ((try simp only [pn]) <;> omega) | fail) only [pn, pq]) <;> omega) | fail) only [pn, pq]) <;> (intros; (try simp (disch := first | ((try simp (disch := first | ((try simp only [pn]) <;> omega) | fail) only [pn, pq]) <;> omega) | fail) only [pn, pq]) <;> omega)))
    have vin2 : vp_in (x3q1 + (2 : Int32)) L := pt_in (by first | omega | ((try simp (disch := first | ((try simp (disch := first | ((try simp only [pn]) <;> omega) | fail) only [pn, pq]) <;> omega) | fail) only [pn, pq]) <;> (intros; (try simp (disch := first | ((try simp (disch := first | ((try simp only [pn]) <;> omega) | fail) only [pn, pq]) <;> omega) | fail) only [pn, pq]) <;> omega))) (by first | omega | ((try simp (disch := first | ((try simp (disch := first | ((try simp only [pn]) <;> omega) | fail) only [pn, pq]) <;> omega) | fail) only [pn, pq]) <;> (intros; (try simp (disch := first | ((try simp (disch := first | ((try simp only [pn]) <;> omega) | fail) only [pn, pq]) <;> omega) | fail) only [pn, pq]) <;> omega)))
    have vin3 : vp_in (x3q1 + (3 : Int32)) L := pt_in (by first | omega | ((try simp (disch := first | ((try simp (disch := first | ((try simp only [pn]) <;> omega) | fail) only [pn, pq]) <;> omega) | fail) only [pn, pq]) <;> (intros; (try simp (disch := first | ((try simp (disch := first | ((try simp only [pn]) <;> omega) | fail) only [pn, pq]) <;> omega) | fail) only [pn, pq]) <;> omega))) (by first | omega | ((try simp (disch := first | ((try simp (disch := first | ((try simp only [pn]) <;> omega) | fail) only [pn, pq]) <;> omega) | fail) only [pn, pq]) <;> (intros; (try simp (disch := first | ((try simp (disch := first | ((try simp only [pn]) <;> omega) | fail) only [pn, pq]) <;> omega) | fail) only [pn, pq]) <;> omega)))
    have vin4 : vp_in (x3q1 + (4 : Int32)) L := pt_in (by first | omega | ((try simp (disch := first | ((try simp (disch := first | ((try simp only [pn]) <;> omega) | fail) only [pn, pq]) <;> omega) | fail) only [pn, pq]) <;> (intros; (try simp (disch := first | ((try simp (disch := first | ((try simp only [pn]) <;> omega) | fail) only [pn, pq]) <;> omega) | fail) only [pn, pq]) <;> omega))) (by first | omega | ((try simp (disch := first | ((try simp (disch := first | ((try simp only [pn]) <;> omega) | fail) only [pn, pq]) <;> omega) | fail) only [pn, pq]) <;> (intros; (try simp (disch := first | ((try simp (disch := first | ((try simp only [pn]) <;> omega) | fail) only [pn, pq]) <;> omega) | fail) only [pn, pq]) <;> omega)))
    have vin5 : vp_in (x3q1 + (5 : Int32)) L := pt_in (by first | omega | ((try simp (disch := first | ((try simp (disch := first | ((try simp only [pn]) <;> omega) | fail) only [pn, pq]) <;> omega) | fail) only [pn, pq]) <;> (intros; (try simp (disch := first | ((try simp (disch := first | ((try simp only [pn]) <;> omega) | fail) only [pn, pq]) <;> omega) | fail) only [pn, pq]) <;> omega))) (by first | omega | ((try simp (disch := first | ((try simp (disch := first | ((try simp only [pn]) <;> omega) | fail) only [pn, pq]) <;> omega) | fail) only [pn, pq]) <;> (intros; (try simp (disch := first | ((try simp (disch := first | ((try simp only [pn]) <;> omega) | fail) only [pn, pq]) <;> omega) | fail) only [pn, pq]) <;> omega)))
    have vin6 : vp_in (x3q1 + (6 : Int32)) L := pt_in (by first | omega | ((try simp (disch := first | ((try simp (disch := first | ((try simp only [pn]) <;> omega) | fail) only [pn, pq]) <;> omega) | fail) only [pn, pq]) <;> (intros; (try simp (disch := first | ((try simp (disch := first | ((try simp only [pn]) <;> omega) | fail) only [pn, pq]) <;> omega) | fail) only [pn, pq]) <;> omega))) (by first | omega | ((try simp (disch := first | ((try simp (disch := first | ((try simp only [pn]) <;> omega) | fail) only [pn, pq]) <;> omega) | fail) only [pn, pq]) <;> (intros; (try simp (disch := first | ((try simp (disch := first | ((try simp only [pn]) <;> omega) | fail) only [pn, pq]) <;> omega) | fail) only [pn, pq]) <;> omega)))
    refine ⟨fun c => ?_, fun c => ?_, fun c => ?_, fun c => ?_, fun c => ?_, fun c => ?_, fun c => ?_, fun c => ?_, fun c => ?_, fun c => ?_, fun c => ?_, fun c => ?_, fun c => ?_, fun c => ?_, fun c => ?_, fun c => ?_, fun c => ?_, fun c => ?_, fun c => ?_, fun c => ?_, fun c => ?_, fun c => ?_, fun c => ?_, fun c => ?_, fun c => ?_, fun c => ?_, fun c => ?_, fun c => ?_, fun c => ?_, fun c => ?_, fun c => ?_, fun c => ?_, fun c => ?_, fun c => ?_, fun c => ?_, fun c => ?_, fun c => ?_, fun c => ?_, fun c => ?_, fun c => ?_, fun c => ?_, fun c => ?_, fun c => ?_, fun c => ?_, fun c => ?_, fun c => ?_⟩
    · skip
      unfold wp_L_law_1745
      refine ⟨_, ?_, ?_, ?_, ?_, ?_, ?_, rfl⟩
      · first | omega | ((try simp (disch := first | ((try simp (disch := first | ((try simp only [pn]) <;> omega) | fail) only [pn, pq]) <;> omega) | fail) only [pn, pq]) <;> (intros; (try simp (disch := first | ((try simp (disch := first | ((try simp only [pn]) <;> omega) | fail) only [pn, pq]) <;> omega) | fail) only [pn, pq]) <;> omega))
      · exact hJSq1
      · exact hFSq1
      · first | omega | ((try simp (disch := first | ((try simp (disch := first | ((try simp only [pn]) <;> omega) | fail) only [pn, pq]) <;> omega) | fail) only [pn, pq]) <;> (intros; (try simp (disch := first | ((try simp (disch := first | ((try simp only [pn]) <;> omega) | fail) only [pn, pq]) <;> omega) | fail) only [pn, pq]) <;> omega))
      · first | omega | ((try simp (disch := first | ((try simp (disch := first | ((try simp only [pn]) <;> omega) | fail) only [pn, pq]) <;> omega) | fail) only [pn, pq]) <;> (intros; (try simp (disch := first | ((try simp (disch := first | ((try simp only [pn]) <;> omega) | fail) only [pn, pq]) <;> omega) | fail) only [pn, pq]) <;> omega))
      · first | omega | ((try simp (disch := first | ((try simp (disch := first | ((try simp only [pn]) <;> omega) | fail) only [pn, pq]) <;> omega) | fail) only [pn, pq]) <;> (intros; (try simp (disch := first | ((try simp (disch := first | ((try simp only [pn]) <;> omega) | fail) only [pn, pq]) <;> omega) | fail) only [pn, pq]) <;> omega))
    · skip
      refine ⟨vin1, ?_⟩
      refine ⟨vin2, ?_⟩
      refine ⟨vin3, ?_⟩
      refine ⟨vin4, ?_⟩
      refine ⟨vin5, ?_⟩
      refine sf_X8_feed hJSq1.1 (fun r4 u5 hJu5 hfu5 hr4_0 hr4_1 hr4_2 hr4_3 => ?_)
      have rgr4 := pt_rg r4
      try simp (disch := first | ((try simp (disch := first | ((try simp only [pn]) <;> omega) | fail) only [pn, pq]) <;> omega) | fail) only [pn, pq] at hr4_0
      try simp (disch := first | ((try simp (disch := first | ((try simp only [pn]) <;> omega) | fail) only [pn, pq]) <;> omega) | fail) only [pn, pq] at hr4_1
      intro S6 eS6
      have hGS6 : F_L_law S S6 := trivial
      have hJS6 : J8 S6.1 ∧ J9 S6.2 := by rw [eS6]; exact ⟨hJu5, hJSq1.2⟩
      have hFS6 : F_L_law S S6 := hGS6
      have je5 : ((b4g_count (b8g_tape S6.1))).toInt = ((b4g_count (b8g_tape u5))).toInt := by rw [eS6]
      try simp (disch := first | ((try simp (disch := first | ((try simp only [pn]) <;> omega) | fail) only [pn, pq]) <;> omega) | fail) only [pn, pq] at je5
      have jf6 := J4g_count (J8g_tape hJS6.1)
      have je7 : ((b9g_taped S6.2)).toInt = ((b9g_taped Sq1.2)).toInt := by rw [eS6]
      have jf8 := J9g_taped hJS6.2
      refine ⟨vin1, ?_⟩
      refine ⟨vin2, ?_⟩
      refine ⟨vin3, ?_⟩
      refine ⟨vin4, ?_⟩
      refine ⟨vin5, ?_⟩
      refine sf_X9_feed hJS6.2 (fun r7 u8 hJu8 hfu8 hr7_0 hr7_1 hr7_2 hr7_3 => ?_)
      have rgr7 := pt_rg r7
      try simp (disch := first | ((try simp (disch := first | ((try simp only [pn]) <;> omega) | fail) only [pn, pq]) <;> omega) | fail) only [pn, pq] at hr7_0
      try simp (disch := first | ((try simp (disch := first | ((try simp only [pn]) <;> omega) | fail) only [pn, pq]) <;> omega) | fail) only [pn, pq] at hr7_1
      intro S9 eS9
      have hGS9 : F_L_law S S9 := trivial
      have hJS9 : J8 S9.1 ∧ J9 S9.2 := by rw [eS9]; exact ⟨hJS6.1, hJu8⟩
      have hFS9 : F_L_law S S9 := hGS9
      have je9 : ((b4g_count (b8g_tape S9.1))).toInt = ((b4g_count (b8g_tape S6.1))).toInt := by rw [eS9]
      have jf10 := J4g_count (J8g_tape hJS9.1)
      have je11 : ((b9g_taped S9.2)).toInt = ((b9g_taped u8)).toInt := by rw [eS9]
      try simp (disch := first | ((try simp (disch := first | ((try simp only [pn]) <;> omega) | fail) only [pn, pq]) <;> omega) | fail) only [pn, pq] at je11
      have jf12 := J9g_taped hJS9.2
      refine ⟨fun c10 => ?_, fun c10 => ?_⟩
      · try simp (disch := first | ((try simp (disch := first | ((try simp only [pn]) <;> omega) | fail) only [pn, pq]) <;> omega) | fail) only [pn, pq] at c10
        unfold wp_L_law_1745
        refine ⟨_, ?_, ?_, ?_, ?_, ?_, ?_, rfl⟩
        · first | omega | ((try simp (disch := first | ((try simp (disch := first | ((try simp only [pn]) <;> omega) | fail) only [pn, pq]) <;> omega) | fail) only [pn, pq]) <;> (intros; (try simp (disch := first | ((try simp (disch := first | ((try simp only [pn]) <;> omega) | fail) only [pn, pq]) <;> omega) | fail) only [pn, pq]) <;> omega))
        · exact hJS9
        · exact hFS9
        · first | omega | ((try simp (disch := first | ((try simp (disch := first | ((try simp only [pn]) <;> omega) | fail) only [pn, pq]) <;> omega) | fail) only [pn, pq]) <;> (intros; (try simp (disch := first | ((try simp (disch := first | ((try simp only [pn]) <;> omega) | fail) only [pn, pq]) <;> omega) | fail) only [pn, pq]) <;> omega))
        · first | omega | ((try simp (disch := first | ((try simp (disch := first | ((try simp only [pn]) <;> omega) | fail) only [pn, pq]) <;> omega) | fail) only [pn, pq]) <;> (intros; (try simp (disch := first | ((try simp (disch := first | ((try simp only [pn]) <;> omega) | fail) only [pn, pq]) <;> omega) | fail) only [pn, pq]) <;> omega))
        · first | omega | ((try simp (disch := first | ((try simp (disch := first | ((try simp only [pn]) <;> omega) | fail) only [pn, pq]) <;> omega) | fail) only [pn, pq]) <;> (intros; (try simp (disch := first | ((try simp (disch := first | ((try simp only [pn]) <;> omega) | fail) only [pn, pq]) <;> omega) | fail) only [pn, pq]) <;> omega))
      · try simp (disch := first | ((try simp (disch := first | ((try simp only [pn]) <;> omega) | fail) only [pn, pq]) <;> omega) | fail) only [pn, pq] at c10
        exfalso
        first | omega | ((try simp (disch := first | ((try simp (disch := first | ((try simp only [pn]) <;> omega) | fail) only [pn, pq]) <;> omega) | fail) only [pn, pq]) <;> (intros; (try simp (disch := first | ((try simp (disch := first | ((try simp only [pn]) <;> omega) | fail) only [pn, pq]) <;> omega) | fail) only [pn, pq]) <;> omega))
    · skip
      refine ⟨vin1, ?_⟩
      refine sf_X8_end hJSq1.1 (fun r11 u12 hJu12 hfu12 hzr11 hr11_0 hr11_1 => ?_)
      try simp (disch := first | ((try simp (disch := first | ((try simp only [pn]) <;> omega) | fail) only [pn, pq]) <;> omega) | fail) only [pn, pq] at hr11_0
      intro S13 eS13
      have hGS13 : F_L_law S S13 := trivial
      have hJS13 : J8 S13.1 ∧ J9 S13.2 := by rw [eS13]; exact ⟨hJu12, hJSq1.2⟩
      have hFS13 : F_L_law S S13 := hGS13
      have je13 : ((b4g_count (b8g_tape S13.1))).toInt = ((b4g_count (b8g_tape u12))).toInt := by rw [eS13]
      try simp (disch := first | ((try simp (disch := first | ((try simp only [pn]) <;> omega) | fail) only [pn, pq]) <;> omega) | fail) only [pn, pq] at je13
      have jf14 := J4g_count (J8g_tape hJS13.1)
      have je15 : ((b9g_taped S13.2)).toInt = ((b9g_taped Sq1.2)).toInt := by rw [eS13]
      have jf16 := J9g_taped hJS13.2
      refine ⟨vin1, ?_⟩
      refine sf_X9_end hJS13.2 (fun r14 u15 hJu15 hfu15 hzr14 hr14_0 => ?_)
      try simp (disch := first | ((try simp (disch := first | ((try simp only [pn]) <;> omega) | fail) only [pn, pq]) <;> omega) | fail) only [pn, pq] at hr14_0
      intro S16 eS16
      have hGS16 : F_L_law S S16 := trivial
      have hJS16 : J8 S16.1 ∧ J9 S16.2 := by rw [eS16]; exact ⟨hJS13.1, hJu15⟩
      have hFS16 : F_L_law S S16 := hGS16
      have je17 : ((b4g_count (b8g_tape S16.1))).toInt = ((b4g_count (b8g_tape S13.1))).toInt := by rw [eS16]
      have jf18 := J4g_count (J8g_tape hJS16.1)
      have je19 : ((b9g_taped S16.2)).toInt = ((b9g_taped u15)).toInt := by rw [eS16]
      try simp (disch := first | ((try simp (disch := first | ((try simp only [pn]) <;> omega) | fail) only [pn, pq]) <;> omega) | fail) only [pn, pq] at je19
      have jf20 := J9g_taped hJS16.2
      unfold wp_L_law_1745
      refine ⟨_, ?_, ?_, ?_, ?_, ?_, ?_, rfl⟩
      · first | omega | ((try simp (disch := first | ((try simp (disch := first | ((try simp only [pn]) <;> omega) | fail) only [pn, pq]) <;> omega) | fail) only [pn, pq]) <;> (intros; (try simp (disch := first | ((try simp (disch := first | ((try simp only [pn]) <;> omega) | fail) only [pn, pq]) <;> omega) | fail) only [pn, pq]) <;> omega))
      · exact hJS16
      · exact hFS16
      · first | omega | ((try simp (disch := first | ((try simp (disch := first | ((try simp only [pn]) <;> omega) | fail) only [pn, pq]) <;> omega) | fail) only [pn, pq]) <;> (intros; (try simp (disch := first | ((try simp (disch := first | ((try simp only [pn]) <;> omega) | fail) only [pn, pq]) <;> omega) | fail) only [pn, pq]) <;> omega))
      · first | omega | ((try simp (disch := first | ((try simp (disch := first | ((try simp only [pn]) <;> omega) | fail) only [pn, pq]) <;> omega) | fail) only [pn, pq]) <;> (intros; (try simp (disch := first | ((try simp (disch := first | ((try simp only [pn]) <;> omega) | fail) only [pn, pq]) <;> omega) | fail) only [pn, pq]) <;> omega))
      · first | omega | ((try simp (disch := first | ((try simp (disch := first | ((try simp only [pn]) <;> omega) | fail) only [pn, pq]) <;> omega) | fail) only [pn, pq]) <;> (intros; (try simp (disch := first | ((try simp (disch := first | ((try simp only [pn]) <;> omega) | fail) only [pn, pq]) <;> omega) | fail) only [pn, pq]) <;> omega))
    · skip
      refine sf_X8_mode hJSq1.1 (fun r17 u18 hJu18 hfu18 hr17_0 hr17_1 hr17_2 => ?_)
      have rgr17 := pt_rg r17
      try simp (disch := first | ((try simp (disch := first | ((try simp only [pn]) <;> omega) | fail) only [pn, pq]) <;> omega) | fail) only [pn, pq] at hr17_0
      intro S19 eS19
      have hGS19 : F_L_law S S19 := trivial
      have hJS19 : J8 S19.1 ∧ J9 S19.2 := by rw [eS19]; exact ⟨hJu18, hJSq1.2⟩
      have hFS19 : F_L_law S S19 := hGS19
      have je21 : ((b4g_count (b8g_tape S19.1))).toInt = ((b4g_count (b8g_tape u18))).toInt := by rw [eS19]
      try simp (disch := first | ((try simp (disch := first | ((try simp only [pn]) <;> omega) | fail) only [pn, pq]) <;> omega) | fail) only [pn, pq] at je21
      have jf22 := J4g_count (J8g_tape hJS19.1)
      have je23 : ((b9g_taped S19.2)).toInt = ((b9g_taped Sq1.2)).toInt := by rw [eS19]
      have jf24 := J9g_taped hJS19.2
      refine sf_X9_mode hJS19.2 (fun r20 u21 hJu21 hfu21 hr20_0 hr20_1 hr20_2 hr20_3 => ?_)
      have rgr20 := pt_rg r20
      try simp (disch := first | ((try simp (disch := first | ((try simp only [pn]) <;> omega) | fail) only [pn, pq]) <;> omega) | fail) only [pn, pq] at hr20_0
      clear hr20_2
      clear hr20_3
      intro S22 eS22
      have hGS22 : F_L_law S S22 := trivial
      have hJS22 : J8 S22.1 ∧ J9 S22.2 := by rw [eS22]; exact ⟨hJS19.1, hJu21⟩
      have hFS22 : F_L_law S S22 := hGS22
      have je25 : ((b4g_count (b8g_tape S22.1))).toInt = ((b4g_count (b8g_tape S19.1))).toInt := by rw [eS22]
      have jf26 := J4g_count (J8g_tape hJS22.1)
      have je27 : ((b9g_taped S22.2)).toInt = ((b9g_taped u21)).toInt := by rw [eS22]
      try simp (disch := first | ((try simp (disch := first | ((try simp only [pn]) <;> omega) | fail) only [pn, pq]) <;> omega) | fail) only [pn, pq] at je27
      have jf28 := J9g_taped hJS22.2
      unfold wp_L_law_1745
      refine ⟨_, ?_, ?_, ?_, ?_, ?_, ?_, rfl⟩
      · first | omega | ((try simp (disch := first | ((try simp (disch := first | ((try simp only [pn]) <;> omega) | fail) only [pn, pq]) <;> omega) | fail) only [pn, pq]) <;> (intros; (try simp (disch := first | ((try simp (disch := first | ((try simp only [pn]) <;> omega) | fail) only [pn, pq]) <;> omega) | fail) only [pn, pq]) <;> omega))
      · exact hJS22
      · exact hFS22
      · first | omega | ((try simp (disch := first | ((try simp (disch := first | ((try simp only [pn]) <;> omega) | fail) only [pn, pq]) <;> omega) | fail) only [pn, pq]) <;> (intros; (try simp (disch := first | ((try simp (disch := first | ((try simp only [pn]) <;> omega) | fail) only [pn, pq]) <;> omega) | fail) only [pn, pq]) <;> omega))
      · first | omega | ((try simp (disch := first | ((try simp (disch := first | ((try simp only [pn]) <;> omega) | fail) only [pn, pq]) <;> omega) | fail) only [pn, pq]) <;> (intros; (try simp (disch := first | ((try simp (disch := first | ((try simp only [pn]) <;> omega) | fail) only [pn, pq]) <;> omega) | fail) only [pn, pq]) <;> omega))
      · first | omega | ((try simp (disch := first | ((try simp (disch := first | ((try simp only [pn]) <;> omega) | fail) only [pn, pq]) <;> omega) | fail) only [pn, pq]) <;> (intros; (try simp (disch := first | ((try simp (disch := first | ((try simp only [pn]) <;> omega) | fail) only [pn, pq]) <;> omega) | fail) only [pn, pq]) <;> omega))
    · skip
      refine sf_X8_row hJSq1.1 (fun r23 u24 hJu24 hfu24 hr23_0 hr23_1 hr23_2 => ?_)
      have rgr23 := pt_rg r23
      try simp (disch := first | ((try simp (disch := first | ((try simp only [pn]) <;> omega) | fail) only [pn, pq]) <;> omega) | fail) only [pn, pq] at hr23_0
      intro S25 eS25
      have hGS25 : F_L_law S S25 := trivial
      have hJS25 : J8 S25.1 ∧ J9 S25.2 := by rw [eS25]; exact ⟨hJu24, hJSq1.2⟩
      have hFS25 : F_L_law S S25 := hGS25
      have je29 : ((b4g_count (b8g_tape S25.1))).toInt = ((b4g_count (b8g_tape u24))).toInt := by rw [eS25]
      try simp (disch := first | ((try simp (disch := first | ((try simp only [pn]) <;> omega) | fail) only [pn, pq]) <;> omega) | fail) only [pn, pq] at je29
      have jf30 := J4g_count (J8g_tape hJS25.1)
      have je31 : ((b9g_taped S25.2)).toInt = ((b9g_taped Sq1.2)).toInt := by rw [eS25]
      have jf32 := J9g_taped hJS25.2
      refine sf_X9_row hJS25.2 (fun r26 u27 hJu27 hfu27 hr26_0 hr26_1 => ?_)
      have rgr26 := pt_rg r26
      try simp (disch := first | ((try simp (disch := first | ((try simp only [pn]) <;> omega) | fail) only [pn, pq]) <;> omega) | fail) only [pn, pq] at hr26_0
      intro S28 eS28
      have hGS28 : F_L_law S S28 := trivial
      have hJS28 : J8 S28.1 ∧ J9 S28.2 := by rw [eS28]; exact ⟨hJS25.1, hJu27⟩
      have hFS28 : F_L_law S S28 := hGS28
      have je33 : ((b4g_count (b8g_tape S28.1))).toInt = ((b4g_count (b8g_tape S25.1))).toInt := by rw [eS28]
      have jf34 := J4g_count (J8g_tape hJS28.1)
      have je35 : ((b9g_taped S28.2)).toInt = ((b9g_taped u27)).toInt := by rw [eS28]
      try simp (disch := first | ((try simp (disch := first | ((try simp only [pn]) <;> omega) | fail) only [pn, pq]) <;> omega) | fail) only [pn, pq] at je35
      have jf36 := J9g_taped hJS28.2
      unfold wp_L_law_1745
      refine ⟨_, ?_, ?_, ?_, ?_, ?_, ?_, rfl⟩
      · first | omega | ((try simp (disch := first | ((try simp (disch := first | ((try simp only [pn]) <;> omega) | fail) only [pn, pq]) <;> omega) | fail) only [pn, pq]) <;> (intros; (try simp (disch := first | ((try simp (disch := first | ((try simp only [pn]) <;> omega) | fail) only [pn, pq]) <;> omega) | fail) only [pn, pq]) <;> omega))
      · exact hJS28
      · exact hFS28
      · first | omega | ((try simp (disch := first | ((try simp (disch := first | ((try simp only [pn]) <;> omega) | fail) only [pn, pq]) <;> omega) | fail) only [pn, pq]) <;> (intros; (try simp (disch := first | ((try simp (disch := first | ((try simp only [pn]) <;> omega) | fail) only [pn, pq]) <;> omega) | fail) only [pn, pq]) <;> omega))
      · first | omega | ((try simp (disch := first | ((try simp (disch := first | ((try simp only [pn]) <;> omega) | fail) only [pn, pq]) <;> omega) | fail) only [pn, pq]) <;> (intros; (try simp (disch := first | ((try simp (disch := first | ((try simp only [pn]) <;> omega) | fail) only [pn, pq]) <;> omega) | fail) only [pn, pq]) <;> omega))
      · first | omega | ((try simp (disch := first | ((try simp (disch := first | ((try simp only [pn]) <;> omega) | fail) only [pn, pq]) <;> omega) | fail) only [pn, pq]) <;> (intros; (try simp (disch := first | ((try simp (disch := first | ((try simp only [pn]) <;> omega) | fail) only [pn, pq]) <;> omega) | fail) only [pn, pq]) <;> omega))
    · skip
      refine sf_X8_keys hJSq1.1 (fun r29 u30 hJu30 hfu30 hr29_0 hr29_1 => ?_)
      have rgr29 := pt_rg r29
      try simp (disch := first | ((try simp (disch := first | ((try simp only [pn]) <;> omega) | fail) only [pn, pq]) <;> omega) | fail) only [pn, pq] at hr29_0
      intro S31 eS31
      have hGS31 : F_L_law S S31 := trivial
      have hJS31 : J8 S31.1 ∧ J9 S31.2 := by rw [eS31]; exact ⟨hJu30, hJSq1.2⟩
      have hFS31 : F_L_law S S31 := hGS31
      have je37 : ((b4g_count (b8g_tape S31.1))).toInt = ((b4g_count (b8g_tape u30))).toInt := by rw [eS31]
      try simp (disch := first | ((try simp (disch := first | ((try simp only [pn]) <;> omega) | fail) only [pn, pq]) <;> omega) | fail) only [pn, pq] at je37
      have jf38 := J4g_count (J8g_tape hJS31.1)
      have je39 : ((b9g_taped S31.2)).toInt = ((b9g_taped Sq1.2)).toInt := by rw [eS31]
      have jf40 := J9g_taped hJS31.2
      refine sf_X9_keys hJS31.2 (fun r32 u33 hJu33 hfu33 hr32_0 hr32_1 hr32_2 => ?_)
      have rgr32 := pt_rg r32
      try simp (disch := first | ((try simp (disch := first | ((try simp only [pn]) <;> omega) | fail) only [pn, pq]) <;> omega) | fail) only [pn, pq] at hr32_0
      clear hr32_1
      clear hr32_2
      intro S34 eS34
      have hGS34 : F_L_law S S34 := trivial
      have hJS34 : J8 S34.1 ∧ J9 S34.2 := by rw [eS34]; exact ⟨hJS31.1, hJu33⟩
      have hFS34 : F_L_law S S34 := hGS34
      have je41 : ((b4g_count (b8g_tape S34.1))).toInt = ((b4g_count (b8g_tape S31.1))).toInt := by rw [eS34]
      have jf42 := J4g_count (J8g_tape hJS34.1)
      have je43 : ((b9g_taped S34.2)).toInt = ((b9g_taped u33)).toInt := by rw [eS34]
      try simp (disch := first | ((try simp (disch := first | ((try simp only [pn]) <;> omega) | fail) only [pn, pq]) <;> omega) | fail) only [pn, pq] at je43
      have jf44 := J9g_taped hJS34.2
      unfold wp_L_law_1745
      refine ⟨_, ?_, ?_, ?_, ?_, ?_, ?_, rfl⟩
      · first | omega | ((try simp (disch := first | ((try simp (disch := first | ((try simp only [pn]) <;> omega) | fail) only [pn, pq]) <;> omega) | fail) only [pn, pq]) <;> (intros; (try simp (disch := first | ((try simp (disch := first | ((try simp only [pn]) <;> omega) | fail) only [pn, pq]) <;> omega) | fail) only [pn, pq]) <;> omega))
      · exact hJS34
      · exact hFS34
      · first | omega | ((try simp (disch := first | ((try simp (disch := first | ((try simp only [pn]) <;> omega) | fail) only [pn, pq]) <;> omega) | fail) only [pn, pq]) <;> (intros; (try simp (disch := first | ((try simp (disch := first | ((try simp only [pn]) <;> omega) | fail) only [pn, pq]) <;> omega) | fail) only [pn, pq]) <;> omega))
      · first | omega | ((try simp (disch := first | ((try simp (disch := first | ((try simp only [pn]) <;> omega) | fail) only [pn, pq]) <;> omega) | fail) only [pn, pq]) <;> (intros; (try simp (disch := first | ((try simp (disch := first | ((try simp only [pn]) <;> omega) | fail) only [pn, pq]) <;> omega) | fail) only [pn, pq]) <;> omega))
      · first | omega | ((try simp (disch := first | ((try simp (disch := first | ((try simp only [pn]) <;> omega) | fail) only [pn, pq]) <;> omega) | fail) only [pn, pq]) <;> (intros; (try simp (disch := first | ((try simp (disch := first | ((try simp only [pn]) <;> omega) | fail) only [pn, pq]) <;> omega) | fail) only [pn, pq]) <;> omega))
    · skip
      refine ⟨vin1, ?_⟩
      refine ⟨vin2, ?_⟩
      refine sf_X8_set hJSq1.1 (fun r35 u36 hJu36 hfu36 hzr35 hr35_0 => ?_)
      have je46 : ((b4g_count (b8g_tape u36))).toInt = ((b4g_count (b8g_tape Sq1.1))).toInt := congrArg (fun z => ((b4g_count z)).toInt) hfu36.2.2.2.2.2.2.2.2.2.2.2.2.1
      clear hr35_0
      intro S37 eS37
      have hGS37 : F_L_law S S37 := trivial
      have hJS37 : J8 S37.1 ∧ J9 S37.2 := by rw [eS37]; exact ⟨hJu36, hJSq1.2⟩
      have hFS37 : F_L_law S S37 := hGS37
      have je47 : ((b4g_count (b8g_tape S37.1))).toInt = ((b4g_count (b8g_tape u36))).toInt := by rw [eS37]
      try simp (disch := first | ((try simp (disch := first | ((try simp only [pn]) <;> omega) | fail) only [pn, pq]) <;> omega) | fail) only [pn, pq] at je47
      have jf48 := J4g_count (J8g_tape hJS37.1)
      have je49 : ((b9g_taped S37.2)).toInt = ((b9g_taped Sq1.2)).toInt := by rw [eS37]
      have jf50 := J9g_taped hJS37.2
      refine ⟨vin1, ?_⟩
      refine ⟨vin2, ?_⟩
      refine sf_X9_set hJS37.2 (fun r38 u39 hJu39 hfu39 hzr38 hr38_0 hr38_1 hr38_2 => ?_)
      have je52 : ((b9g_taped u39)).toInt = ((b9g_taped S37.2)).toInt := congrArg (fun z => (z).toInt) hfu39.2.2.2.2.2.1
      clear hr38_0
      clear hr38_1
      clear hr38_2
      intro S40 eS40
      have hGS40 : F_L_law S S40 := trivial
      have hJS40 : J8 S40.1 ∧ J9 S40.2 := by rw [eS40]; exact ⟨hJS37.1, hJu39⟩
      have hFS40 : F_L_law S S40 := hGS40
      have je53 : ((b4g_count (b8g_tape S40.1))).toInt = ((b4g_count (b8g_tape S37.1))).toInt := by rw [eS40]
      have jf54 := J4g_count (J8g_tape hJS40.1)
      have je55 : ((b9g_taped S40.2)).toInt = ((b9g_taped u39)).toInt := by rw [eS40]
      try simp (disch := first | ((try simp (disch := first | ((try simp only [pn]) <;> omega) | fail) only [pn, pq]) <;> omega) | fail) only [pn, pq] at je55
      have jf56 := J9g_taped hJS40.2
      unfold wp_L_law_1745
      refine ⟨_, ?_, ?_, ?_, ?_, ?_, ?_, rfl⟩
      · first | omega | ((try simp (disch := first | ((try simp (disch := first | ((try simp only [pn]) <;> omega) | fail) only [pn, pq]) <;> omega) | fail) only [pn, pq]) <;> (intros; (try simp (disch := first | ((try simp (disch := first | ((try simp only [pn]) <;> omega) | fail) only [pn, pq]) <;> omega) | fail) only [pn, pq]) <;> omega))
      · exact hJS40
      · exact hFS40
      · first | omega | ((try simp (disch := first | ((try simp (disch := first | ((try simp only [pn]) <;> omega) | fail) only [pn, pq]) <;> omega) | fail) only [pn, pq]) <;> (intros; (try simp (disch := first | ((try simp (disch := first | ((try simp only [pn]) <;> omega) | fail) only [pn, pq]) <;> omega) | fail) only [pn, pq]) <;> omega))
      · first | omega | ((try simp (disch := first | ((try simp (disch := first | ((try simp only [pn]) <;> omega) | fail) only [pn, pq]) <;> omega) | fail) only [pn, pq]) <;> (intros; (try simp (disch := first | ((try simp (disch := first | ((try simp only [pn]) <;> omega) | fail) only [pn, pq]) <;> omega) | fail) only [pn, pq]) <;> omega))
      · first | omega | ((try simp (disch := first | ((try simp (disch := first | ((try simp only [pn]) <;> omega) | fail) only [pn, pq]) <;> omega) | fail) only [pn, pq]) <;> (intros; (try simp (disch := first | ((try simp (disch := first | ((try simp only [pn]) <;> omega) | fail) only [pn, pq]) <;> omega) | fail) only [pn, pq]) <;> omega))
    · skip
      refine ⟨vin1, ?_⟩
      refine sf_X8_state hJSq1.1 (fun r41 u42 hJu42 hfu42 hr41_0 hr41_1 => ?_)
      have je58 : ((b4g_count (b8g_tape u42))).toInt = ((b4g_count (b8g_tape Sq1.1))).toInt := congrArg (fun z => ((b4g_count z)).toInt) hfu42.2.2.2.2.2.2.2.2.2.2.1
      have rgr41 := pt_rg r41
      clear hr41_0
      clear hr41_1
      intro S43 eS43
      have hGS43 : F_L_law S S43 := trivial
      have hJS43 : J8 S43.1 ∧ J9 S43.2 := by rw [eS43]; exact ⟨hJu42, hJSq1.2⟩
      have hFS43 : F_L_law S S43 := hGS43
      have je59 : ((b4g_count (b8g_tape S43.1))).toInt = ((b4g_count (b8g_tape u42))).toInt := by rw [eS43]
      try simp (disch := first | ((try simp (disch := first | ((try simp only [pn]) <;> omega) | fail) only [pn, pq]) <;> omega) | fail) only [pn, pq] at je59
      have jf60 := J4g_count (J8g_tape hJS43.1)
      have je61 : ((b9g_taped S43.2)).toInt = ((b9g_taped Sq1.2)).toInt := by rw [eS43]
      have jf62 := J9g_taped hJS43.2
      refine ⟨vin1, ?_⟩
      refine sf_X9_state hJS43.2 (fun r44 u45 hJu45 hfu45 hr44_0 hr44_1 hr44_2 => ?_)
      have je64 : ((b9g_taped u45)).toInt = ((b9g_taped S43.2)).toInt := congrArg (fun z => (z).toInt) hfu45.2.2.2.2.2.1
      have rgr44 := pt_rg r44
      clear hr44_0
      clear hr44_1
      clear hr44_2
      intro S46 eS46
      have hGS46 : F_L_law S S46 := trivial
      have hJS46 : J8 S46.1 ∧ J9 S46.2 := by rw [eS46]; exact ⟨hJS43.1, hJu45⟩
      have hFS46 : F_L_law S S46 := hGS46
      have je65 : ((b4g_count (b8g_tape S46.1))).toInt = ((b4g_count (b8g_tape S43.1))).toInt := by rw [eS46]
      have jf66 := J4g_count (J8g_tape hJS46.1)
      have je67 : ((b9g_taped S46.2)).toInt = ((b9g_taped u45)).toInt := by rw [eS46]
      try simp (disch := first | ((try simp (disch := first | ((try simp only [pn]) <;> omega) | fail) only [pn, pq]) <;> omega) | fail) only [pn, pq] at je67
      have jf68 := J9g_taped hJS46.2
      unfold wp_L_law_1745
      refine ⟨_, ?_, ?_, ?_, ?_, ?_, ?_, rfl⟩
      · first | omega | ((try simp (disch := first | ((try simp (disch := first | ((try simp only [pn]) <;> omega) | fail) only [pn, pq]) <;> omega) | fail) only [pn, pq]) <;> (intros; (try simp (disch := first | ((try simp (disch := first | ((try simp only [pn]) <;> omega) | fail) only [pn, pq]) <;> omega) | fail) only [pn, pq]) <;> omega))
      · exact hJS46
      · exact hFS46
      · first | omega | ((try simp (disch := first | ((try simp (disch := first | ((try simp only [pn]) <;> omega) | fail) only [pn, pq]) <;> omega) | fail) only [pn, pq]) <;> (intros; (try simp (disch := first | ((try simp (disch := first | ((try simp only [pn]) <;> omega) | fail) only [pn, pq]) <;> omega) | fail) only [pn, pq]) <;> omega))
      · first | omega | ((try simp (disch := first | ((try simp (disch := first | ((try simp only [pn]) <;> omega) | fail) only [pn, pq]) <;> omega) | fail) only [pn, pq]) <;> (intros; (try simp (disch := first | ((try simp (disch := first | ((try simp only [pn]) <;> omega) | fail) only [pn, pq]) <;> omega) | fail) only [pn, pq]) <;> omega))
      · first | omega | ((try simp (disch := first | ((try simp (disch := first | ((try simp only [pn]) <;> omega) | fail) only [pn, pq]) <;> omega) | fail) only [pn, pq]) <;> (intros; (try simp (disch := first | ((try simp (disch := first | ((try simp only [pn]) <;> omega) | fail) only [pn, pq]) <;> omega) | fail) only [pn, pq]) <;> omega))
    · skip
      refine ⟨vin1, ?_⟩
      refine ⟨vin2, ?_⟩
      refine ⟨vin3, ?_⟩
      refine sf_X8_add hJSq1.1 (fun r47 u48 hJu48 hfu48 hr47_0 => ?_)
      have je70 : ((b4g_count (b8g_tape u48))).toInt = ((b4g_count (b8g_tape Sq1.1))).toInt := congrArg (fun z => ((b4g_count z)).toInt) hfu48.2.2.2.2.2.2.2.2.2.2.2.2.1
      have rgr47 := pt_rg r47
      clear hr47_0
      intro S49 eS49
      have hGS49 : F_L_law S S49 := trivial
      have hJS49 : J8 S49.1 ∧ J9 S49.2 := by rw [eS49]; exact ⟨hJu48, hJSq1.2⟩
      have hFS49 : F_L_law S S49 := hGS49
      have je71 : ((b4g_count (b8g_tape S49.1))).toInt = ((b4g_count (b8g_tape u48))).toInt := by rw [eS49]
      try simp (disch := first | ((try simp (disch := first | ((try simp only [pn]) <;> omega) | fail) only [pn, pq]) <;> omega) | fail) only [pn, pq] at je71
      have jf72 := J4g_count (J8g_tape hJS49.1)
      have je73 : ((b9g_taped S49.2)).toInt = ((b9g_taped Sq1.2)).toInt := by rw [eS49]
      have jf74 := J9g_taped hJS49.2
      refine ⟨vin1, ?_⟩
      refine ⟨vin2, ?_⟩
      refine ⟨vin3, ?_⟩
      refine sf_X9_add hJS49.2 (fun r50 u51 hJu51 hfu51 hr50_0 hr50_1 hr50_2 hr50_3 hr50_4 => ?_)
      have je76 : ((b9g_taped u51)).toInt = ((b9g_taped S49.2)).toInt := congrArg (fun z => (z).toInt) hfu51.2.2.2.1
      have rgr50 := pt_rg r50
      clear hr50_0
      clear hr50_1
      clear hr50_2
      clear hr50_3
      clear hr50_4
      intro S52 eS52
      have hGS52 : F_L_law S S52 := trivial
      have hJS52 : J8 S52.1 ∧ J9 S52.2 := by rw [eS52]; exact ⟨hJS49.1, hJu51⟩
      have hFS52 : F_L_law S S52 := hGS52
      have je77 : ((b4g_count (b8g_tape S52.1))).toInt = ((b4g_count (b8g_tape S49.1))).toInt := by rw [eS52]
      have jf78 := J4g_count (J8g_tape hJS52.1)
      have je79 : ((b9g_taped S52.2)).toInt = ((b9g_taped u51)).toInt := by rw [eS52]
      try simp (disch := first | ((try simp (disch := first | ((try simp only [pn]) <;> omega) | fail) only [pn, pq]) <;> omega) | fail) only [pn, pq] at je79
      have jf80 := J9g_taped hJS52.2
      unfold wp_L_law_1745
      refine ⟨_, ?_, ?_, ?_, ?_, ?_, ?_, rfl⟩
      · first | omega | ((try simp (disch := first | ((try simp (disch := first | ((try simp only [pn]) <;> omega) | fail) only [pn, pq]) <;> omega) | fail) only [pn, pq]) <;> (intros; (try simp (disch := first | ((try simp (disch := first | ((try simp only [pn]) <;> omega) | fail) only [pn, pq]) <;> omega) | fail) only [pn, pq]) <;> omega))
      · exact hJS52
      · exact hFS52
      · first | omega | ((try simp (disch := first | ((try simp (disch := first | ((try simp only [pn]) <;> omega) | fail) only [pn, pq]) <;> omega) | fail) only [pn, pq]) <;> (intros; (try simp (disch := first | ((try simp (disch := first | ((try simp only [pn]) <;> omega) | fail) only [pn, pq]) <;> omega) | fail) only [pn, pq]) <;> omega))
      · first | omega | ((try simp (disch := first | ((try simp (disch := first | ((try simp only [pn]) <;> omega) | fail) only [pn, pq]) <;> omega) | fail) only [pn, pq]) <;> (intros; (try simp (disch := first | ((try simp (disch := first | ((try simp only [pn]) <;> omega) | fail) only [pn, pq]) <;> omega) | fail) only [pn, pq]) <;> omega))
      · first | omega | ((try simp (disch := first | ((try simp (disch := first | ((try simp only [pn]) <;> omega) | fail) only [pn, pq]) <;> omega) | fail) only [pn, pq]) <;> (intros; (try simp (disch := first | ((try simp (disch := first | ((try simp only [pn]) <;> omega) | fail) only [pn, pq]) <;> omega) | fail) only [pn, pq]) <;> omega))
    · skip
      refine ⟨vin1, ?_⟩
      refine ⟨vin2, ?_⟩
      refine ⟨vin3, ?_⟩
      refine sf_X8_remove hJSq1.1 (fun r53 u54 hJu54 hfu54 hr53_0 hr53_1 => ?_)
      have je82 : ((b4g_count (b8g_tape u54))).toInt = ((b4g_count (b8g_tape Sq1.1))).toInt := congrArg (fun z => ((b4g_count z)).toInt) hfu54.2.2.2.2.2.2.2.2.2.2.2.2.1
      have rgr53 := pt_rg r53
      clear hr53_0
      clear hr53_1
      intro S55 eS55
      have hGS55 : F_L_law S S55 := trivial
      have hJS55 : J8 S55.1 ∧ J9 S55.2 := by rw [eS55]; exact ⟨hJu54, hJSq1.2⟩
      have hFS55 : F_L_law S S55 := hGS55
      have je83 : ((b4g_count (b8g_tape S55.1))).toInt = ((b4g_count (b8g_tape u54))).toInt := by rw [eS55]
      try simp (disch := first | ((try simp (disch := first | ((try simp only [pn]) <;> omega) | fail) only [pn, pq]) <;> omega) | fail) only [pn, pq] at je83
      have jf84 := J4g_count (J8g_tape hJS55.1)
      have je85 : ((b9g_taped S55.2)).toInt = ((b9g_taped Sq1.2)).toInt := by rw [eS55]
      have jf86 := J9g_taped hJS55.2
      refine ⟨vin1, ?_⟩
      refine ⟨vin2, ?_⟩
      refine ⟨vin3, ?_⟩
      refine sf_X9_remove hJS55.2 (fun r56 u57 hJu57 hfu57 hr56_0 hr56_1 hr56_2 hr56_3 hr56_4 hr56_5 => ?_)
      have je88 : ((b9g_taped u57)).toInt = ((b9g_taped S55.2)).toInt := congrArg (fun z => (z).toInt) hfu57.2.2.2.1
      have rgr56 := pt_rg r56
      clear hr56_0
      clear hr56_1
      clear hr56_2
      clear hr56_3
      clear hr56_4
      clear hr56_5
      intro S58 eS58
      have hGS58 : F_L_law S S58 := trivial
      have hJS58 : J8 S58.1 ∧ J9 S58.2 := by rw [eS58]; exact ⟨hJS55.1, hJu57⟩
      have hFS58 : F_L_law S S58 := hGS58
      have je89 : ((b4g_count (b8g_tape S58.1))).toInt = ((b4g_count (b8g_tape S55.1))).toInt := by rw [eS58]
      have jf90 := J4g_count (J8g_tape hJS58.1)
      have je91 : ((b9g_taped S58.2)).toInt = ((b9g_taped u57)).toInt := by rw [eS58]
      try simp (disch := first | ((try simp (disch := first | ((try simp only [pn]) <;> omega) | fail) only [pn, pq]) <;> omega) | fail) only [pn, pq] at je91
      have jf92 := J9g_taped hJS58.2
      unfold wp_L_law_1745
      refine ⟨_, ?_, ?_, ?_, ?_, ?_, ?_, rfl⟩
      · first | omega | ((try simp (disch := first | ((try simp (disch := first | ((try simp only [pn]) <;> omega) | fail) only [pn, pq]) <;> omega) | fail) only [pn, pq]) <;> (intros; (try simp (disch := first | ((try simp (disch := first | ((try simp only [pn]) <;> omega) | fail) only [pn, pq]) <;> omega) | fail) only [pn, pq]) <;> omega))
      · exact hJS58
      · exact hFS58
      · first | omega | ((try simp (disch := first | ((try simp (disch := first | ((try simp only [pn]) <;> omega) | fail) only [pn, pq]) <;> omega) | fail) only [pn, pq]) <;> (intros; (try simp (disch := first | ((try simp (disch := first | ((try simp only [pn]) <;> omega) | fail) only [pn, pq]) <;> omega) | fail) only [pn, pq]) <;> omega))
      · first | omega | ((try simp (disch := first | ((try simp (disch := first | ((try simp only [pn]) <;> omega) | fail) only [pn, pq]) <;> omega) | fail) only [pn, pq]) <;> (intros; (try simp (disch := first | ((try simp (disch := first | ((try simp only [pn]) <;> omega) | fail) only [pn, pq]) <;> omega) | fail) only [pn, pq]) <;> omega))
      · first | omega | ((try simp (disch := first | ((try simp (disch := first | ((try simp only [pn]) <;> omega) | fail) only [pn, pq]) <;> omega) | fail) only [pn, pq]) <;> (intros; (try simp (disch := first | ((try simp (disch := first | ((try simp only [pn]) <;> omega) | fail) only [pn, pq]) <;> omega) | fail) only [pn, pq]) <;> omega))
    · skip
      refine ⟨vin1, ?_⟩
      refine ⟨vin2, ?_⟩
      refine sf_X8_fill hJSq1.1 (fun r59 u60 hJu60 hfu60 hr59_0 => ?_)
      have je94 : ((b4g_count (b8g_tape u60))).toInt = ((b4g_count (b8g_tape Sq1.1))).toInt := congrArg (fun z => ((b4g_count z)).toInt) hfu60.2.2.2.2.2.2.2.2.2.2.2.1
      have rgr59 := pt_rg r59
      clear hr59_0
      intro S61 eS61
      have hGS61 : F_L_law S S61 := trivial
      have hJS61 : J8 S61.1 ∧ J9 S61.2 := by rw [eS61]; exact ⟨hJu60, hJSq1.2⟩
      have hFS61 : F_L_law S S61 := hGS61
      have je95 : ((b4g_count (b8g_tape S61.1))).toInt = ((b4g_count (b8g_tape u60))).toInt := by rw [eS61]
      try simp (disch := first | ((try simp (disch := first | ((try simp only [pn]) <;> omega) | fail) only [pn, pq]) <;> omega) | fail) only [pn, pq] at je95
      have jf96 := J4g_count (J8g_tape hJS61.1)
      have je97 : ((b9g_taped S61.2)).toInt = ((b9g_taped Sq1.2)).toInt := by rw [eS61]
      have jf98 := J9g_taped hJS61.2
      refine ⟨vin1, ?_⟩
      refine ⟨vin2, ?_⟩
      refine sf_X9_fill hJS61.2 (fun r62 u63 hJu63 hfu63 hr62_0 hr62_1 => ?_)
      have je100 : ((b9g_taped u63)).toInt = ((b9g_taped S61.2)).toInt := congrArg (fun z => (z).toInt) hfu63.2.1
      have rgr62 := pt_rg r62
      clear hr62_0
      clear hr62_1
      intro S64 eS64
      have hGS64 : F_L_law S S64 := trivial
      have hJS64 : J8 S64.1 ∧ J9 S64.2 := by rw [eS64]; exact ⟨hJS61.1, hJu63⟩
      have hFS64 : F_L_law S S64 := hGS64
      have je101 : ((b4g_count (b8g_tape S64.1))).toInt = ((b4g_count (b8g_tape S61.1))).toInt := by rw [eS64]
      have jf102 := J4g_count (J8g_tape hJS64.1)
      have je103 : ((b9g_taped S64.2)).toInt = ((b9g_taped u63)).toInt := by rw [eS64]
      try simp (disch := first | ((try simp (disch := first | ((try simp only [pn]) <;> omega) | fail) only [pn, pq]) <;> omega) | fail) only [pn, pq] at je103
      have jf104 := J9g_taped hJS64.2
      unfold wp_L_law_1745
      refine ⟨_, ?_, ?_, ?_, ?_, ?_, ?_, rfl⟩
      · first | omega | ((try simp (disch := first | ((try simp (disch := first | ((try simp only [pn]) <;> omega) | fail) only [pn, pq]) <;> omega) | fail) only [pn, pq]) <;> (intros; (try simp (disch := first | ((try simp (disch := first | ((try simp only [pn]) <;> omega) | fail) only [pn, pq]) <;> omega) | fail) only [pn, pq]) <;> omega))
      · exact hJS64
      · exact hFS64
      · first | omega | ((try simp (disch := first | ((try simp (disch := first | ((try simp only [pn]) <;> omega) | fail) only [pn, pq]) <;> omega) | fail) only [pn, pq]) <;> (intros; (try simp (disch := first | ((try simp (disch := first | ((try simp only [pn]) <;> omega) | fail) only [pn, pq]) <;> omega) | fail) only [pn, pq]) <;> omega))
      · first | omega | ((try simp (disch := first | ((try simp (disch := first | ((try simp only [pn]) <;> omega) | fail) only [pn, pq]) <;> omega) | fail) only [pn, pq]) <;> (intros; (try simp (disch := first | ((try simp (disch := first | ((try simp only [pn]) <;> omega) | fail) only [pn, pq]) <;> omega) | fail) only [pn, pq]) <;> omega))
      · first | omega | ((try simp (disch := first | ((try simp (disch := first | ((try simp only [pn]) <;> omega) | fail) only [pn, pq]) <;> omega) | fail) only [pn, pq]) <;> (intros; (try simp (disch := first | ((try simp (disch := first | ((try simp only [pn]) <;> omega) | fail) only [pn, pq]) <;> omega) | fail) only [pn, pq]) <;> omega))
    · skip
      refine sf_X8_build hJSq1.1 (fun r65 u66 hJu66 hfu66  => ?_)
      have je106 : ((b4g_count (b8g_tape u66))).toInt = ((b4g_count (b8g_tape Sq1.1))).toInt := congrArg (fun z => ((b4g_count z)).toInt) hfu66.2.2.2.2.2.2.2.2.1
      have rgr65 := pt_rg r65
      intro S67 eS67
      have hGS67 : F_L_law S S67 := trivial
      have hJS67 : J8 S67.1 ∧ J9 S67.2 := by rw [eS67]; exact ⟨hJu66, hJSq1.2⟩
      have hFS67 : F_L_law S S67 := hGS67
      have je107 : ((b4g_count (b8g_tape S67.1))).toInt = ((b4g_count (b8g_tape u66))).toInt := by rw [eS67]
      try simp (disch := first | ((try simp (disch := first | ((try simp only [pn]) <;> omega) | fail) only [pn, pq]) <;> omega) | fail) only [pn, pq] at je107
      have jf108 := J4g_count (J8g_tape hJS67.1)
      have je109 : ((b9g_taped S67.2)).toInt = ((b9g_taped Sq1.2)).toInt := by rw [eS67]
      have jf110 := J9g_taped hJS67.2
      refine sf_X9_build hJS67.2 (fun r68 u69 hJu69 hfu69 hr68_0 hr68_1 => ?_)
      have je112 : ((b9g_taped u69)).toInt = ((b9g_taped S67.2)).toInt := congrArg (fun z => (z).toInt) hfu69.2.2.2.1
      have rgr68 := pt_rg r68
      clear hr68_0
      clear hr68_1
      intro S70 eS70
      have hGS70 : F_L_law S S70 := trivial
      have hJS70 : J8 S70.1 ∧ J9 S70.2 := by rw [eS70]; exact ⟨hJS67.1, hJu69⟩
      have hFS70 : F_L_law S S70 := hGS70
      have je113 : ((b4g_count (b8g_tape S70.1))).toInt = ((b4g_count (b8g_tape S67.1))).toInt := by rw [eS70]
      have jf114 := J4g_count (J8g_tape hJS70.1)
      have je115 : ((b9g_taped S70.2)).toInt = ((b9g_taped u69)).toInt := by rw [eS70]
      try simp (disch := first | ((try simp (disch := first | ((try simp only [pn]) <;> omega) | fail) only [pn, pq]) <;> omega) | fail) only [pn, pq] at je115
      have jf116 := J9g_taped hJS70.2
      unfold wp_L_law_1745
      refine ⟨_, ?_, ?_, ?_, ?_, ?_, ?_, rfl⟩
      · first | omega | ((try simp (disch := first | ((try simp (disch := first | ((try simp only [pn]) <;> omega) | fail) only [pn, pq]) <;> omega) | fail) only [pn, pq]) <;> (intros; (try simp (disch := first | ((try simp (disch := first | ((try simp only [pn]) <;> omega) | fail) only [pn, pq]) <;> omega) | fail) only [pn, pq]) <;> omega))
      · exact hJS70
      · exact hFS70
      · first | omega | ((try simp (disch := first | ((try simp (disch := first | ((try simp only [pn]) <;> omega) | fail) only [pn, pq]) <;> omega) | fail) only [pn, pq]) <;> (intros; (try simp (disch := first | ((try simp (disch := first | ((try simp only [pn]) <;> omega) | fail) only [pn, pq]) <;> omega) | fail) only [pn, pq]) <;> omega))
      · first | omega | ((try simp (disch := first | ((try simp (disch := first | ((try simp only [pn]) <;> omega) | fail) only [pn, pq]) <;> omega) | fail) only [pn, pq]) <;> (intros; (try simp (disch := first | ((try simp (disch := first | ((try simp only [pn]) <;> omega) | fail) only [pn, pq]) <;> omega) | fail) only [pn, pq]) <;> omega))
      · first | omega | ((try simp (disch := first | ((try simp (disch := first | ((try simp only [pn]) <;> omega) | fail) only [pn, pq]) <;> omega) | fail) only [pn, pq]) <;> (intros; (try simp (disch := first | ((try simp (disch := first | ((try simp only [pn]) <;> omega) | fail) only [pn, pq]) <;> omega) | fail) only [pn, pq]) <;> omega))
    · skip
      refine ⟨vin1, ?_⟩
      refine ⟨vin2, ?_⟩
      refine ⟨vin3, ?_⟩
      refine ⟨vin4, ?_⟩
      refine sf_X8_has hJSq1.1 (fun r71  => ?_)
      have rgr71 := pt_rg r71
      refine ⟨vin1, ?_⟩
      refine ⟨vin2, ?_⟩
      refine ⟨vin3, ?_⟩
      refine ⟨vin4, ?_⟩
      refine sf_X9_has hJSq1.2 (fun r73 u74 hJu74 hfu74  => ?_)
      have je118 : ((b9g_taped u74)).toInt = ((b9g_taped Sq1.2)).toInt := congrArg (fun z => (z).toInt) hfu74.2.2.2.2.2.2.1
      have rgr73 := pt_rg r73
      intro S75 eS75
      have hGS75 : F_L_law S S75 := trivial
      have hJS75 : J8 S75.1 ∧ J9 S75.2 := by rw [eS75]; exact ⟨hJSq1.1, hJu74⟩
      have hFS75 : F_L_law S S75 := hGS75
      have je119 : ((b4g_count (b8g_tape S75.1))).toInt = ((b4g_count (b8g_tape Sq1.1))).toInt := by rw [eS75]
      have jf120 := J4g_count (J8g_tape hJS75.1)
      have je121 : ((b9g_taped S75.2)).toInt = ((b9g_taped u74)).toInt := by rw [eS75]
      try simp (disch := first | ((try simp (disch := first | ((try simp only [pn]) <;> omega) | fail) only [pn, pq]) <;> omega) | fail) only [pn, pq] at je121
      have jf122 := J9g_taped hJS75.2
      unfold wp_L_law_1745
      refine ⟨_, ?_, ?_, ?_, ?_, ?_, ?_, rfl⟩
      · first | omega | ((try simp (disch := first | ((try simp (disch := first | ((try simp only [pn]) <;> omega) | fail) only [pn, pq]) <;> omega) | fail) only [pn, pq]) <;> (intros; (try simp (disch := first | ((try simp (disch := first | ((try simp only [pn]) <;> omega) | fail) only [pn, pq]) <;> omega) | fail) only [pn, pq]) <;> omega))
      · exact hJS75
      · exact hFS75
      · first | omega | ((try simp (disch := first | ((try simp (disch := first | ((try simp only [pn]) <;> omega) | fail) only [pn, pq]) <;> omega) | fail) only [pn, pq]) <;> (intros; (try simp (disch := first | ((try simp (disch := first | ((try simp only [pn]) <;> omega) | fail) only [pn, pq]) <;> omega) | fail) only [pn, pq]) <;> omega))
      · first | omega | ((try simp (disch := first | ((try simp (disch := first | ((try simp only [pn]) <;> omega) | fail) only [pn, pq]) <;> omega) | fail) only [pn, pq]) <;> (intros; (try simp (disch := first | ((try simp (disch := first | ((try simp only [pn]) <;> omega) | fail) only [pn, pq]) <;> omega) | fail) only [pn, pq]) <;> omega))
      · first | omega | ((try simp (disch := first | ((try simp (disch := first | ((try simp only [pn]) <;> omega) | fail) only [pn, pq]) <;> omega) | fail) only [pn, pq]) <;> (intros; (try simp (disch := first | ((try simp (disch := first | ((try simp only [pn]) <;> omega) | fail) only [pn, pq]) <;> omega) | fail) only [pn, pq]) <;> omega))
    · skip
      refine ⟨vin1, ?_⟩
      refine ⟨vin2, ?_⟩
      refine ⟨vin3, ?_⟩
      refine sf_X8_may hJSq1.1 (fun r76 u77 hJu77 hfu77  => ?_)
      have je124 : ((b4g_count (b8g_tape u77))).toInt = ((b4g_count (b8g_tape Sq1.1))).toInt := congrArg (fun z => ((b4g_count z)).toInt) hfu77.2.2.2.2.2.2.2.2.2.2.1
      have rgr76 := pt_rg r76
      intro S78 eS78
      have hGS78 : F_L_law S S78 := trivial
      have hJS78 : J8 S78.1 ∧ J9 S78.2 := by rw [eS78]; exact ⟨hJu77, hJSq1.2⟩
      have hFS78 : F_L_law S S78 := hGS78
      have je125 : ((b4g_count (b8g_tape S78.1))).toInt = ((b4g_count (b8g_tape u77))).toInt := by rw [eS78]
      try simp (disch := first | ((try simp (disch := first | ((try simp only [pn]) <;> omega) | fail) only [pn, pq]) <;> omega) | fail) only [pn, pq] at je125
      have jf126 := J4g_count (J8g_tape hJS78.1)
      have je127 : ((b9g_taped S78.2)).toInt = ((b9g_taped Sq1.2)).toInt := by rw [eS78]
      have jf128 := J9g_taped hJS78.2
      refine ⟨vin1, ?_⟩
      refine ⟨vin2, ?_⟩
      refine ⟨vin3, ?_⟩
      refine sf_X9_may hJS78.2 (fun r79 u80 hJu80 hfu80 hr79_0 hr79_1 => ?_)
      have je130 : ((b9g_taped u80)).toInt = ((b9g_taped S78.2)).toInt := congrArg (fun z => (z).toInt) hfu80.2.2.2.2.2.1
      have rgr79 := pt_rg r79
      clear hr79_0
      clear hr79_1
      intro S81 eS81
      have hGS81 : F_L_law S S81 := trivial
      have hJS81 : J8 S81.1 ∧ J9 S81.2 := by rw [eS81]; exact ⟨hJS78.1, hJu80⟩
      have hFS81 : F_L_law S S81 := hGS81
      have je131 : ((b4g_count (b8g_tape S81.1))).toInt = ((b4g_count (b8g_tape S78.1))).toInt := by rw [eS81]
      have jf132 := J4g_count (J8g_tape hJS81.1)
      have je133 : ((b9g_taped S81.2)).toInt = ((b9g_taped u80)).toInt := by rw [eS81]
      try simp (disch := first | ((try simp (disch := first | ((try simp only [pn]) <;> omega) | fail) only [pn, pq]) <;> omega) | fail) only [pn, pq] at je133
      have jf134 := J9g_taped hJS81.2
      unfold wp_L_law_1745
      refine ⟨_, ?_, ?_, ?_, ?_, ?_, ?_, rfl⟩
      · first | omega | ((try simp (disch := first | ((try simp (disch := first | ((try simp only [pn]) <;> omega) | fail) only [pn, pq]) <;> omega) | fail) only [pn, pq]) <;> (intros; (try simp (disch := first | ((try simp (disch := first | ((try simp only [pn]) <;> omega) | fail) only [pn, pq]) <;> omega) | fail) only [pn, pq]) <;> omega))
      · exact hJS81
      · exact hFS81
      · first | omega | ((try simp (disch := first | ((try simp (disch := first | ((try simp only [pn]) <;> omega) | fail) only [pn, pq]) <;> omega) | fail) only [pn, pq]) <;> (intros; (try simp (disch := first | ((try simp (disch := first | ((try simp only [pn]) <;> omega) | fail) only [pn, pq]) <;> omega) | fail) only [pn, pq]) <;> omega))
      · first | omega | ((try simp (disch := first | ((try simp (disch := first | ((try simp only [pn]) <;> omega) | fail) only [pn, pq]) <;> omega) | fail) only [pn, pq]) <;> (intros; (try simp (disch := first | ((try simp (disch := first | ((try simp only [pn]) <;> omega) | fail) only [pn, pq]) <;> omega) | fail) only [pn, pq]) <;> omega))
      · first | omega | ((try simp (disch := first | ((try simp (disch := first | ((try simp only [pn]) <;> omega) | fail) only [pn, pq]) <;> omega) | fail) only [pn, pq]) <;> (intros; (try simp (disch := first | ((try simp (disch := first | ((try simp only [pn]) <;> omega) | fail) only [pn, pq]) <;> omega) | fail) only [pn, pq]) <;> omega))
    · skip
      refine ⟨vin1, ?_⟩
      refine ⟨vin2, ?_⟩
      refine ⟨vin3, ?_⟩
      refine sf_X8_leafOf hJSq1.1 (fun r82  => ?_)
      have rgr82 := pt_rg r82
      refine ⟨vin1, ?_⟩
      refine ⟨vin2, ?_⟩
      refine ⟨vin3, ?_⟩
      refine sf_X9_leafOf hJSq1.2 (fun r84 u85 hJu85 hfu85  => ?_)
      have je136 : ((b9g_taped u85)).toInt = ((b9g_taped Sq1.2)).toInt := congrArg (fun z => (z).toInt) hfu85.2.2.2.2.2.2.1
      have rgr84 := pt_rg r84
      intro S86 eS86
      have hGS86 : F_L_law S S86 := trivial
      have hJS86 : J8 S86.1 ∧ J9 S86.2 := by rw [eS86]; exact ⟨hJSq1.1, hJu85⟩
      have hFS86 : F_L_law S S86 := hGS86
      have je137 : ((b4g_count (b8g_tape S86.1))).toInt = ((b4g_count (b8g_tape Sq1.1))).toInt := by rw [eS86]
      have jf138 := J4g_count (J8g_tape hJS86.1)
      have je139 : ((b9g_taped S86.2)).toInt = ((b9g_taped u85)).toInt := by rw [eS86]
      try simp (disch := first | ((try simp (disch := first | ((try simp only [pn]) <;> omega) | fail) only [pn, pq]) <;> omega) | fail) only [pn, pq] at je139
      have jf140 := J9g_taped hJS86.2
      unfold wp_L_law_1745
      refine ⟨_, ?_, ?_, ?_, ?_, ?_, ?_, rfl⟩
      · first | omega | ((try simp (disch := first | ((try simp (disch := first | ((try simp only [pn]) <;> omega) | fail) only [pn, pq]) <;> omega) | fail) only [pn, pq]) <;> (intros; (try simp (disch := first | ((try simp (disch := first | ((try simp only [pn]) <;> omega) | fail) only [pn, pq]) <;> omega) | fail) only [pn, pq]) <;> omega))
      · exact hJS86
      · exact hFS86
      · first | omega | ((try simp (disch := first | ((try simp (disch := first | ((try simp only [pn]) <;> omega) | fail) only [pn, pq]) <;> omega) | fail) only [pn, pq]) <;> (intros; (try simp (disch := first | ((try simp (disch := first | ((try simp only [pn]) <;> omega) | fail) only [pn, pq]) <;> omega) | fail) only [pn, pq]) <;> omega))
      · first | omega | ((try simp (disch := first | ((try simp (disch := first | ((try simp only [pn]) <;> omega) | fail) only [pn, pq]) <;> omega) | fail) only [pn, pq]) <;> (intros; (try simp (disch := first | ((try simp (disch := first | ((try simp only [pn]) <;> omega) | fail) only [pn, pq]) <;> omega) | fail) only [pn, pq]) <;> omega))
      · first | omega | ((try simp (disch := first | ((try simp (disch := first | ((try simp only [pn]) <;> omega) | fail) only [pn, pq]) <;> omega) | fail) only [pn, pq]) <;> (intros; (try simp (disch := first | ((try simp (disch := first | ((try simp only [pn]) <;> omega) | fail) only [pn, pq]) <;> omega) | fail) only [pn, pq]) <;> omega))
    · skip
      refine ⟨vin1, ?_⟩
      refine ⟨vin2, ?_⟩
      refine ⟨vin3, ?_⟩
      refine ⟨vin4, ?_⟩
      refine ⟨vin5, ?_⟩
      refine ⟨vin6, ?_⟩
      refine sf_X8_range hJSq1.1 (fun r87 u88 hJu88 hfu88  => ?_)
      have je142 : ((b4g_count (b8g_tape u88))).toInt = ((b4g_count (b8g_tape Sq1.1))).toInt := congrArg (fun z => ((b4g_count z)).toInt) hfu88.2.2.2.2.2.2.2.2.2.2.1
      have rgr87 := pt_rg r87
      intro S89 eS89
      have hGS89 : F_L_law S S89 := trivial
      have hJS89 : J8 S89.1 ∧ J9 S89.2 := by rw [eS89]; exact ⟨hJu88, hJSq1.2⟩
      have hFS89 : F_L_law S S89 := hGS89
      have je143 : ((b4g_count (b8g_tape S89.1))).toInt = ((b4g_count (b8g_tape u88))).toInt := by rw [eS89]
      try simp (disch := first | ((try simp (disch := first | ((try simp only [pn]) <;> omega) | fail) only [pn, pq]) <;> omega) | fail) only [pn, pq] at je143
      have jf144 := J4g_count (J8g_tape hJS89.1)
      have je145 : ((b9g_taped S89.2)).toInt = ((b9g_taped Sq1.2)).toInt := by rw [eS89]
      have jf146 := J9g_taped hJS89.2
      refine ⟨vin1, ?_⟩
      refine ⟨vin2, ?_⟩
      refine ⟨vin3, ?_⟩
      refine ⟨vin4, ?_⟩
      refine ⟨vin5, ?_⟩
      refine ⟨vin6, ?_⟩
      refine sf_X9_range hJS89.2 (fun r90 u91 hJu91 hfu91 hr90_0 hr90_1 => ?_)
      have je148 : ((b9g_taped u91)).toInt = ((b9g_taped S89.2)).toInt := congrArg (fun z => (z).toInt) hfu91.2.2.2.2.2.1
      have rgr90 := pt_rg r90
      clear hr90_0
      clear hr90_1
      intro S92 eS92
      have hGS92 : F_L_law S S92 := trivial
      have hJS92 : J8 S92.1 ∧ J9 S92.2 := by rw [eS92]; exact ⟨hJS89.1, hJu91⟩
      have hFS92 : F_L_law S S92 := hGS92
      have je149 : ((b4g_count (b8g_tape S92.1))).toInt = ((b4g_count (b8g_tape S89.1))).toInt := by rw [eS92]
      have jf150 := J4g_count (J8g_tape hJS92.1)
      have je151 : ((b9g_taped S92.2)).toInt = ((b9g_taped u91)).toInt := by rw [eS92]
      try simp (disch := first | ((try simp (disch := first | ((try simp only [pn]) <;> omega) | fail) only [pn, pq]) <;> omega) | fail) only [pn, pq] at je151
      have jf152 := J9g_taped hJS92.2
      unfold wp_L_law_1745
      refine ⟨_, ?_, ?_, ?_, ?_, ?_, ?_, rfl⟩
      · first | omega | ((try simp (disch := first | ((try simp (disch := first | ((try simp only [pn]) <;> omega) | fail) only [pn, pq]) <;> omega) | fail) only [pn, pq]) <;> (intros; (try simp (disch := first | ((try simp (disch := first | ((try simp only [pn]) <;> omega) | fail) only [pn, pq]) <;> omega) | fail) only [pn, pq]) <;> omega))
      · exact hJS92
      · exact hFS92
      · first | omega | ((try simp (disch := first | ((try simp (disch := first | ((try simp only [pn]) <;> omega) | fail) only [pn, pq]) <;> omega) | fail) only [pn, pq]) <;> (intros; (try simp (disch := first | ((try simp (disch := first | ((try simp only [pn]) <;> omega) | fail) only [pn, pq]) <;> omega) | fail) only [pn, pq]) <;> omega))
      · first | omega | ((try simp (disch := first | ((try simp (disch := first | ((try simp only [pn]) <;> omega) | fail) only [pn, pq]) <;> omega) | fail) only [pn, pq]) <;> (intros; (try simp (disch := first | ((try simp (disch := first | ((try simp only [pn]) <;> omega) | fail) only [pn, pq]) <;> omega) | fail) only [pn, pq]) <;> omega))
      · first | omega | ((try simp (disch := first | ((try simp (disch := first | ((try simp only [pn]) <;> omega) | fail) only [pn, pq]) <;> omega) | fail) only [pn, pq]) <;> (intros; (try simp (disch := first | ((try simp (disch := first | ((try simp only [pn]) <;> omega) | fail) only [pn, pq]) <;> omega) | fail) only [pn, pq]) <;> omega))
    · skip
      refine ⟨vin1, ?_⟩
      refine ⟨vin2, ?_⟩
      refine ⟨vin3, ?_⟩
      refine ⟨vin4, ?_⟩
      refine ⟨vin5, ?_⟩
      refine ⟨vin6, ?_⟩
      refine sf_X8_meets hJSq1.1 (fun r93  => ?_)
      have rgr93 := pt_rg r93
      refine ⟨vin1, ?_⟩
      refine ⟨vin2, ?_⟩
      refine ⟨vin3, ?_⟩
      refine ⟨vin4, ?_⟩
      refine ⟨vin5, ?_⟩
      refine ⟨vin6, ?_⟩
      refine sf_X9_meets hJSq1.2 (fun r95 u96 hJu96 hfu96  => ?_)
      have je154 : ((b9g_taped u96)).toInt = ((b9g_taped Sq1.2)).toInt := congrArg (fun z => (z).toInt) hfu96.2.2.2.2.2.2.1
      have rgr95 := pt_rg r95
      intro S97 eS97
      have hGS97 : F_L_law S S97 := trivial
      have hJS97 : J8 S97.1 ∧ J9 S97.2 := by rw [eS97]; exact ⟨hJSq1.1, hJu96⟩
      have hFS97 : F_L_law S S97 := hGS97
      have je155 : ((b4g_count (b8g_tape S97.1))).toInt = ((b4g_count (b8g_tape Sq1.1))).toInt := by rw [eS97]
      have jf156 := J4g_count (J8g_tape hJS97.1)
      have je157 : ((b9g_taped S97.2)).toInt = ((b9g_taped u96)).toInt := by rw [eS97]
      try simp (disch := first | ((try simp (disch := first | ((try simp only [pn]) <;> omega) | fail) only [pn, pq]) <;> omega) | fail) only [pn, pq] at je157
      have jf158 := J9g_taped hJS97.2
      unfold wp_L_law_1745
      refine ⟨_, ?_, ?_, ?_, ?_, ?_, ?_, rfl⟩
      · first | omega | ((try simp (disch := first | ((try simp (disch := first | ((try simp only [pn]) <;> omega) | fail) only [pn, pq]) <;> omega) | fail) only [pn, pq]) <;> (intros; (try simp (disch := first | ((try simp (disch := first | ((try simp only [pn]) <;> omega) | fail) only [pn, pq]) <;> omega) | fail) only [pn, pq]) <;> omega))
      · exact hJS97
      · exact hFS97
      · first | omega | ((try simp (disch := first | ((try simp (disch := first | ((try simp only [pn]) <;> omega) | fail) only [pn, pq]) <;> omega) | fail) only [pn, pq]) <;> (intros; (try simp (disch := first | ((try simp (disch := first | ((try simp only [pn]) <;> omega) | fail) only [pn, pq]) <;> omega) | fail) only [pn, pq]) <;> omega))
      · first | omega | ((try simp (disch := first | ((try simp (disch := first | ((try simp only [pn]) <;> omega) | fail) only [pn, pq]) <;> omega) | fail) only [pn, pq]) <;> (intros; (try simp (disch := first | ((try simp (disch := first | ((try simp only [pn]) <;> omega) | fail) only [pn, pq]) <;> omega) | fail) only [pn, pq]) <;> omega))
      · first | omega | ((try simp (disch := first | ((try simp (disch := first | ((try simp only [pn]) <;> omega) | fail) only [pn, pq]) <;> omega) | fail) only [pn, pq]) <;> (intros; (try simp (disch := first | ((try simp (disch := first | ((try simp only [pn]) <;> omega) | fail) only [pn, pq]) <;> omega) | fail) only [pn, pq]) <;> omega))
    · skip
      refine ⟨vin1, ?_⟩
      refine ⟨vin2, ?_⟩
      refine ⟨vin3, ?_⟩
      refine ⟨vin4, ?_⟩
      refine ⟨vin5, ?_⟩
      refine ⟨vin6, ?_⟩
      refine sf_X8_holds hJSq1.1 (fun r98  => ?_)
      have rgr98 := pt_rg r98
      refine ⟨vin1, ?_⟩
      refine ⟨vin2, ?_⟩
      refine ⟨vin3, ?_⟩
      refine ⟨vin4, ?_⟩
      refine ⟨vin5, ?_⟩
      refine ⟨vin6, ?_⟩
      refine sf_X9_holds hJSq1.2 (fun r100 u101 hJu101 hfu101  => ?_)
      have je160 : ((b9g_taped u101)).toInt = ((b9g_taped Sq1.2)).toInt := congrArg (fun z => (z).toInt) hfu101.2.2.2.2.2.2.1
      have rgr100 := pt_rg r100
      intro S102 eS102
      have hGS102 : F_L_law S S102 := trivial
      have hJS102 : J8 S102.1 ∧ J9 S102.2 := by rw [eS102]; exact ⟨hJSq1.1, hJu101⟩
      have hFS102 : F_L_law S S102 := hGS102
      have je161 : ((b4g_count (b8g_tape S102.1))).toInt = ((b4g_count (b8g_tape Sq1.1))).toInt := by rw [eS102]
      have jf162 := J4g_count (J8g_tape hJS102.1)
      have je163 : ((b9g_taped S102.2)).toInt = ((b9g_taped u101)).toInt := by rw [eS102]
      try simp (disch := first | ((try simp (disch := first | ((try simp only [pn]) <;> omega) | fail) only [pn, pq]) <;> omega) | fail) only [pn, pq] at je163
      have jf164 := J9g_taped hJS102.2
      unfold wp_L_law_1745
      refine ⟨_, ?_, ?_, ?_, ?_, ?_, ?_, rfl⟩
      · first | omega | ((try simp (disch := first | ((try simp (disch := first | ((try simp only [pn]) <;> omega) | fail) only [pn, pq]) <;> omega) | fail) only [pn, pq]) <;> (intros; (try simp (disch := first | ((try simp (disch := first | ((try simp only [pn]) <;> omega) | fail) only [pn, pq]) <;> omega) | fail) only [pn, pq]) <;> omega))
      · exact hJS102
      · exact hFS102
      · first | omega | ((try simp (disch := first | ((try simp (disch := first | ((try simp only [pn]) <;> omega) | fail) only [pn, pq]) <;> omega) | fail) only [pn, pq]) <;> (intros; (try simp (disch := first | ((try simp (disch := first | ((try simp only [pn]) <;> omega) | fail) only [pn, pq]) <;> omega) | fail) only [pn, pq]) <;> omega))
      · first | omega | ((try simp (disch := first | ((try simp (disch := first | ((try simp only [pn]) <;> omega) | fail) only [pn, pq]) <;> omega) | fail) only [pn, pq]) <;> (intros; (try simp (disch := first | ((try simp (disch := first | ((try simp only [pn]) <;> omega) | fail) only [pn, pq]) <;> omega) | fail) only [pn, pq]) <;> omega))
      · first | omega | ((try simp (disch := first | ((try simp (disch := first | ((try simp only [pn]) <;> omega) | fail) only [pn, pq]) <;> omega) | fail) only [pn, pq]) <;> (intros; (try simp (disch := first | ((try simp (disch := first | ((try simp only [pn]) <;> omega) | fail) only [pn, pq]) <;> omega) | fail) only [pn, pq]) <;> omega))
    · skip
      refine ⟨vin1, ?_⟩
      refine ⟨vin2, ?_⟩
      refine ⟨vin3, ?_⟩
      refine sf_X8_seek hJSq1.1 (fun r103  => ?_)
      have rgr103 := pt_rg r103
      refine ⟨vin1, ?_⟩
      refine ⟨vin2, ?_⟩
      refine ⟨vin3, ?_⟩
      refine sf_X9_seek hJSq1.2 (fun r105 u106 hJu106 hfu106  => ?_)
      have je166 : ((b9g_taped u106)).toInt = ((b9g_taped Sq1.2)).toInt := congrArg (fun z => (z).toInt) hfu106.2.2.2.2.2.2.1
      have rgr105 := pt_rg r105
      intro S107 eS107
      have hGS107 : F_L_law S S107 := trivial
      have hJS107 : J8 S107.1 ∧ J9 S107.2 := by rw [eS107]; exact ⟨hJSq1.1, hJu106⟩
      have hFS107 : F_L_law S S107 := hGS107
      have je167 : ((b4g_count (b8g_tape S107.1))).toInt = ((b4g_count (b8g_tape Sq1.1))).toInt := by rw [eS107]
      have jf168 := J4g_count (J8g_tape hJS107.1)
      have je169 : ((b9g_taped S107.2)).toInt = ((b9g_taped u106)).toInt := by rw [eS107]
      try simp (disch := first | ((try simp (disch := first | ((try simp only [pn]) <;> omega) | fail) only [pn, pq]) <;> omega) | fail) only [pn, pq] at je169
      have jf170 := J9g_taped hJS107.2
      unfold wp_L_law_1745
      refine ⟨_, ?_, ?_, ?_, ?_, ?_, ?_, rfl⟩
      · first | omega | ((try simp (disch := first | ((try simp (disch := first | ((try simp only [pn]) <;> omega) | fail) only [pn, pq]) <;> omega) | fail) only [pn, pq]) <;> (intros; (try simp (disch := first | ((try simp (disch := first | ((try simp only [pn]) <;> omega) | fail) only [pn, pq]) <;> omega) | fail) only [pn, pq]) <;> omega))
      · exact hJS107
      · exact hFS107
      · first | omega | ((try simp (disch := first | ((try simp (disch := first | ((try simp only [pn]) <;> omega) | fail) only [pn, pq]) <;> omega) | fail) only [pn, pq]) <;> (intros; (try simp (disch := first | ((try simp (disch := first | ((try simp only [pn]) <;> omega) | fail) only [pn, pq]) <;> omega) | fail) only [pn, pq]) <;> omega))
      · first | omega | ((try simp (disch := first | ((try simp (disch := first | ((try simp only [pn]) <;> omega) | fail) only [pn, pq]) <;> omega) | fail) only [pn, pq]) <;> (intros; (try simp (disch := first | ((try simp (disch := first | ((try simp only [pn]) <;> omega) | fail) only [pn, pq]) <;> omega) | fail) only [pn, pq]) <;> omega))
      · first | omega | ((try simp (disch := first | ((try simp (disch := first | ((try simp only [pn]) <;> omega) | fail) only [pn, pq]) <;> omega) | fail) only [pn, pq]) <;> (intros; (try simp (disch := first | ((try simp (disch := first | ((try simp only [pn]) <;> omega) | fail) only [pn, pq]) <;> omega) | fail) only [pn, pq]) <;> omega))
    · skip
      refine ⟨vin1, ?_⟩
      refine ⟨vin2, ?_⟩
      refine ⟨vin3, ?_⟩
      refine sf_X8_seekBack hJSq1.1 (fun r108  => ?_)
      have rgr108 := pt_rg r108
      refine ⟨vin1, ?_⟩
      refine ⟨vin2, ?_⟩
      refine ⟨vin3, ?_⟩
      refine sf_X9_seekBack hJSq1.2 (fun r110 u111 hJu111 hfu111  => ?_)
      have je172 : ((b9g_taped u111)).toInt = ((b9g_taped Sq1.2)).toInt := congrArg (fun z => (z).toInt) hfu111.2.2.2.2.2.2.1
      have rgr110 := pt_rg r110
      intro S112 eS112
      have hGS112 : F_L_law S S112 := trivial
      have hJS112 : J8 S112.1 ∧ J9 S112.2 := by rw [eS112]; exact ⟨hJSq1.1, hJu111⟩
      have hFS112 : F_L_law S S112 := hGS112
      have je173 : ((b4g_count (b8g_tape S112.1))).toInt = ((b4g_count (b8g_tape Sq1.1))).toInt := by rw [eS112]
      have jf174 := J4g_count (J8g_tape hJS112.1)
      have je175 : ((b9g_taped S112.2)).toInt = ((b9g_taped u111)).toInt := by rw [eS112]
      try simp (disch := first | ((try simp (disch := first | ((try simp only [pn]) <;> omega) | fail) only [pn, pq]) <;> omega) | fail) only [pn, pq] at je175
      have jf176 := J9g_taped hJS112.2
      unfold wp_L_law_1745
      refine ⟨_, ?_, ?_, ?_, ?_, ?_, ?_, rfl⟩
      · first | omega | ((try simp (disch := first | ((try simp (disch := first | ((try simp only [pn]) <;> omega) | fail) only [pn, pq]) <;> omega) | fail) only [pn, pq]) <;> (intros; (try simp (disch := first | ((try simp (disch := first | ((try simp only [pn]) <;> omega) | fail) only [pn, pq]) <;> omega) | fail) only [pn, pq]) <;> omega))
      · exact hJS112
      · exact hFS112
      · first | omega | ((try simp (disch := first | ((try simp (disch := first | ((try simp only [pn]) <;> omega) | fail) only [pn, pq]) <;> omega) | fail) only [pn, pq]) <;> (intros; (try simp (disch := first | ((try simp (disch := first | ((try simp only [pn]) <;> omega) | fail) only [pn, pq]) <;> omega) | fail) only [pn, pq]) <;> omega))
      · first | omega | ((try simp (disch := first | ((try simp (disch := first | ((try simp only [pn]) <;> omega) | fail) only [pn, pq]) <;> omega) | fail) only [pn, pq]) <;> (intros; (try simp (disch := first | ((try simp (disch := first | ((try simp only [pn]) <;> omega) | fail) only [pn, pq]) <;> omega) | fail) only [pn, pq]) <;> omega))
      · first | omega | ((try simp (disch := first | ((try simp (disch := first | ((try simp only [pn]) <;> omega) | fail) only [pn, pq]) <;> omega) | fail) only [pn, pq]) <;> (intros; (try simp (disch := first | ((try simp (disch := first | ((try simp only [pn]) <;> omega) | fail) only [pn, pq]) <;> omega) | fail) only [pn, pq]) <;> omega))
    · skip
      refine ⟨vin1, ?_⟩
      refine ⟨vin2, ?_⟩
      refine sf_X8_leaf hJSq1.1 (fun r113  => ?_)
      have rgr113 := pt_rg r113
      refine ⟨vin1, ?_⟩
      refine ⟨vin2, ?_⟩
      refine sf_X9_leaf hJSq1.2 (fun r115 u116 hJu116 hfu116  => ?_)
      have je178 : ((b9g_taped u116)).toInt = ((b9g_taped Sq1.2)).toInt := congrArg (fun z => (z).toInt) hfu116.2.2.2.2.2.2.1
      have rgr115 := pt_rg r115
      intro S117 eS117
      have hGS117 : F_L_law S S117 := trivial
      have hJS117 : J8 S117.1 ∧ J9 S117.2 := by rw [eS117]; exact ⟨hJSq1.1, hJu116⟩
      have hFS117 : F_L_law S S117 := hGS117
      have je179 : ((b4g_count (b8g_tape S117.1))).toInt = ((b4g_count (b8g_tape Sq1.1))).toInt := by rw [eS117]
      have jf180 := J4g_count (J8g_tape hJS117.1)
      have je181 : ((b9g_taped S117.2)).toInt = ((b9g_taped u116)).toInt := by rw [eS117]
      try simp (disch := first | ((try simp (disch := first | ((try simp only [pn]) <;> omega) | fail) only [pn, pq]) <;> omega) | fail) only [pn, pq] at je181
      have jf182 := J9g_taped hJS117.2
      unfold wp_L_law_1745
      refine ⟨_, ?_, ?_, ?_, ?_, ?_, ?_, rfl⟩
      · first | omega | ((try simp (disch := first | ((try simp (disch := first | ((try simp only [pn]) <;> omega) | fail) only [pn, pq]) <;> omega) | fail) only [pn, pq]) <;> (intros; (try simp (disch := first | ((try simp (disch := first | ((try simp only [pn]) <;> omega) | fail) only [pn, pq]) <;> omega) | fail) only [pn, pq]) <;> omega))
      · exact hJS117
      · exact hFS117
      · first | omega | ((try simp (disch := first | ((try simp (disch := first | ((try simp only [pn]) <;> omega) | fail) only [pn, pq]) <;> omega) | fail) only [pn, pq]) <;> (intros; (try simp (disch := first | ((try simp (disch := first | ((try simp only [pn]) <;> omega) | fail) only [pn, pq]) <;> omega) | fail) only [pn, pq]) <;> omega))
      · first | omega | ((try simp (disch := first | ((try simp (disch := first | ((try simp only [pn]) <;> omega) | fail) only [pn, pq]) <;> omega) | fail) only [pn, pq]) <;> (intros; (try simp (disch := first | ((try simp (disch := first | ((try simp only [pn]) <;> omega) | fail) only [pn, pq]) <;> omega) | fail) only [pn, pq]) <;> omega))
      · first | omega | ((try simp (disch := first | ((try simp (disch := first | ((try simp only [pn]) <;> omega) | fail) only [pn, pq]) <;> omega) | fail) only [pn, pq]) <;> (intros; (try simp (disch := first | ((try simp (disch := first | ((try simp only [pn]) <;> omega) | fail) only [pn, pq]) <;> omega) | fail) only [pn, pq]) <;> omega))
    · skip
      refine ⟨vin1, ?_⟩
      refine sf_X8_leafAt hJSq1.1 (fun r118  => ?_)
      have rgr118 := pt_rg r118
      refine ⟨vin1, ?_⟩
      refine sf_X9_leafAt hJSq1.2 (fun r120 u121 hJu121 hfu121  => ?_)
      have je184 : ((b9g_taped u121)).toInt = ((b9g_taped Sq1.2)).toInt := congrArg (fun z => (z).toInt) hfu121.2.2.2.2.2.2.1
      have rgr120 := pt_rg r120
      intro S122 eS122
      have hGS122 : F_L_law S S122 := trivial
      have hJS122 : J8 S122.1 ∧ J9 S122.2 := by rw [eS122]; exact ⟨hJSq1.1, hJu121⟩
      have hFS122 : F_L_law S S122 := hGS122
      have je185 : ((b4g_count (b8g_tape S122.1))).toInt = ((b4g_count (b8g_tape Sq1.1))).toInt := by rw [eS122]
      have jf186 := J4g_count (J8g_tape hJS122.1)
      have je187 : ((b9g_taped S122.2)).toInt = ((b9g_taped u121)).toInt := by rw [eS122]
      try simp (disch := first | ((try simp (disch := first | ((try simp only [pn]) <;> omega) | fail) only [pn, pq]) <;> omega) | fail) only [pn, pq] at je187
      have jf188 := J9g_taped hJS122.2
      unfold wp_L_law_1745
      refine ⟨_, ?_, ?_, ?_, ?_, ?_, ?_, rfl⟩
      · first | omega | ((try simp (disch := first | ((try simp (disch := first | ((try simp only [pn]) <;> omega) | fail) only [pn, pq]) <;> omega) | fail) only [pn, pq]) <;> (intros; (try simp (disch := first | ((try simp (disch := first | ((try simp only [pn]) <;> omega) | fail) only [pn, pq]) <;> omega) | fail) only [pn, pq]) <;> omega))
      · exact hJS122
      · exact hFS122
      · first | omega | ((try simp (disch := first | ((try simp (disch := first | ((try simp only [pn]) <;> omega) | fail) only [pn, pq]) <;> omega) | fail) only [pn, pq]) <;> (intros; (try simp (disch := first | ((try simp (disch := first | ((try simp only [pn]) <;> omega) | fail) only [pn, pq]) <;> omega) | fail) only [pn, pq]) <;> omega))
      · first | omega | ((try simp (disch := first | ((try simp (disch := first | ((try simp only [pn]) <;> omega) | fail) only [pn, pq]) <;> omega) | fail) only [pn, pq]) <;> (intros; (try simp (disch := first | ((try simp (disch := first | ((try simp only [pn]) <;> omega) | fail) only [pn, pq]) <;> omega) | fail) only [pn, pq]) <;> omega))
      · first | omega | ((try simp (disch := first | ((try simp (disch := first | ((try simp only [pn]) <;> omega) | fail) only [pn, pq]) <;> omega) | fail) only [pn, pq]) <;> (intros; (try simp (disch := first | ((try simp (disch := first | ((try simp only [pn]) <;> omega) | fail) only [pn, pq]) <;> omega) | fail) only [pn, pq]) <;> omega))
    · skip
      refine ⟨vin1, ?_⟩
      refine ⟨vin2, ?_⟩
      refine sf_X8_node hJSq1.1 (fun r123  => ?_)
      have rgr123 := pt_rg r123
      refine ⟨vin1, ?_⟩
      refine ⟨vin2, ?_⟩
      refine sf_X9_node hJSq1.2 (fun r125 u126 hJu126 hfu126  => ?_)
      have je190 : ((b9g_taped u126)).toInt = ((b9g_taped Sq1.2)).toInt := congrArg (fun z => (z).toInt) hfu126.2.2.2.2.2.2.1
      have rgr125 := pt_rg r125
      intro S127 eS127
      have hGS127 : F_L_law S S127 := trivial
      have hJS127 : J8 S127.1 ∧ J9 S127.2 := by rw [eS127]; exact ⟨hJSq1.1, hJu126⟩
      have hFS127 : F_L_law S S127 := hGS127
      have je191 : ((b4g_count (b8g_tape S127.1))).toInt = ((b4g_count (b8g_tape Sq1.1))).toInt := by rw [eS127]
      have jf192 := J4g_count (J8g_tape hJS127.1)
      have je193 : ((b9g_taped S127.2)).toInt = ((b9g_taped u126)).toInt := by rw [eS127]
      try simp (disch := first | ((try simp (disch := first | ((try simp only [pn]) <;> omega) | fail) only [pn, pq]) <;> omega) | fail) only [pn, pq] at je193
      have jf194 := J9g_taped hJS127.2
      unfold wp_L_law_1745
      refine ⟨_, ?_, ?_, ?_, ?_, ?_, ?_, rfl⟩
      · first | omega | ((try simp (disch := first | ((try simp (disch := first | ((try simp only [pn]) <;> omega) | fail) only [pn, pq]) <;> omega) | fail) only [pn, pq]) <;> (intros; (try simp (disch := first | ((try simp (disch := first | ((try simp only [pn]) <;> omega) | fail) only [pn, pq]) <;> omega) | fail) only [pn, pq]) <;> omega))
      · exact hJS127
      · exact hFS127
      · first | omega | ((try simp (disch := first | ((try simp (disch := first | ((try simp only [pn]) <;> omega) | fail) only [pn, pq]) <;> omega) | fail) only [pn, pq]) <;> (intros; (try simp (disch := first | ((try simp (disch := first | ((try simp only [pn]) <;> omega) | fail) only [pn, pq]) <;> omega) | fail) only [pn, pq]) <;> omega))
      · first | omega | ((try simp (disch := first | ((try simp (disch := first | ((try simp only [pn]) <;> omega) | fail) only [pn, pq]) <;> omega) | fail) only [pn, pq]) <;> (intros; (try simp (disch := first | ((try simp (disch := first | ((try simp only [pn]) <;> omega) | fail) only [pn, pq]) <;> omega) | fail) only [pn, pq]) <;> omega))
      · first | omega | ((try simp (disch := first | ((try simp (disch := first | ((try simp only [pn]) <;> omega) | fail) only [pn, pq]) <;> omega) | fail) only [pn, pq]) <;> (intros; (try simp (disch := first | ((try simp (disch := first | ((try simp only [pn]) <;> omega) | fail) only [pn, pq]) <;> omega) | fail) only [pn, pq]) <;> omega))
    · skip
      refine ⟨vin1, ?_⟩
      refine ⟨vin2, ?_⟩
      refine sf_X8_child hJSq1.1 (fun r128  => ?_)
      have rgr128 := pt_rg r128
      refine ⟨vin1, ?_⟩
      refine ⟨vin2, ?_⟩
      refine sf_X9_child hJSq1.2 (fun r130 u131 hJu131 hfu131  => ?_)
      have je196 : ((b9g_taped u131)).toInt = ((b9g_taped Sq1.2)).toInt := congrArg (fun z => (z).toInt) hfu131.2.2.2.2.2.2.1
      have rgr130 := pt_rg r130
      intro S132 eS132
      have hGS132 : F_L_law S S132 := trivial
      have hJS132 : J8 S132.1 ∧ J9 S132.2 := by rw [eS132]; exact ⟨hJSq1.1, hJu131⟩
      have hFS132 : F_L_law S S132 := hGS132
      have je197 : ((b4g_count (b8g_tape S132.1))).toInt = ((b4g_count (b8g_tape Sq1.1))).toInt := by rw [eS132]
      have jf198 := J4g_count (J8g_tape hJS132.1)
      have je199 : ((b9g_taped S132.2)).toInt = ((b9g_taped u131)).toInt := by rw [eS132]
      try simp (disch := first | ((try simp (disch := first | ((try simp only [pn]) <;> omega) | fail) only [pn, pq]) <;> omega) | fail) only [pn, pq] at je199
      have jf200 := J9g_taped hJS132.2
      unfold wp_L_law_1745
      refine ⟨_, ?_, ?_, ?_, ?_, ?_, ?_, rfl⟩
      · first | omega | ((try simp (disch := first | ((try simp (disch := first | ((try simp only [pn]) <;> omega) | fail) only [pn, pq]) <;> omega) | fail) only [pn, pq]) <;> (intros; (try simp (disch := first | ((try simp (disch := first | ((try simp only [pn]) <;> omega) | fail) only [pn, pq]) <;> omega) | fail) only [pn, pq]) <;> omega))
      · exact hJS132
      · exact hFS132
      · first | omega | ((try simp (disch := first | ((try simp (disch := first | ((try simp only [pn]) <;> omega) | fail) only [pn, pq]) <;> omega) | fail) only [pn, pq]) <;> (intros; (try simp (disch := first | ((try simp (disch := first | ((try simp only [pn]) <;> omega) | fail) only [pn, pq]) <;> omega) | fail) only [pn, pq]) <;> omega))
      · first | omega | ((try simp (disch := first | ((try simp (disch := first | ((try simp only [pn]) <;> omega) | fail) only [pn, pq]) <;> omega) | fail) only [pn, pq]) <;> (intros; (try simp (disch := first | ((try simp (disch := first | ((try simp only [pn]) <;> omega) | fail) only [pn, pq]) <;> omega) | fail) only [pn, pq]) <;> omega))
      · first | omega | ((try simp (disch := first | ((try simp (disch := first | ((try simp only [pn]) <;> omega) | fail) only [pn, pq]) <;> omega) | fail) only [pn, pq]) <;> (intros; (try simp (disch := first | ((try simp (disch := first | ((try simp only [pn]) <;> omega) | fail) only [pn, pq]) <;> omega) | fail) only [pn, pq]) <;> omega))
    · skip
      refine ⟨vin1, ?_⟩
      refine ⟨vin2, ?_⟩
      refine sf_X8_level hJSq1.1 (fun r133  => ?_)
      have rgr133 := pt_rg r133
      refine ⟨vin1, ?_⟩
      refine ⟨vin2, ?_⟩
      refine sf_X9_level hJSq1.2 (fun r135 u136 hJu136 hfu136  => ?_)
      have je202 : ((b9g_taped u136)).toInt = ((b9g_taped Sq1.2)).toInt := congrArg (fun z => (z).toInt) hfu136.2.2.2.2.2.2.1
      have rgr135 := pt_rg r135
      intro S137 eS137
      have hGS137 : F_L_law S S137 := trivial
      have hJS137 : J8 S137.1 ∧ J9 S137.2 := by rw [eS137]; exact ⟨hJSq1.1, hJu136⟩
      have hFS137 : F_L_law S S137 := hGS137
      have je203 : ((b4g_count (b8g_tape S137.1))).toInt = ((b4g_count (b8g_tape Sq1.1))).toInt := by rw [eS137]
      have jf204 := J4g_count (J8g_tape hJS137.1)
      have je205 : ((b9g_taped S137.2)).toInt = ((b9g_taped u136)).toInt := by rw [eS137]
      try simp (disch := first | ((try simp (disch := first | ((try simp only [pn]) <;> omega) | fail) only [pn, pq]) <;> omega) | fail) only [pn, pq] at je205
      have jf206 := J9g_taped hJS137.2
      unfold wp_L_law_1745
      refine ⟨_, ?_, ?_, ?_, ?_, ?_, ?_, rfl⟩
      · first | omega | ((try simp (disch := first | ((try simp (disch := first | ((try simp only [pn]) <;> omega) | fail) only [pn, pq]) <;> omega) | fail) only [pn, pq]) <;> (intros; (try simp (disch := first | ((try simp (disch := first | ((try simp only [pn]) <;> omega) | fail) only [pn, pq]) <;> omega) | fail) only [pn, pq]) <;> omega))
      · exact hJS137
      · exact hFS137
      · first | omega | ((try simp (disch := first | ((try simp (disch := first | ((try simp only [pn]) <;> omega) | fail) only [pn, pq]) <;> omega) | fail) only [pn, pq]) <;> (intros; (try simp (disch := first | ((try simp (disch := first | ((try simp only [pn]) <;> omega) | fail) only [pn, pq]) <;> omega) | fail) only [pn, pq]) <;> omega))
      · first | omega | ((try simp (disch := first | ((try simp (disch := first | ((try simp only [pn]) <;> omega) | fail) only [pn, pq]) <;> omega) | fail) only [pn, pq]) <;> (intros; (try simp (disch := first | ((try simp (disch := first | ((try simp only [pn]) <;> omega) | fail) only [pn, pq]) <;> omega) | fail) only [pn, pq]) <;> omega))
      · first | omega | ((try simp (disch := first | ((try simp (disch := first | ((try simp only [pn]) <;> omega) | fail) only [pn, pq]) <;> omega) | fail) only [pn, pq]) <;> (intros; (try simp (disch := first | ((try simp (disch := first | ((try simp only [pn]) <;> omega) | fail) only [pn, pq]) <;> omega) | fail) only [pn, pq]) <;> omega))
    · skip
      refine ⟨vin1, ?_⟩
      refine ⟨vin2, ?_⟩
      refine sf_X8_item hJSq1.1 (fun r138  => ?_)
      have rgr138 := pt_rg r138
      refine ⟨vin1, ?_⟩
      refine ⟨vin2, ?_⟩
      refine sf_X9_item hJSq1.2 (fun r140 u141 hJu141 hfu141  => ?_)
      have je208 : ((b9g_taped u141)).toInt = ((b9g_taped Sq1.2)).toInt := congrArg (fun z => (z).toInt) hfu141.2.2.2.2.2.2.1
      have rgr140 := pt_rg r140
      intro S142 eS142
      have hGS142 : F_L_law S S142 := trivial
      have hJS142 : J8 S142.1 ∧ J9 S142.2 := by rw [eS142]; exact ⟨hJSq1.1, hJu141⟩
      have hFS142 : F_L_law S S142 := hGS142
      have je209 : ((b4g_count (b8g_tape S142.1))).toInt = ((b4g_count (b8g_tape Sq1.1))).toInt := by rw [eS142]
      have jf210 := J4g_count (J8g_tape hJS142.1)
      have je211 : ((b9g_taped S142.2)).toInt = ((b9g_taped u141)).toInt := by rw [eS142]
      try simp (disch := first | ((try simp (disch := first | ((try simp only [pn]) <;> omega) | fail) only [pn, pq]) <;> omega) | fail) only [pn, pq] at je211
      have jf212 := J9g_taped hJS142.2
      unfold wp_L_law_1745
      refine ⟨_, ?_, ?_, ?_, ?_, ?_, ?_, rfl⟩
      · first | omega | ((try simp (disch := first | ((try simp (disch := first | ((try simp only [pn]) <;> omega) | fail) only [pn, pq]) <;> omega) | fail) only [pn, pq]) <;> (intros; (try simp (disch := first | ((try simp (disch := first | ((try simp only [pn]) <;> omega) | fail) only [pn, pq]) <;> omega) | fail) only [pn, pq]) <;> omega))
      · exact hJS142
      · exact hFS142
      · first | omega | ((try simp (disch := first | ((try simp (disch := first | ((try simp only [pn]) <;> omega) | fail) only [pn, pq]) <;> omega) | fail) only [pn, pq]) <;> (intros; (try simp (disch := first | ((try simp (disch := first | ((try simp only [pn]) <;> omega) | fail) only [pn, pq]) <;> omega) | fail) only [pn, pq]) <;> omega))
      · first | omega | ((try simp (disch := first | ((try simp (disch := first | ((try simp only [pn]) <;> omega) | fail) only [pn, pq]) <;> omega) | fail) only [pn, pq]) <;> (intros; (try simp (disch := first | ((try simp (disch := first | ((try simp only [pn]) <;> omega) | fail) only [pn, pq]) <;> omega) | fail) only [pn, pq]) <;> omega))
      · first | omega | ((try simp (disch := first | ((try simp (disch := first | ((try simp only [pn]) <;> omega) | fail) only [pn, pq]) <;> omega) | fail) only [pn, pq]) <;> (intros; (try simp (disch := first | ((try simp (disch := first | ((try simp only [pn]) <;> omega) | fail) only [pn, pq]) <;> omega) | fail) only [pn, pq]) <;> omega))
    · skip
      refine ⟨vin1, ?_⟩
      refine sf_X8_bit hJSq1.1 (fun r143  => ?_)
      have rgr143 := pt_rg r143
      refine ⟨vin1, ?_⟩
      refine sf_X9_bit hJSq1.2 (fun r145 u146 hJu146 hfu146  => ?_)
      have je214 : ((b9g_taped u146)).toInt = ((b9g_taped Sq1.2)).toInt := congrArg (fun z => (z).toInt) hfu146.2.2.2.2.2.2.1
      have rgr145 := pt_rg r145
      intro S147 eS147
      have hGS147 : F_L_law S S147 := trivial
      have hJS147 : J8 S147.1 ∧ J9 S147.2 := by rw [eS147]; exact ⟨hJSq1.1, hJu146⟩
      have hFS147 : F_L_law S S147 := hGS147
      have je215 : ((b4g_count (b8g_tape S147.1))).toInt = ((b4g_count (b8g_tape Sq1.1))).toInt := by rw [eS147]
      have jf216 := J4g_count (J8g_tape hJS147.1)
      have je217 : ((b9g_taped S147.2)).toInt = ((b9g_taped u146)).toInt := by rw [eS147]
      try simp (disch := first | ((try simp (disch := first | ((try simp only [pn]) <;> omega) | fail) only [pn, pq]) <;> omega) | fail) only [pn, pq] at je217
      have jf218 := J9g_taped hJS147.2
      unfold wp_L_law_1745
      refine ⟨_, ?_, ?_, ?_, ?_, ?_, ?_, rfl⟩
      · first | omega | ((try simp (disch := first | ((try simp (disch := first | ((try simp only [pn]) <;> omega) | fail) only [pn, pq]) <;> omega) | fail) only [pn, pq]) <;> (intros; (try simp (disch := first | ((try simp (disch := first | ((try simp only [pn]) <;> omega) | fail) only [pn, pq]) <;> omega) | fail) only [pn, pq]) <;> omega))
      · exact hJS147
      · exact hFS147
      · first | omega | ((try simp (disch := first | ((try simp (disch := first | ((try simp only [pn]) <;> omega) | fail) only [pn, pq]) <;> omega) | fail) only [pn, pq]) <;> (intros; (try simp (disch := first | ((try simp (disch := first | ((try simp only [pn]) <;> omega) | fail) only [pn, pq]) <;> omega) | fail) only [pn, pq]) <;> omega))
      · first | omega | ((try simp (disch := first | ((try simp (disch := first | ((try simp only [pn]) <;> omega) | fail) only [pn, pq]) <;> omega) | fail) only [pn, pq]) <;> (intros; (try simp (disch := first | ((try simp (disch := first | ((try simp only [pn]) <;> omega) | fail) only [pn, pq]) <;> omega) | fail) only [pn, pq]) <;> omega))
      · first | omega | ((try simp (disch := first | ((try simp (disch := first | ((try simp only [pn]) <;> omega) | fail) only [pn, pq]) <;> omega) | fail) only [pn, pq]) <;> (intros; (try simp (disch := first | ((try simp (disch := first | ((try simp only [pn]) <;> omega) | fail) only [pn, pq]) <;> omega) | fail) only [pn, pq]) <;> omega))
    · skip
      refine ⟨vin1, ?_⟩
      refine sf_X8_rank hJSq1.1 (fun r148  => ?_)
      have rgr148 := pt_rg r148
      refine ⟨vin1, ?_⟩
      refine sf_X9_rank hJSq1.2 (fun r150 u151 hJu151 hfu151  => ?_)
      have je220 : ((b9g_taped u151)).toInt = ((b9g_taped Sq1.2)).toInt := congrArg (fun z => (z).toInt) hfu151.2.2.2.2.2.2.1
      have rgr150 := pt_rg r150
      intro S152 eS152
      have hGS152 : F_L_law S S152 := trivial
      have hJS152 : J8 S152.1 ∧ J9 S152.2 := by rw [eS152]; exact ⟨hJSq1.1, hJu151⟩
      have hFS152 : F_L_law S S152 := hGS152
      have je221 : ((b4g_count (b8g_tape S152.1))).toInt = ((b4g_count (b8g_tape Sq1.1))).toInt := by rw [eS152]
      have jf222 := J4g_count (J8g_tape hJS152.1)
      have je223 : ((b9g_taped S152.2)).toInt = ((b9g_taped u151)).toInt := by rw [eS152]
      try simp (disch := first | ((try simp (disch := first | ((try simp only [pn]) <;> omega) | fail) only [pn, pq]) <;> omega) | fail) only [pn, pq] at je223
      have jf224 := J9g_taped hJS152.2
      unfold wp_L_law_1745
      refine ⟨_, ?_, ?_, ?_, ?_, ?_, ?_, rfl⟩
      · first | omega | ((try simp (disch := first | ((try simp (disch := first | ((try simp only [pn]) <;> omega) | fail) only [pn, pq]) <;> omega) | fail) only [pn, pq]) <;> (intros; (try simp (disch := first | ((try simp (disch := first | ((try simp only [pn]) <;> omega) | fail) only [pn, pq]) <;> omega) | fail) only [pn, pq]) <;> omega))
      · exact hJS152
      · exact hFS152
      · first | omega | ((try simp (disch := first | ((try simp (disch := first | ((try simp only [pn]) <;> omega) | fail) only [pn, pq]) <;> omega) | fail) only [pn, pq]) <;> (intros; (try simp (disch := first | ((try simp (disch := first | ((try simp only [pn]) <;> omega) | fail) only [pn, pq]) <;> omega) | fail) only [pn, pq]) <;> omega))
      · first | omega | ((try simp (disch := first | ((try simp (disch := first | ((try simp only [pn]) <;> omega) | fail) only [pn, pq]) <;> omega) | fail) only [pn, pq]) <;> (intros; (try simp (disch := first | ((try simp (disch := first | ((try simp only [pn]) <;> omega) | fail) only [pn, pq]) <;> omega) | fail) only [pn, pq]) <;> omega))
      · first | omega | ((try simp (disch := first | ((try simp (disch := first | ((try simp only [pn]) <;> omega) | fail) only [pn, pq]) <;> omega) | fail) only [pn, pq]) <;> (intros; (try simp (disch := first | ((try simp (disch := first | ((try simp only [pn]) <;> omega) | fail) only [pn, pq]) <;> omega) | fail) only [pn, pq]) <;> omega))
    · skip
      refine ⟨vin1, ?_⟩
      refine sf_X8_select hJSq1.1 (fun r153  => ?_)
      have rgr153 := pt_rg r153
      refine ⟨vin1, ?_⟩
      refine sf_X9_select hJSq1.2 (fun r155 u156 hJu156 hfu156  => ?_)
      have je226 : ((b9g_taped u156)).toInt = ((b9g_taped Sq1.2)).toInt := congrArg (fun z => (z).toInt) hfu156.2.2.2.2.2.2.1
      have rgr155 := pt_rg r155
      intro S157 eS157
      have hGS157 : F_L_law S S157 := trivial
      have hJS157 : J8 S157.1 ∧ J9 S157.2 := by rw [eS157]; exact ⟨hJSq1.1, hJu156⟩
      have hFS157 : F_L_law S S157 := hGS157
      have je227 : ((b4g_count (b8g_tape S157.1))).toInt = ((b4g_count (b8g_tape Sq1.1))).toInt := by rw [eS157]
      have jf228 := J4g_count (J8g_tape hJS157.1)
      have je229 : ((b9g_taped S157.2)).toInt = ((b9g_taped u156)).toInt := by rw [eS157]
      try simp (disch := first | ((try simp (disch := first | ((try simp only [pn]) <;> omega) | fail) only [pn, pq]) <;> omega) | fail) only [pn, pq] at je229
      have jf230 := J9g_taped hJS157.2
      unfold wp_L_law_1745
      refine ⟨_, ?_, ?_, ?_, ?_, ?_, ?_, rfl⟩
      · first | omega | ((try simp (disch := first | ((try simp (disch := first | ((try simp only [pn]) <;> omega) | fail) only [pn, pq]) <;> omega) | fail) only [pn, pq]) <;> (intros; (try simp (disch := first | ((try simp (disch := first | ((try simp only [pn]) <;> omega) | fail) only [pn, pq]) <;> omega) | fail) only [pn, pq]) <;> omega))
      · exact hJS157
      · exact hFS157
      · first | omega | ((try simp (disch := first | ((try simp (disch := first | ((try simp only [pn]) <;> omega) | fail) only [pn, pq]) <;> omega) | fail) only [pn, pq]) <;> (intros; (try simp (disch := first | ((try simp (disch := first | ((try simp only [pn]) <;> omega) | fail) only [pn, pq]) <;> omega) | fail) only [pn, pq]) <;> omega))
      · first | omega | ((try simp (disch := first | ((try simp (disch := first | ((try simp only [pn]) <;> omega) | fail) only [pn, pq]) <;> omega) | fail) only [pn, pq]) <;> (intros; (try simp (disch := first | ((try simp (disch := first | ((try simp only [pn]) <;> omega) | fail) only [pn, pq]) <;> omega) | fail) only [pn, pq]) <;> omega))
      · first | omega | ((try simp (disch := first | ((try simp (disch := first | ((try simp only [pn]) <;> omega) | fail) only [pn, pq]) <;> omega) | fail) only [pn, pq]) <;> (intros; (try simp (disch := first | ((try simp (disch := first | ((try simp only [pn]) <;> omega) | fail) only [pn, pq]) <;> omega) | fail) only [pn, pq]) <;> omega))
    · skip
      refine ⟨vin1, ?_⟩
      refine sf_X8_bits hJSq1.1 (fun r158  => ?_)
      have rgr158 := pt_rg r158
      refine ⟨vin1, ?_⟩
      refine sf_X9_bits hJSq1.2 (fun r160 u161 hJu161 hfu161  => ?_)
      have je232 : ((b9g_taped u161)).toInt = ((b9g_taped Sq1.2)).toInt := congrArg (fun z => (z).toInt) hfu161.2.2.2.2.2.2.1
      have rgr160 := pt_rg r160
      intro S162 eS162
      have hGS162 : F_L_law S S162 := trivial
      have hJS162 : J8 S162.1 ∧ J9 S162.2 := by rw [eS162]; exact ⟨hJSq1.1, hJu161⟩
      have hFS162 : F_L_law S S162 := hGS162
      have je233 : ((b4g_count (b8g_tape S162.1))).toInt = ((b4g_count (b8g_tape Sq1.1))).toInt := by rw [eS162]
      have jf234 := J4g_count (J8g_tape hJS162.1)
      have je235 : ((b9g_taped S162.2)).toInt = ((b9g_taped u161)).toInt := by rw [eS162]
      try simp (disch := first | ((try simp (disch := first | ((try simp only [pn]) <;> omega) | fail) only [pn, pq]) <;> omega) | fail) only [pn, pq] at je235
      have jf236 := J9g_taped hJS162.2
      unfold wp_L_law_1745
      refine ⟨_, ?_, ?_, ?_, ?_, ?_, ?_, rfl⟩
      · first | omega | ((try simp (disch := first | ((try simp (disch := first | ((try simp only [pn]) <;> omega) | fail) only [pn, pq]) <;> omega) | fail) only [pn, pq]) <;> (intros; (try simp (disch := first | ((try simp (disch := first | ((try simp only [pn]) <;> omega) | fail) only [pn, pq]) <;> omega) | fail) only [pn, pq]) <;> omega))
      · exact hJS162
      · exact hFS162
      · first | omega | ((try simp (disch := first | ((try simp (disch := first | ((try simp only [pn]) <;> omega) | fail) only [pn, pq]) <;> omega) | fail) only [pn, pq]) <;> (intros; (try simp (disch := first | ((try simp (disch := first | ((try simp only [pn]) <;> omega) | fail) only [pn, pq]) <;> omega) | fail) only [pn, pq]) <;> omega))
      · first | omega | ((try simp (disch := first | ((try simp (disch := first | ((try simp only [pn]) <;> omega) | fail) only [pn, pq]) <;> omega) | fail) only [pn, pq]) <;> (intros; (try simp (disch := first | ((try simp (disch := first | ((try simp only [pn]) <;> omega) | fail) only [pn, pq]) <;> omega) | fail) only [pn, pq]) <;> omega))
      · first | omega | ((try simp (disch := first | ((try simp (disch := first | ((try simp only [pn]) <;> omega) | fail) only [pn, pq]) <;> omega) | fail) only [pn, pq]) <;> (intros; (try simp (disch := first | ((try simp (disch := first | ((try simp only [pn]) <;> omega) | fail) only [pn, pq]) <;> omega) | fail) only [pn, pq]) <;> omega))
    · skip
      refine ⟨vin1, ?_⟩
      refine sf_X8_least hJSq1.1 (fun r163  => ?_)
      have rgr163 := pt_rg r163
      refine ⟨vin1, ?_⟩
      refine sf_X9_least hJSq1.2 (fun r165 u166 hJu166 hfu166  => ?_)
      have je238 : ((b9g_taped u166)).toInt = ((b9g_taped Sq1.2)).toInt := congrArg (fun z => (z).toInt) hfu166.2.2.2.2.2.2.1
      have rgr165 := pt_rg r165
      intro S167 eS167
      have hGS167 : F_L_law S S167 := trivial
      have hJS167 : J8 S167.1 ∧ J9 S167.2 := by rw [eS167]; exact ⟨hJSq1.1, hJu166⟩
      have hFS167 : F_L_law S S167 := hGS167
      have je239 : ((b4g_count (b8g_tape S167.1))).toInt = ((b4g_count (b8g_tape Sq1.1))).toInt := by rw [eS167]
      have jf240 := J4g_count (J8g_tape hJS167.1)
      have je241 : ((b9g_taped S167.2)).toInt = ((b9g_taped u166)).toInt := by rw [eS167]
      try simp (disch := first | ((try simp (disch := first | ((try simp only [pn]) <;> omega) | fail) only [pn, pq]) <;> omega) | fail) only [pn, pq] at je241
      have jf242 := J9g_taped hJS167.2
      unfold wp_L_law_1745
      refine ⟨_, ?_, ?_, ?_, ?_, ?_, ?_, rfl⟩
      · first | omega | ((try simp (disch := first | ((try simp (disch := first | ((try simp only [pn]) <;> omega) | fail) only [pn, pq]) <;> omega) | fail) only [pn, pq]) <;> (intros; (try simp (disch := first | ((try simp (disch := first | ((try simp only [pn]) <;> omega) | fail) only [pn, pq]) <;> omega) | fail) only [pn, pq]) <;> omega))
      · exact hJS167
      · exact hFS167
      · first | omega | ((try simp (disch := first | ((try simp (disch := first | ((try simp only [pn]) <;> omega) | fail) only [pn, pq]) <;> omega) | fail) only [pn, pq]) <;> (intros; (try simp (disch := first | ((try simp (disch := first | ((try simp only [pn]) <;> omega) | fail) only [pn, pq]) <;> omega) | fail) only [pn, pq]) <;> omega))
      · first | omega | ((try simp (disch := first | ((try simp (disch := first | ((try simp only [pn]) <;> omega) | fail) only [pn, pq]) <;> omega) | fail) only [pn, pq]) <;> (intros; (try simp (disch := first | ((try simp (disch := first | ((try simp only [pn]) <;> omega) | fail) only [pn, pq]) <;> omega) | fail) only [pn, pq]) <;> omega))
      · first | omega | ((try simp (disch := first | ((try simp (disch := first | ((try simp only [pn]) <;> omega) | fail) only [pn, pq]) <;> omega) | fail) only [pn, pq]) <;> (intros; (try simp (disch := first | ((try simp (disch := first | ((try simp only [pn]) <;> omega) | fail) only [pn, pq]) <;> omega) | fail) only [pn, pq]) <;> omega))
    · skip
      refine ⟨vin1, ?_⟩
      refine sf_X8_cover hJSq1.1 (fun r168  => ?_)
      refine ⟨vin1, ?_⟩
      refine sf_X9_cover hJSq1.2 (fun r170 u171 hJu171 hfu171  => ?_)
      have je244 : ((b9g_taped u171)).toInt = ((b9g_taped Sq1.2)).toInt := congrArg (fun z => (z).toInt) hfu171.2.2.2.2.2.2.1
      intro S172 eS172
      have hGS172 : F_L_law S S172 := trivial
      have hJS172 : J8 S172.1 ∧ J9 S172.2 := by rw [eS172]; exact ⟨hJSq1.1, hJu171⟩
      have hFS172 : F_L_law S S172 := hGS172
      have je245 : ((b4g_count (b8g_tape S172.1))).toInt = ((b4g_count (b8g_tape Sq1.1))).toInt := by rw [eS172]
      have jf246 := J4g_count (J8g_tape hJS172.1)
      have je247 : ((b9g_taped S172.2)).toInt = ((b9g_taped u171)).toInt := by rw [eS172]
      try simp (disch := first | ((try simp (disch := first | ((try simp only [pn]) <;> omega) | fail) only [pn, pq]) <;> omega) | fail) only [pn, pq] at je247
      have jf248 := J9g_taped hJS172.2
      unfold wp_L_law_1745
      refine ⟨_, ?_, ?_, ?_, ?_, ?_, ?_, rfl⟩
      · first | omega | ((try simp (disch := first | ((try simp (disch := first | ((try simp only [pn]) <;> omega) | fail) only [pn, pq]) <;> omega) | fail) only [pn, pq]) <;> (intros; (try simp (disch := first | ((try simp (disch := first | ((try simp only [pn]) <;> omega) | fail) only [pn, pq]) <;> omega) | fail) only [pn, pq]) <;> omega))
      · exact hJS172
      · exact hFS172
      · first | omega | ((try simp (disch := first | ((try simp (disch := first | ((try simp only [pn]) <;> omega) | fail) only [pn, pq]) <;> omega) | fail) only [pn, pq]) <;> (intros; (try simp (disch := first | ((try simp (disch := first | ((try simp only [pn]) <;> omega) | fail) only [pn, pq]) <;> omega) | fail) only [pn, pq]) <;> omega))
      · first | omega | ((try simp (disch := first | ((try simp (disch := first | ((try simp only [pn]) <;> omega) | fail) only [pn, pq]) <;> omega) | fail) only [pn, pq]) <;> (intros; (try simp (disch := first | ((try simp (disch := first | ((try simp only [pn]) <;> omega) | fail) only [pn, pq]) <;> omega) | fail) only [pn, pq]) <;> omega))
      · first | omega | ((try simp (disch := first | ((try simp (disch := first | ((try simp only [pn]) <;> omega) | fail) only [pn, pq]) <;> omega) | fail) only [pn, pq]) <;> (intros; (try simp (disch := first | ((try simp (disch := first | ((try simp only [pn]) <;> omega) | fail) only [pn, pq]) <;> omega) | fail) only [pn, pq]) <;> omega))
    · skip
      refine ⟨vin1, ?_⟩
      refine sf_X8_loose hJSq1.1 (fun r173  => ?_)
      refine ⟨vin1, ?_⟩
      refine sf_X9_loose hJSq1.2 (fun r175 u176 hJu176 hfu176  => ?_)
      have je250 : ((b9g_taped u176)).toInt = ((b9g_taped Sq1.2)).toInt := congrArg (fun z => (z).toInt) hfu176.2.2.2.2.2.2.1
      intro S177 eS177
      have hGS177 : F_L_law S S177 := trivial
      have hJS177 : J8 S177.1 ∧ J9 S177.2 := by rw [eS177]; exact ⟨hJSq1.1, hJu176⟩
      have hFS177 : F_L_law S S177 := hGS177
      have je251 : ((b4g_count (b8g_tape S177.1))).toInt = ((b4g_count (b8g_tape Sq1.1))).toInt := by rw [eS177]
      have jf252 := J4g_count (J8g_tape hJS177.1)
      have je253 : ((b9g_taped S177.2)).toInt = ((b9g_taped u176)).toInt := by rw [eS177]
      try simp (disch := first | ((try simp (disch := first | ((try simp only [pn]) <;> omega) | fail) only [pn, pq]) <;> omega) | fail) only [pn, pq] at je253
      have jf254 := J9g_taped hJS177.2
      unfold wp_L_law_1745
      refine ⟨_, ?_, ?_, ?_, ?_, ?_, ?_, rfl⟩
      · first | omega | ((try simp (disch := first | ((try simp (disch := first | ((try simp only [pn]) <;> omega) | fail) only [pn, pq]) <;> omega) | fail) only [pn, pq]) <;> (intros; (try simp (disch := first | ((try simp (disch := first | ((try simp only [pn]) <;> omega) | fail) only [pn, pq]) <;> omega) | fail) only [pn, pq]) <;> omega))
      · exact hJS177
      · exact hFS177
      · first | omega | ((try simp (disch := first | ((try simp (disch := first | ((try simp only [pn]) <;> omega) | fail) only [pn, pq]) <;> omega) | fail) only [pn, pq]) <;> (intros; (try simp (disch := first | ((try simp (disch := first | ((try simp only [pn]) <;> omega) | fail) only [pn, pq]) <;> omega) | fail) only [pn, pq]) <;> omega))
      · first | omega | ((try simp (disch := first | ((try simp (disch := first | ((try simp only [pn]) <;> omega) | fail) only [pn, pq]) <;> omega) | fail) only [pn, pq]) <;> (intros; (try simp (disch := first | ((try simp (disch := first | ((try simp only [pn]) <;> omega) | fail) only [pn, pq]) <;> omega) | fail) only [pn, pq]) <;> omega))
      · first | omega | ((try simp (disch := first | ((try simp (disch := first | ((try simp only [pn]) <;> omega) | fail) only [pn, pq]) <;> omega) | fail) only [pn, pq]) <;> (intros; (try simp (disch := first | ((try simp (disch := first | ((try simp only [pn]) <;> omega) | fail) only [pn, pq]) <;> omega) | fail) only [pn, pq]) <;> omega))
    · skip
      refine ⟨vin1, ?_⟩
      refine ⟨vin2, ?_⟩
      refine sf_X8_free hJSq1.1 (fun r178  => ?_)
      refine ⟨vin1, ?_⟩
      refine ⟨vin2, ?_⟩
      refine sf_X9_free hJSq1.2 (fun r180 u181 hJu181 hfu181  => ?_)
      have je256 : ((b9g_taped u181)).toInt = ((b9g_taped Sq1.2)).toInt := congrArg (fun z => (z).toInt) hfu181.2.2.2.2.2.2.1
      intro S182 eS182
      have hGS182 : F_L_law S S182 := trivial
      have hJS182 : J8 S182.1 ∧ J9 S182.2 := by rw [eS182]; exact ⟨hJSq1.1, hJu181⟩
      have hFS182 : F_L_law S S182 := hGS182
      have je257 : ((b4g_count (b8g_tape S182.1))).toInt = ((b4g_count (b8g_tape Sq1.1))).toInt := by rw [eS182]
      have jf258 := J4g_count (J8g_tape hJS182.1)
      have je259 : ((b9g_taped S182.2)).toInt = ((b9g_taped u181)).toInt := by rw [eS182]
      try simp (disch := first | ((try simp (disch := first | ((try simp only [pn]) <;> omega) | fail) only [pn, pq]) <;> omega) | fail) only [pn, pq] at je259
      have jf260 := J9g_taped hJS182.2
      unfold wp_L_law_1745
      refine ⟨_, ?_, ?_, ?_, ?_, ?_, ?_, rfl⟩
      · first | omega | ((try simp (disch := first | ((try simp (disch := first | ((try simp only [pn]) <;> omega) | fail) only [pn, pq]) <;> omega) | fail) only [pn, pq]) <;> (intros; (try simp (disch := first | ((try simp (disch := first | ((try simp only [pn]) <;> omega) | fail) only [pn, pq]) <;> omega) | fail) only [pn, pq]) <;> omega))
      · exact hJS182
      · exact hFS182
      · first | omega | ((try simp (disch := first | ((try simp (disch := first | ((try simp only [pn]) <;> omega) | fail) only [pn, pq]) <;> omega) | fail) only [pn, pq]) <;> (intros; (try simp (disch := first | ((try simp (disch := first | ((try simp only [pn]) <;> omega) | fail) only [pn, pq]) <;> omega) | fail) only [pn, pq]) <;> omega))
      · first | omega | ((try simp (disch := first | ((try simp (disch := first | ((try simp only [pn]) <;> omega) | fail) only [pn, pq]) <;> omega) | fail) only [pn, pq]) <;> (intros; (try simp (disch := first | ((try simp (disch := first | ((try simp only [pn]) <;> omega) | fail) only [pn, pq]) <;> omega) | fail) only [pn, pq]) <;> omega))
      · first | omega | ((try simp (disch := first | ((try simp (disch := first | ((try simp only [pn]) <;> omega) | fail) only [pn, pq]) <;> omega) | fail) only [pn, pq]) <;> (intros; (try simp (disch := first | ((try simp (disch := first | ((try simp only [pn]) <;> omega) | fail) only [pn, pq]) <;> omega) | fail) only [pn, pq]) <;> omega))
    · skip
      refine ⟨vin1, ?_⟩
      refine ⟨vin2, ?_⟩
      refine ⟨vin3, ?_⟩
      refine ⟨vin4, ?_⟩
      refine sf_X8_spread hJSq1.1 (fun r183  => ?_)
      have rgr183 := pt_rg r183
      refine ⟨vin1, ?_⟩
      refine ⟨vin2, ?_⟩
      refine ⟨vin3, ?_⟩
      refine ⟨vin4, ?_⟩
      refine sf_X9_spread hJSq1.2 (fun r185 u186 hJu186 hfu186  => ?_)
      have je262 : ((b9g_taped u186)).toInt = ((b9g_taped Sq1.2)).toInt := congrArg (fun z => (z).toInt) hfu186.2.2.2.2.2.2.1
      have rgr185 := pt_rg r185
      intro S187 eS187
      have hGS187 : F_L_law S S187 := trivial
      have hJS187 : J8 S187.1 ∧ J9 S187.2 := by rw [eS187]; exact ⟨hJSq1.1, hJu186⟩
      have hFS187 : F_L_law S S187 := hGS187
      have je263 : ((b4g_count (b8g_tape S187.1))).toInt = ((b4g_count (b8g_tape Sq1.1))).toInt := by rw [eS187]
      have jf264 := J4g_count (J8g_tape hJS187.1)
      have je265 : ((b9g_taped S187.2)).toInt = ((b9g_taped u186)).toInt := by rw [eS187]
      try simp (disch := first | ((try simp (disch := first | ((try simp only [pn]) <;> omega) | fail) only [pn, pq]) <;> omega) | fail) only [pn, pq] at je265
      have jf266 := J9g_taped hJS187.2
      unfold wp_L_law_1745
      refine ⟨_, ?_, ?_, ?_, ?_, ?_, ?_, rfl⟩
      · first | omega | ((try simp (disch := first | ((try simp (disch := first | ((try simp only [pn]) <;> omega) | fail) only [pn, pq]) <;> omega) | fail) only [pn, pq]) <;> (intros; (try simp (disch := first | ((try simp (disch := first | ((try simp only [pn]) <;> omega) | fail) only [pn, pq]) <;> omega) | fail) only [pn, pq]) <;> omega))
      · exact hJS187
      · exact hFS187
      · first | omega | ((try simp (disch := first | ((try simp (disch := first | ((try simp only [pn]) <;> omega) | fail) only [pn, pq]) <;> omega) | fail) only [pn, pq]) <;> (intros; (try simp (disch := first | ((try simp (disch := first | ((try simp only [pn]) <;> omega) | fail) only [pn, pq]) <;> omega) | fail) only [pn, pq]) <;> omega))
      · first | omega | ((try simp (disch := first | ((try simp (disch := first | ((try simp only [pn]) <;> omega) | fail) only [pn, pq]) <;> omega) | fail) only [pn, pq]) <;> (intros; (try simp (disch := first | ((try simp (disch := first | ((try simp only [pn]) <;> omega) | fail) only [pn, pq]) <;> omega) | fail) only [pn, pq]) <;> omega))
      · first | omega | ((try simp (disch := first | ((try simp (disch := first | ((try simp only [pn]) <;> omega) | fail) only [pn, pq]) <;> omega) | fail) only [pn, pq]) <;> (intros; (try simp (disch := first | ((try simp (disch := first | ((try simp only [pn]) <;> omega) | fail) only [pn, pq]) <;> omega) | fail) only [pn, pq]) <;> omega))
    · skip
      refine ⟨vin1, ?_⟩
      refine ⟨vin2, ?_⟩
      refine ⟨vin3, ?_⟩
      refine sf_X8_question hJSq1.1 (fun r188 u189 hJu189 hfu189 hr188_0 => ?_)
      have je268 : ((b4g_count (b8g_tape u189))).toInt = ((b4g_count (b8g_tape Sq1.1))).toInt := congrArg (fun z => ((b4g_count z)).toInt) hfu189.2.2.2.2.2.2.2.2.2.2.1
      have rgr188 := pt_rg r188
      clear hr188_0
      intro S190 eS190
      have hGS190 : F_L_law S S190 := trivial
      have hJS190 : J8 S190.1 ∧ J9 S190.2 := by rw [eS190]; exact ⟨hJu189, hJSq1.2⟩
      have hFS190 : F_L_law S S190 := hGS190
      have je269 : ((b4g_count (b8g_tape S190.1))).toInt = ((b4g_count (b8g_tape u189))).toInt := by rw [eS190]
      try simp (disch := first | ((try simp (disch := first | ((try simp only [pn]) <;> omega) | fail) only [pn, pq]) <;> omega) | fail) only [pn, pq] at je269
      have jf270 := J4g_count (J8g_tape hJS190.1)
      have je271 : ((b9g_taped S190.2)).toInt = ((b9g_taped Sq1.2)).toInt := by rw [eS190]
      have jf272 := J9g_taped hJS190.2
      refine ⟨vin1, ?_⟩
      refine ⟨vin2, ?_⟩
      refine ⟨vin3, ?_⟩
      refine sf_X9_question hJS190.2 (fun r191 u192 hJu192 hfu192 hr191_0 hr191_1 => ?_)
      have je274 : ((b9g_taped u192)).toInt = ((b9g_taped S190.2)).toInt := congrArg (fun z => (z).toInt) hfu192.2.2.2.1
      have rgr191 := pt_rg r191
      clear hr191_0
      clear hr191_1
      intro S193 eS193
      have hGS193 : F_L_law S S193 := trivial
      have hJS193 : J8 S193.1 ∧ J9 S193.2 := by rw [eS193]; exact ⟨hJS190.1, hJu192⟩
      have hFS193 : F_L_law S S193 := hGS193
      have je275 : ((b4g_count (b8g_tape S193.1))).toInt = ((b4g_count (b8g_tape S190.1))).toInt := by rw [eS193]
      have jf276 := J4g_count (J8g_tape hJS193.1)
      have je277 : ((b9g_taped S193.2)).toInt = ((b9g_taped u192)).toInt := by rw [eS193]
      try simp (disch := first | ((try simp (disch := first | ((try simp only [pn]) <;> omega) | fail) only [pn, pq]) <;> omega) | fail) only [pn, pq] at je277
      have jf278 := J9g_taped hJS193.2
      unfold wp_L_law_1745
      refine ⟨_, ?_, ?_, ?_, ?_, ?_, ?_, rfl⟩
      · first | omega | ((try simp (disch := first | ((try simp (disch := first | ((try simp only [pn]) <;> omega) | fail) only [pn, pq]) <;> omega) | fail) only [pn, pq]) <;> (intros; (try simp (disch := first | ((try simp (disch := first | ((try simp only [pn]) <;> omega) | fail) only [pn, pq]) <;> omega) | fail) only [pn, pq]) <;> omega))
      · exact hJS193
      · exact hFS193
      · first | omega | ((try simp (disch := first | ((try simp (disch := first | ((try simp only [pn]) <;> omega) | fail) only [pn, pq]) <;> omega) | fail) only [pn, pq]) <;> (intros; (try simp (disch := first | ((try simp (disch := first | ((try simp only [pn]) <;> omega) | fail) only [pn, pq]) <;> omega) | fail) only [pn, pq]) <;> omega))
      · first | omega | ((try simp (disch := first | ((try simp (disch := first | ((try simp only [pn]) <;> omega) | fail) only [pn, pq]) <;> omega) | fail) only [pn, pq]) <;> (intros; (try simp (disch := first | ((try simp (disch := first | ((try simp only [pn]) <;> omega) | fail) only [pn, pq]) <;> omega) | fail) only [pn, pq]) <;> omega))
      · first | omega | ((try simp (disch := first | ((try simp (disch := first | ((try simp only [pn]) <;> omega) | fail) only [pn, pq]) <;> omega) | fail) only [pn, pq]) <;> (intros; (try simp (disch := first | ((try simp (disch := first | ((try simp only [pn]) <;> omega) | fail) only [pn, pq]) <;> omega) | fail) only [pn, pq]) <;> omega))
    · skip
      refine sf_X8_forget hJSq1.1 (fun r194 u195 hJu195 hfu195 hr194_0 hr194_1 => ?_)
      have je280 : ((b4g_count (b8g_tape u195))).toInt = ((b4g_count (b8g_tape Sq1.1))).toInt := congrArg (fun z => ((b4g_count z)).toInt) hfu195.2.2.2.2.2.2.2.2.2.2.2.2.1
      have rgr194 := pt_rg r194
      clear hr194_0
      clear hr194_1
      intro S196 eS196
      have hGS196 : F_L_law S S196 := trivial
      have hJS196 : J8 S196.1 ∧ J9 S196.2 := by rw [eS196]; exact ⟨hJu195, hJSq1.2⟩
      have hFS196 : F_L_law S S196 := hGS196
      have je281 : ((b4g_count (b8g_tape S196.1))).toInt = ((b4g_count (b8g_tape u195))).toInt := by rw [eS196]
      try simp (disch := first | ((try simp (disch := first | ((try simp only [pn]) <;> omega) | fail) only [pn, pq]) <;> omega) | fail) only [pn, pq] at je281
      have jf282 := J4g_count (J8g_tape hJS196.1)
      have je283 : ((b9g_taped S196.2)).toInt = ((b9g_taped Sq1.2)).toInt := by rw [eS196]
      have jf284 := J9g_taped hJS196.2
      refine sf_X9_forget hJS196.2 (fun r197 u198 hJu198 hfu198 hr197_0 hr197_1 hr197_2 => ?_)
      have je286 : ((b9g_taped u198)).toInt = ((b9g_taped S196.2)).toInt := congrArg (fun z => (z).toInt) hfu198.2.2.2.2.2.1
      have rgr197 := pt_rg r197
      clear hr197_0
      clear hr197_1
      clear hr197_2
      intro S199 eS199
      have hGS199 : F_L_law S S199 := trivial
      have hJS199 : J8 S199.1 ∧ J9 S199.2 := by rw [eS199]; exact ⟨hJS196.1, hJu198⟩
      have hFS199 : F_L_law S S199 := hGS199
      have je287 : ((b4g_count (b8g_tape S199.1))).toInt = ((b4g_count (b8g_tape S196.1))).toInt := by rw [eS199]
      have jf288 := J4g_count (J8g_tape hJS199.1)
      have je289 : ((b9g_taped S199.2)).toInt = ((b9g_taped u198)).toInt := by rw [eS199]
      try simp (disch := first | ((try simp (disch := first | ((try simp only [pn]) <;> omega) | fail) only [pn, pq]) <;> omega) | fail) only [pn, pq] at je289
      have jf290 := J9g_taped hJS199.2
      unfold wp_L_law_1745
      refine ⟨_, ?_, ?_, ?_, ?_, ?_, ?_, rfl⟩
      · first | omega | ((try simp (disch := first | ((try simp (disch := first | ((try simp only [pn]) <;> omega) | fail) only [pn, pq]) <;> omega) | fail) only [pn, pq]) <;> (intros; (try simp (disch := first | ((try simp (disch := first | ((try simp only [pn]) <;> omega) | fail) only [pn, pq]) <;> omega) | fail) only [pn, pq]) <;> omega))
      · exact hJS199
      · exact hFS199
      · first | omega | ((try simp (disch := first | ((try simp (disch := first | ((try simp only [pn]) <;> omega) | fail) only [pn, pq]) <;> omega) | fail) only [pn, pq]) <;> (intros; (try simp (disch := first | ((try simp (disch := first | ((try simp only [pn]) <;> omega) | fail) only [pn, pq]) <;> omega) | fail) only [pn, pq]) <;> omega))
      · first | omega | ((try simp (disch := first | ((try simp (disch := first | ((try simp only [pn]) <;> omega) | fail) only [pn, pq]) <;> omega) | fail) only [pn, pq]) <;> (intros; (try simp (disch := first | ((try simp (disch := first | ((try simp only [pn]) <;> omega) | fail) only [pn, pq]) <;> omega) | fail) only [pn, pq]) <;> omega))
      · first | omega | ((try simp (disch := first | ((try simp (disch := first | ((try simp only [pn]) <;> omega) | fail) only [pn, pq]) <;> omega) | fail) only [pn, pq]) <;> (intros; (try simp (disch := first | ((try simp (disch := first | ((try simp only [pn]) <;> omega) | fail) only [pn, pq]) <;> omega) | fail) only [pn, pq]) <;> omega))
    · skip
      refine ⟨vin1, ?_⟩
      refine ⟨vin2, ?_⟩
      refine sf_X8_tuned hJSq1.1 (fun r200 u201 hJu201 hfu201  => ?_)
      have je292 : ((b4g_count (b8g_tape u201))).toInt = ((b4g_count (b8g_tape Sq1.1))).toInt := congrArg (fun z => ((b4g_count z)).toInt) hfu201.2.2.2.2.2.2.1
      have rgr200 := pt_rg r200
      intro S202 eS202
      have hGS202 : F_L_law S S202 := trivial
      have hJS202 : J8 S202.1 ∧ J9 S202.2 := by rw [eS202]; exact ⟨hJu201, hJSq1.2⟩
      have hFS202 : F_L_law S S202 := hGS202
      have je293 : ((b4g_count (b8g_tape S202.1))).toInt = ((b4g_count (b8g_tape u201))).toInt := by rw [eS202]
      try simp (disch := first | ((try simp (disch := first | ((try simp only [pn]) <;> omega) | fail) only [pn, pq]) <;> omega) | fail) only [pn, pq] at je293
      have jf294 := J4g_count (J8g_tape hJS202.1)
      have je295 : ((b9g_taped S202.2)).toInt = ((b9g_taped Sq1.2)).toInt := by rw [eS202]
      have jf296 := J9g_taped hJS202.2
      refine ⟨vin1, ?_⟩
      refine ⟨vin2, ?_⟩
      refine sf_X9_tuned hJS202.2 (fun r203 u204 hJu204 hfu204  => ?_)
      have je298 : ((b9g_taped u204)).toInt = ((b9g_taped S202.2)).toInt := congrArg (fun z => (z).toInt) hfu204.2.2.2.2.2.2.1
      have rgr203 := pt_rg r203
      intro S205 eS205
      have hGS205 : F_L_law S S205 := trivial
      have hJS205 : J8 S205.1 ∧ J9 S205.2 := by rw [eS205]; exact ⟨hJS202.1, hJu204⟩
      have hFS205 : F_L_law S S205 := hGS205
      have je299 : ((b4g_count (b8g_tape S205.1))).toInt = ((b4g_count (b8g_tape S202.1))).toInt := by rw [eS205]
      have jf300 := J4g_count (J8g_tape hJS205.1)
      have je301 : ((b9g_taped S205.2)).toInt = ((b9g_taped u204)).toInt := by rw [eS205]
      try simp (disch := first | ((try simp (disch := first | ((try simp only [pn]) <;> omega) | fail) only [pn, pq]) <;> omega) | fail) only [pn, pq] at je301
      have jf302 := J9g_taped hJS205.2
      unfold wp_L_law_1745
      refine ⟨_, ?_, ?_, ?_, ?_, ?_, ?_, rfl⟩
      · first | omega | ((try simp (disch := first | ((try simp (disch := first | ((try simp only [pn]) <;> omega) | fail) only [pn, pq]) <;> omega) | fail) only [pn, pq]) <;> (intros; (try simp (disch := first | ((try simp (disch := first | ((try simp only [pn]) <;> omega) | fail) only [pn, pq]) <;> omega) | fail) only [pn, pq]) <;> omega))
      · exact hJS205
      · exact hFS205
      · first | omega | ((try simp (disch := first | ((try simp (disch := first | ((try simp only [pn]) <;> omega) | fail) only [pn, pq]) <;> omega) | fail) only [pn, pq]) <;> (intros; (try simp (disch := first | ((try simp (disch := first | ((try simp only [pn]) <;> omega) | fail) only [pn, pq]) <;> omega) | fail) only [pn, pq]) <;> omega))
      · first | omega | ((try simp (disch := first | ((try simp (disch := first | ((try simp only [pn]) <;> omega) | fail) only [pn, pq]) <;> omega) | fail) only [pn, pq]) <;> (intros; (try simp (disch := first | ((try simp (disch := first | ((try simp only [pn]) <;> omega) | fail) only [pn, pq]) <;> omega) | fail) only [pn, pq]) <;> omega))
      · first | omega | ((try simp (disch := first | ((try simp (disch := first | ((try simp only [pn]) <;> omega) | fail) only [pn, pq]) <;> omega) | fail) only [pn, pq]) <;> (intros; (try simp (disch := first | ((try simp (disch := first | ((try simp only [pn]) <;> omega) | fail) only [pn, pq]) <;> omega) | fail) only [pn, pq]) <;> omega))
    · skip
      refine ⟨vin1, ?_⟩
      refine ⟨vin2, ?_⟩
      refine sf_X8_storm hJSq1.1 (fun r206 u207 hJu207 hfu207 hr206_0 => ?_)
      have je304 : ((b4g_count (b8g_tape u207))).toInt = ((b4g_count (b8g_tape Sq1.1))).toInt := congrArg (fun z => ((b4g_count z)).toInt) hfu207.2.2.2.2.2.2.2.2.2.1
      have rgr206 := pt_rg r206
      clear hr206_0
      intro S208 eS208
      have hGS208 : F_L_law S S208 := trivial
      have hJS208 : J8 S208.1 ∧ J9 S208.2 := by rw [eS208]; exact ⟨hJu207, hJSq1.2⟩
      have hFS208 : F_L_law S S208 := hGS208
      have je305 : ((b4g_count (b8g_tape S208.1))).toInt = ((b4g_count (b8g_tape u207))).toInt := by rw [eS208]
      try simp (disch := first | ((try simp (disch := first | ((try simp only [pn]) <;> omega) | fail) only [pn, pq]) <;> omega) | fail) only [pn, pq] at je305
      have jf306 := J4g_count (J8g_tape hJS208.1)
      have je307 : ((b9g_taped S208.2)).toInt = ((b9g_taped Sq1.2)).toInt := by rw [eS208]
      have jf308 := J9g_taped hJS208.2
      refine ⟨vin1, ?_⟩
      refine ⟨vin2, ?_⟩
      refine sf_X9_storm hJS208.2 (fun r209 u210 hJu210 hfu210 hr209_0 hr209_1 => ?_)
      have je310 : ((b9g_taped u210)).toInt = ((b9g_taped S208.2)).toInt := congrArg (fun z => (z).toInt) hfu210.2.2.2.1
      have rgr209 := pt_rg r209
      clear hr209_0
      clear hr209_1
      intro S211 eS211
      have hGS211 : F_L_law S S211 := trivial
      have hJS211 : J8 S211.1 ∧ J9 S211.2 := by rw [eS211]; exact ⟨hJS208.1, hJu210⟩
      have hFS211 : F_L_law S S211 := hGS211
      have je311 : ((b4g_count (b8g_tape S211.1))).toInt = ((b4g_count (b8g_tape S208.1))).toInt := by rw [eS211]
      have jf312 := J4g_count (J8g_tape hJS211.1)
      have je313 : ((b9g_taped S211.2)).toInt = ((b9g_taped u210)).toInt := by rw [eS211]
      try simp (disch := first | ((try simp (disch := first | ((try simp only [pn]) <;> omega) | fail) only [pn, pq]) <;> omega) | fail) only [pn, pq] at je313
      have jf314 := J9g_taped hJS211.2
      unfold wp_L_law_1745
      refine ⟨_, ?_, ?_, ?_, ?_, ?_, ?_, rfl⟩
      · first | omega | ((try simp (disch := first | ((try simp (disch := first | ((try simp only [pn]) <;> omega) | fail) only [pn, pq]) <;> omega) | fail) only [pn, pq]) <;> (intros; (try simp (disch := first | ((try simp (disch := first | ((try simp only [pn]) <;> omega) | fail) only [pn, pq]) <;> omega) | fail) only [pn, pq]) <;> omega))
      · exact hJS211
      · exact hFS211
      · first | omega | ((try simp (disch := first | ((try simp (disch := first | ((try simp only [pn]) <;> omega) | fail) only [pn, pq]) <;> omega) | fail) only [pn, pq]) <;> (intros; (try simp (disch := first | ((try simp (disch := first | ((try simp only [pn]) <;> omega) | fail) only [pn, pq]) <;> omega) | fail) only [pn, pq]) <;> omega))
      · first | omega | ((try simp (disch := first | ((try simp (disch := first | ((try simp only [pn]) <;> omega) | fail) only [pn, pq]) <;> omega) | fail) only [pn, pq]) <;> (intros; (try simp (disch := first | ((try simp (disch := first | ((try simp only [pn]) <;> omega) | fail) only [pn, pq]) <;> omega) | fail) only [pn, pq]) <;> omega))
      · first | omega | ((try simp (disch := first | ((try simp (disch := first | ((try simp only [pn]) <;> omega) | fail) only [pn, pq]) <;> omega) | fail) only [pn, pq]) <;> (intros; (try simp (disch := first | ((try simp (disch := first | ((try simp only [pn]) <;> omega) | fail) only [pn, pq]) <;> omega) | fail) only [pn, pq]) <;> omega))
    · skip
      refine ⟨vin1, ?_⟩
      refine ⟨vin2, ?_⟩
      refine ⟨vin3, ?_⟩
      refine sf_X8_stormRange hJSq1.1 (fun r212 u213 hJu213 hfu213 hr212_0 => ?_)
      have je316 : ((b4g_count (b8g_tape u213))).toInt = ((b4g_count (b8g_tape Sq1.1))).toInt := congrArg (fun z => ((b4g_count z)).toInt) hfu213.2.2.2.2.2.2.2.2.2.1
      have rgr212 := pt_rg r212
      clear hr212_0
      intro S214 eS214
      have hGS214 : F_L_law S S214 := trivial
      have hJS214 : J8 S214.1 ∧ J9 S214.2 := by rw [eS214]; exact ⟨hJu213, hJSq1.2⟩
      have hFS214 : F_L_law S S214 := hGS214
      have je317 : ((b4g_count (b8g_tape S214.1))).toInt = ((b4g_count (b8g_tape u213))).toInt := by rw [eS214]
      try simp (disch := first | ((try simp (disch := first | ((try simp only [pn]) <;> omega) | fail) only [pn, pq]) <;> omega) | fail) only [pn, pq] at je317
      have jf318 := J4g_count (J8g_tape hJS214.1)
      have je319 : ((b9g_taped S214.2)).toInt = ((b9g_taped Sq1.2)).toInt := by rw [eS214]
      have jf320 := J9g_taped hJS214.2
      refine ⟨vin1, ?_⟩
      refine ⟨vin2, ?_⟩
      refine ⟨vin3, ?_⟩
      refine sf_X9_stormRange hJS214.2 (fun r215 u216 hJu216 hfu216 hr215_0 hr215_1 => ?_)
      have je322 : ((b9g_taped u216)).toInt = ((b9g_taped S214.2)).toInt := congrArg (fun z => (z).toInt) hfu216.2.2.2.1
      have rgr215 := pt_rg r215
      clear hr215_0
      clear hr215_1
      intro S217 eS217
      have hGS217 : F_L_law S S217 := trivial
      have hJS217 : J8 S217.1 ∧ J9 S217.2 := by rw [eS217]; exact ⟨hJS214.1, hJu216⟩
      have hFS217 : F_L_law S S217 := hGS217
      have je323 : ((b4g_count (b8g_tape S217.1))).toInt = ((b4g_count (b8g_tape S214.1))).toInt := by rw [eS217]
      have jf324 := J4g_count (J8g_tape hJS217.1)
      have je325 : ((b9g_taped S217.2)).toInt = ((b9g_taped u216)).toInt := by rw [eS217]
      try simp (disch := first | ((try simp (disch := first | ((try simp only [pn]) <;> omega) | fail) only [pn, pq]) <;> omega) | fail) only [pn, pq] at je325
      have jf326 := J9g_taped hJS217.2
      unfold wp_L_law_1745
      refine ⟨_, ?_, ?_, ?_, ?_, ?_, ?_, rfl⟩
      · first | omega | ((try simp (disch := first | ((try simp (disch := first | ((try simp only [pn]) <;> omega) | fail) only [pn, pq]) <;> omega) | fail) only [pn, pq]) <;> (intros; (try simp (disch := first | ((try simp (disch := first | ((try simp only [pn]) <;> omega) | fail) only [pn, pq]) <;> omega) | fail) only [pn, pq]) <;> omega))
      · exact hJS217
      · exact hFS217
      · first | omega | ((try simp (disch := first | ((try simp (disch := first | ((try simp only [pn]) <;> omega) | fail) only [pn, pq]) <;> omega) | fail) only [pn, pq]) <;> (intros; (try simp (disch := first | ((try simp (disch := first | ((try simp only [pn]) <;> omega) | fail) only [pn, pq]) <;> omega) | fail) only [pn, pq]) <;> omega))
      · first | omega | ((try simp (disch := first | ((try simp (disch := first | ((try simp only [pn]) <;> omega) | fail) only [pn, pq]) <;> omega) | fail) only [pn, pq]) <;> (intros; (try simp (disch := first | ((try simp (disch := first | ((try simp only [pn]) <;> omega) | fail) only [pn, pq]) <;> omega) | fail) only [pn, pq]) <;> omega))
      · first | omega | ((try simp (disch := first | ((try simp (disch := first | ((try simp only [pn]) <;> omega) | fail) only [pn, pq]) <;> omega) | fail) only [pn, pq]) <;> (intros; (try simp (disch := first | ((try simp (disch := first | ((try simp only [pn]) <;> omega) | fail) only [pn, pq]) <;> omega) | fail) only [pn, pq]) <;> omega))
    · skip
      refine ⟨vin1, ?_⟩
      refine sf_X8_account hJSq1.1 (fun r218  => ?_)
      have rgr218 := pt_rg r218
      refine ⟨vin1, ?_⟩
      refine sf_X9_account hJSq1.2 (fun r220 u221 hJu221 hfu221  => ?_)
      have je328 : ((b9g_taped u221)).toInt = ((b9g_taped Sq1.2)).toInt := congrArg (fun z => (z).toInt) hfu221.2.2.2.2.2.2.1
      have rgr220 := pt_rg r220
      intro S222 eS222
      have hGS222 : F_L_law S S222 := trivial
      have hJS222 : J8 S222.1 ∧ J9 S222.2 := by rw [eS222]; exact ⟨hJSq1.1, hJu221⟩
      have hFS222 : F_L_law S S222 := hGS222
      have je329 : ((b4g_count (b8g_tape S222.1))).toInt = ((b4g_count (b8g_tape Sq1.1))).toInt := by rw [eS222]
      have jf330 := J4g_count (J8g_tape hJS222.1)
      have je331 : ((b9g_taped S222.2)).toInt = ((b9g_taped u221)).toInt := by rw [eS222]
      try simp (disch := first | ((try simp (disch := first | ((try simp only [pn]) <;> omega) | fail) only [pn, pq]) <;> omega) | fail) only [pn, pq] at je331
      have jf332 := J9g_taped hJS222.2
      unfold wp_L_law_1745
      refine ⟨_, ?_, ?_, ?_, ?_, ?_, ?_, rfl⟩
      · first | omega | ((try simp (disch := first | ((try simp (disch := first | ((try simp only [pn]) <;> omega) | fail) only [pn, pq]) <;> omega) | fail) only [pn, pq]) <;> (intros; (try simp (disch := first | ((try simp (disch := first | ((try simp only [pn]) <;> omega) | fail) only [pn, pq]) <;> omega) | fail) only [pn, pq]) <;> omega))
      · exact hJS222
      · exact hFS222
      · first | omega | ((try simp (disch := first | ((try simp (disch := first | ((try simp only [pn]) <;> omega) | fail) only [pn, pq]) <;> omega) | fail) only [pn, pq]) <;> (intros; (try simp (disch := first | ((try simp (disch := first | ((try simp only [pn]) <;> omega) | fail) only [pn, pq]) <;> omega) | fail) only [pn, pq]) <;> omega))
      · first | omega | ((try simp (disch := first | ((try simp (disch := first | ((try simp only [pn]) <;> omega) | fail) only [pn, pq]) <;> omega) | fail) only [pn, pq]) <;> (intros; (try simp (disch := first | ((try simp (disch := first | ((try simp only [pn]) <;> omega) | fail) only [pn, pq]) <;> omega) | fail) only [pn, pq]) <;> omega))
      · first | omega | ((try simp (disch := first | ((try simp (disch := first | ((try simp only [pn]) <;> omega) | fail) only [pn, pq]) <;> omega) | fail) only [pn, pq]) <;> (intros; (try simp (disch := first | ((try simp (disch := first | ((try simp only [pn]) <;> omega) | fail) only [pn, pq]) <;> omega) | fail) only [pn, pq]) <;> omega))
    · skip
      refine ⟨vin1, ?_⟩
      refine sf_X8_since hJSq1.1 (fun r223  => ?_)
      have rgr223 := pt_rg r223
      refine ⟨vin1, ?_⟩
      refine sf_X9_since hJSq1.2 (fun r225 u226 hJu226 hfu226  => ?_)
      have je334 : ((b9g_taped u226)).toInt = ((b9g_taped Sq1.2)).toInt := congrArg (fun z => (z).toInt) hfu226.2.2.2.2.2.2.1
      have rgr225 := pt_rg r225
      intro S227 eS227
      have hGS227 : F_L_law S S227 := trivial
      have hJS227 : J8 S227.1 ∧ J9 S227.2 := by rw [eS227]; exact ⟨hJSq1.1, hJu226⟩
      have hFS227 : F_L_law S S227 := hGS227
      have je335 : ((b4g_count (b8g_tape S227.1))).toInt = ((b4g_count (b8g_tape Sq1.1))).toInt := by rw [eS227]
      have jf336 := J4g_count (J8g_tape hJS227.1)
      have je337 : ((b9g_taped S227.2)).toInt = ((b9g_taped u226)).toInt := by rw [eS227]
      try simp (disch := first | ((try simp (disch := first | ((try simp only [pn]) <;> omega) | fail) only [pn, pq]) <;> omega) | fail) only [pn, pq] at je337
      have jf338 := J9g_taped hJS227.2
      unfold wp_L_law_1745
      refine ⟨_, ?_, ?_, ?_, ?_, ?_, ?_, rfl⟩
      · first | omega | ((try simp (disch := first | ((try simp (disch := first | ((try simp only [pn]) <;> omega) | fail) only [pn, pq]) <;> omega) | fail) only [pn, pq]) <;> (intros; (try simp (disch := first | ((try simp (disch := first | ((try simp only [pn]) <;> omega) | fail) only [pn, pq]) <;> omega) | fail) only [pn, pq]) <;> omega))
      · exact hJS227
      · exact hFS227
      · first | omega | ((try simp (disch := first | ((try simp (disch := first | ((try simp only [pn]) <;> omega) | fail) only [pn, pq]) <;> omega) | fail) only [pn, pq]) <;> (intros; (try simp (disch := first | ((try simp (disch := first | ((try simp only [pn]) <;> omega) | fail) only [pn, pq]) <;> omega) | fail) only [pn, pq]) <;> omega))
      · first | omega | ((try simp (disch := first | ((try simp (disch := first | ((try simp only [pn]) <;> omega) | fail) only [pn, pq]) <;> omega) | fail) only [pn, pq]) <;> (intros; (try simp (disch := first | ((try simp (disch := first | ((try simp only [pn]) <;> omega) | fail) only [pn, pq]) <;> omega) | fail) only [pn, pq]) <;> omega))
      · first | omega | ((try simp (disch := first | ((try simp (disch := first | ((try simp only [pn]) <;> omega) | fail) only [pn, pq]) <;> omega) | fail) only [pn, pq]) <;> (intros; (try simp (disch := first | ((try simp (disch := first | ((try simp only [pn]) <;> omega) | fail) only [pn, pq]) <;> omega) | fail) only [pn, pq]) <;> omega))
    · skip
      refine ⟨vin1, ?_⟩
      refine sf_X8_report hJSq1.1 (fun r228 u229 hJu229 hfu229  => ?_)
      have je340 : ((b4g_count (b8g_tape u229))).toInt = ((b4g_count (b8g_tape Sq1.1))).toInt := congrArg (fun z => ((b4g_count z)).toInt) hfu229.2.2.2.2.2.2.2.1
      have rgr228 := pt_rg r228
      intro S230 eS230
      have hGS230 : F_L_law S S230 := trivial
      have hJS230 : J8 S230.1 ∧ J9 S230.2 := by rw [eS230]; exact ⟨hJu229, hJSq1.2⟩
      have hFS230 : F_L_law S S230 := hGS230
      have je341 : ((b4g_count (b8g_tape S230.1))).toInt = ((b4g_count (b8g_tape u229))).toInt := by rw [eS230]
      try simp (disch := first | ((try simp (disch := first | ((try simp only [pn]) <;> omega) | fail) only [pn, pq]) <;> omega) | fail) only [pn, pq] at je341
      have jf342 := J4g_count (J8g_tape hJS230.1)
      have je343 : ((b9g_taped S230.2)).toInt = ((b9g_taped Sq1.2)).toInt := by rw [eS230]
      have jf344 := J9g_taped hJS230.2
      refine ⟨vin1, ?_⟩
      refine sf_X9_report hJS230.2 (fun r231 u232 hJu232 hfu232  => ?_)
      have je346 : ((b9g_taped u232)).toInt = ((b9g_taped S230.2)).toInt := congrArg (fun z => (z).toInt) hfu232.2.2.2.2.2.2.1
      have rgr231 := pt_rg r231
      intro S233 eS233
      have hGS233 : F_L_law S S233 := trivial
      have hJS233 : J8 S233.1 ∧ J9 S233.2 := by rw [eS233]; exact ⟨hJS230.1, hJu232⟩
      have hFS233 : F_L_law S S233 := hGS233
      have je347 : ((b4g_count (b8g_tape S233.1))).toInt = ((b4g_count (b8g_tape S230.1))).toInt := by rw [eS233]
      have jf348 := J4g_count (J8g_tape hJS233.1)
      have je349 : ((b9g_taped S233.2)).toInt = ((b9g_taped u232)).toInt := by rw [eS233]
      try simp (disch := first | ((try simp (disch := first | ((try simp only [pn]) <;> omega) | fail) only [pn, pq]) <;> omega) | fail) only [pn, pq] at je349
      have jf350 := J9g_taped hJS233.2
      unfold wp_L_law_1745
      refine ⟨_, ?_, ?_, ?_, ?_, ?_, ?_, rfl⟩
      · first | omega | ((try simp (disch := first | ((try simp (disch := first | ((try simp only [pn]) <;> omega) | fail) only [pn, pq]) <;> omega) | fail) only [pn, pq]) <;> (intros; (try simp (disch := first | ((try simp (disch := first | ((try simp only [pn]) <;> omega) | fail) only [pn, pq]) <;> omega) | fail) only [pn, pq]) <;> omega))
      · exact hJS233
      · exact hFS233
      · first | omega | ((try simp (disch := first | ((try simp (disch := first | ((try simp only [pn]) <;> omega) | fail) only [pn, pq]) <;> omega) | fail) only [pn, pq]) <;> (intros; (try simp (disch := first | ((try simp (disch := first | ((try simp only [pn]) <;> omega) | fail) only [pn, pq]) <;> omega) | fail) only [pn, pq]) <;> omega))
      · first | omega | ((try simp (disch := first | ((try simp (disch := first | ((try simp only [pn]) <;> omega) | fail) only [pn, pq]) <;> omega) | fail) only [pn, pq]) <;> (intros; (try simp (disch := first | ((try simp (disch := first | ((try simp only [pn]) <;> omega) | fail) only [pn, pq]) <;> omega) | fail) only [pn, pq]) <;> omega))
      · first | omega | ((try simp (disch := first | ((try simp (disch := first | ((try simp only [pn]) <;> omega) | fail) only [pn, pq]) <;> omega) | fail) only [pn, pq]) <;> (intros; (try simp (disch := first | ((try simp (disch := first | ((try simp only [pn]) <;> omega) | fail) only [pn, pq]) <;> omega) | fail) only [pn, pq]) <;> omega))
    · skip
      refine ⟨vin1, ?_⟩
      refine sf_X8_sign hJSq1.1 (fun r234  => ?_)
      have rgr234 := pt_rg r234
      refine ⟨vin1, ?_⟩
      refine sf_X9_sign hJSq1.2 (fun r236 u237 hJu237 hfu237  => ?_)
      have je352 : ((b9g_taped u237)).toInt = ((b9g_taped Sq1.2)).toInt := congrArg (fun z => (z).toInt) hfu237.2.2.2.2.2.2.1
      have rgr236 := pt_rg r236
      intro S238 eS238
      have hGS238 : F_L_law S S238 := trivial
      have hJS238 : J8 S238.1 ∧ J9 S238.2 := by rw [eS238]; exact ⟨hJSq1.1, hJu237⟩
      have hFS238 : F_L_law S S238 := hGS238
      have je353 : ((b4g_count (b8g_tape S238.1))).toInt = ((b4g_count (b8g_tape Sq1.1))).toInt := by rw [eS238]
      have jf354 := J4g_count (J8g_tape hJS238.1)
      have je355 : ((b9g_taped S238.2)).toInt = ((b9g_taped u237)).toInt := by rw [eS238]
      try simp (disch := first | ((try simp (disch := first | ((try simp only [pn]) <;> omega) | fail) only [pn, pq]) <;> omega) | fail) only [pn, pq] at je355
      have jf356 := J9g_taped hJS238.2
      unfold wp_L_law_1745
      refine ⟨_, ?_, ?_, ?_, ?_, ?_, ?_, rfl⟩
      · first | omega | ((try simp (disch := first | ((try simp (disch := first | ((try simp only [pn]) <;> omega) | fail) only [pn, pq]) <;> omega) | fail) only [pn, pq]) <;> (intros; (try simp (disch := first | ((try simp (disch := first | ((try simp only [pn]) <;> omega) | fail) only [pn, pq]) <;> omega) | fail) only [pn, pq]) <;> omega))
      · exact hJS238
      · exact hFS238
      · first | omega | ((try simp (disch := first | ((try simp (disch := first | ((try simp only [pn]) <;> omega) | fail) only [pn, pq]) <;> omega) | fail) only [pn, pq]) <;> (intros; (try simp (disch := first | ((try simp (disch := first | ((try simp only [pn]) <;> omega) | fail) only [pn, pq]) <;> omega) | fail) only [pn, pq]) <;> omega))
      · first | omega | ((try simp (disch := first | ((try simp (disch := first | ((try simp only [pn]) <;> omega) | fail) only [pn, pq]) <;> omega) | fail) only [pn, pq]) <;> (intros; (try simp (disch := first | ((try simp (disch := first | ((try simp only [pn]) <;> omega) | fail) only [pn, pq]) <;> omega) | fail) only [pn, pq]) <;> omega))
      · first | omega | ((try simp (disch := first | ((try simp (disch := first | ((try simp only [pn]) <;> omega) | fail) only [pn, pq]) <;> omega) | fail) only [pn, pq]) <;> (intros; (try simp (disch := first | ((try simp (disch := first | ((try simp only [pn]) <;> omega) | fail) only [pn, pq]) <;> omega) | fail) only [pn, pq]) <;> omega))
    · skip
      refine ⟨vin1, ?_⟩
      refine ⟨fun c239 => ?_, fun c239 => ?_⟩
      · try simp (disch := first | ((try simp (disch := first | ((try simp only [pn]) <;> omega) | fail) only [pn, pq]) <;> omega) | fail) only [pn, pq] at c239
        unfold wp_L_law_1697
        refine sf_X8_image hJSq1.1 (fun r240 u241 hJu241 hfu241 hzr240 hr240_0 => ?_)
        have je358 : ((b4g_count (b8g_tape u241))).toInt = ((b4g_count (b8g_tape Sq1.1))).toInt := congrArg (fun z => ((b4g_count z)).toInt) hfu241.2.2.1
        clear hr240_0
        intro S242 eS242
        have hGS242 : F_L_law S S242 := trivial
        have hJS242 : J8 S242.1 ∧ J9 S242.2 := by rw [eS242]; exact ⟨hJu241, hJSq1.2⟩
        have hFS242 : F_L_law S S242 := hGS242
        have je359 : ((b4g_count (b8g_tape S242.1))).toInt = ((b4g_count (b8g_tape u241))).toInt := by rw [eS242]
        try simp (disch := first | ((try simp (disch := first | ((try simp only [pn]) <;> omega) | fail) only [pn, pq]) <;> omega) | fail) only [pn, pq] at je359
        have jf360 := J4g_count (J8g_tape hJS242.1)
        have je361 : ((b9g_taped S242.2)).toInt = ((b9g_taped Sq1.2)).toInt := by rw [eS242]
        have jf362 := J9g_taped hJS242.2
        refine ⟨vin1, ?_⟩
        refine ⟨fun c243 => ?_, fun c243 => ?_⟩
        · try simp (disch := first | ((try simp (disch := first | ((try simp only [pn]) <;> omega) | fail) only [pn, pq]) <;> omega) | fail) only [pn, pq] at c243
          unfold wp_L_law_1715
          refine sf_X9_image hJS242.2 (fun r244 u245 hJu245 hfu245 hzr244 hr244_0 => ?_)
          have je364 : ((b9g_taped u245)).toInt = ((b9g_taped S242.2)).toInt := congrArg (fun z => (z).toInt) hfu245.2.2.2.1
          clear hr244_0
          intro S246 eS246
          have hGS246 : F_L_law S S246 := trivial
          have hJS246 : J8 S246.1 ∧ J9 S246.2 := by rw [eS246]; exact ⟨hJS242.1, hJu245⟩
          have hFS246 : F_L_law S S246 := hGS246
          have je365 : ((b4g_count (b8g_tape S246.1))).toInt = ((b4g_count (b8g_tape S242.1))).toInt := by rw [eS246]
          have jf366 := J4g_count (J8g_tape hJS246.1)
          have je367 : ((b9g_taped S246.2)).toInt = ((b9g_taped u245)).toInt := by rw [eS246]
          try simp (disch := first | ((try simp (disch := first | ((try simp only [pn]) <;> omega) | fail) only [pn, pq]) <;> omega) | fail) only [pn, pq] at je367
          have jf368 := J9g_taped hJS246.2
          unfold wp_L_law_1745
          refine ⟨_, ?_, ?_, ?_, ?_, ?_, ?_, rfl⟩
          · first | omega | ((try simp (disch := first | ((try simp (disch := first | ((try simp only [pn]) <;> omega) | fail) only [pn, pq]) <;> omega) | fail) only [pn, pq]) <;> (intros; (try simp (disch := first | ((try simp (disch := first | ((try simp only [pn]) <;> omega) | fail) only [pn, pq]) <;> omega) | fail) only [pn, pq]) <;> omega))
          · exact hJS246
          · exact hFS246
          · first | omega | ((try simp (disch := first | ((try simp (disch := first | ((try simp only [pn]) <;> omega) | fail) only [pn, pq]) <;> omega) | fail) only [pn, pq]) <;> (intros; (try simp (disch := first | ((try simp (disch := first | ((try simp only [pn]) <;> omega) | fail) only [pn, pq]) <;> omega) | fail) only [pn, pq]) <;> omega))
          · first | omega | ((try simp (disch := first | ((try simp (disch := first | ((try simp only [pn]) <;> omega) | fail) only [pn, pq]) <;> omega) | fail) only [pn, pq]) <;> (intros; (try simp (disch := first | ((try simp (disch := first | ((try simp only [pn]) <;> omega) | fail) only [pn, pq]) <;> omega) | fail) only [pn, pq]) <;> omega))
          · first | omega | ((try simp (disch := first | ((try simp (disch := first | ((try simp only [pn]) <;> omega) | fail) only [pn, pq]) <;> omega) | fail) only [pn, pq]) <;> (intros; (try simp (disch := first | ((try simp (disch := first | ((try simp only [pn]) <;> omega) | fail) only [pn, pq]) <;> omega) | fail) only [pn, pq]) <;> omega))
        · try simp (disch := first | ((try simp (disch := first | ((try simp only [pn]) <;> omega) | fail) only [pn, pq]) <;> omega) | fail) only [pn, pq] at c243
          unfold wp_L_law_1715
          refine sf_X9_image hJS242.2 (fun r247 u248 hJu248 hfu248 hzr247 hr247_0 => ?_)
          have je370 : ((b9g_taped u248)).toInt = ((b9g_taped S242.2)).toInt := congrArg (fun z => (z).toInt) hfu248.2.2.2.1
          clear hr247_0
          intro S249 eS249
          have hGS249 : F_L_law S S249 := trivial
          have hJS249 : J8 S249.1 ∧ J9 S249.2 := by rw [eS249]; exact ⟨hJS242.1, hJu248⟩
          have hFS249 : F_L_law S S249 := hGS249
          have je371 : ((b4g_count (b8g_tape S249.1))).toInt = ((b4g_count (b8g_tape S242.1))).toInt := by rw [eS249]
          have jf372 := J4g_count (J8g_tape hJS249.1)
          have je373 : ((b9g_taped S249.2)).toInt = ((b9g_taped u248)).toInt := by rw [eS249]
          try simp (disch := first | ((try simp (disch := first | ((try simp only [pn]) <;> omega) | fail) only [pn, pq]) <;> omega) | fail) only [pn, pq] at je373
          have jf374 := J9g_taped hJS249.2
          unfold wp_L_law_1745
          refine ⟨_, ?_, ?_, ?_, ?_, ?_, ?_, rfl⟩
          · first | omega | ((try simp (disch := first | ((try simp (disch := first | ((try simp only [pn]) <;> omega) | fail) only [pn, pq]) <;> omega) | fail) only [pn, pq]) <;> (intros; (try simp (disch := first | ((try simp (disch := first | ((try simp only [pn]) <;> omega) | fail) only [pn, pq]) <;> omega) | fail) only [pn, pq]) <;> omega))
          · exact hJS249
          · exact hFS249
          · first | omega | ((try simp (disch := first | ((try simp (disch := first | ((try simp only [pn]) <;> omega) | fail) only [pn, pq]) <;> omega) | fail) only [pn, pq]) <;> (intros; (try simp (disch := first | ((try simp (disch := first | ((try simp only [pn]) <;> omega) | fail) only [pn, pq]) <;> omega) | fail) only [pn, pq]) <;> omega))
          · first | omega | ((try simp (disch := first | ((try simp (disch := first | ((try simp only [pn]) <;> omega) | fail) only [pn, pq]) <;> omega) | fail) only [pn, pq]) <;> (intros; (try simp (disch := first | ((try simp (disch := first | ((try simp only [pn]) <;> omega) | fail) only [pn, pq]) <;> omega) | fail) only [pn, pq]) <;> omega))
          · first | omega | ((try simp (disch := first | ((try simp (disch := first | ((try simp only [pn]) <;> omega) | fail) only [pn, pq]) <;> omega) | fail) only [pn, pq]) <;> (intros; (try simp (disch := first | ((try simp (disch := first | ((try simp only [pn]) <;> omega) | fail) only [pn, pq]) <;> omega) | fail) only [pn, pq]) <;> omega))
      · try simp (disch := first | ((try simp (disch := first | ((try simp only [pn]) <;> omega) | fail) only [pn, pq]) <;> omega) | fail) only [pn, pq] at c239
        unfold wp_L_law_1697
        refine sf_X8_image hJSq1.1 (fun r250 u251 hJu251 hfu251 hzr250 hr250_0 => ?_)
        have je376 : ((b4g_count (b8g_tape u251))).toInt = ((b4g_count (b8g_tape Sq1.1))).toInt := congrArg (fun z => ((b4g_count z)).toInt) hfu251.2.2.1
        clear hr250_0
        intro S252 eS252
        have hGS252 : F_L_law S S252 := trivial
        have hJS252 : J8 S252.1 ∧ J9 S252.2 := by rw [eS252]; exact ⟨hJu251, hJSq1.2⟩
        have hFS252 : F_L_law S S252 := hGS252
        have je377 : ((b4g_count (b8g_tape S252.1))).toInt = ((b4g_count (b8g_tape u251))).toInt := by rw [eS252]
        try simp (disch := first | ((try simp (disch := first | ((try simp only [pn]) <;> omega) | fail) only [pn, pq]) <;> omega) | fail) only [pn, pq] at je377
        have jf378 := J4g_count (J8g_tape hJS252.1)
        have je379 : ((b9g_taped S252.2)).toInt = ((b9g_taped Sq1.2)).toInt := by rw [eS252]
        have jf380 := J9g_taped hJS252.2
        refine ⟨vin1, ?_⟩
        refine ⟨fun c253 => ?_, fun c253 => ?_⟩
        · try simp (disch := first | ((try simp (disch := first | ((try simp only [pn]) <;> omega) | fail) only [pn, pq]) <;> omega) | fail) only [pn, pq] at c253
          unfold wp_L_law_1715
          refine sf_X9_image hJS252.2 (fun r254 u255 hJu255 hfu255 hzr254 hr254_0 => ?_)
          have je382 : ((b9g_taped u255)).toInt = ((b9g_taped S252.2)).toInt := congrArg (fun z => (z).toInt) hfu255.2.2.2.1
          clear hr254_0
          intro S256 eS256
          have hGS256 : F_L_law S S256 := trivial
          have hJS256 : J8 S256.1 ∧ J9 S256.2 := by rw [eS256]; exact ⟨hJS252.1, hJu255⟩
          have hFS256 : F_L_law S S256 := hGS256
          have je383 : ((b4g_count (b8g_tape S256.1))).toInt = ((b4g_count (b8g_tape S252.1))).toInt := by rw [eS256]
          have jf384 := J4g_count (J8g_tape hJS256.1)
          have je385 : ((b9g_taped S256.2)).toInt = ((b9g_taped u255)).toInt := by rw [eS256]
          try simp (disch := first | ((try simp (disch := first | ((try simp only [pn]) <;> omega) | fail) only [pn, pq]) <;> omega) | fail) only [pn, pq] at je385
          have jf386 := J9g_taped hJS256.2
          unfold wp_L_law_1745
          refine ⟨_, ?_, ?_, ?_, ?_, ?_, ?_, rfl⟩
          · first | omega | ((try simp (disch := first | ((try simp (disch := first | ((try simp only [pn]) <;> omega) | fail) only [pn, pq]) <;> omega) | fail) only [pn, pq]) <;> (intros; (try simp (disch := first | ((try simp (disch := first | ((try simp only [pn]) <;> omega) | fail) only [pn, pq]) <;> omega) | fail) only [pn, pq]) <;> omega))
          · exact hJS256
          · exact hFS256
          · first | omega | ((try simp (disch := first | ((try simp (disch := first | ((try simp only [pn]) <;> omega) | fail) only [pn, pq]) <;> omega) | fail) only [pn, pq]) <;> (intros; (try simp (disch := first | ((try simp (disch := first | ((try simp only [pn]) <;> omega) | fail) only [pn, pq]) <;> omega) | fail) only [pn, pq]) <;> omega))
          · first | omega | ((try simp (disch := first | ((try simp (disch := first | ((try simp only [pn]) <;> omega) | fail) only [pn, pq]) <;> omega) | fail) only [pn, pq]) <;> (intros; (try simp (disch := first | ((try simp (disch := first | ((try simp only [pn]) <;> omega) | fail) only [pn, pq]) <;> omega) | fail) only [pn, pq]) <;> omega))
          · first | omega | ((try simp (disch := first | ((try simp (disch := first | ((try simp only [pn]) <;> omega) | fail) only [pn, pq]) <;> omega) | fail) only [pn, pq]) <;> (intros; (try simp (disch := first | ((try simp (disch := first | ((try simp only [pn]) <;> omega) | fail) only [pn, pq]) <;> omega) | fail) only [pn, pq]) <;> omega))
        · try simp (disch := first | ((try simp (disch := first | ((try simp only [pn]) <;> omega) | fail) only [pn, pq]) <;> omega) | fail) only [pn, pq] at c253
          unfold wp_L_law_1715
          refine sf_X9_image hJS252.2 (fun r257 u258 hJu258 hfu258 hzr257 hr257_0 => ?_)
          have je388 : ((b9g_taped u258)).toInt = ((b9g_taped S252.2)).toInt := congrArg (fun z => (z).toInt) hfu258.2.2.2.1
          clear hr257_0
          intro S259 eS259
          have hGS259 : F_L_law S S259 := trivial
          have hJS259 : J8 S259.1 ∧ J9 S259.2 := by rw [eS259]; exact ⟨hJS252.1, hJu258⟩
          have hFS259 : F_L_law S S259 := hGS259
          have je389 : ((b4g_count (b8g_tape S259.1))).toInt = ((b4g_count (b8g_tape S252.1))).toInt := by rw [eS259]
          have jf390 := J4g_count (J8g_tape hJS259.1)
          have je391 : ((b9g_taped S259.2)).toInt = ((b9g_taped u258)).toInt := by rw [eS259]
          try simp (disch := first | ((try simp (disch := first | ((try simp only [pn]) <;> omega) | fail) only [pn, pq]) <;> omega) | fail) only [pn, pq] at je391
          have jf392 := J9g_taped hJS259.2
          unfold wp_L_law_1745
          refine ⟨_, ?_, ?_, ?_, ?_, ?_, ?_, rfl⟩
          · first | omega | ((try simp (disch := first | ((try simp (disch := first | ((try simp only [pn]) <;> omega) | fail) only [pn, pq]) <;> omega) | fail) only [pn, pq]) <;> (intros; (try simp (disch := first | ((try simp (disch := first | ((try simp only [pn]) <;> omega) | fail) only [pn, pq]) <;> omega) | fail) only [pn, pq]) <;> omega))
          · exact hJS259
          · exact hFS259
          · first | omega | ((try simp (disch := first | ((try simp (disch := first | ((try simp only [pn]) <;> omega) | fail) only [pn, pq]) <;> omega) | fail) only [pn, pq]) <;> (intros; (try simp (disch := first | ((try simp (disch := first | ((try simp only [pn]) <;> omega) | fail) only [pn, pq]) <;> omega) | fail) only [pn, pq]) <;> omega))
          · first | omega | ((try simp (disch := first | ((try simp (disch := first | ((try simp only [pn]) <;> omega) | fail) only [pn, pq]) <;> omega) | fail) only [pn, pq]) <;> (intros; (try simp (disch := first | ((try simp (disch := first | ((try simp only [pn]) <;> omega) | fail) only [pn, pq]) <;> omega) | fail) only [pn, pq]) <;> omega))
          · first | omega | ((try simp (disch := first | ((try simp (disch := first | ((try simp only [pn]) <;> omega) | fail) only [pn, pq]) <;> omega) | fail) only [pn, pq]) <;> (intros; (try simp (disch := first | ((try simp (disch := first | ((try simp only [pn]) <;> omega) | fail) only [pn, pq]) <;> omega) | fail) only [pn, pq]) <;> omega))
    · skip
      refine ⟨vin1, ?_⟩
      refine sf_X8_look hJSq1.1 (fun r260  => ?_)
      have rgr260 := pt_rg r260
      refine ⟨vin1, ?_⟩
      refine sf_X9_look hJSq1.2 (fun r262 u263 hJu263 hfu263  => ?_)
      have je394 : ((b9g_taped u263)).toInt = ((b9g_taped Sq1.2)).toInt := congrArg (fun z => (z).toInt) hfu263.2.2.2.2.2.2.1
      have rgr262 := pt_rg r262
      intro S264 eS264
      have hGS264 : F_L_law S S264 := trivial
      have hJS264 : J8 S264.1 ∧ J9 S264.2 := by rw [eS264]; exact ⟨hJSq1.1, hJu263⟩
      have hFS264 : F_L_law S S264 := hGS264
      have je395 : ((b4g_count (b8g_tape S264.1))).toInt = ((b4g_count (b8g_tape Sq1.1))).toInt := by rw [eS264]
      have jf396 := J4g_count (J8g_tape hJS264.1)
      have je397 : ((b9g_taped S264.2)).toInt = ((b9g_taped u263)).toInt := by rw [eS264]
      try simp (disch := first | ((try simp (disch := first | ((try simp only [pn]) <;> omega) | fail) only [pn, pq]) <;> omega) | fail) only [pn, pq] at je397
      have jf398 := J9g_taped hJS264.2
      unfold wp_L_law_1745
      refine ⟨_, ?_, ?_, ?_, ?_, ?_, ?_, rfl⟩
      · first | omega | ((try simp (disch := first | ((try simp (disch := first | ((try simp only [pn]) <;> omega) | fail) only [pn, pq]) <;> omega) | fail) only [pn, pq]) <;> (intros; (try simp (disch := first | ((try simp (disch := first | ((try simp only [pn]) <;> omega) | fail) only [pn, pq]) <;> omega) | fail) only [pn, pq]) <;> omega))
      · exact hJS264
      · exact hFS264
      · first | omega | ((try simp (disch := first | ((try simp (disch := first | ((try simp only [pn]) <;> omega) | fail) only [pn, pq]) <;> omega) | fail) only [pn, pq]) <;> (intros; (try simp (disch := first | ((try simp (disch := first | ((try simp only [pn]) <;> omega) | fail) only [pn, pq]) <;> omega) | fail) only [pn, pq]) <;> omega))
      · first | omega | ((try simp (disch := first | ((try simp (disch := first | ((try simp only [pn]) <;> omega) | fail) only [pn, pq]) <;> omega) | fail) only [pn, pq]) <;> (intros; (try simp (disch := first | ((try simp (disch := first | ((try simp only [pn]) <;> omega) | fail) only [pn, pq]) <;> omega) | fail) only [pn, pq]) <;> omega))
      · first | omega | ((try simp (disch := first | ((try simp (disch := first | ((try simp only [pn]) <;> omega) | fail) only [pn, pq]) <;> omega) | fail) only [pn, pq]) <;> (intros; (try simp (disch := first | ((try simp (disch := first | ((try simp only [pn]) <;> omega) | fail) only [pn, pq]) <;> omega) | fail) only [pn, pq]) <;> omega))
