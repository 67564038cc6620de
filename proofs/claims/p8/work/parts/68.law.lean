def F_L_law (S u : bT8 × bT9) : Prop := True
set_option maxRecDepth 20000 in
set_option maxHeartbeats 40000000 in
theorem sf_law {L : Nat} {scr : Nat → Int32} (hL : L ≤ 3584) {S : bT8 × bT9} (hJ : J8 S.1 ∧ J9 S.2) (hR0 : LRF S.1 S.2) : wp_L_law L scr S 0 := by
  unfold wp_L_law
  have eL : (Int32.ofNat L).toInt = (L : Int) := nI_toInt (by omega)
  have hFS : F_L_law S S := trivial
  refine ⟨fun n x3q1 Sq1 => (J8 Sq1.1 ∧ J9 Sq1.2) ∧ (F_L_law S Sq1) ∧ (0 ≤ (x3q1).toInt) ∧ ((x3q1).toInt ≤ 4000) ∧ (LRF Sq1.1 Sq1.2) ∧ n = ((L : Int) + 8 - (x3q1).toInt).toNat, ⟨_, hJ, hFS, (by first | omega | ((try simp (disch := first | ((try simp (disch := first | ((try simp only [pn]) <;> omega) | fail) only [pn, pq]) <;> omega) | fail) only [pn, pq]) <;> (intros; (try simp (disch := first | ((try simp (disch := first | ((try simp only [pn]) <;> omega) | fail) only [pn, pq]) <;> omega) | fail) only [pn, pq]) <;> omega))), (by first | omega | ((try simp (disch := first | ((try simp (disch := first | ((try simp only [pn]) <;> omega) | fail) only [pn, pq]) <;> omega) | fail) only [pn, pq]) <;> (intros; (try simp (disch := first | ((try simp (disch := first | ((try simp only [pn]) <;> omega) | fail) only [pn, pq]) <;> omega) | fail) only [pn, pq]) <;> omega))), (by exact hR0), rfl⟩, ?_⟩
  rintro n2 x3q1 Sq1 ⟨hJSq1, hFSq1, hiq1_0, hiq1_1, hiq1_2, hn2⟩
  have rgx3q1 := pt_rg x3q1
  unfold wp_L_law_18b
  refine ⟨fun c3 => ?_, fun c3 => ?_⟩
  · try simp (disch := first | ((try simp (disch := first | ((try simp only [pn]) <;> omega) | fail) only [pn, pq]) <;> omega) | fail) only [pn, pq] at c3
    exact rfl
  · try simp (disch := first | ((try simp (disch := first | ((try simp only [pn]) <;> omega) | fail) only [pn, pq]) <;> omega) | fail) only [pn, pq] at c3
    refine ⟨pt_in (by first | omega | ((try simp (disch := first | ((try simp (disch := first | ((try simp only [pn]) <;> omega) | fail) only [pn, pq]) <;> omega) | fail) only [pn, pq]) <;> (intros; (try simp (disch := first | ((try simp (disch := first | ((try simp only [pn]) <;> omega) | fail) only [pn, pq]) <;> omega) | fail) only [pn, pq]) <;> omega))) (by first | omega | ((try simp (disch := first | ((try simp (disch := first | ((try simp only [pn]) <;> omega) | fail) only [pn, pq]) <;> omega) | fail) only [pn, pq]) <;> (intros; (try simp (disch := first | ((try simp (disch := first | ((try simp only [pn]) <;> omega) | fail) only [pn, pq]) <;> omega) | fail) only [pn, pq]) <;> omega))), ?_⟩
    have vin1 : vp_in (x3q1 + (1 : Int32)) L := pt_in (by first | omega | ((try simp (disch := first | ((try simp (disch := first | ((try simp only [pn]) <;> omega) | fail) only [pn, pq]) <;> omega) | fail) only [pn, pq]) <;> (intros; (try simp (disch := first | ((try simp (disch := first | ((try simp only [pn]) <;> omega) | fail) only [pn, pq]) <;> omega) | fail) only [pn, pq]) <;> omega))) (by first | omega | ((try simp (disch := first | ((try simp (disch := first | ((try simp only [pn]) <;> omega) | fail) only [pn, pq]) <;> omega) | fail) only [pn, pq]) <;> (intros; (try simp (disch := first | ((try simp (disch := first | ((try simp only [pn]) <;> omega) | fail) only [pn, pq]) <;> omega) | fail) only [pn, pq]) <;> omega)))
    have vin2 : vp_in (x3q1 + (2 : Int32)) L := pt_in (by first | omega | ((try simp (disch := first | ((try simp (disch := first | ((try simp only [pn]) <;> omega) | fail) only [pn, pq]) <;> omega) | fail) only [pn, pq]) <;> (intros; (try simp (disch := first | ((try simp (disch := first | ((try simp only [pn]) <;> omega) | fail) only [pn, pq]) <;> omega) | fail) only [pn, pq]) <;> omega))) (by first | omega | ((try simp (disch := first | ((try simp (disch := first | ((try simp only [pn]) <;> omega) | fail) only [pn, pq]) <;> omega) | fail) only [pn, pq]) <;> (intros; (try simp (disch := first | ((try simp (disch := first | ((try simp only [pn]) <;> omega) | fail) only [pn, pq]) <;> omega) | fail) only [pn, pq]) <;> omega)))
    have vin3 : vp_in (x3q1 + (3 : Int32)) L := pt_in (by first | omega | ((try simp (disch := first | ((try simp (disch := first | ((try simp only [pn]) <;> omega) | fail) only [pn, pq]) <;> omega) | fail) only [pn, pq]) <;> (intros; (try simp (disch := first | ((try simp (disch := first | ((try simp only [pn]) <;> omega) | fail) only [pn, pq]) <;> omega) | fail) only [pn, pq]) <;> omega))) (by first | omega | ((try simp (disch := first | ((try simp (disch := first | ((try simp only [pn]) <;> omega) | fail) only [pn, pq]) <;> omega) | fail) only [pn, pq]) <;> (intros; (try simp (disch := first | ((try simp (disch := first | ((try simp only [pn]) <;> omega) | fail) only [pn, pq]) <;> omega) | fail) only [pn, pq]) <;> omega)))
    have vin4 : vp_in (x3q1 + (4 : Int32)) L := pt_in (by first | omega | ((try simp (disch := first | ((try simp (disch := first | ((try simp only [pn]) <;> omega) | fail) only [pn, pq]) <;> omega) | fail) only [pn, pq]) <;> (intros; (try simp (disch := first | ((try simp (disch := first | ((try simp only [pn]) <;> omega) | fail) only [pn, pq]) <;> omega) | fail) only [pn, pq]) <;> omega))) (by first | omega | ((try simp (disch := first | ((try simp (disch := first | ((try simp only [pn]) <;> omega) | fail) only [pn, pq]) <;> omega) | fail) only [pn, pq]) <;> (intros; (try simp (disch := first | ((try simp (disch := first | ((try simp only [pn]) <;> omega) | fail) only [pn, pq]) <;> omega) | fail) only [pn, pq]) <;> omega)))
    have vin5 : vp_in (x3q1 + (5 : Int32)) L := pt_in (by first | omega | ((try simp (disch := first | ((try simp (disch := first | ((try simp only [pn]) <;> omega) | fail) only [pn, pq]) <;> omega) | fail) only [pn, pq]) <;> (intros; (try simp (disch := first | ((try simp (disch := first | ((try simp only [pn]) <;> omega) | fail) only [pn, pq]) <;> omega) | fail) only [pn, pq]) <;> omega))) (by first | omega | ((try simp (disch := first | ((try simp (disch := first | ((try simp only [pn]) <;> omega) | fail) only [pn, pq]) <;> omega) | fail) only [pn, pq]) <;> (intros; (try simp (disch := first | ((try simp (disch := first | ((try simp only [pn]) <;> omega) | fail) only [pn, pq]) <;> omega) | fail) only [pn, pq]) <;> omega)))
    have vin6 : vp_in (x3q1 + (6 : Int32)) L := pt_in (by first | omega | ((try simp (disch := first | ((try simp (disch := first | ((try simp only [pn]) <;> omega) | fail) only [pn, pq]) <;> omega) | fail) only [pn, pq]) <;> (intros; (try simp (disch := first | ((try simp (disch := first | ((try simp only [pn]) <;> omega) | fail) only [pn, pq]) <;> omega) | fail) only [pn, pq]) <;> omega))) (by first | omega | ((try simp (disch := first | ((try simp (disch := first | ((try simp only [pn]) <;> omega) | fail) only [pn, pq]) <;> omega) | fail) only [pn, pq]) <;> (intros; (try simp (disch := first | ((try simp (disch := first | ((try simp only [pn]) <;> omega) | fail) only [pn, pq]) <;> omega) | fail) only [pn, pq]) <;> omega)))
    refine ⟨fun c => ?_, fun c => ?_, fun c => ?_, fun c => ?_, fun c => ?_, fun c => ?_, fun c => ?_, fun c => ?_, fun c => ?_, fun c => ?_, fun c => ?_, fun c => ?_, fun c => ?_, fun c => ?_, fun c => ?_, fun c => ?_, fun c => ?_, fun c => ?_, fun c => ?_, fun c => ?_, fun c => ?_, fun c => ?_, fun c => ?_, fun c => ?_, fun c => ?_, fun c => ?_, fun c => ?_, fun c => ?_, fun c => ?_, fun c => ?_, fun c => ?_, fun c => ?_, fun c => ?_, fun c => ?_, fun c => ?_, fun c => ?_, fun c => ?_, fun c => ?_, fun c => ?_, fun c => ?_, fun c => ?_, fun c => ?_, fun c => ?_, fun c => ?_, fun c => ?_, fun c => ?_⟩
    · skip
      unfold wp_L_law_1745
      refine ⟨_, ?_, ?_, ?_, ?_, ?_, ?_, rfl⟩
      · first | omega | ((try simp (disch := first | ((try simp (disch := first | ((try simp only [pn]) <;> omega) | fail) only [pn, pq]) <;> omega) | fail) only [pn, pq]) <;> (intros; (try simp (disch := first | ((try simp (disch := first | ((try simp only [pn]) <;> omega) | fail) only [pn, pq]) <;> omega) | fail) only [pn, pq]) <;> omega))
      · exact hJSq1
      · exact hFSq1
      · first | omega | ((try simp (disch := first | ((try simp (disch := first | ((try simp only [pn]) <;> omega) | fail) only [pn, pq]) <;> omega) | fail) only [pn, pq]) <;> (intros; (try simp (disch := first | ((try simp (disch := first | ((try simp only [pn]) <;> omega) | fail) only [pn, pq]) <;> omega) | fail) only [pn, pq]) <;> omega))
      · first | omega | ((try simp (disch := first | ((try simp (disch := first | ((try simp only [pn]) <;> omega) | fail) only [pn, pq]) <;> omega) | fail) only [pn, pq]) <;> (intros; (try simp (disch := first | ((try simp (disch := first | ((try simp only [pn]) <;> omega) | fail) only [pn, pq]) <;> omega) | fail) only [pn, pq]) <;> omega))
      · exact hiq1_2
    · skip
      refine ⟨vin1, ?_⟩
      refine ⟨vin2, ?_⟩
      refine ⟨vin3, ?_⟩
      refine ⟨vin4, ?_⟩
      refine ⟨vin5, ?_⟩
      refine sf_X8_feed hJSq1.1 (fun r4 u5 hJu5 hfu5 hr4_0 hr4_1 hr4_2 hr4_3 => ?_)
      intro S6 eS6
      subst eS6
      have hJS6 : J8 u5 ∧ J9 Sq1.2 := ⟨hJu5, hJSq1.2⟩
      have hFS6 : True := trivial
      refine ⟨vin1, ?_⟩
      refine ⟨vin2, ?_⟩
      refine ⟨vin3, ?_⟩
      refine ⟨vin4, ?_⟩
      refine ⟨vin5, ?_⟩
      refine sf_X9_feed hJSq1.2 (fun r7 u8 hJu8 hfu8 hr7_0 hr7_1 hr7_2 hr7_3 => ?_)
      intro S9 eS9
      subst eS9
      have hJS9 : J8 u5 ∧ J9 u8 := ⟨hJu5, hJu8⟩
      have hFS9 : True := trivial
      have hRS9 := st_feed hJSq1.2 hiq1_2 hfu5 hr4_0 hr4_1 hr4_2 hr4_3 hfu8 hr7_0 hr7_1 hr7_2 hr7_3
      clear hfu5 hr4_0 hr4_1 hr4_2 hr4_3 hfu8 hr7_0 hr7_1 hr7_2 hr7_3
      unfold wp_L_law_1745
      refine ⟨_, ?_, ?_, ?_, ?_, ?_, ?_, rfl⟩
      · first | omega | ((try simp (disch := first | ((try simp (disch := first | ((try simp only [pn]) <;> omega) | fail) only [pn, pq]) <;> omega) | fail) only [pn, pq]) <;> (intros; (try simp (disch := first | ((try simp (disch := first | ((try simp only [pn]) <;> omega) | fail) only [pn, pq]) <;> omega) | fail) only [pn, pq]) <;> omega))
      · exact hJS9
      · exact hFS9
      · first | omega | ((try simp (disch := first | ((try simp (disch := first | ((try simp only [pn]) <;> omega) | fail) only [pn, pq]) <;> omega) | fail) only [pn, pq]) <;> (intros; (try simp (disch := first | ((try simp (disch := first | ((try simp only [pn]) <;> omega) | fail) only [pn, pq]) <;> omega) | fail) only [pn, pq]) <;> omega))
      · first | omega | ((try simp (disch := first | ((try simp (disch := first | ((try simp only [pn]) <;> omega) | fail) only [pn, pq]) <;> omega) | fail) only [pn, pq]) <;> (intros; (try simp (disch := first | ((try simp (disch := first | ((try simp only [pn]) <;> omega) | fail) only [pn, pq]) <;> omega) | fail) only [pn, pq]) <;> omega))
      · exact hRS9
    · skip
      refine ⟨vin1, ?_⟩
      refine sf_X8_end hJSq1.1 (fun r10 u11 hJu11 hfu11 hzr10 hr10_0 hr10_1 => ?_)
      intro S12 eS12
      subst eS12
      have hJS12 : J8 u11 ∧ J9 Sq1.2 := ⟨hJu11, hJSq1.2⟩
      have hFS12 : True := trivial
      refine ⟨vin1, ?_⟩
      refine sf_X9_end hJSq1.2 (fun r13 u14 hJu14 hfu14 hzr13 hr13_0 => ?_)
      intro S15 eS15
      subst eS15
      have hJS15 : J8 u11 ∧ J9 u14 := ⟨hJu11, hJu14⟩
      have hFS15 : True := trivial
      have hRS15 := st_end hJSq1.2 hiq1_2 hfu11 hr10_0 hr10_1 hfu14 hr13_0
      clear hfu11 hr10_0 hr10_1 hfu14 hr13_0
      unfold wp_L_law_1745
      refine ⟨_, ?_, ?_, ?_, ?_, ?_, ?_, rfl⟩
      · first | omega | ((try simp (disch := first | ((try simp (disch := first | ((try simp only [pn]) <;> omega) | fail) only [pn, pq]) <;> omega) | fail) only [pn, pq]) <;> (intros; (try simp (disch := first | ((try simp (disch := first | ((try simp only [pn]) <;> omega) | fail) only [pn, pq]) <;> omega) | fail) only [pn, pq]) <;> omega))
      · exact hJS15
      · exact hFS15
      · first | omega | ((try simp (disch := first | ((try simp (disch := first | ((try simp only [pn]) <;> omega) | fail) only [pn, pq]) <;> omega) | fail) only [pn, pq]) <;> (intros; (try simp (disch := first | ((try simp (disch := first | ((try simp only [pn]) <;> omega) | fail) only [pn, pq]) <;> omega) | fail) only [pn, pq]) <;> omega))
      · first | omega | ((try simp (disch := first | ((try simp (disch := first | ((try simp only [pn]) <;> omega) | fail) only [pn, pq]) <;> omega) | fail) only [pn, pq]) <;> (intros; (try simp (disch := first | ((try simp (disch := first | ((try simp only [pn]) <;> omega) | fail) only [pn, pq]) <;> omega) | fail) only [pn, pq]) <;> omega))
      · exact hRS15
    · skip
      refine sf_X8_mode hJSq1.1 (fun r16 u17 hJu17 hfu17 hr16_0 hr16_1 hr16_2 hr16_3 => ?_)
      intro S18 eS18
      subst eS18
      have hJS18 : J8 u17 ∧ J9 Sq1.2 := ⟨hJu17, hJSq1.2⟩
      have hFS18 : True := trivial
      refine sf_X9_mode hJSq1.2 (fun r19 u20 hJu20 hfu20 hr19_0 hr19_1 hr19_2 hr19_3 hr19_4 hr19_5 => ?_)
      intro S21 eS21
      subst eS21
      have hJS21 : J8 u17 ∧ J9 u20 := ⟨hJu17, hJu20⟩
      have hFS21 : True := trivial
      have hRS21 := st_mode hJSq1.2 hiq1_2 hfu17 hr16_0 hr16_1 hr16_2 hr16_3 hfu20 hr19_0 hr19_1 hr19_2 hr19_3 hr19_4 hr19_5
      clear hfu17 hr16_0 hr16_1 hr16_2 hr16_3 hfu20 hr19_0 hr19_1 hr19_2 hr19_3 hr19_4 hr19_5
      unfold wp_L_law_1745
      refine ⟨_, ?_, ?_, ?_, ?_, ?_, ?_, rfl⟩
      · first | omega | ((try simp (disch := first | ((try simp (disch := first | ((try simp only [pn]) <;> omega) | fail) only [pn, pq]) <;> omega) | fail) only [pn, pq]) <;> (intros; (try simp (disch := first | ((try simp (disch := first | ((try simp only [pn]) <;> omega) | fail) only [pn, pq]) <;> omega) | fail) only [pn, pq]) <;> omega))
      · exact hJS21
      · exact hFS21
      · first | omega | ((try simp (disch := first | ((try simp (disch := first | ((try simp only [pn]) <;> omega) | fail) only [pn, pq]) <;> omega) | fail) only [pn, pq]) <;> (intros; (try simp (disch := first | ((try simp (disch := first | ((try simp only [pn]) <;> omega) | fail) only [pn, pq]) <;> omega) | fail) only [pn, pq]) <;> omega))
      · first | omega | ((try simp (disch := first | ((try simp (disch := first | ((try simp only [pn]) <;> omega) | fail) only [pn, pq]) <;> omega) | fail) only [pn, pq]) <;> (intros; (try simp (disch := first | ((try simp (disch := first | ((try simp only [pn]) <;> omega) | fail) only [pn, pq]) <;> omega) | fail) only [pn, pq]) <;> omega))
      · exact hRS21
    · skip
      refine sf_X8_row hJSq1.1 (fun r22 u23 hJu23 hfu23 hr22_0 hr22_1 hr22_2 => ?_)
      intro S24 eS24
      subst eS24
      have hJS24 : J8 u23 ∧ J9 Sq1.2 := ⟨hJu23, hJSq1.2⟩
      have hFS24 : True := trivial
      refine sf_X9_row hJSq1.2 (fun r25 u26 hJu26 hfu26 hr25_0 hr25_1 => ?_)
      intro S27 eS27
      subst eS27
      have hJS27 : J8 u23 ∧ J9 u26 := ⟨hJu23, hJu26⟩
      have hFS27 : True := trivial
      have hRS27 := st_row hJSq1.2 hiq1_2 hfu23 hr22_0 hr22_1 hr22_2 hfu26 hr25_0 hr25_1
      clear hfu23 hr22_0 hr22_1 hr22_2 hfu26 hr25_0 hr25_1
      unfold wp_L_law_1745
      refine ⟨_, ?_, ?_, ?_, ?_, ?_, ?_, rfl⟩
      · first | omega | ((try simp (disch := first | ((try simp (disch := first | ((try simp only [pn]) <;> omega) | fail) only [pn, pq]) <;> omega) | fail) only [pn, pq]) <;> (intros; (try simp (disch := first | ((try simp (disch := first | ((try simp only [pn]) <;> omega) | fail) only [pn, pq]) <;> omega) | fail) only [pn, pq]) <;> omega))
      · exact hJS27
      · exact hFS27
      · first | omega | ((try simp (disch := first | ((try simp (disch := first | ((try simp only [pn]) <;> omega) | fail) only [pn, pq]) <;> omega) | fail) only [pn, pq]) <;> (intros; (try simp (disch := first | ((try simp (disch := first | ((try simp only [pn]) <;> omega) | fail) only [pn, pq]) <;> omega) | fail) only [pn, pq]) <;> omega))
      · first | omega | ((try simp (disch := first | ((try simp (disch := first | ((try simp only [pn]) <;> omega) | fail) only [pn, pq]) <;> omega) | fail) only [pn, pq]) <;> (intros; (try simp (disch := first | ((try simp (disch := first | ((try simp only [pn]) <;> omega) | fail) only [pn, pq]) <;> omega) | fail) only [pn, pq]) <;> omega))
      · exact hRS27
    · skip
      refine sf_X8_keys hJSq1.1 (fun r28 u29 hJu29 hfu29 hr28_0 hr28_1 hr28_2 => ?_)
      intro S30 eS30
      subst eS30
      have hJS30 : J8 u29 ∧ J9 Sq1.2 := ⟨hJu29, hJSq1.2⟩
      have hFS30 : True := trivial
      refine sf_X9_keys hJSq1.2 (fun r31 u32 hJu32 hfu32 hr31_0 hr31_1 hr31_2 hr31_3 hr31_4 hr31_5 => ?_)
      intro S33 eS33
      subst eS33
      have hJS33 : J8 u29 ∧ J9 u32 := ⟨hJu29, hJu32⟩
      have hFS33 : True := trivial
      have hRS33 := st_keys hJSq1.2 hiq1_2 hfu29 hr28_0 hr28_1 hr28_2 hfu32 hr31_0 hr31_1 hr31_2 hr31_3 hr31_4 hr31_5
      clear hfu29 hr28_0 hr28_1 hr28_2 hfu32 hr31_0 hr31_1 hr31_2 hr31_3 hr31_4 hr31_5
      unfold wp_L_law_1745
      refine ⟨_, ?_, ?_, ?_, ?_, ?_, ?_, rfl⟩
      · first | omega | ((try simp (disch := first | ((try simp (disch := first | ((try simp only [pn]) <;> omega) | fail) only [pn, pq]) <;> omega) | fail) only [pn, pq]) <;> (intros; (try simp (disch := first | ((try simp (disch := first | ((try simp only [pn]) <;> omega) | fail) only [pn, pq]) <;> omega) | fail) only [pn, pq]) <;> omega))
      · exact hJS33
      · exact hFS33
      · first | omega | ((try simp (disch := first | ((try simp (disch := first | ((try simp only [pn]) <;> omega) | fail) only [pn, pq]) <;> omega) | fail) only [pn, pq]) <;> (intros; (try simp (disch := first | ((try simp (disch := first | ((try simp only [pn]) <;> omega) | fail) only [pn, pq]) <;> omega) | fail) only [pn, pq]) <;> omega))
      · first | omega | ((try simp (disch := first | ((try simp (disch := first | ((try simp only [pn]) <;> omega) | fail) only [pn, pq]) <;> omega) | fail) only [pn, pq]) <;> (intros; (try simp (disch := first | ((try simp (disch := first | ((try simp only [pn]) <;> omega) | fail) only [pn, pq]) <;> omega) | fail) only [pn, pq]) <;> omega))
      · exact hRS33
    · skip
      refine ⟨vin1, ?_⟩
      refine ⟨vin2, ?_⟩
      refine sf_X8_set hJSq1.1 (fun r34 u35 hJu35 hfu35 hzr34 hr34_0 hr34_1 hr34_2 => ?_)
      intro S36 eS36
      subst eS36
      have hJS36 : J8 u35 ∧ J9 Sq1.2 := ⟨hJu35, hJSq1.2⟩
      have hFS36 : True := trivial
      refine ⟨vin1, ?_⟩
      refine ⟨vin2, ?_⟩
      refine sf_X9_set hJSq1.2 (fun r37 u38 hJu38 hfu38 hzr37 hr37_0 hr37_1 hr37_2 hr37_3 hr37_4 hr37_5 hr37_6 hr37_7 hr37_8 => ?_)
      intro S39 eS39
      subst eS39
      have hJS39 : J8 u35 ∧ J9 u38 := ⟨hJu35, hJu38⟩
      have hFS39 : True := trivial
      have hRS39 := st_set hJSq1.2 hiq1_2 hfu35 hr34_0 hr34_1 hr34_2 hfu38 hr37_0 hr37_1 hr37_2 hr37_3 hr37_4 hr37_5 hr37_6 hr37_7 hr37_8
      clear hfu35 hr34_0 hr34_1 hr34_2 hfu38 hr37_0 hr37_1 hr37_2 hr37_3 hr37_4 hr37_5 hr37_6 hr37_7 hr37_8
      unfold wp_L_law_1745
      refine ⟨_, ?_, ?_, ?_, ?_, ?_, ?_, rfl⟩
      · first | omega | ((try simp (disch := first | ((try simp (disch := first | ((try simp only [pn]) <;> omega) | fail) only [pn, pq]) <;> omega) | fail) only [pn, pq]) <;> (intros; (try simp (disch := first | ((try simp (disch := first | ((try simp only [pn]) <;> omega) | fail) only [pn, pq]) <;> omega) | fail) only [pn, pq]) <;> omega))
      · exact hJS39
      · exact hFS39
      · first | omega | ((try simp (disch := first | ((try simp (disch := first | ((try simp only [pn]) <;> omega) | fail) only [pn, pq]) <;> omega) | fail) only [pn, pq]) <;> (intros; (try simp (disch := first | ((try simp (disch := first | ((try simp only [pn]) <;> omega) | fail) only [pn, pq]) <;> omega) | fail) only [pn, pq]) <;> omega))
      · first | omega | ((try simp (disch := first | ((try simp (disch := first | ((try simp only [pn]) <;> omega) | fail) only [pn, pq]) <;> omega) | fail) only [pn, pq]) <;> (intros; (try simp (disch := first | ((try simp (disch := first | ((try simp only [pn]) <;> omega) | fail) only [pn, pq]) <;> omega) | fail) only [pn, pq]) <;> omega))
      · exact hRS39
    · skip
      refine ⟨vin1, ?_⟩
      refine sf_X8_state hJSq1.1 (fun r40 u41 hJu41 hfu41 hr40_0 hr40_1 => ?_)
      intro S42 eS42
      subst eS42
      have hJS42 : J8 u41 ∧ J9 Sq1.2 := ⟨hJu41, hJSq1.2⟩
      have hFS42 : True := trivial
      refine ⟨vin1, ?_⟩
      refine sf_X9_state hJSq1.2 (fun r43 u44 hJu44 hfu44 hr43_0 hr43_1 hr43_2 hr43_3 hr43_4 hr43_5 => ?_)
      intro S45 eS45
      subst eS45
      have hJS45 : J8 u41 ∧ J9 u44 := ⟨hJu41, hJu44⟩
      have hFS45 : True := trivial
      obtain ⟨hRS45, hcmp⟩ := st_state hJSq1.2 hiq1_2 hfu41 hr40_0 hr40_1 hfu44 hr43_0 hr43_1 hr43_2 hr43_3 hr43_4 hr43_5
      clear hfu41 hr40_0 hr40_1 hfu44 hr43_0 hr43_1 hr43_2 hr43_3 hr43_4 hr43_5
      refine ⟨fun c46 => ?_, fun c46 => ?_⟩
      · try simp (disch := first | ((try simp (disch := first | ((try simp only [pn]) <;> omega) | fail) only [pn, pq]) <;> omega) | fail) only [pn, pq] at c46
        unfold wp_L_law_1745
        refine ⟨_, ?_, ?_, ?_, ?_, ?_, ?_, rfl⟩
        · first | omega | ((try simp (disch := first | ((try simp (disch := first | ((try simp only [pn]) <;> omega) | fail) only [pn, pq]) <;> omega) | fail) only [pn, pq]) <;> (intros; (try simp (disch := first | ((try simp (disch := first | ((try simp only [pn]) <;> omega) | fail) only [pn, pq]) <;> omega) | fail) only [pn, pq]) <;> omega))
        · exact hJS45
        · exact hFS45
        · first | omega | ((try simp (disch := first | ((try simp (disch := first | ((try simp only [pn]) <;> omega) | fail) only [pn, pq]) <;> omega) | fail) only [pn, pq]) <;> (intros; (try simp (disch := first | ((try simp (disch := first | ((try simp only [pn]) <;> omega) | fail) only [pn, pq]) <;> omega) | fail) only [pn, pq]) <;> omega))
        · first | omega | ((try simp (disch := first | ((try simp (disch := first | ((try simp only [pn]) <;> omega) | fail) only [pn, pq]) <;> omega) | fail) only [pn, pq]) <;> (intros; (try simp (disch := first | ((try simp (disch := first | ((try simp only [pn]) <;> omega) | fail) only [pn, pq]) <;> omega) | fail) only [pn, pq]) <;> omega))
        · exact hRS45
      · try simp (disch := first | ((try simp (disch := first | ((try simp only [pn]) <;> omega) | fail) only [pn, pq]) <;> omega) | fail) only [pn, pq] at c46
        exfalso
        first | omega | ((try simp (disch := first | ((try simp (disch := first | ((try simp only [pn]) <;> omega) | fail) only [pn, pq]) <;> omega) | fail) only [pn, pq]) <;> (intros; (try simp (disch := first | ((try simp (disch := first | ((try simp only [pn]) <;> omega) | fail) only [pn, pq]) <;> omega) | fail) only [pn, pq]) <;> omega))
    · skip
      refine ⟨vin1, ?_⟩
      refine ⟨vin2, ?_⟩
      refine ⟨vin3, ?_⟩
      refine sf_X8_add hJSq1.1 (fun r47 u48 hJu48 hfu48 hr47_0 => ?_)
      intro S49 eS49
      subst eS49
      have hJS49 : J8 u48 ∧ J9 Sq1.2 := ⟨hJu48, hJSq1.2⟩
      have hFS49 : True := trivial
      refine ⟨vin1, ?_⟩
      refine ⟨vin2, ?_⟩
      refine ⟨vin3, ?_⟩
      refine sf_X9_add hJSq1.2 (fun r50 u51 hJu51 hfu51 hr50_0 hr50_1 hr50_2 hr50_3 hr50_4 => ?_)
      intro S52 eS52
      subst eS52
      have hJS52 : J8 u48 ∧ J9 u51 := ⟨hJu48, hJu51⟩
      have hFS52 : True := trivial
      have hRS52 := st_add hJSq1.2 hiq1_2 hfu48 hr47_0 hfu51 hr50_0 hr50_1 hr50_2 hr50_3 hr50_4
      clear hfu48 hr47_0 hfu51 hr50_0 hr50_1 hr50_2 hr50_3 hr50_4
      unfold wp_L_law_1745
      refine ⟨_, ?_, ?_, ?_, ?_, ?_, ?_, rfl⟩
      · first | omega | ((try simp (disch := first | ((try simp (disch := first | ((try simp only [pn]) <;> omega) | fail) only [pn, pq]) <;> omega) | fail) only [pn, pq]) <;> (intros; (try simp (disch := first | ((try simp (disch := first | ((try simp only [pn]) <;> omega) | fail) only [pn, pq]) <;> omega) | fail) only [pn, pq]) <;> omega))
      · exact hJS52
      · exact hFS52
      · first | omega | ((try simp (disch := first | ((try simp (disch := first | ((try simp only [pn]) <;> omega) | fail) only [pn, pq]) <;> omega) | fail) only [pn, pq]) <;> (intros; (try simp (disch := first | ((try simp (disch := first | ((try simp only [pn]) <;> omega) | fail) only [pn, pq]) <;> omega) | fail) only [pn, pq]) <;> omega))
      · first | omega | ((try simp (disch := first | ((try simp (disch := first | ((try simp only [pn]) <;> omega) | fail) only [pn, pq]) <;> omega) | fail) only [pn, pq]) <;> (intros; (try simp (disch := first | ((try simp (disch := first | ((try simp only [pn]) <;> omega) | fail) only [pn, pq]) <;> omega) | fail) only [pn, pq]) <;> omega))
      · exact hRS52
    · skip
      refine ⟨vin1, ?_⟩
      refine ⟨vin2, ?_⟩
      refine ⟨vin3, ?_⟩
      refine sf_X8_remove hJSq1.1 (fun r53 u54 hJu54 hfu54 hr53_0 hr53_1 => ?_)
      intro S55 eS55
      subst eS55
      have hJS55 : J8 u54 ∧ J9 Sq1.2 := ⟨hJu54, hJSq1.2⟩
      have hFS55 : True := trivial
      refine ⟨vin1, ?_⟩
      refine ⟨vin2, ?_⟩
      refine ⟨vin3, ?_⟩
      refine sf_X9_remove hJSq1.2 (fun r56 u57 hJu57 hfu57 hr56_0 hr56_1 hr56_2 hr56_3 hr56_4 hr56_5 => ?_)
      intro S58 eS58
      subst eS58
      have hJS58 : J8 u54 ∧ J9 u57 := ⟨hJu54, hJu57⟩
      have hFS58 : True := trivial
      have hRS58 := st_remove hJSq1.2 hiq1_2 hfu54 hr53_0 hr53_1 hfu57 hr56_0 hr56_1 hr56_2 hr56_3 hr56_4 hr56_5
      clear hfu54 hr53_0 hr53_1 hfu57 hr56_0 hr56_1 hr56_2 hr56_3 hr56_4 hr56_5
      unfold wp_L_law_1745
      refine ⟨_, ?_, ?_, ?_, ?_, ?_, ?_, rfl⟩
      · first | omega | ((try simp (disch := first | ((try simp (disch := first | ((try simp only [pn]) <;> omega) | fail) only [pn, pq]) <;> omega) | fail) only [pn, pq]) <;> (intros; (try simp (disch := first | ((try simp (disch := first | ((try simp only [pn]) <;> omega) | fail) only [pn, pq]) <;> omega) | fail) only [pn, pq]) <;> omega))
      · exact hJS58
      · exact hFS58
      · first | omega | ((try simp (disch := first | ((try simp (disch := first | ((try simp only [pn]) <;> omega) | fail) only [pn, pq]) <;> omega) | fail) only [pn, pq]) <;> (intros; (try simp (disch := first | ((try simp (disch := first | ((try simp only [pn]) <;> omega) | fail) only [pn, pq]) <;> omega) | fail) only [pn, pq]) <;> omega))
      · first | omega | ((try simp (disch := first | ((try simp (disch := first | ((try simp only [pn]) <;> omega) | fail) only [pn, pq]) <;> omega) | fail) only [pn, pq]) <;> (intros; (try simp (disch := first | ((try simp (disch := first | ((try simp only [pn]) <;> omega) | fail) only [pn, pq]) <;> omega) | fail) only [pn, pq]) <;> omega))
      · exact hRS58
    · skip
      refine ⟨vin1, ?_⟩
      refine ⟨vin2, ?_⟩
      refine sf_X8_fill hJSq1.1 (fun r59 u60 hJu60 hfu60 hr59_0 hr59_1 => ?_)
      intro S61 eS61
      subst eS61
      have hJS61 : J8 u60 ∧ J9 Sq1.2 := ⟨hJu60, hJSq1.2⟩
      have hFS61 : True := trivial
      refine ⟨vin1, ?_⟩
      refine ⟨vin2, ?_⟩
      refine sf_X9_fill hJSq1.2 (fun r62 u63 hJu63 hfu63 hr62_0 hr62_1 hr62_2 hr62_3 hr62_4 => ?_)
      intro S64 eS64
      subst eS64
      have hJS64 : J8 u60 ∧ J9 u63 := ⟨hJu60, hJu63⟩
      have hFS64 : True := trivial
      have hRS64 := st_fill hJSq1.2 hiq1_2 hfu60 hr59_0 hr59_1 hfu63 hr62_0 hr62_1 hr62_2 hr62_3 hr62_4
      clear hfu60 hr59_0 hr59_1 hfu63 hr62_0 hr62_1 hr62_2 hr62_3 hr62_4
      unfold wp_L_law_1745
      refine ⟨_, ?_, ?_, ?_, ?_, ?_, ?_, rfl⟩
      · first | omega | ((try simp (disch := first | ((try simp (disch := first | ((try simp only [pn]) <;> omega) | fail) only [pn, pq]) <;> omega) | fail) only [pn, pq]) <;> (intros; (try simp (disch := first | ((try simp (disch := first | ((try simp only [pn]) <;> omega) | fail) only [pn, pq]) <;> omega) | fail) only [pn, pq]) <;> omega))
      · exact hJS64
      · exact hFS64
      · first | omega | ((try simp (disch := first | ((try simp (disch := first | ((try simp only [pn]) <;> omega) | fail) only [pn, pq]) <;> omega) | fail) only [pn, pq]) <;> (intros; (try simp (disch := first | ((try simp (disch := first | ((try simp only [pn]) <;> omega) | fail) only [pn, pq]) <;> omega) | fail) only [pn, pq]) <;> omega))
      · first | omega | ((try simp (disch := first | ((try simp (disch := first | ((try simp only [pn]) <;> omega) | fail) only [pn, pq]) <;> omega) | fail) only [pn, pq]) <;> (intros; (try simp (disch := first | ((try simp (disch := first | ((try simp only [pn]) <;> omega) | fail) only [pn, pq]) <;> omega) | fail) only [pn, pq]) <;> omega))
      · exact hRS64
    · skip
      refine sf_X8_build hJSq1.1 (fun r65 u66 hJu66 hfu66 hr65_0 hr65_1 hr65_2 => ?_)
      intro S67 eS67
      subst eS67
      have hJS67 : J8 u66 ∧ J9 Sq1.2 := ⟨hJu66, hJSq1.2⟩
      have hFS67 : True := trivial
      refine sf_X9_build hJSq1.2 (fun r68 u69 hJu69 hfu69 hr68_0 hr68_1 hr68_2 hr68_3 hr68_4 hr68_5 hr68_6 hr68_7 hr68_8 hr68_9 hr68_10 => ?_)
      intro S70 eS70
      subst eS70
      have hJS70 : J8 u66 ∧ J9 u69 := ⟨hJu66, hJu69⟩
      have hFS70 : True := trivial
      have hRS70 := st_build hJSq1.2 hiq1_2 hfu66 hr65_0 hr65_1 hr65_2 hfu69 hr68_0 hr68_1 hr68_2 hr68_3 hr68_4 hr68_5 hr68_6 hr68_7 hr68_8 hr68_9 hr68_10
      clear hfu66 hr65_0 hr65_1 hr65_2 hfu69 hr68_0 hr68_1 hr68_2 hr68_3 hr68_4 hr68_5 hr68_6 hr68_7 hr68_8 hr68_9 hr68_10
      unfold wp_L_law_1745
      refine ⟨_, ?_, ?_, ?_, ?_, ?_, ?_, rfl⟩
      · first | omega | ((try simp (disch := first | ((try simp (disch := first | ((try simp only [pn]) <;> omega) | fail) only [pn, pq]) <;> omega) | fail) only [pn, pq]) <;> (intros; (try simp (disch := first | ((try simp (disch := first | ((try simp only [pn]) <;> omega) | fail) only [pn, pq]) <;> omega) | fail) only [pn, pq]) <;> omega))
      · exact hJS70
      · exact hFS70
      · first | omega | ((try simp (disch := first | ((try simp (disch := first | ((try simp only [pn]) <;> omega) | fail) only [pn, pq]) <;> omega) | fail) only [pn, pq]) <;> (intros; (try simp (disch := first | ((try simp (disch := first | ((try simp only [pn]) <;> omega) | fail) only [pn, pq]) <;> omega) | fail) only [pn, pq]) <;> omega))
      · first | omega | ((try simp (disch := first | ((try simp (disch := first | ((try simp only [pn]) <;> omega) | fail) only [pn, pq]) <;> omega) | fail) only [pn, pq]) <;> (intros; (try simp (disch := first | ((try simp (disch := first | ((try simp only [pn]) <;> omega) | fail) only [pn, pq]) <;> omega) | fail) only [pn, pq]) <;> omega))
      · exact hRS70
    · skip
      refine ⟨vin1, ?_⟩
      refine ⟨vin2, ?_⟩
      refine ⟨vin3, ?_⟩
      refine ⟨vin4, ?_⟩
      refine sf_X8_has hJSq1.1 (fun r71 hr71_0 hr71_1 hr71_2 => ?_)
      refine ⟨vin1, ?_⟩
      refine ⟨vin2, ?_⟩
      refine ⟨vin3, ?_⟩
      refine ⟨vin4, ?_⟩
      refine sf_X9_has hJSq1.2 (fun r73 u74 hJu74 hfu74 hr73_0 hr73_1 hr73_2 => ?_)
      intro S75 eS75
      subst eS75
      have hJS75 : J8 Sq1.1 ∧ J9 u74 := ⟨hJSq1.1, hJu74⟩
      have hFS75 : True := trivial
      have hRS75 := st_has hJSq1.2 hiq1_2 hr71_0 hr71_1 hr71_2 hfu74 hr73_0 hr73_1 hr73_2
      clear hr71_0 hr71_1 hr71_2 hfu74 hr73_0 hr73_1 hr73_2
      unfold wp_L_law_1745
      refine ⟨_, ?_, ?_, ?_, ?_, ?_, ?_, rfl⟩
      · first | omega | ((try simp (disch := first | ((try simp (disch := first | ((try simp only [pn]) <;> omega) | fail) only [pn, pq]) <;> omega) | fail) only [pn, pq]) <;> (intros; (try simp (disch := first | ((try simp (disch := first | ((try simp only [pn]) <;> omega) | fail) only [pn, pq]) <;> omega) | fail) only [pn, pq]) <;> omega))
      · exact hJS75
      · exact hFS75
      · first | omega | ((try simp (disch := first | ((try simp (disch := first | ((try simp only [pn]) <;> omega) | fail) only [pn, pq]) <;> omega) | fail) only [pn, pq]) <;> (intros; (try simp (disch := first | ((try simp (disch := first | ((try simp only [pn]) <;> omega) | fail) only [pn, pq]) <;> omega) | fail) only [pn, pq]) <;> omega))
      · first | omega | ((try simp (disch := first | ((try simp (disch := first | ((try simp only [pn]) <;> omega) | fail) only [pn, pq]) <;> omega) | fail) only [pn, pq]) <;> (intros; (try simp (disch := first | ((try simp (disch := first | ((try simp only [pn]) <;> omega) | fail) only [pn, pq]) <;> omega) | fail) only [pn, pq]) <;> omega))
      · exact hRS75
    · skip
      refine ⟨vin1, ?_⟩
      refine ⟨vin2, ?_⟩
      refine ⟨vin3, ?_⟩
      refine sf_X8_may hJSq1.1 (fun r76 u77 hJu77 hfu77 hr76_0 => ?_)
      intro S78 eS78
      subst eS78
      have hJS78 : J8 u77 ∧ J9 Sq1.2 := ⟨hJu77, hJSq1.2⟩
      have hFS78 : True := trivial
      refine ⟨vin1, ?_⟩
      refine ⟨vin2, ?_⟩
      refine ⟨vin3, ?_⟩
      refine sf_X9_may hJSq1.2 (fun r79 u80 hJu80 hfu80 hr79_0 hr79_1 hr79_2 hr79_3 hr79_4 => ?_)
      intro S81 eS81
      subst eS81
      have hJS81 : J8 u77 ∧ J9 u80 := ⟨hJu77, hJu80⟩
      have hFS81 : True := trivial
      have hRS81 := st_may hJSq1.2 hiq1_2 hfu77 hr76_0 hfu80 hr79_0 hr79_1 hr79_2 hr79_3 hr79_4
      clear hfu77 hr76_0 hfu80 hr79_0 hr79_1 hr79_2 hr79_3 hr79_4
      unfold wp_L_law_1745
      refine ⟨_, ?_, ?_, ?_, ?_, ?_, ?_, rfl⟩
      · first | omega | ((try simp (disch := first | ((try simp (disch := first | ((try simp only [pn]) <;> omega) | fail) only [pn, pq]) <;> omega) | fail) only [pn, pq]) <;> (intros; (try simp (disch := first | ((try simp (disch := first | ((try simp only [pn]) <;> omega) | fail) only [pn, pq]) <;> omega) | fail) only [pn, pq]) <;> omega))
      · exact hJS81
      · exact hFS81
      · first | omega | ((try simp (disch := first | ((try simp (disch := first | ((try simp only [pn]) <;> omega) | fail) only [pn, pq]) <;> omega) | fail) only [pn, pq]) <;> (intros; (try simp (disch := first | ((try simp (disch := first | ((try simp only [pn]) <;> omega) | fail) only [pn, pq]) <;> omega) | fail) only [pn, pq]) <;> omega))
      · first | omega | ((try simp (disch := first | ((try simp (disch := first | ((try simp only [pn]) <;> omega) | fail) only [pn, pq]) <;> omega) | fail) only [pn, pq]) <;> (intros; (try simp (disch := first | ((try simp (disch := first | ((try simp only [pn]) <;> omega) | fail) only [pn, pq]) <;> omega) | fail) only [pn, pq]) <;> omega))
      · exact hRS81
    · skip
      refine ⟨vin1, ?_⟩
      refine ⟨vin2, ?_⟩
      refine ⟨vin3, ?_⟩
      refine sf_X8_leafOf hJSq1.1 (fun r82 hr82_0 => ?_)
      refine ⟨vin1, ?_⟩
      refine ⟨vin2, ?_⟩
      refine ⟨vin3, ?_⟩
      refine sf_X9_leafOf hJSq1.2 (fun r84 u85 hJu85 hfu85 hr84_0 => ?_)
      intro S86 eS86
      subst eS86
      have hJS86 : J8 Sq1.1 ∧ J9 u85 := ⟨hJSq1.1, hJu85⟩
      have hFS86 : True := trivial
      have hRS86 := st_leafOf hJSq1.2 hiq1_2 hr82_0 hfu85 hr84_0
      clear hr82_0 hfu85 hr84_0
      unfold wp_L_law_1745
      refine ⟨_, ?_, ?_, ?_, ?_, ?_, ?_, rfl⟩
      · first | omega | ((try simp (disch := first | ((try simp (disch := first | ((try simp only [pn]) <;> omega) | fail) only [pn, pq]) <;> omega) | fail) only [pn, pq]) <;> (intros; (try simp (disch := first | ((try simp (disch := first | ((try simp only [pn]) <;> omega) | fail) only [pn, pq]) <;> omega) | fail) only [pn, pq]) <;> omega))
      · exact hJS86
      · exact hFS86
      · first | omega | ((try simp (disch := first | ((try simp (disch := first | ((try simp only [pn]) <;> omega) | fail) only [pn, pq]) <;> omega) | fail) only [pn, pq]) <;> (intros; (try simp (disch := first | ((try simp (disch := first | ((try simp only [pn]) <;> omega) | fail) only [pn, pq]) <;> omega) | fail) only [pn, pq]) <;> omega))
      · first | omega | ((try simp (disch := first | ((try simp (disch := first | ((try simp only [pn]) <;> omega) | fail) only [pn, pq]) <;> omega) | fail) only [pn, pq]) <;> (intros; (try simp (disch := first | ((try simp (disch := first | ((try simp only [pn]) <;> omega) | fail) only [pn, pq]) <;> omega) | fail) only [pn, pq]) <;> omega))
      · exact hRS86
    · skip
      refine ⟨vin1, ?_⟩
      refine ⟨vin2, ?_⟩
      refine ⟨vin3, ?_⟩
      refine ⟨vin4, ?_⟩
      refine ⟨vin5, ?_⟩
      refine ⟨vin6, ?_⟩
      refine sf_X8_range hJSq1.1 (fun r87 u88 hJu88 hfu88 hr87_0 => ?_)
      intro S89 eS89
      subst eS89
      have hJS89 : J8 u88 ∧ J9 Sq1.2 := ⟨hJu88, hJSq1.2⟩
      have hFS89 : True := trivial
      refine ⟨vin1, ?_⟩
      refine ⟨vin2, ?_⟩
      refine ⟨vin3, ?_⟩
      refine ⟨vin4, ?_⟩
      refine ⟨vin5, ?_⟩
      refine ⟨vin6, ?_⟩
      refine sf_X9_range hJSq1.2 (fun r90 u91 hJu91 hfu91 hr90_0 hr90_1 hr90_2 hr90_3 hr90_4 hr90_5 => ?_)
      intro S92 eS92
      subst eS92
      have hJS92 : J8 u88 ∧ J9 u91 := ⟨hJu88, hJu91⟩
      have hFS92 : True := trivial
      have hRS92 := st_range hJSq1.2 hiq1_2 hfu88 hr87_0 hfu91 hr90_0 hr90_1 hr90_2 hr90_3 hr90_4 hr90_5
      clear hfu88 hr87_0 hfu91 hr90_0 hr90_1 hr90_2 hr90_3 hr90_4 hr90_5
      unfold wp_L_law_1745
      refine ⟨_, ?_, ?_, ?_, ?_, ?_, ?_, rfl⟩
      · first | omega | ((try simp (disch := first | ((try simp (disch := first | ((try simp only [pn]) <;> omega) | fail) only [pn, pq]) <;> omega) | fail) only [pn, pq]) <;> (intros; (try simp (disch := first | ((try simp (disch := first | ((try simp only [pn]) <;> omega) | fail) only [pn, pq]) <;> omega) | fail) only [pn, pq]) <;> omega))
      · exact hJS92
      · exact hFS92
      · first | omega | ((try simp (disch := first | ((try simp (disch := first | ((try simp only [pn]) <;> omega) | fail) only [pn, pq]) <;> omega) | fail) only [pn, pq]) <;> (intros; (try simp (disch := first | ((try simp (disch := first | ((try simp only [pn]) <;> omega) | fail) only [pn, pq]) <;> omega) | fail) only [pn, pq]) <;> omega))
      · first | omega | ((try simp (disch := first | ((try simp (disch := first | ((try simp only [pn]) <;> omega) | fail) only [pn, pq]) <;> omega) | fail) only [pn, pq]) <;> (intros; (try simp (disch := first | ((try simp (disch := first | ((try simp only [pn]) <;> omega) | fail) only [pn, pq]) <;> omega) | fail) only [pn, pq]) <;> omega))
      · exact hRS92
    · skip
      refine ⟨vin1, ?_⟩
      refine ⟨vin2, ?_⟩
      refine ⟨vin3, ?_⟩
      refine ⟨vin4, ?_⟩
      refine ⟨vin5, ?_⟩
      refine ⟨vin6, ?_⟩
      refine sf_X8_meets hJSq1.1 (fun r93 hr93_0 => ?_)
      refine ⟨vin1, ?_⟩
      refine ⟨vin2, ?_⟩
      refine ⟨vin3, ?_⟩
      refine ⟨vin4, ?_⟩
      refine ⟨vin5, ?_⟩
      refine ⟨vin6, ?_⟩
      refine sf_X9_meets hJSq1.2 (fun r95 u96 hJu96 hfu96 hr95_0 => ?_)
      intro S97 eS97
      subst eS97
      have hJS97 : J8 Sq1.1 ∧ J9 u96 := ⟨hJSq1.1, hJu96⟩
      have hFS97 : True := trivial
      have hRS97 := st_meets hJSq1.2 hiq1_2 hr93_0 hfu96 hr95_0
      clear hr93_0 hfu96 hr95_0
      unfold wp_L_law_1745
      refine ⟨_, ?_, ?_, ?_, ?_, ?_, ?_, rfl⟩
      · first | omega | ((try simp (disch := first | ((try simp (disch := first | ((try simp only [pn]) <;> omega) | fail) only [pn, pq]) <;> omega) | fail) only [pn, pq]) <;> (intros; (try simp (disch := first | ((try simp (disch := first | ((try simp only [pn]) <;> omega) | fail) only [pn, pq]) <;> omega) | fail) only [pn, pq]) <;> omega))
      · exact hJS97
      · exact hFS97
      · first | omega | ((try simp (disch := first | ((try simp (disch := first | ((try simp only [pn]) <;> omega) | fail) only [pn, pq]) <;> omega) | fail) only [pn, pq]) <;> (intros; (try simp (disch := first | ((try simp (disch := first | ((try simp only [pn]) <;> omega) | fail) only [pn, pq]) <;> omega) | fail) only [pn, pq]) <;> omega))
      · first | omega | ((try simp (disch := first | ((try simp (disch := first | ((try simp only [pn]) <;> omega) | fail) only [pn, pq]) <;> omega) | fail) only [pn, pq]) <;> (intros; (try simp (disch := first | ((try simp (disch := first | ((try simp only [pn]) <;> omega) | fail) only [pn, pq]) <;> omega) | fail) only [pn, pq]) <;> omega))
      · exact hRS97
    · skip
      refine ⟨vin1, ?_⟩
      refine ⟨vin2, ?_⟩
      refine ⟨vin3, ?_⟩
      refine ⟨vin4, ?_⟩
      refine ⟨vin5, ?_⟩
      refine ⟨vin6, ?_⟩
      refine sf_X8_holds hJSq1.1 (fun r98 hr98_0 => ?_)
      refine ⟨vin1, ?_⟩
      refine ⟨vin2, ?_⟩
      refine ⟨vin3, ?_⟩
      refine ⟨vin4, ?_⟩
      refine ⟨vin5, ?_⟩
      refine ⟨vin6, ?_⟩
      refine sf_X9_holds hJSq1.2 (fun r100 u101 hJu101 hfu101 hr100_0 => ?_)
      intro S102 eS102
      subst eS102
      have hJS102 : J8 Sq1.1 ∧ J9 u101 := ⟨hJSq1.1, hJu101⟩
      have hFS102 : True := trivial
      have hRS102 := st_holds hJSq1.2 hiq1_2 hr98_0 hfu101 hr100_0
      clear hr98_0 hfu101 hr100_0
      unfold wp_L_law_1745
      refine ⟨_, ?_, ?_, ?_, ?_, ?_, ?_, rfl⟩
      · first | omega | ((try simp (disch := first | ((try simp (disch := first | ((try simp only [pn]) <;> omega) | fail) only [pn, pq]) <;> omega) | fail) only [pn, pq]) <;> (intros; (try simp (disch := first | ((try simp (disch := first | ((try simp only [pn]) <;> omega) | fail) only [pn, pq]) <;> omega) | fail) only [pn, pq]) <;> omega))
      · exact hJS102
      · exact hFS102
      · first | omega | ((try simp (disch := first | ((try simp (disch := first | ((try simp only [pn]) <;> omega) | fail) only [pn, pq]) <;> omega) | fail) only [pn, pq]) <;> (intros; (try simp (disch := first | ((try simp (disch := first | ((try simp only [pn]) <;> omega) | fail) only [pn, pq]) <;> omega) | fail) only [pn, pq]) <;> omega))
      · first | omega | ((try simp (disch := first | ((try simp (disch := first | ((try simp only [pn]) <;> omega) | fail) only [pn, pq]) <;> omega) | fail) only [pn, pq]) <;> (intros; (try simp (disch := first | ((try simp (disch := first | ((try simp only [pn]) <;> omega) | fail) only [pn, pq]) <;> omega) | fail) only [pn, pq]) <;> omega))
      · exact hRS102
    · skip
      refine ⟨vin1, ?_⟩
      refine ⟨vin2, ?_⟩
      refine ⟨vin3, ?_⟩
      refine sf_X8_seek hJSq1.1 (fun r103 hr103_0 => ?_)
      refine ⟨vin1, ?_⟩
      refine ⟨vin2, ?_⟩
      refine ⟨vin3, ?_⟩
      refine sf_X9_seek hJSq1.2 (fun r105 u106 hJu106 hfu106 hr105_0 => ?_)
      intro S107 eS107
      subst eS107
      have hJS107 : J8 Sq1.1 ∧ J9 u106 := ⟨hJSq1.1, hJu106⟩
      have hFS107 : True := trivial
      have hRS107 := st_seek hJSq1.2 hiq1_2 hr103_0 hfu106 hr105_0
      clear hr103_0 hfu106 hr105_0
      unfold wp_L_law_1745
      refine ⟨_, ?_, ?_, ?_, ?_, ?_, ?_, rfl⟩
      · first | omega | ((try simp (disch := first | ((try simp (disch := first | ((try simp only [pn]) <;> omega) | fail) only [pn, pq]) <;> omega) | fail) only [pn, pq]) <;> (intros; (try simp (disch := first | ((try simp (disch := first | ((try simp only [pn]) <;> omega) | fail) only [pn, pq]) <;> omega) | fail) only [pn, pq]) <;> omega))
      · exact hJS107
      · exact hFS107
      · first | omega | ((try simp (disch := first | ((try simp (disch := first | ((try simp only [pn]) <;> omega) | fail) only [pn, pq]) <;> omega) | fail) only [pn, pq]) <;> (intros; (try simp (disch := first | ((try simp (disch := first | ((try simp only [pn]) <;> omega) | fail) only [pn, pq]) <;> omega) | fail) only [pn, pq]) <;> omega))
      · first | omega | ((try simp (disch := first | ((try simp (disch := first | ((try simp only [pn]) <;> omega) | fail) only [pn, pq]) <;> omega) | fail) only [pn, pq]) <;> (intros; (try simp (disch := first | ((try simp (disch := first | ((try simp only [pn]) <;> omega) | fail) only [pn, pq]) <;> omega) | fail) only [pn, pq]) <;> omega))
      · exact hRS107
    · skip
      refine ⟨vin1, ?_⟩
      refine ⟨vin2, ?_⟩
      refine ⟨vin3, ?_⟩
      refine sf_X8_seekBack hJSq1.1 (fun r108 hr108_0 => ?_)
      refine ⟨vin1, ?_⟩
      refine ⟨vin2, ?_⟩
      refine ⟨vin3, ?_⟩
      refine sf_X9_seekBack hJSq1.2 (fun r110 u111 hJu111 hfu111 hr110_0 => ?_)
      intro S112 eS112
      subst eS112
      have hJS112 : J8 Sq1.1 ∧ J9 u111 := ⟨hJSq1.1, hJu111⟩
      have hFS112 : True := trivial
      have hRS112 := st_seekBack hJSq1.2 hiq1_2 hr108_0 hfu111 hr110_0
      clear hr108_0 hfu111 hr110_0
      unfold wp_L_law_1745
      refine ⟨_, ?_, ?_, ?_, ?_, ?_, ?_, rfl⟩
      · first | omega | ((try simp (disch := first | ((try simp (disch := first | ((try simp only [pn]) <;> omega) | fail) only [pn, pq]) <;> omega) | fail) only [pn, pq]) <;> (intros; (try simp (disch := first | ((try simp (disch := first | ((try simp only [pn]) <;> omega) | fail) only [pn, pq]) <;> omega) | fail) only [pn, pq]) <;> omega))
      · exact hJS112
      · exact hFS112
      · first | omega | ((try simp (disch := first | ((try simp (disch := first | ((try simp only [pn]) <;> omega) | fail) only [pn, pq]) <;> omega) | fail) only [pn, pq]) <;> (intros; (try simp (disch := first | ((try simp (disch := first | ((try simp only [pn]) <;> omega) | fail) only [pn, pq]) <;> omega) | fail) only [pn, pq]) <;> omega))
      · first | omega | ((try simp (disch := first | ((try simp (disch := first | ((try simp only [pn]) <;> omega) | fail) only [pn, pq]) <;> omega) | fail) only [pn, pq]) <;> (intros; (try simp (disch := first | ((try simp (disch := first | ((try simp only [pn]) <;> omega) | fail) only [pn, pq]) <;> omega) | fail) only [pn, pq]) <;> omega))
      · exact hRS112
    · skip
      refine ⟨vin1, ?_⟩
      refine ⟨vin2, ?_⟩
      refine sf_X8_leaf hJSq1.1 (fun r113  => ?_)
      refine ⟨vin1, ?_⟩
      refine ⟨vin2, ?_⟩
      refine sf_X9_leaf hJSq1.2 (fun r115 u116 hJu116 hfu116  => ?_)
      intro S117 eS117
      subst eS117
      have hJS117 : J8 Sq1.1 ∧ J9 u116 := ⟨hJSq1.1, hJu116⟩
      have hFS117 : True := trivial
      have hRS117 := st_leaf hJSq1.2 hiq1_2 hfu116
      clear hfu116
      unfold wp_L_law_1745
      refine ⟨_, ?_, ?_, ?_, ?_, ?_, ?_, rfl⟩
      · first | omega | ((try simp (disch := first | ((try simp (disch := first | ((try simp only [pn]) <;> omega) | fail) only [pn, pq]) <;> omega) | fail) only [pn, pq]) <;> (intros; (try simp (disch := first | ((try simp (disch := first | ((try simp only [pn]) <;> omega) | fail) only [pn, pq]) <;> omega) | fail) only [pn, pq]) <;> omega))
      · exact hJS117
      · exact hFS117
      · first | omega | ((try simp (disch := first | ((try simp (disch := first | ((try simp only [pn]) <;> omega) | fail) only [pn, pq]) <;> omega) | fail) only [pn, pq]) <;> (intros; (try simp (disch := first | ((try simp (disch := first | ((try simp only [pn]) <;> omega) | fail) only [pn, pq]) <;> omega) | fail) only [pn, pq]) <;> omega))
      · first | omega | ((try simp (disch := first | ((try simp (disch := first | ((try simp only [pn]) <;> omega) | fail) only [pn, pq]) <;> omega) | fail) only [pn, pq]) <;> (intros; (try simp (disch := first | ((try simp (disch := first | ((try simp only [pn]) <;> omega) | fail) only [pn, pq]) <;> omega) | fail) only [pn, pq]) <;> omega))
      · exact hRS117
    · skip
      refine ⟨vin1, ?_⟩
      refine sf_X8_leafAt hJSq1.1 (fun r118  => ?_)
      refine ⟨vin1, ?_⟩
      refine sf_X9_leafAt hJSq1.2 (fun r120 u121 hJu121 hfu121  => ?_)
      intro S122 eS122
      subst eS122
      have hJS122 : J8 Sq1.1 ∧ J9 u121 := ⟨hJSq1.1, hJu121⟩
      have hFS122 : True := trivial
      have hRS122 := st_leafAt hJSq1.2 hiq1_2 hfu121
      clear hfu121
      unfold wp_L_law_1745
      refine ⟨_, ?_, ?_, ?_, ?_, ?_, ?_, rfl⟩
      · first | omega | ((try simp (disch := first | ((try simp (disch := first | ((try simp only [pn]) <;> omega) | fail) only [pn, pq]) <;> omega) | fail) only [pn, pq]) <;> (intros; (try simp (disch := first | ((try simp (disch := first | ((try simp only [pn]) <;> omega) | fail) only [pn, pq]) <;> omega) | fail) only [pn, pq]) <;> omega))
      · exact hJS122
      · exact hFS122
      · first | omega | ((try simp (disch := first | ((try simp (disch := first | ((try simp only [pn]) <;> omega) | fail) only [pn, pq]) <;> omega) | fail) only [pn, pq]) <;> (intros; (try simp (disch := first | ((try simp (disch := first | ((try simp only [pn]) <;> omega) | fail) only [pn, pq]) <;> omega) | fail) only [pn, pq]) <;> omega))
      · first | omega | ((try simp (disch := first | ((try simp (disch := first | ((try simp only [pn]) <;> omega) | fail) only [pn, pq]) <;> omega) | fail) only [pn, pq]) <;> (intros; (try simp (disch := first | ((try simp (disch := first | ((try simp only [pn]) <;> omega) | fail) only [pn, pq]) <;> omega) | fail) only [pn, pq]) <;> omega))
      · exact hRS122
    · skip
      refine ⟨vin1, ?_⟩
      refine ⟨vin2, ?_⟩
      refine sf_X8_node hJSq1.1 (fun r123  => ?_)
      refine ⟨vin1, ?_⟩
      refine ⟨vin2, ?_⟩
      refine sf_X9_node hJSq1.2 (fun r125 u126 hJu126 hfu126  => ?_)
      intro S127 eS127
      subst eS127
      have hJS127 : J8 Sq1.1 ∧ J9 u126 := ⟨hJSq1.1, hJu126⟩
      have hFS127 : True := trivial
      have hRS127 := st_node hJSq1.2 hiq1_2 hfu126
      clear hfu126
      unfold wp_L_law_1745
      refine ⟨_, ?_, ?_, ?_, ?_, ?_, ?_, rfl⟩
      · first | omega | ((try simp (disch := first | ((try simp (disch := first | ((try simp only [pn]) <;> omega) | fail) only [pn, pq]) <;> omega) | fail) only [pn, pq]) <;> (intros; (try simp (disch := first | ((try simp (disch := first | ((try simp only [pn]) <;> omega) | fail) only [pn, pq]) <;> omega) | fail) only [pn, pq]) <;> omega))
      · exact hJS127
      · exact hFS127
      · first | omega | ((try simp (disch := first | ((try simp (disch := first | ((try simp only [pn]) <;> omega) | fail) only [pn, pq]) <;> omega) | fail) only [pn, pq]) <;> (intros; (try simp (disch := first | ((try simp (disch := first | ((try simp only [pn]) <;> omega) | fail) only [pn, pq]) <;> omega) | fail) only [pn, pq]) <;> omega))
      · first | omega | ((try simp (disch := first | ((try simp (disch := first | ((try simp only [pn]) <;> omega) | fail) only [pn, pq]) <;> omega) | fail) only [pn, pq]) <;> (intros; (try simp (disch := first | ((try simp (disch := first | ((try simp only [pn]) <;> omega) | fail) only [pn, pq]) <;> omega) | fail) only [pn, pq]) <;> omega))
      · exact hRS127
    · skip
      refine ⟨vin1, ?_⟩
      refine ⟨vin2, ?_⟩
      refine sf_X8_child hJSq1.1 (fun r128  => ?_)
      refine ⟨vin1, ?_⟩
      refine ⟨vin2, ?_⟩
      refine sf_X9_child hJSq1.2 (fun r130 u131 hJu131 hfu131  => ?_)
      intro S132 eS132
      subst eS132
      have hJS132 : J8 Sq1.1 ∧ J9 u131 := ⟨hJSq1.1, hJu131⟩
      have hFS132 : True := trivial
      have hRS132 := st_child hJSq1.2 hiq1_2 hfu131
      clear hfu131
      unfold wp_L_law_1745
      refine ⟨_, ?_, ?_, ?_, ?_, ?_, ?_, rfl⟩
      · first | omega | ((try simp (disch := first | ((try simp (disch := first | ((try simp only [pn]) <;> omega) | fail) only [pn, pq]) <;> omega) | fail) only [pn, pq]) <;> (intros; (try simp (disch := first | ((try simp (disch := first | ((try simp only [pn]) <;> omega) | fail) only [pn, pq]) <;> omega) | fail) only [pn, pq]) <;> omega))
      · exact hJS132
      · exact hFS132
      · first | omega | ((try simp (disch := first | ((try simp (disch := first | ((try simp only [pn]) <;> omega) | fail) only [pn, pq]) <;> omega) | fail) only [pn, pq]) <;> (intros; (try simp (disch := first | ((try simp (disch := first | ((try simp only [pn]) <;> omega) | fail) only [pn, pq]) <;> omega) | fail) only [pn, pq]) <;> omega))
      · first | omega | ((try simp (disch := first | ((try simp (disch := first | ((try simp only [pn]) <;> omega) | fail) only [pn, pq]) <;> omega) | fail) only [pn, pq]) <;> (intros; (try simp (disch := first | ((try simp (disch := first | ((try simp only [pn]) <;> omega) | fail) only [pn, pq]) <;> omega) | fail) only [pn, pq]) <;> omega))
      · exact hRS132
    · skip
      refine ⟨vin1, ?_⟩
      refine ⟨vin2, ?_⟩
      refine sf_X8_level hJSq1.1 (fun r133  => ?_)
      refine ⟨vin1, ?_⟩
      refine ⟨vin2, ?_⟩
      refine sf_X9_level hJSq1.2 (fun r135 u136 hJu136 hfu136  => ?_)
      intro S137 eS137
      subst eS137
      have hJS137 : J8 Sq1.1 ∧ J9 u136 := ⟨hJSq1.1, hJu136⟩
      have hFS137 : True := trivial
      have hRS137 := st_level hJSq1.2 hiq1_2 hfu136
      clear hfu136
      unfold wp_L_law_1745
      refine ⟨_, ?_, ?_, ?_, ?_, ?_, ?_, rfl⟩
      · first | omega | ((try simp (disch := first | ((try simp (disch := first | ((try simp only [pn]) <;> omega) | fail) only [pn, pq]) <;> omega) | fail) only [pn, pq]) <;> (intros; (try simp (disch := first | ((try simp (disch := first | ((try simp only [pn]) <;> omega) | fail) only [pn, pq]) <;> omega) | fail) only [pn, pq]) <;> omega))
      · exact hJS137
      · exact hFS137
      · first | omega | ((try simp (disch := first | ((try simp (disch := first | ((try simp only [pn]) <;> omega) | fail) only [pn, pq]) <;> omega) | fail) only [pn, pq]) <;> (intros; (try simp (disch := first | ((try simp (disch := first | ((try simp only [pn]) <;> omega) | fail) only [pn, pq]) <;> omega) | fail) only [pn, pq]) <;> omega))
      · first | omega | ((try simp (disch := first | ((try simp (disch := first | ((try simp only [pn]) <;> omega) | fail) only [pn, pq]) <;> omega) | fail) only [pn, pq]) <;> (intros; (try simp (disch := first | ((try simp (disch := first | ((try simp only [pn]) <;> omega) | fail) only [pn, pq]) <;> omega) | fail) only [pn, pq]) <;> omega))
      · exact hRS137
    · skip
      refine ⟨vin1, ?_⟩
      refine ⟨vin2, ?_⟩
      refine sf_X8_item hJSq1.1 (fun r138  => ?_)
      refine ⟨vin1, ?_⟩
      refine ⟨vin2, ?_⟩
      refine sf_X9_item hJSq1.2 (fun r140 u141 hJu141 hfu141  => ?_)
      intro S142 eS142
      subst eS142
      have hJS142 : J8 Sq1.1 ∧ J9 u141 := ⟨hJSq1.1, hJu141⟩
      have hFS142 : True := trivial
      have hRS142 := st_item hJSq1.2 hiq1_2 hfu141
      clear hfu141
      unfold wp_L_law_1745
      refine ⟨_, ?_, ?_, ?_, ?_, ?_, ?_, rfl⟩
      · first | omega | ((try simp (disch := first | ((try simp (disch := first | ((try simp only [pn]) <;> omega) | fail) only [pn, pq]) <;> omega) | fail) only [pn, pq]) <;> (intros; (try simp (disch := first | ((try simp (disch := first | ((try simp only [pn]) <;> omega) | fail) only [pn, pq]) <;> omega) | fail) only [pn, pq]) <;> omega))
      · exact hJS142
      · exact hFS142
      · first | omega | ((try simp (disch := first | ((try simp (disch := first | ((try simp only [pn]) <;> omega) | fail) only [pn, pq]) <;> omega) | fail) only [pn, pq]) <;> (intros; (try simp (disch := first | ((try simp (disch := first | ((try simp only [pn]) <;> omega) | fail) only [pn, pq]) <;> omega) | fail) only [pn, pq]) <;> omega))
      · first | omega | ((try simp (disch := first | ((try simp (disch := first | ((try simp only [pn]) <;> omega) | fail) only [pn, pq]) <;> omega) | fail) only [pn, pq]) <;> (intros; (try simp (disch := first | ((try simp (disch := first | ((try simp only [pn]) <;> omega) | fail) only [pn, pq]) <;> omega) | fail) only [pn, pq]) <;> omega))
      · exact hRS142
    · skip
      refine ⟨vin1, ?_⟩
      refine sf_X8_bit hJSq1.1 (fun r143  => ?_)
      refine ⟨vin1, ?_⟩
      refine sf_X9_bit hJSq1.2 (fun r145 u146 hJu146 hfu146  => ?_)
      intro S147 eS147
      subst eS147
      have hJS147 : J8 Sq1.1 ∧ J9 u146 := ⟨hJSq1.1, hJu146⟩
      have hFS147 : True := trivial
      have hRS147 := st_bit hJSq1.2 hiq1_2 hfu146
      clear hfu146
      unfold wp_L_law_1745
      refine ⟨_, ?_, ?_, ?_, ?_, ?_, ?_, rfl⟩
      · first | omega | ((try simp (disch := first | ((try simp (disch := first | ((try simp only [pn]) <;> omega) | fail) only [pn, pq]) <;> omega) | fail) only [pn, pq]) <;> (intros; (try simp (disch := first | ((try simp (disch := first | ((try simp only [pn]) <;> omega) | fail) only [pn, pq]) <;> omega) | fail) only [pn, pq]) <;> omega))
      · exact hJS147
      · exact hFS147
      · first | omega | ((try simp (disch := first | ((try simp (disch := first | ((try simp only [pn]) <;> omega) | fail) only [pn, pq]) <;> omega) | fail) only [pn, pq]) <;> (intros; (try simp (disch := first | ((try simp (disch := first | ((try simp only [pn]) <;> omega) | fail) only [pn, pq]) <;> omega) | fail) only [pn, pq]) <;> omega))
      · first | omega | ((try simp (disch := first | ((try simp (disch := first | ((try simp only [pn]) <;> omega) | fail) only [pn, pq]) <;> omega) | fail) only [pn, pq]) <;> (intros; (try simp (disch := first | ((try simp (disch := first | ((try simp only [pn]) <;> omega) | fail) only [pn, pq]) <;> omega) | fail) only [pn, pq]) <;> omega))
      · exact hRS147
    · skip
      refine ⟨vin1, ?_⟩
      refine sf_X8_rank hJSq1.1 (fun r148  => ?_)
      refine ⟨vin1, ?_⟩
      refine sf_X9_rank hJSq1.2 (fun r150 u151 hJu151 hfu151  => ?_)
      intro S152 eS152
      subst eS152
      have hJS152 : J8 Sq1.1 ∧ J9 u151 := ⟨hJSq1.1, hJu151⟩
      have hFS152 : True := trivial
      have hRS152 := st_rank hJSq1.2 hiq1_2 hfu151
      clear hfu151
      unfold wp_L_law_1745
      refine ⟨_, ?_, ?_, ?_, ?_, ?_, ?_, rfl⟩
      · first | omega | ((try simp (disch := first | ((try simp (disch := first | ((try simp only [pn]) <;> omega) | fail) only [pn, pq]) <;> omega) | fail) only [pn, pq]) <;> (intros; (try simp (disch := first | ((try simp (disch := first | ((try simp only [pn]) <;> omega) | fail) only [pn, pq]) <;> omega) | fail) only [pn, pq]) <;> omega))
      · exact hJS152
      · exact hFS152
      · first | omega | ((try simp (disch := first | ((try simp (disch := first | ((try simp only [pn]) <;> omega) | fail) only [pn, pq]) <;> omega) | fail) only [pn, pq]) <;> (intros; (try simp (disch := first | ((try simp (disch := first | ((try simp only [pn]) <;> omega) | fail) only [pn, pq]) <;> omega) | fail) only [pn, pq]) <;> omega))
      · first | omega | ((try simp (disch := first | ((try simp (disch := first | ((try simp only [pn]) <;> omega) | fail) only [pn, pq]) <;> omega) | fail) only [pn, pq]) <;> (intros; (try simp (disch := first | ((try simp (disch := first | ((try simp only [pn]) <;> omega) | fail) only [pn, pq]) <;> omega) | fail) only [pn, pq]) <;> omega))
      · exact hRS152
    · skip
      refine ⟨vin1, ?_⟩
      refine sf_X8_select hJSq1.1 (fun r153  => ?_)
      refine ⟨vin1, ?_⟩
      refine sf_X9_select hJSq1.2 (fun r155 u156 hJu156 hfu156  => ?_)
      intro S157 eS157
      subst eS157
      have hJS157 : J8 Sq1.1 ∧ J9 u156 := ⟨hJSq1.1, hJu156⟩
      have hFS157 : True := trivial
      have hRS157 := st_select hJSq1.2 hiq1_2 hfu156
      clear hfu156
      unfold wp_L_law_1745
      refine ⟨_, ?_, ?_, ?_, ?_, ?_, ?_, rfl⟩
      · first | omega | ((try simp (disch := first | ((try simp (disch := first | ((try simp only [pn]) <;> omega) | fail) only [pn, pq]) <;> omega) | fail) only [pn, pq]) <;> (intros; (try simp (disch := first | ((try simp (disch := first | ((try simp only [pn]) <;> omega) | fail) only [pn, pq]) <;> omega) | fail) only [pn, pq]) <;> omega))
      · exact hJS157
      · exact hFS157
      · first | omega | ((try simp (disch := first | ((try simp (disch := first | ((try simp only [pn]) <;> omega) | fail) only [pn, pq]) <;> omega) | fail) only [pn, pq]) <;> (intros; (try simp (disch := first | ((try simp (disch := first | ((try simp only [pn]) <;> omega) | fail) only [pn, pq]) <;> omega) | fail) only [pn, pq]) <;> omega))
      · first | omega | ((try simp (disch := first | ((try simp (disch := first | ((try simp only [pn]) <;> omega) | fail) only [pn, pq]) <;> omega) | fail) only [pn, pq]) <;> (intros; (try simp (disch := first | ((try simp (disch := first | ((try simp only [pn]) <;> omega) | fail) only [pn, pq]) <;> omega) | fail) only [pn, pq]) <;> omega))
      · exact hRS157
    · skip
      refine ⟨vin1, ?_⟩
      refine sf_X8_bits hJSq1.1 (fun r158  => ?_)
      refine ⟨vin1, ?_⟩
      refine sf_X9_bits hJSq1.2 (fun r160 u161 hJu161 hfu161  => ?_)
      intro S162 eS162
      subst eS162
      have hJS162 : J8 Sq1.1 ∧ J9 u161 := ⟨hJSq1.1, hJu161⟩
      have hFS162 : True := trivial
      have hRS162 := st_bits hJSq1.2 hiq1_2 hfu161
      clear hfu161
      unfold wp_L_law_1745
      refine ⟨_, ?_, ?_, ?_, ?_, ?_, ?_, rfl⟩
      · first | omega | ((try simp (disch := first | ((try simp (disch := first | ((try simp only [pn]) <;> omega) | fail) only [pn, pq]) <;> omega) | fail) only [pn, pq]) <;> (intros; (try simp (disch := first | ((try simp (disch := first | ((try simp only [pn]) <;> omega) | fail) only [pn, pq]) <;> omega) | fail) only [pn, pq]) <;> omega))
      · exact hJS162
      · exact hFS162
      · first | omega | ((try simp (disch := first | ((try simp (disch := first | ((try simp only [pn]) <;> omega) | fail) only [pn, pq]) <;> omega) | fail) only [pn, pq]) <;> (intros; (try simp (disch := first | ((try simp (disch := first | ((try simp only [pn]) <;> omega) | fail) only [pn, pq]) <;> omega) | fail) only [pn, pq]) <;> omega))
      · first | omega | ((try simp (disch := first | ((try simp (disch := first | ((try simp only [pn]) <;> omega) | fail) only [pn, pq]) <;> omega) | fail) only [pn, pq]) <;> (intros; (try simp (disch := first | ((try simp (disch := first | ((try simp only [pn]) <;> omega) | fail) only [pn, pq]) <;> omega) | fail) only [pn, pq]) <;> omega))
      · exact hRS162
    · skip
      refine ⟨vin1, ?_⟩
      refine sf_X8_least hJSq1.1 (fun r163  => ?_)
      refine ⟨vin1, ?_⟩
      refine sf_X9_least hJSq1.2 (fun r165 u166 hJu166 hfu166  => ?_)
      intro S167 eS167
      subst eS167
      have hJS167 : J8 Sq1.1 ∧ J9 u166 := ⟨hJSq1.1, hJu166⟩
      have hFS167 : True := trivial
      have hRS167 := st_least hJSq1.2 hiq1_2 hfu166
      clear hfu166
      unfold wp_L_law_1745
      refine ⟨_, ?_, ?_, ?_, ?_, ?_, ?_, rfl⟩
      · first | omega | ((try simp (disch := first | ((try simp (disch := first | ((try simp only [pn]) <;> omega) | fail) only [pn, pq]) <;> omega) | fail) only [pn, pq]) <;> (intros; (try simp (disch := first | ((try simp (disch := first | ((try simp only [pn]) <;> omega) | fail) only [pn, pq]) <;> omega) | fail) only [pn, pq]) <;> omega))
      · exact hJS167
      · exact hFS167
      · first | omega | ((try simp (disch := first | ((try simp (disch := first | ((try simp only [pn]) <;> omega) | fail) only [pn, pq]) <;> omega) | fail) only [pn, pq]) <;> (intros; (try simp (disch := first | ((try simp (disch := first | ((try simp only [pn]) <;> omega) | fail) only [pn, pq]) <;> omega) | fail) only [pn, pq]) <;> omega))
      · first | omega | ((try simp (disch := first | ((try simp (disch := first | ((try simp only [pn]) <;> omega) | fail) only [pn, pq]) <;> omega) | fail) only [pn, pq]) <;> (intros; (try simp (disch := first | ((try simp (disch := first | ((try simp only [pn]) <;> omega) | fail) only [pn, pq]) <;> omega) | fail) only [pn, pq]) <;> omega))
      · exact hRS167
    · skip
      refine ⟨vin1, ?_⟩
      refine sf_X8_cover hJSq1.1 (fun r168 hr168_0 => ?_)
      refine ⟨vin1, ?_⟩
      refine sf_X9_cover hJSq1.2 (fun r170 u171 hJu171 hfu171 hr170_0 => ?_)
      intro S172 eS172
      subst eS172
      have hJS172 : J8 Sq1.1 ∧ J9 u171 := ⟨hJSq1.1, hJu171⟩
      have hFS172 : True := trivial
      have hRS172 := st_cover hJSq1.2 hiq1_2 hr168_0 hfu171 hr170_0
      clear hr168_0 hfu171 hr170_0
      unfold wp_L_law_1745
      refine ⟨_, ?_, ?_, ?_, ?_, ?_, ?_, rfl⟩
      · first | omega | ((try simp (disch := first | ((try simp (disch := first | ((try simp only [pn]) <;> omega) | fail) only [pn, pq]) <;> omega) | fail) only [pn, pq]) <;> (intros; (try simp (disch := first | ((try simp (disch := first | ((try simp only [pn]) <;> omega) | fail) only [pn, pq]) <;> omega) | fail) only [pn, pq]) <;> omega))
      · exact hJS172
      · exact hFS172
      · first | omega | ((try simp (disch := first | ((try simp (disch := first | ((try simp only [pn]) <;> omega) | fail) only [pn, pq]) <;> omega) | fail) only [pn, pq]) <;> (intros; (try simp (disch := first | ((try simp (disch := first | ((try simp only [pn]) <;> omega) | fail) only [pn, pq]) <;> omega) | fail) only [pn, pq]) <;> omega))
      · first | omega | ((try simp (disch := first | ((try simp (disch := first | ((try simp only [pn]) <;> omega) | fail) only [pn, pq]) <;> omega) | fail) only [pn, pq]) <;> (intros; (try simp (disch := first | ((try simp (disch := first | ((try simp only [pn]) <;> omega) | fail) only [pn, pq]) <;> omega) | fail) only [pn, pq]) <;> omega))
      · exact hRS172
    · skip
      refine ⟨vin1, ?_⟩
      refine sf_X8_loose hJSq1.1 (fun r173 hr173_0 => ?_)
      refine ⟨vin1, ?_⟩
      refine sf_X9_loose hJSq1.2 (fun r175 u176 hJu176 hfu176 hr175_0 => ?_)
      intro S177 eS177
      subst eS177
      have hJS177 : J8 Sq1.1 ∧ J9 u176 := ⟨hJSq1.1, hJu176⟩
      have hFS177 : True := trivial
      have hRS177 := st_loose hJSq1.2 hiq1_2 hr173_0 hfu176 hr175_0
      clear hr173_0 hfu176 hr175_0
      unfold wp_L_law_1745
      refine ⟨_, ?_, ?_, ?_, ?_, ?_, ?_, rfl⟩
      · first | omega | ((try simp (disch := first | ((try simp (disch := first | ((try simp only [pn]) <;> omega) | fail) only [pn, pq]) <;> omega) | fail) only [pn, pq]) <;> (intros; (try simp (disch := first | ((try simp (disch := first | ((try simp only [pn]) <;> omega) | fail) only [pn, pq]) <;> omega) | fail) only [pn, pq]) <;> omega))
      · exact hJS177
      · exact hFS177
      · first | omega | ((try simp (disch := first | ((try simp (disch := first | ((try simp only [pn]) <;> omega) | fail) only [pn, pq]) <;> omega) | fail) only [pn, pq]) <;> (intros; (try simp (disch := first | ((try simp (disch := first | ((try simp only [pn]) <;> omega) | fail) only [pn, pq]) <;> omega) | fail) only [pn, pq]) <;> omega))
      · first | omega | ((try simp (disch := first | ((try simp (disch := first | ((try simp only [pn]) <;> omega) | fail) only [pn, pq]) <;> omega) | fail) only [pn, pq]) <;> (intros; (try simp (disch := first | ((try simp (disch := first | ((try simp only [pn]) <;> omega) | fail) only [pn, pq]) <;> omega) | fail) only [pn, pq]) <;> omega))
      · exact hRS177
    · skip
      refine ⟨vin1, ?_⟩
      refine ⟨vin2, ?_⟩
      refine sf_X8_free hJSq1.1 (fun r178 hr178_0 => ?_)
      refine ⟨vin1, ?_⟩
      refine ⟨vin2, ?_⟩
      refine sf_X9_free hJSq1.2 (fun r180 u181 hJu181 hfu181 hr180_0 => ?_)
      intro S182 eS182
      subst eS182
      have hJS182 : J8 Sq1.1 ∧ J9 u181 := ⟨hJSq1.1, hJu181⟩
      have hFS182 : True := trivial
      have hRS182 := st_free hJSq1.2 hiq1_2 hr178_0 hfu181 hr180_0
      clear hr178_0 hfu181 hr180_0
      unfold wp_L_law_1745
      refine ⟨_, ?_, ?_, ?_, ?_, ?_, ?_, rfl⟩
      · first | omega | ((try simp (disch := first | ((try simp (disch := first | ((try simp only [pn]) <;> omega) | fail) only [pn, pq]) <;> omega) | fail) only [pn, pq]) <;> (intros; (try simp (disch := first | ((try simp (disch := first | ((try simp only [pn]) <;> omega) | fail) only [pn, pq]) <;> omega) | fail) only [pn, pq]) <;> omega))
      · exact hJS182
      · exact hFS182
      · first | omega | ((try simp (disch := first | ((try simp (disch := first | ((try simp only [pn]) <;> omega) | fail) only [pn, pq]) <;> omega) | fail) only [pn, pq]) <;> (intros; (try simp (disch := first | ((try simp (disch := first | ((try simp only [pn]) <;> omega) | fail) only [pn, pq]) <;> omega) | fail) only [pn, pq]) <;> omega))
      · first | omega | ((try simp (disch := first | ((try simp (disch := first | ((try simp only [pn]) <;> omega) | fail) only [pn, pq]) <;> omega) | fail) only [pn, pq]) <;> (intros; (try simp (disch := first | ((try simp (disch := first | ((try simp only [pn]) <;> omega) | fail) only [pn, pq]) <;> omega) | fail) only [pn, pq]) <;> omega))
      · exact hRS182
    · skip
      refine ⟨vin1, ?_⟩
      refine ⟨vin2, ?_⟩
      refine ⟨vin3, ?_⟩
      refine ⟨vin4, ?_⟩
      refine sf_X8_spread hJSq1.1 (fun r183 hr183_0 => ?_)
      refine ⟨vin1, ?_⟩
      refine ⟨vin2, ?_⟩
      refine ⟨vin3, ?_⟩
      refine ⟨vin4, ?_⟩
      refine sf_X9_spread hJSq1.2 (fun r185 u186 hJu186 hfu186 hr185_0 => ?_)
      intro S187 eS187
      subst eS187
      have hJS187 : J8 Sq1.1 ∧ J9 u186 := ⟨hJSq1.1, hJu186⟩
      have hFS187 : True := trivial
      have hRS187 := st_spread hJSq1.2 hiq1_2 hr183_0 hfu186 hr185_0
      clear hr183_0 hfu186 hr185_0
      unfold wp_L_law_1745
      refine ⟨_, ?_, ?_, ?_, ?_, ?_, ?_, rfl⟩
      · first | omega | ((try simp (disch := first | ((try simp (disch := first | ((try simp only [pn]) <;> omega) | fail) only [pn, pq]) <;> omega) | fail) only [pn, pq]) <;> (intros; (try simp (disch := first | ((try simp (disch := first | ((try simp only [pn]) <;> omega) | fail) only [pn, pq]) <;> omega) | fail) only [pn, pq]) <;> omega))
      · exact hJS187
      · exact hFS187
      · first | omega | ((try simp (disch := first | ((try simp (disch := first | ((try simp only [pn]) <;> omega) | fail) only [pn, pq]) <;> omega) | fail) only [pn, pq]) <;> (intros; (try simp (disch := first | ((try simp (disch := first | ((try simp only [pn]) <;> omega) | fail) only [pn, pq]) <;> omega) | fail) only [pn, pq]) <;> omega))
      · first | omega | ((try simp (disch := first | ((try simp (disch := first | ((try simp only [pn]) <;> omega) | fail) only [pn, pq]) <;> omega) | fail) only [pn, pq]) <;> (intros; (try simp (disch := first | ((try simp (disch := first | ((try simp only [pn]) <;> omega) | fail) only [pn, pq]) <;> omega) | fail) only [pn, pq]) <;> omega))
      · exact hRS187
    · skip
      refine ⟨vin1, ?_⟩
      refine ⟨vin2, ?_⟩
      refine ⟨vin3, ?_⟩
      refine sf_X8_question hJSq1.1 (fun r188 u189 hJu189 hfu189 hr188_0 => ?_)
      intro S190 eS190
      subst eS190
      have hJS190 : J8 u189 ∧ J9 Sq1.2 := ⟨hJu189, hJSq1.2⟩
      have hFS190 : True := trivial
      refine ⟨vin1, ?_⟩
      refine ⟨vin2, ?_⟩
      refine ⟨vin3, ?_⟩
      refine sf_X9_question hJSq1.2 (fun r191 u192 hJu192 hfu192 hr191_0 hr191_1 hr191_2 hr191_3 => ?_)
      intro S193 eS193
      subst eS193
      have hJS193 : J8 u189 ∧ J9 u192 := ⟨hJu189, hJu192⟩
      have hFS193 : True := trivial
      have hRS193 := st_question hJSq1.2 hiq1_2 hfu189 hr188_0 hfu192 hr191_0 hr191_1 hr191_2 hr191_3
      clear hfu189 hr188_0 hfu192 hr191_0 hr191_1 hr191_2 hr191_3
      unfold wp_L_law_1745
      refine ⟨_, ?_, ?_, ?_, ?_, ?_, ?_, rfl⟩
      · first | omega | ((try simp (disch := first | ((try simp (disch := first | ((try simp only [pn]) <;> omega) | fail) only [pn, pq]) <;> omega) | fail) only [pn, pq]) <;> (intros; (try simp (disch := first | ((try simp (disch := first | ((try simp only [pn]) <;> omega) | fail) only [pn, pq]) <;> omega) | fail) only [pn, pq]) <;> omega))
      · exact hJS193
      · exact hFS193
      · first | omega | ((try simp (disch := first | ((try simp (disch := first | ((try simp only [pn]) <;> omega) | fail) only [pn, pq]) <;> omega) | fail) only [pn, pq]) <;> (intros; (try simp (disch := first | ((try simp (disch := first | ((try simp only [pn]) <;> omega) | fail) only [pn, pq]) <;> omega) | fail) only [pn, pq]) <;> omega))
      · first | omega | ((try simp (disch := first | ((try simp (disch := first | ((try simp only [pn]) <;> omega) | fail) only [pn, pq]) <;> omega) | fail) only [pn, pq]) <;> (intros; (try simp (disch := first | ((try simp (disch := first | ((try simp only [pn]) <;> omega) | fail) only [pn, pq]) <;> omega) | fail) only [pn, pq]) <;> omega))
      · exact hRS193
    · skip
      refine sf_X8_forget hJSq1.1 (fun r194 u195 hJu195 hfu195 hr194_0 hr194_1 => ?_)
      intro S196 eS196
      subst eS196
      have hJS196 : J8 u195 ∧ J9 Sq1.2 := ⟨hJu195, hJSq1.2⟩
      have hFS196 : True := trivial
      refine sf_X9_forget hJSq1.2 (fun r197 u198 hJu198 hfu198 hr197_0 hr197_1 hr197_2 hr197_3 hr197_4 hr197_5 => ?_)
      intro S199 eS199
      subst eS199
      have hJS199 : J8 u195 ∧ J9 u198 := ⟨hJu195, hJu198⟩
      have hFS199 : True := trivial
      have hRS199 := st_forget hJSq1.2 hiq1_2 hfu195 hr194_0 hr194_1 hfu198 hr197_0 hr197_1 hr197_2 hr197_3 hr197_4 hr197_5
      clear hfu195 hr194_0 hr194_1 hfu198 hr197_0 hr197_1 hr197_2 hr197_3 hr197_4 hr197_5
      unfold wp_L_law_1745
      refine ⟨_, ?_, ?_, ?_, ?_, ?_, ?_, rfl⟩
      · first | omega | ((try simp (disch := first | ((try simp (disch := first | ((try simp only [pn]) <;> omega) | fail) only [pn, pq]) <;> omega) | fail) only [pn, pq]) <;> (intros; (try simp (disch := first | ((try simp (disch := first | ((try simp only [pn]) <;> omega) | fail) only [pn, pq]) <;> omega) | fail) only [pn, pq]) <;> omega))
      · exact hJS199
      · exact hFS199
      · first | omega | ((try simp (disch := first | ((try simp (disch := first | ((try simp only [pn]) <;> omega) | fail) only [pn, pq]) <;> omega) | fail) only [pn, pq]) <;> (intros; (try simp (disch := first | ((try simp (disch := first | ((try simp only [pn]) <;> omega) | fail) only [pn, pq]) <;> omega) | fail) only [pn, pq]) <;> omega))
      · first | omega | ((try simp (disch := first | ((try simp (disch := first | ((try simp only [pn]) <;> omega) | fail) only [pn, pq]) <;> omega) | fail) only [pn, pq]) <;> (intros; (try simp (disch := first | ((try simp (disch := first | ((try simp only [pn]) <;> omega) | fail) only [pn, pq]) <;> omega) | fail) only [pn, pq]) <;> omega))
      · exact hRS199
    · skip
      refine ⟨vin1, ?_⟩
      refine ⟨vin2, ?_⟩
      refine sf_X8_tuned hJSq1.1 (fun r200 u201 hJu201 hfu201  => ?_)
      intro S202 eS202
      subst eS202
      have hJS202 : J8 u201 ∧ J9 Sq1.2 := ⟨hJu201, hJSq1.2⟩
      have hFS202 : True := trivial
      refine ⟨vin1, ?_⟩
      refine ⟨vin2, ?_⟩
      refine sf_X9_tuned hJSq1.2 (fun r203 u204 hJu204 hfu204  => ?_)
      intro S205 eS205
      subst eS205
      have hJS205 : J8 u201 ∧ J9 u204 := ⟨hJu201, hJu204⟩
      have hFS205 : True := trivial
      have hRS205 := st_tuned hJSq1.2 hiq1_2 hfu201 hfu204
      clear hfu201 hfu204
      unfold wp_L_law_1745
      refine ⟨_, ?_, ?_, ?_, ?_, ?_, ?_, rfl⟩
      · first | omega | ((try simp (disch := first | ((try simp (disch := first | ((try simp only [pn]) <;> omega) | fail) only [pn, pq]) <;> omega) | fail) only [pn, pq]) <;> (intros; (try simp (disch := first | ((try simp (disch := first | ((try simp only [pn]) <;> omega) | fail) only [pn, pq]) <;> omega) | fail) only [pn, pq]) <;> omega))
      · exact hJS205
      · exact hFS205
      · first | omega | ((try simp (disch := first | ((try simp (disch := first | ((try simp only [pn]) <;> omega) | fail) only [pn, pq]) <;> omega) | fail) only [pn, pq]) <;> (intros; (try simp (disch := first | ((try simp (disch := first | ((try simp only [pn]) <;> omega) | fail) only [pn, pq]) <;> omega) | fail) only [pn, pq]) <;> omega))
      · first | omega | ((try simp (disch := first | ((try simp (disch := first | ((try simp only [pn]) <;> omega) | fail) only [pn, pq]) <;> omega) | fail) only [pn, pq]) <;> (intros; (try simp (disch := first | ((try simp (disch := first | ((try simp only [pn]) <;> omega) | fail) only [pn, pq]) <;> omega) | fail) only [pn, pq]) <;> omega))
      · exact hRS205
    · skip
      refine ⟨vin1, ?_⟩
      refine ⟨vin2, ?_⟩
      refine sf_X8_storm hJSq1.1 (fun r206 u207 hJu207 hfu207 hr206_0 hr206_1 => ?_)
      intro S208 eS208
      subst eS208
      have hJS208 : J8 u207 ∧ J9 Sq1.2 := ⟨hJu207, hJSq1.2⟩
      have hFS208 : True := trivial
      refine ⟨vin1, ?_⟩
      refine ⟨vin2, ?_⟩
      refine sf_X9_storm hJSq1.2 (fun r209 u210 hJu210 hfu210 hr209_0 hr209_1 hr209_2 hr209_3 hr209_4 hr209_5 => ?_)
      intro S211 eS211
      subst eS211
      have hJS211 : J8 u207 ∧ J9 u210 := ⟨hJu207, hJu210⟩
      have hFS211 : True := trivial
      have hRS211 := st_storm hJSq1.2 hiq1_2 hfu207 hr206_0 hr206_1 hfu210 hr209_0 hr209_1 hr209_2 hr209_3 hr209_4 hr209_5
      clear hfu207 hr206_0 hr206_1 hfu210 hr209_0 hr209_1 hr209_2 hr209_3 hr209_4 hr209_5
      unfold wp_L_law_1745
      refine ⟨_, ?_, ?_, ?_, ?_, ?_, ?_, rfl⟩
      · first | omega | ((try simp (disch := first | ((try simp (disch := first | ((try simp only [pn]) <;> omega) | fail) only [pn, pq]) <;> omega) | fail) only [pn, pq]) <;> (intros; (try simp (disch := first | ((try simp (disch := first | ((try simp only [pn]) <;> omega) | fail) only [pn, pq]) <;> omega) | fail) only [pn, pq]) <;> omega))
      · exact hJS211
      · exact hFS211
      · first | omega | ((try simp (disch := first | ((try simp (disch := first | ((try simp only [pn]) <;> omega) | fail) only [pn, pq]) <;> omega) | fail) only [pn, pq]) <;> (intros; (try simp (disch := first | ((try simp (disch := first | ((try simp only [pn]) <;> omega) | fail) only [pn, pq]) <;> omega) | fail) only [pn, pq]) <;> omega))
      · first | omega | ((try simp (disch := first | ((try simp (disch := first | ((try simp only [pn]) <;> omega) | fail) only [pn, pq]) <;> omega) | fail) only [pn, pq]) <;> (intros; (try simp (disch := first | ((try simp (disch := first | ((try simp only [pn]) <;> omega) | fail) only [pn, pq]) <;> omega) | fail) only [pn, pq]) <;> omega))
      · exact hRS211
    · skip
      refine ⟨vin1, ?_⟩
      refine ⟨vin2, ?_⟩
      refine ⟨vin3, ?_⟩
      refine sf_X8_stormRange hJSq1.1 (fun r212 u213 hJu213 hfu213 hr212_0 hr212_1 => ?_)
      intro S214 eS214
      subst eS214
      have hJS214 : J8 u213 ∧ J9 Sq1.2 := ⟨hJu213, hJSq1.2⟩
      have hFS214 : True := trivial
      refine ⟨vin1, ?_⟩
      refine ⟨vin2, ?_⟩
      refine ⟨vin3, ?_⟩
      refine sf_X9_stormRange hJSq1.2 (fun r215 u216 hJu216 hfu216 hr215_0 hr215_1 hr215_2 hr215_3 hr215_4 hr215_5 => ?_)
      intro S217 eS217
      subst eS217
      have hJS217 : J8 u213 ∧ J9 u216 := ⟨hJu213, hJu216⟩
      have hFS217 : True := trivial
      have hRS217 := st_stormRange hJSq1.2 hiq1_2 hfu213 hr212_0 hr212_1 hfu216 hr215_0 hr215_1 hr215_2 hr215_3 hr215_4 hr215_5
      clear hfu213 hr212_0 hr212_1 hfu216 hr215_0 hr215_1 hr215_2 hr215_3 hr215_4 hr215_5
      unfold wp_L_law_1745
      refine ⟨_, ?_, ?_, ?_, ?_, ?_, ?_, rfl⟩
      · first | omega | ((try simp (disch := first | ((try simp (disch := first | ((try simp only [pn]) <;> omega) | fail) only [pn, pq]) <;> omega) | fail) only [pn, pq]) <;> (intros; (try simp (disch := first | ((try simp (disch := first | ((try simp only [pn]) <;> omega) | fail) only [pn, pq]) <;> omega) | fail) only [pn, pq]) <;> omega))
      · exact hJS217
      · exact hFS217
      · first | omega | ((try simp (disch := first | ((try simp (disch := first | ((try simp only [pn]) <;> omega) | fail) only [pn, pq]) <;> omega) | fail) only [pn, pq]) <;> (intros; (try simp (disch := first | ((try simp (disch := first | ((try simp only [pn]) <;> omega) | fail) only [pn, pq]) <;> omega) | fail) only [pn, pq]) <;> omega))
      · first | omega | ((try simp (disch := first | ((try simp (disch := first | ((try simp only [pn]) <;> omega) | fail) only [pn, pq]) <;> omega) | fail) only [pn, pq]) <;> (intros; (try simp (disch := first | ((try simp (disch := first | ((try simp only [pn]) <;> omega) | fail) only [pn, pq]) <;> omega) | fail) only [pn, pq]) <;> omega))
      · exact hRS217
    · skip
      refine ⟨vin1, ?_⟩
      refine sf_X8_account hJSq1.1 (fun r218 hr218_0 => ?_)
      refine ⟨vin1, ?_⟩
      refine sf_X9_account hJSq1.2 (fun r220 u221 hJu221 hfu221 hr220_0 => ?_)
      intro S222 eS222
      subst eS222
      have hJS222 : J8 Sq1.1 ∧ J9 u221 := ⟨hJSq1.1, hJu221⟩
      have hFS222 : True := trivial
      have hRS222 := st_account hJSq1.2 hiq1_2 hr218_0 hfu221 hr220_0
      clear hr218_0 hfu221 hr220_0
      unfold wp_L_law_1745
      refine ⟨_, ?_, ?_, ?_, ?_, ?_, ?_, rfl⟩
      · first | omega | ((try simp (disch := first | ((try simp (disch := first | ((try simp only [pn]) <;> omega) | fail) only [pn, pq]) <;> omega) | fail) only [pn, pq]) <;> (intros; (try simp (disch := first | ((try simp (disch := first | ((try simp only [pn]) <;> omega) | fail) only [pn, pq]) <;> omega) | fail) only [pn, pq]) <;> omega))
      · exact hJS222
      · exact hFS222
      · first | omega | ((try simp (disch := first | ((try simp (disch := first | ((try simp only [pn]) <;> omega) | fail) only [pn, pq]) <;> omega) | fail) only [pn, pq]) <;> (intros; (try simp (disch := first | ((try simp (disch := first | ((try simp only [pn]) <;> omega) | fail) only [pn, pq]) <;> omega) | fail) only [pn, pq]) <;> omega))
      · first | omega | ((try simp (disch := first | ((try simp (disch := first | ((try simp only [pn]) <;> omega) | fail) only [pn, pq]) <;> omega) | fail) only [pn, pq]) <;> (intros; (try simp (disch := first | ((try simp (disch := first | ((try simp only [pn]) <;> omega) | fail) only [pn, pq]) <;> omega) | fail) only [pn, pq]) <;> omega))
      · exact hRS222
    · skip
      refine ⟨vin1, ?_⟩
      refine sf_X8_since hJSq1.1 (fun r223 hr223_0 => ?_)
      refine ⟨vin1, ?_⟩
      refine sf_X9_since hJSq1.2 (fun r225 u226 hJu226 hfu226 hr225_0 => ?_)
      intro S227 eS227
      subst eS227
      have hJS227 : J8 Sq1.1 ∧ J9 u226 := ⟨hJSq1.1, hJu226⟩
      have hFS227 : True := trivial
      have hRS227 := st_since hJSq1.2 hiq1_2 hr223_0 hfu226 hr225_0
      clear hr223_0 hfu226 hr225_0
      unfold wp_L_law_1745
      refine ⟨_, ?_, ?_, ?_, ?_, ?_, ?_, rfl⟩
      · first | omega | ((try simp (disch := first | ((try simp (disch := first | ((try simp only [pn]) <;> omega) | fail) only [pn, pq]) <;> omega) | fail) only [pn, pq]) <;> (intros; (try simp (disch := first | ((try simp (disch := first | ((try simp only [pn]) <;> omega) | fail) only [pn, pq]) <;> omega) | fail) only [pn, pq]) <;> omega))
      · exact hJS227
      · exact hFS227
      · first | omega | ((try simp (disch := first | ((try simp (disch := first | ((try simp only [pn]) <;> omega) | fail) only [pn, pq]) <;> omega) | fail) only [pn, pq]) <;> (intros; (try simp (disch := first | ((try simp (disch := first | ((try simp only [pn]) <;> omega) | fail) only [pn, pq]) <;> omega) | fail) only [pn, pq]) <;> omega))
      · first | omega | ((try simp (disch := first | ((try simp (disch := first | ((try simp only [pn]) <;> omega) | fail) only [pn, pq]) <;> omega) | fail) only [pn, pq]) <;> (intros; (try simp (disch := first | ((try simp (disch := first | ((try simp only [pn]) <;> omega) | fail) only [pn, pq]) <;> omega) | fail) only [pn, pq]) <;> omega))
      · exact hRS227
    · skip
      refine ⟨vin1, ?_⟩
      refine sf_X8_report hJSq1.1 (fun r228 u229 hJu229 hfu229  => ?_)
      intro S230 eS230
      subst eS230
      have hJS230 : J8 u229 ∧ J9 Sq1.2 := ⟨hJu229, hJSq1.2⟩
      have hFS230 : True := trivial
      refine ⟨vin1, ?_⟩
      refine sf_X9_report hJSq1.2 (fun r231 u232 hJu232 hfu232  => ?_)
      intro S233 eS233
      subst eS233
      have hJS233 : J8 u229 ∧ J9 u232 := ⟨hJu229, hJu232⟩
      have hFS233 : True := trivial
      have hRS233 := st_report hJSq1.2 hiq1_2 hfu229 hfu232
      clear hfu229 hfu232
      unfold wp_L_law_1745
      refine ⟨_, ?_, ?_, ?_, ?_, ?_, ?_, rfl⟩
      · first | omega | ((try simp (disch := first | ((try simp (disch := first | ((try simp only [pn]) <;> omega) | fail) only [pn, pq]) <;> omega) | fail) only [pn, pq]) <;> (intros; (try simp (disch := first | ((try simp (disch := first | ((try simp only [pn]) <;> omega) | fail) only [pn, pq]) <;> omega) | fail) only [pn, pq]) <;> omega))
      · exact hJS233
      · exact hFS233
      · first | omega | ((try simp (disch := first | ((try simp (disch := first | ((try simp only [pn]) <;> omega) | fail) only [pn, pq]) <;> omega) | fail) only [pn, pq]) <;> (intros; (try simp (disch := first | ((try simp (disch := first | ((try simp only [pn]) <;> omega) | fail) only [pn, pq]) <;> omega) | fail) only [pn, pq]) <;> omega))
      · first | omega | ((try simp (disch := first | ((try simp (disch := first | ((try simp only [pn]) <;> omega) | fail) only [pn, pq]) <;> omega) | fail) only [pn, pq]) <;> (intros; (try simp (disch := first | ((try simp (disch := first | ((try simp only [pn]) <;> omega) | fail) only [pn, pq]) <;> omega) | fail) only [pn, pq]) <;> omega))
      · exact hRS233
    · skip
      refine ⟨vin1, ?_⟩
      refine sf_X8_sign hJSq1.1 (fun r234  => ?_)
      refine ⟨vin1, ?_⟩
      refine sf_X9_sign hJSq1.2 (fun r236 u237 hJu237 hfu237  => ?_)
      intro S238 eS238
      subst eS238
      have hJS238 : J8 Sq1.1 ∧ J9 u237 := ⟨hJSq1.1, hJu237⟩
      have hFS238 : True := trivial
      have hRS238 := st_sign hJSq1.2 hiq1_2 hfu237
      clear hfu237
      unfold wp_L_law_1745
      refine ⟨_, ?_, ?_, ?_, ?_, ?_, ?_, rfl⟩
      · first | omega | ((try simp (disch := first | ((try simp (disch := first | ((try simp only [pn]) <;> omega) | fail) only [pn, pq]) <;> omega) | fail) only [pn, pq]) <;> (intros; (try simp (disch := first | ((try simp (disch := first | ((try simp only [pn]) <;> omega) | fail) only [pn, pq]) <;> omega) | fail) only [pn, pq]) <;> omega))
      · exact hJS238
      · exact hFS238
      · first | omega | ((try simp (disch := first | ((try simp (disch := first | ((try simp only [pn]) <;> omega) | fail) only [pn, pq]) <;> omega) | fail) only [pn, pq]) <;> (intros; (try simp (disch := first | ((try simp (disch := first | ((try simp only [pn]) <;> omega) | fail) only [pn, pq]) <;> omega) | fail) only [pn, pq]) <;> omega))
      · first | omega | ((try simp (disch := first | ((try simp (disch := first | ((try simp only [pn]) <;> omega) | fail) only [pn, pq]) <;> omega) | fail) only [pn, pq]) <;> (intros; (try simp (disch := first | ((try simp (disch := first | ((try simp only [pn]) <;> omega) | fail) only [pn, pq]) <;> omega) | fail) only [pn, pq]) <;> omega))
      · exact hRS238
    · skip
      refine ⟨vin1, ?_⟩
      refine ⟨fun c239 => ?_, fun c239 => ?_⟩
      · try simp (disch := first | ((try simp (disch := first | ((try simp only [pn]) <;> omega) | fail) only [pn, pq]) <;> omega) | fail) only [pn, pq] at c239
        unfold wp_L_law_1697
        refine sf_X8_image hJSq1.1 (fun r240 u241 hJu241 hfu241 hzr240 hr240_0 hr240_1 hr240_2 hr240_3 hr240_4 hr240_5 => ?_)
        intro S242 eS242
        subst eS242
        have hJS242 : J8 u241 ∧ J9 Sq1.2 := ⟨hJu241, hJSq1.2⟩
        have hFS242 : True := trivial
        refine ⟨vin1, ?_⟩
        refine ⟨fun c243 => ?_, fun c243 => ?_⟩
        · try simp (disch := first | ((try simp (disch := first | ((try simp only [pn]) <;> omega) | fail) only [pn, pq]) <;> omega) | fail) only [pn, pq] at c243
          unfold wp_L_law_1715
          refine sf_X9_image hJSq1.2 (fun r244 u245 hJu245 hfu245 hzr244 hr244_0 hr244_1 hr244_2 => ?_)
          intro S246 eS246
          subst eS246
          have hJS246 : J8 u241 ∧ J9 u245 := ⟨hJu241, hJu245⟩
          have hFS246 : True := trivial
          have hRS246 : LRF u241 u245 := by first | contradiction | exact st_image hJSq1.2 hiq1_2 hfu241 hr240_0 hr240_1 hr240_2 hr240_3 hr240_4 hr240_5 hfu245 hr244_0 hr244_1 hr244_2 | (exfalso; omega)
          clear hfu241 hr240_0 hr240_1 hr240_2 hr240_3 hr240_4 hr240_5 hfu245 hr244_0 hr244_1 hr244_2
          unfold wp_L_law_1745
          refine ⟨_, ?_, ?_, ?_, ?_, ?_, ?_, rfl⟩
          · first | omega | ((try simp (disch := first | ((try simp (disch := first | ((try simp only [pn]) <;> omega) | fail) only [pn, pq]) <;> omega) | fail) only [pn, pq]) <;> (intros; (try simp (disch := first | ((try simp (disch := first | ((try simp only [pn]) <;> omega) | fail) only [pn, pq]) <;> omega) | fail) only [pn, pq]) <;> omega))
          · exact hJS246
          · exact hFS246
          · first | omega | ((try simp (disch := first | ((try simp (disch := first | ((try simp only [pn]) <;> omega) | fail) only [pn, pq]) <;> omega) | fail) only [pn, pq]) <;> (intros; (try simp (disch := first | ((try simp (disch := first | ((try simp only [pn]) <;> omega) | fail) only [pn, pq]) <;> omega) | fail) only [pn, pq]) <;> omega))
          · first | omega | ((try simp (disch := first | ((try simp (disch := first | ((try simp only [pn]) <;> omega) | fail) only [pn, pq]) <;> omega) | fail) only [pn, pq]) <;> (intros; (try simp (disch := first | ((try simp (disch := first | ((try simp only [pn]) <;> omega) | fail) only [pn, pq]) <;> omega) | fail) only [pn, pq]) <;> omega))
          · exact hRS246
        · try simp (disch := first | ((try simp (disch := first | ((try simp only [pn]) <;> omega) | fail) only [pn, pq]) <;> omega) | fail) only [pn, pq] at c243
          unfold wp_L_law_1715
          refine sf_X9_image hJSq1.2 (fun r247 u248 hJu248 hfu248 hzr247 hr247_0 hr247_1 hr247_2 => ?_)
          intro S249 eS249
          subst eS249
          have hJS249 : J8 u241 ∧ J9 u248 := ⟨hJu241, hJu248⟩
          have hFS249 : True := trivial
          have hRS249 : LRF u241 u248 := by first | contradiction | exact st_image hJSq1.2 hiq1_2 hfu241 hr240_0 hr240_1 hr240_2 hr240_3 hr240_4 hr240_5 hfu248 hr247_0 hr247_1 hr247_2 | (exfalso; omega)
          clear hfu241 hr240_0 hr240_1 hr240_2 hr240_3 hr240_4 hr240_5 hfu248 hr247_0 hr247_1 hr247_2
          unfold wp_L_law_1745
          refine ⟨_, ?_, ?_, ?_, ?_, ?_, ?_, rfl⟩
          · first | omega | ((try simp (disch := first | ((try simp (disch := first | ((try simp only [pn]) <;> omega) | fail) only [pn, pq]) <;> omega) | fail) only [pn, pq]) <;> (intros; (try simp (disch := first | ((try simp (disch := first | ((try simp only [pn]) <;> omega) | fail) only [pn, pq]) <;> omega) | fail) only [pn, pq]) <;> omega))
          · exact hJS249
          · exact hFS249
          · first | omega | ((try simp (disch := first | ((try simp (disch := first | ((try simp only [pn]) <;> omega) | fail) only [pn, pq]) <;> omega) | fail) only [pn, pq]) <;> (intros; (try simp (disch := first | ((try simp (disch := first | ((try simp only [pn]) <;> omega) | fail) only [pn, pq]) <;> omega) | fail) only [pn, pq]) <;> omega))
          · first | omega | ((try simp (disch := first | ((try simp (disch := first | ((try simp only [pn]) <;> omega) | fail) only [pn, pq]) <;> omega) | fail) only [pn, pq]) <;> (intros; (try simp (disch := first | ((try simp (disch := first | ((try simp only [pn]) <;> omega) | fail) only [pn, pq]) <;> omega) | fail) only [pn, pq]) <;> omega))
          · exact hRS249
      · try simp (disch := first | ((try simp (disch := first | ((try simp only [pn]) <;> omega) | fail) only [pn, pq]) <;> omega) | fail) only [pn, pq] at c239
        unfold wp_L_law_1697
        refine sf_X8_image hJSq1.1 (fun r250 u251 hJu251 hfu251 hzr250 hr250_0 hr250_1 hr250_2 hr250_3 hr250_4 hr250_5 => ?_)
        intro S252 eS252
        subst eS252
        have hJS252 : J8 u251 ∧ J9 Sq1.2 := ⟨hJu251, hJSq1.2⟩
        have hFS252 : True := trivial
        refine ⟨vin1, ?_⟩
        refine ⟨fun c253 => ?_, fun c253 => ?_⟩
        · try simp (disch := first | ((try simp (disch := first | ((try simp only [pn]) <;> omega) | fail) only [pn, pq]) <;> omega) | fail) only [pn, pq] at c253
          unfold wp_L_law_1715
          refine sf_X9_image hJSq1.2 (fun r254 u255 hJu255 hfu255 hzr254 hr254_0 hr254_1 hr254_2 => ?_)
          intro S256 eS256
          subst eS256
          have hJS256 : J8 u251 ∧ J9 u255 := ⟨hJu251, hJu255⟩
          have hFS256 : True := trivial
          have hRS256 : LRF u251 u255 := by first | contradiction | exact st_image hJSq1.2 hiq1_2 hfu251 hr250_0 hr250_1 hr250_2 hr250_3 hr250_4 hr250_5 hfu255 hr254_0 hr254_1 hr254_2 | (exfalso; omega)
          clear hfu251 hr250_0 hr250_1 hr250_2 hr250_3 hr250_4 hr250_5 hfu255 hr254_0 hr254_1 hr254_2
          unfold wp_L_law_1745
          refine ⟨_, ?_, ?_, ?_, ?_, ?_, ?_, rfl⟩
          · first | omega | ((try simp (disch := first | ((try simp (disch := first | ((try simp only [pn]) <;> omega) | fail) only [pn, pq]) <;> omega) | fail) only [pn, pq]) <;> (intros; (try simp (disch := first | ((try simp (disch := first | ((try simp only [pn]) <;> omega) | fail) only [pn, pq]) <;> omega) | fail) only [pn, pq]) <;> omega))
          · exact hJS256
          · exact hFS256
          · first | omega | ((try simp (disch := first | ((try simp (disch := first | ((try simp only [pn]) <;> omega) | fail) only [pn, pq]) <;> omega) | fail) only [pn, pq]) <;> (intros; (try simp (disch := first | ((try simp (disch := first | ((try simp only [pn]) <;> omega) | fail) only [pn, pq]) <;> omega) | fail) only [pn, pq]) <;> omega))
          · first | omega | ((try simp (disch := first | ((try simp (disch := first | ((try simp only [pn]) <;> omega) | fail) only [pn, pq]) <;> omega) | fail) only [pn, pq]) <;> (intros; (try simp (disch := first | ((try simp (disch := first | ((try simp only [pn]) <;> omega) | fail) only [pn, pq]) <;> omega) | fail) only [pn, pq]) <;> omega))
          · exact hRS256
        · try simp (disch := first | ((try simp (disch := first | ((try simp only [pn]) <;> omega) | fail) only [pn, pq]) <;> omega) | fail) only [pn, pq] at c253
          unfold wp_L_law_1715
          refine sf_X9_image hJSq1.2 (fun r257 u258 hJu258 hfu258 hzr257 hr257_0 hr257_1 hr257_2 => ?_)
          intro S259 eS259
          subst eS259
          have hJS259 : J8 u251 ∧ J9 u258 := ⟨hJu251, hJu258⟩
          have hFS259 : True := trivial
          have hRS259 : LRF u251 u258 := by first | contradiction | exact st_image hJSq1.2 hiq1_2 hfu251 hr250_0 hr250_1 hr250_2 hr250_3 hr250_4 hr250_5 hfu258 hr257_0 hr257_1 hr257_2 | (exfalso; omega)
          clear hfu251 hr250_0 hr250_1 hr250_2 hr250_3 hr250_4 hr250_5 hfu258 hr257_0 hr257_1 hr257_2
          unfold wp_L_law_1745
          refine ⟨_, ?_, ?_, ?_, ?_, ?_, ?_, rfl⟩
          · first | omega | ((try simp (disch := first | ((try simp (disch := first | ((try simp only [pn]) <;> omega) | fail) only [pn, pq]) <;> omega) | fail) only [pn, pq]) <;> (intros; (try simp (disch := first | ((try simp (disch := first | ((try simp only [pn]) <;> omega) | fail) only [pn, pq]) <;> omega) | fail) only [pn, pq]) <;> omega))
          · exact hJS259
          · exact hFS259
          · first | omega | ((try simp (disch := first | ((try simp (disch := first | ((try simp only [pn]) <;> omega) | fail) only [pn, pq]) <;> omega) | fail) only [pn, pq]) <;> (intros; (try simp (disch := first | ((try simp (disch := first | ((try simp only [pn]) <;> omega) | fail) only [pn, pq]) <;> omega) | fail) only [pn, pq]) <;> omega))
          · first | omega | ((try simp (disch := first | ((try simp (disch := first | ((try simp only [pn]) <;> omega) | fail) only [pn, pq]) <;> omega) | fail) only [pn, pq]) <;> (intros; (try simp (disch := first | ((try simp (disch := first | ((try simp only [pn]) <;> omega) | fail) only [pn, pq]) <;> omega) | fail) only [pn, pq]) <;> omega))
          · exact hRS259
    · skip
      refine ⟨vin1, ?_⟩
      refine sf_X8_look hJSq1.1 (fun r260  => ?_)
      refine ⟨vin1, ?_⟩
      refine sf_X9_look hJSq1.2 (fun r262 u263 hJu263 hfu263  => ?_)
      intro S264 eS264
      subst eS264
      have hJS264 : J8 Sq1.1 ∧ J9 u263 := ⟨hJSq1.1, hJu263⟩
      have hFS264 : True := trivial
      have hRS264 := st_look hJSq1.2 hiq1_2 hfu263
      clear hfu263
      unfold wp_L_law_1745
      refine ⟨_, ?_, ?_, ?_, ?_, ?_, ?_, rfl⟩
      · first | omega | ((try simp (disch := first | ((try simp (disch := first | ((try simp only [pn]) <;> omega) | fail) only [pn, pq]) <;> omega) | fail) only [pn, pq]) <;> (intros; (try simp (disch := first | ((try simp (disch := first | ((try simp only [pn]) <;> omega) | fail) only [pn, pq]) <;> omega) | fail) only [pn, pq]) <;> omega))
      · exact hJS264
      · exact hFS264
      · first | omega | ((try simp (disch := first | ((try simp (disch := first | ((try simp only [pn]) <;> omega) | fail) only [pn, pq]) <;> omega) | fail) only [pn, pq]) <;> (intros; (try simp (disch := first | ((try simp (disch := first | ((try simp only [pn]) <;> omega) | fail) only [pn, pq]) <;> omega) | fail) only [pn, pq]) <;> omega))
      · first | omega | ((try simp (disch := first | ((try simp (disch := first | ((try simp only [pn]) <;> omega) | fail) only [pn, pq]) <;> omega) | fail) only [pn, pq]) <;> (intros; (try simp (disch := first | ((try simp (disch := first | ((try simp only [pn]) <;> omega) | fail) only [pn, pq]) <;> omega) | fail) only [pn, pq]) <;> omega))
      · exact hRS264
