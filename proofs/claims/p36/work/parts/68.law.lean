def F_L_law (S u : bT8 × bT9) : Prop := True
set_option maxRecDepth 20000 in
set_option maxHeartbeats 40000000 in
theorem sf_law {L : Nat} {scr : Nat → Int32} (hL : L ≤ 3584) {S : bT8 × bT9} (hJ : J8 S.1 ∧ J9 S.2) (hR0 : LRQ S.1 S.2) : wp_L_law L scr S 0 := by
  unfold wp_L_law
  have eL : (Int32.ofNat L).toInt = (L : Int) := nI_toInt (by omega)
  have hFS : F_L_law S S := trivial
  refine ⟨fun n x3q1 Sq1 => (J8 Sq1.1 ∧ J9 Sq1.2) ∧ (F_L_law S Sq1) ∧ (0 ≤ (x3q1).toInt) ∧ ((x3q1).toInt ≤ 4000) ∧ (LRQ Sq1.1 Sq1.2) ∧ n = ((L : Int) + 8 - (x3q1).toInt).toNat, ⟨_, hJ, hFS, (by first | omega | ((try simp (disch := first | ((try simp (disch := first | ((try simp only [pn]) <;> omega) | fail) only [pn, pq]) <;> omega) | fail) only [pn, pq]) <;> (intros; (try simp (disch := first | ((try simp (disch := first | ((try simp only [pn]) <;> omega) | fail) only [pn, pq]) <;> omega) | fail) only [pn, pq]) <;> omega))), (by first | omega | ((try simp (disch := first | ((try simp (disch := first | ((try simp only [pn]) <;> omega) | fail) only [pn, pq]) <;> omega) | fail) only [pn, pq]) <;> (intros; (try simp (disch := first | ((try simp (disch := first | ((try simp only [pn]) <;> omega) | fail) only [pn, pq]) <;> omega) | fail) only [pn, pq]) <;> omega))), (by exact hR0), rfl⟩, ?_⟩
  rintro n2 x3q1 Sq1 ⟨hJSq1, hFSq1, hiq1_0, hiq1_1, hiq1_2, hn2⟩
  have rgx3q1 := pt_rg x3q1
  unfold wp_L_law_18b
  refine ⟨fun c3 => ?_, fun c3 => ?_⟩
  · try simp (disch := first | ((try simp (disch := first | ((try simp only [pn]) <;> omega) | fail) only [pn, pq]) <;> omega) | fail) only [pn, pq] at c3
    exact rfl
  · try simp (disch := first | ((try simp (disch := first | ((try simp only [pn]) <;> omega) | fail) only [pn, pq]) <;> omega) | fail) only [pn, pq] at c3
    refine ⟨pt_in (by first | omega | ((try simp (disch := first | ((try simp (disch := first | ((try simp only [pn]) <;> omega) | fail) only [pn, pq]) <;> omega) | fail) only [pn, pq]) <;> (intros; (try simp (disch := first | ((try simp (disch := first | ((try simp only [pn]) <;> omega) | fail) only [pn, pq]) <;> omega) | fail) only [pn, pq]) <;> omega))) (by first | omega | ((try simp (disch := first | ((try simp (disch := first | ((try simp only [pn]) <;> omega) | fail) only [pn, pq]) <;> omega) | fail) only [pn, pq]) <;> (intros; (try simp (disch := first | ((try simp (disch := first | ((try simp only [pn]) <;> omega) | fail) only [pn, pq]) <;> omega) | fail) only [pn, pq]) <;> omega))), ?_⟩
    have vin1 : vp_in (x3q1 + (1 : Int32)) L := pt_in (by first | omega | ((try simp (disch := first | ((try simp (disch := first | ((try simp only [pn]) <;> omega) | fail) only [pn, pq]) <;> omega) | fail) only [pn, pq]) <;> (intros; (try simp (disch := first | ((try simp (disch := first | ((try simp only [pn]) <;> omega) | fail) only [pn, pq]) <;> omega) | fail) only [pn, pq]) <;> omega))) (by first | omega | ((try simp (disch := first | ((try simp (disch := first | ((try simp only [pn]) <;> omega) | fail) only [pn, pq]) <;> omega) | fail) only [pn, pq]) <;> (intros; (try simp (disch := first | ((try simp (disch := first | ((try simp only [pn]) <;> omega) | fail) only [pn, pq]) <;> omega) | fail) only [pn, pq]) <;> omega)))
    have vin2 : vp_in (x3q1 + (2 : Int32)) L := pt_in (by first | omega | ((try simp (disch := first | ((try simp (disch := first | ((try simp only [pn]) <;> omega) | fail) only [pn, pq]) <;> omega) | fail) only [pn, pq]) <;> (intros; (try simp (disch := first | ((try simp (disch := first | ((try simp only [pn]) <;> omega) | fail) only [pn, pq]) <;> omega) | fail) only [pn, pq]) <;> omega))) (by first | omega | ((try simp (disch := first | ((try simp (disch := first | ((try simp only [pn]) <;> omega) | fail) only [pn, pq]) <;> omega) | fail) only [pn, pq]) <;> (intros; (try simp (disch := first | ((try simp (disch := first | ((try simp only [pn]) <;> omega) | fail) only [pn, pq]) <;> omega) | fail) only [pn, pq]) <;> omega)))
    have vin3 : vp_in (x3q1 + (3 : Int32)) L := pt_in (by first | omega | ((try simp (disch := first | ((try simp (disch := first | ((try simp only [pn]) <;> omega) | fail) only [pn, pq]) <;> omega) | fail) only [pn, pq]) <;> (intros; (try simp (disch := first | ((try simp (disch := first | ((try simp only [pn]) <;> omega) | fail) only [pn, pq]) <;> omega) | fail) only [pn, pq]) <;> omega))) (by first | omega | ((try simp (disch := first | ((try simp (disch := first | ((try simp only [pn]) <;> omega) | fail) only [pn, pq]) <;> omega) | fail) only [pn, pq]) <;> (intros; (try simp (disch := first | ((try simp (disch := first | ((try simp only [pn]) <;> omega) | fail) only [pn, pq]) <;> omega) | fail) only [pn, pq]) <;> omega)))
    have vin4 : vp_in (x3q1 + (4 : Int32)) L := pt_in (by first | omega | ((try simp (disch := first | ((try simp (disch := first | ((try simp only [pn]) <;> omega) | fail) only [pn, pq]) <;> omega) | fail) only [pn, pq]) <;> (intros; (try simp (disch := first | ((try simp (disch := first | ((try simp only [pn]) <;> omega) | fail) only [pn, pq]) <;> omega) | fail) only [pn, pq]) <;> omega))) (by first | omega | ((try simp (disch := first | ((try simp (disch := first | ((try simp only [pn]) <;> omega) | fail) only [pn, pq]) <;> omega) | fail) only [pn, pq]) <;> (intros; (try simp (disch := first | ((try simp (disch := first | ((try simp only [pn]) <;> omega) | fail) only [pn, pq]) <;> omega) | fail) only [pn, pq]) <;> omega)))
    have vin5 : vp_in (x3q1 + (5 : Int32)) L := pt_in (by first | omega | ((try simp (disch := first | ((try simp (disch := first | ((try simp only [pn]) <;> omega) | fail) only [pn, pq]) <;> omega) | fail) only [pn, pq]) <;> (intros; (try simp (disch := first | ((try simp (disch := first | ((try simp only [pn]) <;> omega) | fail) only [pn, pq]) <;> omega) | fail) only [pn, pq]) <;> omega))) (by first | omega | ((try simp (disch := first | ((try simp (disch := first | ((try simp only [pn]) <;> omega) | fail) only [pn, pq]) <;> omega) | fail) only [pn, pq]) <;> (intros; (try simp (disch := first | ((try simp (disch := first | ((try simp only [pn]) <;> omega) | fail) only [pn, pq]) <;> omega) | fail) only [pn, pq]) <;> omega)))
    have vin6 : vp_in (x3q1 + (6 : Int32)) L := pt_in (by first | omega | ((try simp (disch := first | ((try simp (disch := first | ((try simp only [pn]) <;> omega) | fail) only [pn, pq]) <;> omega) | fail) only [pn, pq]) <;> (intros; (try simp (disch := first | ((try simp (disch := first | ((try simp only [pn]) <;> omega) | fail) only [pn, pq]) <;> omega) | fail) only [pn, pq]) <;> omega))) (by first | omega | ((try simp (disch := first | ((try simp (disch := first | ((try simp only [pn]) <;> omega) | fail) only [pn, pq]) <;> omega) | fail) only [pn, pq]) <;> (intros; (try simp (disch := first | ((try simp (disch := first | ((try simp only [pn]) <;> omega) | fail) only [pn, pq]) <;> omega) | fail) only [pn, pq]) <;> omega)))
    refine ⟨fun c => ?_, fun c => ?_, fun c => ?_, fun c => ?_, fun c => ?_, fun c => ?_, fun c => ?_, fun c => ?_, fun c => ?_, fun c => ?_, fun c => ?_, fun c => ?_, fun c => ?_, fun c => ?_, fun c => ?_, fun c => ?_, fun c => ?_, fun c => ?_, fun c => ?_, fun c => ?_, fun c => ?_, fun c => ?_, fun c => ?_, fun c => ?_, fun c => ?_, fun c => ?_, fun c => ?_, fun c => ?_, fun c => ?_, fun c => ?_, fun c => ?_, fun c => ?_, fun c => ?_, fun c => ?_, fun c => ?_, fun c => ?_, fun c => ?_, fun c => ?_, fun c => ?_, fun c => ?_, fun c => ?_, fun c => ?_, fun c => ?_, fun c => ?_, fun c => ?_, fun c => ?_⟩
    · skip
      unfold wp_L_law_1745
      refine ⟨_, ?_, ?_, ?_, ?_, ?_, ?_, rfl⟩
      · first | omega | ((try simp (disch := first | ((try simp (disch := first | ((try simp only [pn]) <;> omega) | fail) only [pn, pq]) <;> omega) | fail) only [pn, pq]) <;> (intros; (try simp (disch := first | ((try simp (disch := first | ((try simp only [pn]) <;> omega) | fail) only [pn, pq]) <;> omega) | fail) only [pn, pq]) <;> omega))
      · exact hJSq1
      · exact hFSq1
      · first | omega | ((try simp (disch := first | ((try simp (disch := first | ((try simp only [pn]) <;> omega) | fail) only [pn, pq]) <;> omega) | fail) only [pn, pq]) <;> (intros; (try simp (disch := first | ((try simp (disch := first | ((try simp only [pn]) <;> omega) | fail) only [pn, pq]) <;> omega) | fail) only [pn, pq]) <;> omega))
      · first | omega | ((try simp (disch := first | ((try simp (disch := first | ((try simp only [pn]) <;> omega) | fail) only [pn, pq]) <;> omega) | fail) only [pn, pq]) <;> (intros; (try simp (disch := first | ((try simp (disch := first | ((try simp only [pn]) <;> omega) | fail) only [pn, pq]) <;> omega) | fail) only [pn, pq]) <;> omega))
      · exact hiq1_2
    · skip
      refine ⟨vin1, ?_⟩
      refine ⟨vin2, ?_⟩
      refine ⟨vin3, ?_⟩
      refine ⟨vin4, ?_⟩
      refine ⟨vin5, ?_⟩
      refine sf_X8_feed hJSq1.1 (fun r4 u5 hJu5 hfu5 hr4_0 hr4_1 hr4_2 hr4_3 => ?_)
      intro S6 eS6
      subst eS6
      have hJS6 : J8 u5 ∧ J9 Sq1.2 := ⟨hJu5, hJSq1.2⟩
      have hFS6 : True := trivial
      refine ⟨vin1, ?_⟩
      refine ⟨vin2, ?_⟩
      refine ⟨vin3, ?_⟩
      refine ⟨vin4, ?_⟩
      refine ⟨vin5, ?_⟩
      refine sf_X9_feed hJSq1.2 (fun r7 u8 hJu8 hfu8 hr7_0 hr7_1 hr7_2 hr7_3 => ?_)
      intro S9 eS9
      subst eS9
      have hJS9 : J8 u5 ∧ J9 u8 := ⟨hJu5, hJu8⟩
      have hFS9 : True := trivial
      have hRS9 := st_feed hJSq1.2 hiq1_2 hfu5 hr4_0 hr4_1 hr4_2 hr4_3 hfu8 hr7_0 hr7_1 hr7_2 hr7_3
      clear hfu5 hr4_0 hr4_1 hr4_2 hr4_3 hfu8 hr7_0 hr7_1 hr7_2 hr7_3
      unfold wp_L_law_1745
      refine ⟨_, ?_, ?_, ?_, ?_, ?_, ?_, rfl⟩
      · first | omega | ((try simp (disch := first | ((try simp (disch := first | ((try simp only [pn]) <;> omega) | fail) only [pn, pq]) <;> omega) | fail) only [pn, pq]) <;> (intros; (try simp (disch := first | ((try simp (disch := first | ((try simp only [pn]) <;> omega) | fail) only [pn, pq]) <;> omega) | fail) only [pn, pq]) <;> omega))
      · exact hJS9
      · exact hFS9
      · first | omega | ((try simp (disch := first | ((try simp (disch := first | ((try simp only [pn]) <;> omega) | fail) only [pn, pq]) <;> omega) | fail) only [pn, pq]) <;> (intros; (try simp (disch := first | ((try simp (disch := first | ((try simp only [pn]) <;> omega) | fail) only [pn, pq]) <;> omega) | fail) only [pn, pq]) <;> omega))
      · first | omega | ((try simp (disch := first | ((try simp (disch := first | ((try simp only [pn]) <;> omega) | fail) only [pn, pq]) <;> omega) | fail) only [pn, pq]) <;> (intros; (try simp (disch := first | ((try simp (disch := first | ((try simp only [pn]) <;> omega) | fail) only [pn, pq]) <;> omega) | fail) only [pn, pq]) <;> omega))
      · exact hRS9
    · skip
      refine ⟨vin1, ?_⟩
      refine sf_X8_end hJSq1.1 (fun r10 u11 hJu11 hfu11 hzr10 hr10_0 hr10_1 => ?_)
      intro S12 eS12
      subst eS12
      have hJS12 : J8 u11 ∧ J9 Sq1.2 := ⟨hJu11, hJSq1.2⟩
      have hFS12 : True := trivial
      refine ⟨vin1, ?_⟩
      refine sf_X9_end hJSq1.2 (fun r13 u14 hJu14 hfu14 hzr13 hr13_0 => ?_)
      intro S15 eS15
      subst eS15
      have hJS15 : J8 u11 ∧ J9 u14 := ⟨hJu11, hJu14⟩
      have hFS15 : True := trivial
      have hRS15 := st_end hJSq1.2 hiq1_2 hfu11 hr10_0 hr10_1 hfu14 hr13_0
      clear hfu11 hr10_0 hr10_1 hfu14 hr13_0
      unfold wp_L_law_1745
      refine ⟨_, ?_, ?_, ?_, ?_, ?_, ?_, rfl⟩
      · first | omega | ((try simp (disch := first | ((try simp (disch := first | ((try simp only [pn]) <;> omega) | fail) only [pn, pq]) <;> omega) | fail) only [pn, pq]) <;> (intros; (try simp (disch := first | ((try simp (disch := first | ((try simp only [pn]) <;> omega) | fail) only [pn, pq]) <;> omega) | fail) only [pn, pq]) <;> omega))
      · exact hJS15
      · exact hFS15
      · first | omega | ((try simp (disch := first | ((try simp (disch := first | ((try simp only [pn]) <;> omega) | fail) only [pn, pq]) <;> omega) | fail) only [pn, pq]) <;> (intros; (try simp (disch := first | ((try simp (disch := first | ((try simp only [pn]) <;> omega) | fail) only [pn, pq]) <;> omega) | fail) only [pn, pq]) <;> omega))
      · first | omega | ((try simp (disch := first | ((try simp (disch := first | ((try simp only [pn]) <;> omega) | fail) only [pn, pq]) <;> omega) | fail) only [pn, pq]) <;> (intros; (try simp (disch := first | ((try simp (disch := first | ((try simp only [pn]) <;> omega) | fail) only [pn, pq]) <;> omega) | fail) only [pn, pq]) <;> omega))
      · exact hRS15
    · skip
      refine sf_X8_mode hJSq1.1 (fun r16 u17 hJu17 hfu17 hr16_0 hr16_1 hr16_2 hr16_3 => ?_)
      intro S18 eS18
      subst eS18
      have hJS18 : J8 u17 ∧ J9 Sq1.2 := ⟨hJu17, hJSq1.2⟩
      have hFS18 : True := trivial
      refine sf_X9_mode hJSq1.2 (fun r19 u20 hJu20 hfu20 hr19_0 hr19_1 hr19_2 hr19_3 hr19_4 hr19_5 => ?_)
      intro S21 eS21
      subst eS21
      have hJS21 : J8 u17 ∧ J9 u20 := ⟨hJu17, hJu20⟩
      have hFS21 : True := trivial
      have hRS21 := st_mode hJSq1.2 hiq1_2 hfu17 hr16_0 hr16_1 hr16_2 hr16_3 hfu20 hr19_0 hr19_1 hr19_2 hr19_3 hr19_4 hr19_5
      clear hfu17 hr16_0 hr16_1 hr16_2 hr16_3 hfu20 hr19_0 hr19_1 hr19_2 hr19_3 hr19_4 hr19_5
      unfold wp_L_law_1745
      refine ⟨_, ?_, ?_, ?_, ?_, ?_, ?_, rfl⟩
      · first | omega | ((try simp (disch := first | ((try simp (disch := first | ((try simp only [pn]) <;> omega) | fail) only [pn, pq]) <;> omega) | fail) only [pn, pq]) <;> (intros; (try simp (disch := first | ((try simp (disch := first | ((try simp only [pn]) <;> omega) | fail) only [pn, pq]) <;> omega) | fail) only [pn, pq]) <;> omega))
      · exact hJS21
      · exact hFS21
      · first | omega | ((try simp (disch := first | ((try simp (disch := first | ((try simp only [pn]) <;> omega) | fail) only [pn, pq]) <;> omega) | fail) only [pn, pq]) <;> (intros; (try simp (disch := first | ((try simp (disch := first | ((try simp only [pn]) <;> omega) | fail) only [pn, pq]) <;> omega) | fail) only [pn, pq]) <;> omega))
      · first | omega | ((try simp (disch := first | ((try simp (disch := first | ((try simp only [pn]) <;> omega) | fail) only [pn, pq]) <;> omega) | fail) only [pn, pq]) <;> (intros; (try simp (disch := first | ((try simp (disch := first | ((try simp only [pn]) <;> omega) | fail) only [pn, pq]) <;> omega) | fail) only [pn, pq]) <;> omega))
      · exact hRS21
    · skip
      refine sf_X8_row hJSq1.1 (fun r22 u23 hJu23 hfu23 hr22_0 hr22_1 hr22_2 => ?_)
      intro S24 eS24
      subst eS24
      have hJS24 : J8 u23 ∧ J9 Sq1.2 := ⟨hJu23, hJSq1.2⟩
      have hFS24 : True := trivial
      refine sf_X9_row hJSq1.2 (fun r25 u26 hJu26 hfu26 hr25_0 hr25_1 => ?_)
      intro S27 eS27
      subst eS27
      have hJS27 : J8 u23 ∧ J9 u26 := ⟨hJu23, hJu26⟩
      have hFS27 : True := trivial
      have hRS27 := st_row hJSq1.2 hiq1_2 hfu23 hr22_0 hr22_1 hr22_2 hfu26 hr25_0 hr25_1
      clear hfu23 hr22_0 hr22_1 hr22_2 hfu26 hr25_0 hr25_1
      unfold wp_L_law_1745
      refine ⟨_, ?_, ?_, ?_, ?_, ?_, ?_, rfl⟩
      · first | omega | ((try simp (disch := first | ((try simp (disch := first | ((try simp only [pn]) <;> omega) | fail) only [pn, pq]) <;> omega) | fail) only [pn, pq]) <;> (intros; (try simp (disch := first | ((try simp (disch := first | ((try simp only [pn]) <;> omega) | fail) only [pn, pq]) <;> omega) | fail) only [pn, pq]) <;> omega))
      · exact hJS27
      · exact hFS27
      · first | omega | ((try simp (disch := first | ((try simp (disch := first | ((try simp only [pn]) <;> omega) | fail) only [pn, pq]) <;> omega) | fail) only [pn, pq]) <;> (intros; (try simp (disch := first | ((try simp (disch := first | ((try simp only [pn]) <;> omega) | fail) only [pn, pq]) <;> omega) | fail) only [pn, pq]) <;> omega))
      · first | omega | ((try simp (disch := first | ((try simp (disch := first | ((try simp only [pn]) <;> omega) | fail) only [pn, pq]) <;> omega) | fail) only [pn, pq]) <;> (intros; (try simp (disch := first | ((try simp (disch := first | ((try simp only [pn]) <;> omega) | fail) only [pn, pq]) <;> omega) | fail) only [pn, pq]) <;> omega))
      · exact hRS27
    · skip
      refine sf_X8_keys hJSq1.1 (fun r28 u29 hJu29 hfu29 hr28_0 hr28_1 hr28_2 => ?_)
      intro S30 eS30
      subst eS30
      have hJS30 : J8 u29 ∧ J9 Sq1.2 := ⟨hJu29, hJSq1.2⟩
      have hFS30 : True := trivial
      refine sf_X9_keys hJSq1.2 (fun r31 u32 hJu32 hfu32 hr31_0 hr31_1 hr31_2 hr31_3 hr31_4 hr31_5 => ?_)
      intro S33 eS33
      subst eS33
      have hJS33 : J8 u29 ∧ J9 u32 := ⟨hJu29, hJu32⟩
      have hFS33 : True := trivial
      have hRS33 := st_keys hJSq1.2 hiq1_2 hfu29 hr28_0 hr28_1 hr28_2 hfu32 hr31_0 hr31_1 hr31_2 hr31_3 hr31_4 hr31_5
      clear hfu29 hr28_0 hr28_1 hr28_2 hfu32 hr31_0 hr31_1 hr31_2 hr31_3 hr31_4 hr31_5
      unfold wp_L_law_1745
      refine ⟨_, ?_, ?_, ?_, ?_, ?_, ?_, rfl⟩
      · first | omega | ((try simp (disch := first | ((try simp (disch := first | ((try simp only [pn]) <;> omega) | fail) only [pn, pq]) <;> omega) | fail) only [pn, pq]) <;> (intros; (try simp (disch := first | ((try simp (disch := first | ((try simp only [pn]) <;> omega) | fail) only [pn, pq]) <;> omega) | fail) only [pn, pq]) <;> omega))
      · exact hJS33
      · exact hFS33
      · first | omega | ((try simp (disch := first | ((try simp (disch := first | ((try simp only [pn]) <;> omega) | fail) only [pn, pq]) <;> omega) | fail) only [pn, pq]) <;> (intros; (try simp (disch := first | ((try simp (disch := first | ((try simp only [pn]) <;> omega) | fail) only [pn, pq]) <;> omega) | fail) only [pn, pq]) <;> omega))
      · first | omega | ((try simp (disch := first | ((try simp (disch := first | ((try simp only [pn]) <;> omega) | fail) only [pn, pq]) <;> omega) | fail) only [pn, pq]) <;> (intros; (try simp (disch := first | ((try simp (disch := first | ((try simp only [pn]) <;> omega) | fail) only [pn, pq]) <;> omega) | fail) only [pn, pq]) <;> omega))
      · exact hRS33
    · skip
      refine ⟨vin1, ?_⟩
      refine ⟨vin2, ?_⟩
      refine sf_X8_set hJSq1.1 (fun r34 u35 hJu35 hfu35 hzr34 hr34_0 hr34_1 hr34_2 => ?_)
      intro S36 eS36
      subst eS36
      have hJS36 : J8 u35 ∧ J9 Sq1.2 := ⟨hJu35, hJSq1.2⟩
      have hFS36 : True := trivial
      refine ⟨vin1, ?_⟩
      refine ⟨vin2, ?_⟩
      refine sf_X9_set hJSq1.2 (fun r37 u38 hJu38 hfu38 hzr37 hr37_0 hr37_1 hr37_2 hr37_3 hr37_4 hr37_5 hr37_6 hr37_7 hr37_8 => ?_)
      intro S39 eS39
      subst eS39
      have hJS39 : J8 u35 ∧ J9 u38 := ⟨hJu35, hJu38⟩
      have hFS39 : True := trivial
      have hRS39 := st_set hJSq1.2 hiq1_2 hfu35 hr34_0 hr34_1 hr34_2 hfu38 hr37_0 hr37_1 hr37_2 hr37_3 hr37_4 hr37_5 hr37_6 hr37_7 hr37_8
      clear hfu35 hr34_0 hr34_1 hr34_2 hfu38 hr37_0 hr37_1 hr37_2 hr37_3 hr37_4 hr37_5 hr37_6 hr37_7 hr37_8
      unfold wp_L_law_1745
      refine ⟨_, ?_, ?_, ?_, ?_, ?_, ?_, rfl⟩
      · first | omega | ((try simp (disch := first | ((try simp (disch := first | ((try simp only [pn]) <;> omega) | fail) only [pn, pq]) <;> omega) | fail) only [pn, pq]) <;> (intros; (try simp (disch := first | ((try simp (disch := first | ((try simp only [pn]) <;> omega) | fail) only [pn, pq]) <;> omega) | fail) only [pn, pq]) <;> omega))
      · exact hJS39
      · exact hFS39
      · first | omega | ((try simp (disch := first | ((try simp (disch := first | ((try simp only [pn]) <;> omega) | fail) only [pn, pq]) <;> omega) | fail) only [pn, pq]) <;> (intros; (try simp (disch := first | ((try simp (disch := first | ((try simp only [pn]) <;> omega) | fail) only [pn, pq]) <;> omega) | fail) only [pn, pq]) <;> omega))
      · first | omega | ((try simp (disch := first | ((try simp (disch := first | ((try simp only [pn]) <;> omega) | fail) only [pn, pq]) <;> omega) | fail) only [pn, pq]) <;> (intros; (try simp (disch := first | ((try simp (disch := first | ((try simp only [pn]) <;> omega) | fail) only [pn, pq]) <;> omega) | fail) only [pn, pq]) <;> omega))
      · exact hRS39
    · skip
      refine ⟨vin1, ?_⟩
      refine sf_X8_state hJSq1.1 (fun r40 u41 hJu41 hfu41 hr40_0 hr40_1 => ?_)
      intro S42 eS42
      subst eS42
      have hJS42 : J8 u41 ∧ J9 Sq1.2 := ⟨hJu41, hJSq1.2⟩
      have hFS42 : True := trivial
      refine ⟨vin1, ?_⟩
      refine sf_X9_state hJSq1.2 (fun r43 u44 hJu44 hfu44 hr43_0 hr43_1 hr43_2 hr43_3 hr43_4 hr43_5 => ?_)
      intro S45 eS45
      subst eS45
      have hJS45 : J8 u41 ∧ J9 u44 := ⟨hJu41, hJu44⟩
      have hFS45 : True := trivial
      have hRS45 := st_state hJSq1.2 hiq1_2 hfu41 hr40_0 hr40_1 hfu44 hr43_0 hr43_1 hr43_2 hr43_3 hr43_4 hr43_5
      clear hfu41 hr40_0 hr40_1 hfu44 hr43_0 hr43_1 hr43_2 hr43_3 hr43_4 hr43_5
      unfold wp_L_law_1745
      refine ⟨_, ?_, ?_, ?_, ?_, ?_, ?_, rfl⟩
      · first | omega | ((try simp (disch := first | ((try simp (disch := first | ((try simp only [pn]) <;> omega) | fail) only [pn, pq]) <;> omega) | fail) only [pn, pq]) <;> (intros; (try simp (disch := first | ((try simp (disch := first | ((try simp only [pn]) <;> omega) | fail) only [pn, pq]) <;> omega) | fail) only [pn, pq]) <;> omega))
      · exact hJS45
      · exact hFS45
      · first | omega | ((try simp (disch := first | ((try simp (disch := first | ((try simp only [pn]) <;> omega) | fail) only [pn, pq]) <;> omega) | fail) only [pn, pq]) <;> (intros; (try simp (disch := first | ((try simp (disch := first | ((try simp only [pn]) <;> omega) | fail) only [pn, pq]) <;> omega) | fail) only [pn, pq]) <;> omega))
      · first | omega | ((try simp (disch := first | ((try simp (disch := first | ((try simp only [pn]) <;> omega) | fail) only [pn, pq]) <;> omega) | fail) only [pn, pq]) <;> (intros; (try simp (disch := first | ((try simp (disch := first | ((try simp only [pn]) <;> omega) | fail) only [pn, pq]) <;> omega) | fail) only [pn, pq]) <;> omega))
      · exact hRS45
    · skip
      refine ⟨vin1, ?_⟩
      refine ⟨vin2, ?_⟩
      refine ⟨vin3, ?_⟩
      refine sf_X8_add hJSq1.1 (fun r46 u47 hJu47 hfu47 hr46_0 => ?_)
      intro S48 eS48
      subst eS48
      have hJS48 : J8 u47 ∧ J9 Sq1.2 := ⟨hJu47, hJSq1.2⟩
      have hFS48 : True := trivial
      refine ⟨vin1, ?_⟩
      refine ⟨vin2, ?_⟩
      refine ⟨vin3, ?_⟩
      refine sf_X9_add hJSq1.2 (fun r49 u50 hJu50 hfu50 hr49_0 hr49_1 hr49_2 hr49_3 hr49_4 => ?_)
      intro S51 eS51
      subst eS51
      have hJS51 : J8 u47 ∧ J9 u50 := ⟨hJu47, hJu50⟩
      have hFS51 : True := trivial
      have hRS51 := st_add hJSq1.2 hiq1_2 hfu47 hr46_0 hfu50 hr49_0 hr49_1 hr49_2 hr49_3 hr49_4
      clear hfu47 hr46_0 hfu50 hr49_0 hr49_1 hr49_2 hr49_3 hr49_4
      unfold wp_L_law_1745
      refine ⟨_, ?_, ?_, ?_, ?_, ?_, ?_, rfl⟩
      · first | omega | ((try simp (disch := first | ((try simp (disch := first | ((try simp only [pn]) <;> omega) | fail) only [pn, pq]) <;> omega) | fail) only [pn, pq]) <;> (intros; (try simp (disch := first | ((try simp (disch := first | ((try simp only [pn]) <;> omega) | fail) only [pn, pq]) <;> omega) | fail) only [pn, pq]) <;> omega))
      · exact hJS51
      · exact hFS51
      · first | omega | ((try simp (disch := first | ((try simp (disch := first | ((try simp only [pn]) <;> omega) | fail) only [pn, pq]) <;> omega) | fail) only [pn, pq]) <;> (intros; (try simp (disch := first | ((try simp (disch := first | ((try simp only [pn]) <;> omega) | fail) only [pn, pq]) <;> omega) | fail) only [pn, pq]) <;> omega))
      · first | omega | ((try simp (disch := first | ((try simp (disch := first | ((try simp only [pn]) <;> omega) | fail) only [pn, pq]) <;> omega) | fail) only [pn, pq]) <;> (intros; (try simp (disch := first | ((try simp (disch := first | ((try simp only [pn]) <;> omega) | fail) only [pn, pq]) <;> omega) | fail) only [pn, pq]) <;> omega))
      · exact hRS51
    · skip
      refine ⟨vin1, ?_⟩
      refine ⟨vin2, ?_⟩
      refine ⟨vin3, ?_⟩
      refine sf_X8_remove hJSq1.1 (fun r52 u53 hJu53 hfu53 hr52_0 hr52_1 => ?_)
      intro S54 eS54
      subst eS54
      have hJS54 : J8 u53 ∧ J9 Sq1.2 := ⟨hJu53, hJSq1.2⟩
      have hFS54 : True := trivial
      refine ⟨vin1, ?_⟩
      refine ⟨vin2, ?_⟩
      refine ⟨vin3, ?_⟩
      refine sf_X9_remove hJSq1.2 (fun r55 u56 hJu56 hfu56 hr55_0 hr55_1 hr55_2 hr55_3 hr55_4 hr55_5 => ?_)
      intro S57 eS57
      subst eS57
      have hJS57 : J8 u53 ∧ J9 u56 := ⟨hJu53, hJu56⟩
      have hFS57 : True := trivial
      have hRS57 := st_remove hJSq1.2 hiq1_2 hfu53 hr52_0 hr52_1 hfu56 hr55_0 hr55_1 hr55_2 hr55_3 hr55_4 hr55_5
      clear hfu53 hr52_0 hr52_1 hfu56 hr55_0 hr55_1 hr55_2 hr55_3 hr55_4 hr55_5
      unfold wp_L_law_1745
      refine ⟨_, ?_, ?_, ?_, ?_, ?_, ?_, rfl⟩
      · first | omega | ((try simp (disch := first | ((try simp (disch := first | ((try simp only [pn]) <;> omega) | fail) only [pn, pq]) <;> omega) | fail) only [pn, pq]) <;> (intros; (try simp (disch := first | ((try simp (disch := first | ((try simp only [pn]) <;> omega) | fail) only [pn, pq]) <;> omega) | fail) only [pn, pq]) <;> omega))
      · exact hJS57
      · exact hFS57
      · first | omega | ((try simp (disch := first | ((try simp (disch := first | ((try simp only [pn]) <;> omega) | fail) only [pn, pq]) <;> omega) | fail) only [pn, pq]) <;> (intros; (try simp (disch := first | ((try simp (disch := first | ((try simp only [pn]) <;> omega) | fail) only [pn, pq]) <;> omega) | fail) only [pn, pq]) <;> omega))
      · first | omega | ((try simp (disch := first | ((try simp (disch := first | ((try simp only [pn]) <;> omega) | fail) only [pn, pq]) <;> omega) | fail) only [pn, pq]) <;> (intros; (try simp (disch := first | ((try simp (disch := first | ((try simp only [pn]) <;> omega) | fail) only [pn, pq]) <;> omega) | fail) only [pn, pq]) <;> omega))
      · exact hRS57
    · skip
      refine ⟨vin1, ?_⟩
      refine ⟨vin2, ?_⟩
      refine sf_X8_fill hJSq1.1 (fun r58 u59 hJu59 hfu59 hr58_0 hr58_1 => ?_)
      intro S60 eS60
      subst eS60
      have hJS60 : J8 u59 ∧ J9 Sq1.2 := ⟨hJu59, hJSq1.2⟩
      have hFS60 : True := trivial
      refine ⟨vin1, ?_⟩
      refine ⟨vin2, ?_⟩
      refine sf_X9_fill hJSq1.2 (fun r61 u62 hJu62 hfu62 hr61_0 hr61_1 hr61_2 hr61_3 hr61_4 => ?_)
      intro S63 eS63
      subst eS63
      have hJS63 : J8 u59 ∧ J9 u62 := ⟨hJu59, hJu62⟩
      have hFS63 : True := trivial
      have hRS63 := st_fill hJSq1.2 hiq1_2 hfu59 hr58_0 hr58_1 hfu62 hr61_0 hr61_1 hr61_2 hr61_3 hr61_4
      clear hfu59 hr58_0 hr58_1 hfu62 hr61_0 hr61_1 hr61_2 hr61_3 hr61_4
      unfold wp_L_law_1745
      refine ⟨_, ?_, ?_, ?_, ?_, ?_, ?_, rfl⟩
      · first | omega | ((try simp (disch := first | ((try simp (disch := first | ((try simp only [pn]) <;> omega) | fail) only [pn, pq]) <;> omega) | fail) only [pn, pq]) <;> (intros; (try simp (disch := first | ((try simp (disch := first | ((try simp only [pn]) <;> omega) | fail) only [pn, pq]) <;> omega) | fail) only [pn, pq]) <;> omega))
      · exact hJS63
      · exact hFS63
      · first | omega | ((try simp (disch := first | ((try simp (disch := first | ((try simp only [pn]) <;> omega) | fail) only [pn, pq]) <;> omega) | fail) only [pn, pq]) <;> (intros; (try simp (disch := first | ((try simp (disch := first | ((try simp only [pn]) <;> omega) | fail) only [pn, pq]) <;> omega) | fail) only [pn, pq]) <;> omega))
      · first | omega | ((try simp (disch := first | ((try simp (disch := first | ((try simp only [pn]) <;> omega) | fail) only [pn, pq]) <;> omega) | fail) only [pn, pq]) <;> (intros; (try simp (disch := first | ((try simp (disch := first | ((try simp only [pn]) <;> omega) | fail) only [pn, pq]) <;> omega) | fail) only [pn, pq]) <;> omega))
      · exact hRS63
    · skip
      refine sf_X8_build hJSq1.1 (fun r64 u65 hJu65 hfu65 hr64_0 hr64_1 hr64_2 => ?_)
      intro S66 eS66
      subst eS66
      have hJS66 : J8 u65 ∧ J9 Sq1.2 := ⟨hJu65, hJSq1.2⟩
      have hFS66 : True := trivial
      refine sf_X9_build hJSq1.2 (fun r67 u68 hJu68 hfu68 hr67_0 hr67_1 hr67_2 hr67_3 hr67_4 hr67_5 hr67_6 hr67_7 hr67_8 hr67_9 hr67_10 hr67_11 => ?_)
      intro S69 eS69
      subst eS69
      have hJS69 : J8 u65 ∧ J9 u68 := ⟨hJu65, hJu68⟩
      have hFS69 : True := trivial
      have hRS69 := st_build hJSq1.2 hiq1_2 hfu65 hr64_0 hr64_1 hr64_2 hfu68 hr67_0 hr67_1 hr67_2 hr67_3 hr67_4 hr67_5 hr67_6 hr67_7 hr67_8 hr67_9 hr67_10 hr67_11
      clear hfu65 hr64_0 hr64_1 hr64_2 hfu68 hr67_0 hr67_1 hr67_2 hr67_3 hr67_4 hr67_5 hr67_6 hr67_7 hr67_8 hr67_9 hr67_10 hr67_11
      unfold wp_L_law_1745
      refine ⟨_, ?_, ?_, ?_, ?_, ?_, ?_, rfl⟩
      · first | omega | ((try simp (disch := first | ((try simp (disch := first | ((try simp only [pn]) <;> omega) | fail) only [pn, pq]) <;> omega) | fail) only [pn, pq]) <;> (intros; (try simp (disch := first | ((try simp (disch := first | ((try simp only [pn]) <;> omega) | fail) only [pn, pq]) <;> omega) | fail) only [pn, pq]) <;> omega))
      · exact hJS69
      · exact hFS69
      · first | omega | ((try simp (disch := first | ((try simp (disch := first | ((try simp only [pn]) <;> omega) | fail) only [pn, pq]) <;> omega) | fail) only [pn, pq]) <;> (intros; (try simp (disch := first | ((try simp (disch := first | ((try simp only [pn]) <;> omega) | fail) only [pn, pq]) <;> omega) | fail) only [pn, pq]) <;> omega))
      · first | omega | ((try simp (disch := first | ((try simp (disch := first | ((try simp only [pn]) <;> omega) | fail) only [pn, pq]) <;> omega) | fail) only [pn, pq]) <;> (intros; (try simp (disch := first | ((try simp (disch := first | ((try simp only [pn]) <;> omega) | fail) only [pn, pq]) <;> omega) | fail) only [pn, pq]) <;> omega))
      · exact hRS69
    · skip
      refine ⟨vin1, ?_⟩
      refine ⟨vin2, ?_⟩
      refine ⟨vin3, ?_⟩
      refine ⟨vin4, ?_⟩
      refine sf_X8_has hJSq1.1 (fun r70 hr70_0 hr70_1 hr70_2 => ?_)
      refine ⟨vin1, ?_⟩
      refine ⟨vin2, ?_⟩
      refine ⟨vin3, ?_⟩
      refine ⟨vin4, ?_⟩
      refine sf_X9_has hJSq1.2 (fun r72 u73 hJu73 hfu73 hr72_0 hr72_1 hr72_2 => ?_)
      intro S74 eS74
      subst eS74
      have hJS74 : J8 Sq1.1 ∧ J9 u73 := ⟨hJSq1.1, hJu73⟩
      have hFS74 : True := trivial
      have hRS74 := st_has hJSq1.2 hiq1_2 hr70_0 hr70_1 hr70_2 hfu73 hr72_0 hr72_1 hr72_2
      clear hr70_0 hr70_1 hr70_2 hfu73 hr72_0 hr72_1 hr72_2
      unfold wp_L_law_1745
      refine ⟨_, ?_, ?_, ?_, ?_, ?_, ?_, rfl⟩
      · first | omega | ((try simp (disch := first | ((try simp (disch := first | ((try simp only [pn]) <;> omega) | fail) only [pn, pq]) <;> omega) | fail) only [pn, pq]) <;> (intros; (try simp (disch := first | ((try simp (disch := first | ((try simp only [pn]) <;> omega) | fail) only [pn, pq]) <;> omega) | fail) only [pn, pq]) <;> omega))
      · exact hJS74
      · exact hFS74
      · first | omega | ((try simp (disch := first | ((try simp (disch := first | ((try simp only [pn]) <;> omega) | fail) only [pn, pq]) <;> omega) | fail) only [pn, pq]) <;> (intros; (try simp (disch := first | ((try simp (disch := first | ((try simp only [pn]) <;> omega) | fail) only [pn, pq]) <;> omega) | fail) only [pn, pq]) <;> omega))
      · first | omega | ((try simp (disch := first | ((try simp (disch := first | ((try simp only [pn]) <;> omega) | fail) only [pn, pq]) <;> omega) | fail) only [pn, pq]) <;> (intros; (try simp (disch := first | ((try simp (disch := first | ((try simp only [pn]) <;> omega) | fail) only [pn, pq]) <;> omega) | fail) only [pn, pq]) <;> omega))
      · exact hRS74
    · skip
      refine ⟨vin1, ?_⟩
      refine ⟨vin2, ?_⟩
      refine ⟨vin3, ?_⟩
      refine sf_X8_may hJSq1.1 (fun r75 u76 hJu76 hfu76 hr75_0 => ?_)
      intro S77 eS77
      subst eS77
      have hJS77 : J8 u76 ∧ J9 Sq1.2 := ⟨hJu76, hJSq1.2⟩
      have hFS77 : True := trivial
      refine ⟨vin1, ?_⟩
      refine ⟨vin2, ?_⟩
      refine ⟨vin3, ?_⟩
      refine sf_X9_may hJSq1.2 (fun r78 u79 hJu79 hfu79 hr78_0 hr78_1 hr78_2 hr78_3 hr78_4 => ?_)
      intro S80 eS80
      subst eS80
      have hJS80 : J8 u76 ∧ J9 u79 := ⟨hJu76, hJu79⟩
      have hFS80 : True := trivial
      have hRS80 := st_may hJSq1.2 hiq1_2 hfu76 hr75_0 hfu79 hr78_0 hr78_1 hr78_2 hr78_3 hr78_4
      clear hfu76 hr75_0 hfu79 hr78_0 hr78_1 hr78_2 hr78_3 hr78_4
      unfold wp_L_law_1745
      refine ⟨_, ?_, ?_, ?_, ?_, ?_, ?_, rfl⟩
      · first | omega | ((try simp (disch := first | ((try simp (disch := first | ((try simp only [pn]) <;> omega) | fail) only [pn, pq]) <;> omega) | fail) only [pn, pq]) <;> (intros; (try simp (disch := first | ((try simp (disch := first | ((try simp only [pn]) <;> omega) | fail) only [pn, pq]) <;> omega) | fail) only [pn, pq]) <;> omega))
      · exact hJS80
      · exact hFS80
      · first | omega | ((try simp (disch := first | ((try simp (disch := first | ((try simp only [pn]) <;> omega) | fail) only [pn, pq]) <;> omega) | fail) only [pn, pq]) <;> (intros; (try simp (disch := first | ((try simp (disch := first | ((try simp only [pn]) <;> omega) | fail) only [pn, pq]) <;> omega) | fail) only [pn, pq]) <;> omega))
      · first | omega | ((try simp (disch := first | ((try simp (disch := first | ((try simp only [pn]) <;> omega) | fail) only [pn, pq]) <;> omega) | fail) only [pn, pq]) <;> (intros; (try simp (disch := first | ((try simp (disch := first | ((try simp only [pn]) <;> omega) | fail) only [pn, pq]) <;> omega) | fail) only [pn, pq]) <;> omega))
      · exact hRS80
    · skip
      refine ⟨vin1, ?_⟩
      refine ⟨vin2, ?_⟩
      refine ⟨vin3, ?_⟩
      refine sf_X8_leafOf hJSq1.1 (fun r81 hr81_0 => ?_)
      refine ⟨vin1, ?_⟩
      refine ⟨vin2, ?_⟩
      refine ⟨vin3, ?_⟩
      refine sf_X9_leafOf hJSq1.2 (fun r83 u84 hJu84 hfu84 hr83_0 => ?_)
      intro S85 eS85
      subst eS85
      have hJS85 : J8 Sq1.1 ∧ J9 u84 := ⟨hJSq1.1, hJu84⟩
      have hFS85 : True := trivial
      have hRS85 := st_leafOf hJSq1.2 hiq1_2 hr81_0 hfu84 hr83_0
      clear hr81_0 hfu84 hr83_0
      unfold wp_L_law_1745
      refine ⟨_, ?_, ?_, ?_, ?_, ?_, ?_, rfl⟩
      · first | omega | ((try simp (disch := first | ((try simp (disch := first | ((try simp only [pn]) <;> omega) | fail) only [pn, pq]) <;> omega) | fail) only [pn, pq]) <;> (intros; (try simp (disch := first | ((try simp (disch := first | ((try simp only [pn]) <;> omega) | fail) only [pn, pq]) <;> omega) | fail) only [pn, pq]) <;> omega))
      · exact hJS85
      · exact hFS85
      · first | omega | ((try simp (disch := first | ((try simp (disch := first | ((try simp only [pn]) <;> omega) | fail) only [pn, pq]) <;> omega) | fail) only [pn, pq]) <;> (intros; (try simp (disch := first | ((try simp (disch := first | ((try simp only [pn]) <;> omega) | fail) only [pn, pq]) <;> omega) | fail) only [pn, pq]) <;> omega))
      · first | omega | ((try simp (disch := first | ((try simp (disch := first | ((try simp only [pn]) <;> omega) | fail) only [pn, pq]) <;> omega) | fail) only [pn, pq]) <;> (intros; (try simp (disch := first | ((try simp (disch := first | ((try simp only [pn]) <;> omega) | fail) only [pn, pq]) <;> omega) | fail) only [pn, pq]) <;> omega))
      · exact hRS85
    · skip
      refine ⟨vin1, ?_⟩
      refine ⟨vin2, ?_⟩
      refine ⟨vin3, ?_⟩
      refine ⟨vin4, ?_⟩
      refine ⟨vin5, ?_⟩
      refine ⟨vin6, ?_⟩
      refine sf_X8_range hJSq1.1 (fun r86 u87 hJu87 hfu87 hr86_0 => ?_)
      intro S88 eS88
      subst eS88
      have hJS88 : J8 u87 ∧ J9 Sq1.2 := ⟨hJu87, hJSq1.2⟩
      have hFS88 : True := trivial
      refine ⟨vin1, ?_⟩
      refine ⟨vin2, ?_⟩
      refine ⟨vin3, ?_⟩
      refine ⟨vin4, ?_⟩
      refine ⟨vin5, ?_⟩
      refine ⟨vin6, ?_⟩
      refine sf_X9_range hJSq1.2 (fun r89 u90 hJu90 hfu90 hr89_0 hr89_1 hr89_2 hr89_3 hr89_4 hr89_5 => ?_)
      intro S91 eS91
      subst eS91
      have hJS91 : J8 u87 ∧ J9 u90 := ⟨hJu87, hJu90⟩
      have hFS91 : True := trivial
      have hRS91 := st_range hJSq1.2 hiq1_2 hfu87 hr86_0 hfu90 hr89_0 hr89_1 hr89_2 hr89_3 hr89_4 hr89_5
      clear hfu87 hr86_0 hfu90 hr89_0 hr89_1 hr89_2 hr89_3 hr89_4 hr89_5
      unfold wp_L_law_1745
      refine ⟨_, ?_, ?_, ?_, ?_, ?_, ?_, rfl⟩
      · first | omega | ((try simp (disch := first | ((try simp (disch := first | ((try simp only [pn]) <;> omega) | fail) only [pn, pq]) <;> omega) | fail) only [pn, pq]) <;> (intros; (try simp (disch := first | ((try simp (disch := first | ((try simp only [pn]) <;> omega) | fail) only [pn, pq]) <;> omega) | fail) only [pn, pq]) <;> omega))
      · exact hJS91
      · exact hFS91
      · first | omega | ((try simp (disch := first | ((try simp (disch := first | ((try simp only [pn]) <;> omega) | fail) only [pn, pq]) <;> omega) | fail) only [pn, pq]) <;> (intros; (try simp (disch := first | ((try simp (disch := first | ((try simp only [pn]) <;> omega) | fail) only [pn, pq]) <;> omega) | fail) only [pn, pq]) <;> omega))
      · first | omega | ((try simp (disch := first | ((try simp (disch := first | ((try simp only [pn]) <;> omega) | fail) only [pn, pq]) <;> omega) | fail) only [pn, pq]) <;> (intros; (try simp (disch := first | ((try simp (disch := first | ((try simp only [pn]) <;> omega) | fail) only [pn, pq]) <;> omega) | fail) only [pn, pq]) <;> omega))
      · exact hRS91
    · skip
      refine ⟨vin1, ?_⟩
      refine ⟨vin2, ?_⟩
      refine ⟨vin3, ?_⟩
      refine ⟨vin4, ?_⟩
      refine ⟨vin5, ?_⟩
      refine ⟨vin6, ?_⟩
      refine sf_X8_meets hJSq1.1 (fun r92 hr92_0 => ?_)
      refine ⟨vin1, ?_⟩
      refine ⟨vin2, ?_⟩
      refine ⟨vin3, ?_⟩
      refine ⟨vin4, ?_⟩
      refine ⟨vin5, ?_⟩
      refine ⟨vin6, ?_⟩
      refine sf_X9_meets hJSq1.2 (fun r94 u95 hJu95 hfu95 hr94_0 => ?_)
      intro S96 eS96
      subst eS96
      have hJS96 : J8 Sq1.1 ∧ J9 u95 := ⟨hJSq1.1, hJu95⟩
      have hFS96 : True := trivial
      have hRS96 := st_meets hJSq1.2 hiq1_2 hr92_0 hfu95 hr94_0
      clear hr92_0 hfu95 hr94_0
      unfold wp_L_law_1745
      refine ⟨_, ?_, ?_, ?_, ?_, ?_, ?_, rfl⟩
      · first | omega | ((try simp (disch := first | ((try simp (disch := first | ((try simp only [pn]) <;> omega) | fail) only [pn, pq]) <;> omega) | fail) only [pn, pq]) <;> (intros; (try simp (disch := first | ((try simp (disch := first | ((try simp only [pn]) <;> omega) | fail) only [pn, pq]) <;> omega) | fail) only [pn, pq]) <;> omega))
      · exact hJS96
      · exact hFS96
      · first | omega | ((try simp (disch := first | ((try simp (disch := first | ((try simp only [pn]) <;> omega) | fail) only [pn, pq]) <;> omega) | fail) only [pn, pq]) <;> (intros; (try simp (disch := first | ((try simp (disch := first | ((try simp only [pn]) <;> omega) | fail) only [pn, pq]) <;> omega) | fail) only [pn, pq]) <;> omega))
      · first | omega | ((try simp (disch := first | ((try simp (disch := first | ((try simp only [pn]) <;> omega) | fail) only [pn, pq]) <;> omega) | fail) only [pn, pq]) <;> (intros; (try simp (disch := first | ((try simp (disch := first | ((try simp only [pn]) <;> omega) | fail) only [pn, pq]) <;> omega) | fail) only [pn, pq]) <;> omega))
      · exact hRS96
    · skip
      refine ⟨vin1, ?_⟩
      refine ⟨vin2, ?_⟩
      refine ⟨vin3, ?_⟩
      refine ⟨vin4, ?_⟩
      refine ⟨vin5, ?_⟩
      refine ⟨vin6, ?_⟩
      refine sf_X8_holds hJSq1.1 (fun r97 hr97_0 => ?_)
      refine ⟨vin1, ?_⟩
      refine ⟨vin2, ?_⟩
      refine ⟨vin3, ?_⟩
      refine ⟨vin4, ?_⟩
      refine ⟨vin5, ?_⟩
      refine ⟨vin6, ?_⟩
      refine sf_X9_holds hJSq1.2 (fun r99 u100 hJu100 hfu100 hr99_0 => ?_)
      intro S101 eS101
      subst eS101
      have hJS101 : J8 Sq1.1 ∧ J9 u100 := ⟨hJSq1.1, hJu100⟩
      have hFS101 : True := trivial
      have hRS101 := st_holds hJSq1.2 hiq1_2 hr97_0 hfu100 hr99_0
      clear hr97_0 hfu100 hr99_0
      unfold wp_L_law_1745
      refine ⟨_, ?_, ?_, ?_, ?_, ?_, ?_, rfl⟩
      · first | omega | ((try simp (disch := first | ((try simp (disch := first | ((try simp only [pn]) <;> omega) | fail) only [pn, pq]) <;> omega) | fail) only [pn, pq]) <;> (intros; (try simp (disch := first | ((try simp (disch := first | ((try simp only [pn]) <;> omega) | fail) only [pn, pq]) <;> omega) | fail) only [pn, pq]) <;> omega))
      · exact hJS101
      · exact hFS101
      · first | omega | ((try simp (disch := first | ((try simp (disch := first | ((try simp only [pn]) <;> omega) | fail) only [pn, pq]) <;> omega) | fail) only [pn, pq]) <;> (intros; (try simp (disch := first | ((try simp (disch := first | ((try simp only [pn]) <;> omega) | fail) only [pn, pq]) <;> omega) | fail) only [pn, pq]) <;> omega))
      · first | omega | ((try simp (disch := first | ((try simp (disch := first | ((try simp only [pn]) <;> omega) | fail) only [pn, pq]) <;> omega) | fail) only [pn, pq]) <;> (intros; (try simp (disch := first | ((try simp (disch := first | ((try simp only [pn]) <;> omega) | fail) only [pn, pq]) <;> omega) | fail) only [pn, pq]) <;> omega))
      · exact hRS101
    · skip
      refine ⟨vin1, ?_⟩
      refine ⟨vin2, ?_⟩
      refine ⟨vin3, ?_⟩
      refine sf_X8_seek hJSq1.1 (fun r102 hr102_0 => ?_)
      refine ⟨vin1, ?_⟩
      refine ⟨vin2, ?_⟩
      refine ⟨vin3, ?_⟩
      refine sf_X9_seek hJSq1.2 (fun r104 u105 hJu105 hfu105 hr104_0 => ?_)
      intro S106 eS106
      subst eS106
      have hJS106 : J8 Sq1.1 ∧ J9 u105 := ⟨hJSq1.1, hJu105⟩
      have hFS106 : True := trivial
      have hRS106 := st_seek hJSq1.2 hiq1_2 hr102_0 hfu105 hr104_0
      clear hr102_0 hfu105 hr104_0
      unfold wp_L_law_1745
      refine ⟨_, ?_, ?_, ?_, ?_, ?_, ?_, rfl⟩
      · first | omega | ((try simp (disch := first | ((try simp (disch := first | ((try simp only [pn]) <;> omega) | fail) only [pn, pq]) <;> omega) | fail) only [pn, pq]) <;> (intros; (try simp (disch := first | ((try simp (disch := first | ((try simp only [pn]) <;> omega) | fail) only [pn, pq]) <;> omega) | fail) only [pn, pq]) <;> omega))
      · exact hJS106
      · exact hFS106
      · first | omega | ((try simp (disch := first | ((try simp (disch := first | ((try simp only [pn]) <;> omega) | fail) only [pn, pq]) <;> omega) | fail) only [pn, pq]) <;> (intros; (try simp (disch := first | ((try simp (disch := first | ((try simp only [pn]) <;> omega) | fail) only [pn, pq]) <;> omega) | fail) only [pn, pq]) <;> omega))
      · first | omega | ((try simp (disch := first | ((try simp (disch := first | ((try simp only [pn]) <;> omega) | fail) only [pn, pq]) <;> omega) | fail) only [pn, pq]) <;> (intros; (try simp (disch := first | ((try simp (disch := first | ((try simp only [pn]) <;> omega) | fail) only [pn, pq]) <;> omega) | fail) only [pn, pq]) <;> omega))
      · exact hRS106
    · skip
      refine ⟨vin1, ?_⟩
      refine ⟨vin2, ?_⟩
      refine ⟨vin3, ?_⟩
      refine sf_X8_seekBack hJSq1.1 (fun r107 hr107_0 => ?_)
      refine ⟨vin1, ?_⟩
      refine ⟨vin2, ?_⟩
      refine ⟨vin3, ?_⟩
      refine sf_X9_seekBack hJSq1.2 (fun r109 u110 hJu110 hfu110 hr109_0 => ?_)
      intro S111 eS111
      subst eS111
      have hJS111 : J8 Sq1.1 ∧ J9 u110 := ⟨hJSq1.1, hJu110⟩
      have hFS111 : True := trivial
      have hRS111 := st_seekBack hJSq1.2 hiq1_2 hr107_0 hfu110 hr109_0
      clear hr107_0 hfu110 hr109_0
      unfold wp_L_law_1745
      refine ⟨_, ?_, ?_, ?_, ?_, ?_, ?_, rfl⟩
      · first | omega | ((try simp (disch := first | ((try simp (disch := first | ((try simp only [pn]) <;> omega) | fail) only [pn, pq]) <;> omega) | fail) only [pn, pq]) <;> (intros; (try simp (disch := first | ((try simp (disch := first | ((try simp only [pn]) <;> omega) | fail) only [pn, pq]) <;> omega) | fail) only [pn, pq]) <;> omega))
      · exact hJS111
      · exact hFS111
      · first | omega | ((try simp (disch := first | ((try simp (disch := first | ((try simp only [pn]) <;> omega) | fail) only [pn, pq]) <;> omega) | fail) only [pn, pq]) <;> (intros; (try simp (disch := first | ((try simp (disch := first | ((try simp only [pn]) <;> omega) | fail) only [pn, pq]) <;> omega) | fail) only [pn, pq]) <;> omega))
      · first | omega | ((try simp (disch := first | ((try simp (disch := first | ((try simp only [pn]) <;> omega) | fail) only [pn, pq]) <;> omega) | fail) only [pn, pq]) <;> (intros; (try simp (disch := first | ((try simp (disch := first | ((try simp only [pn]) <;> omega) | fail) only [pn, pq]) <;> omega) | fail) only [pn, pq]) <;> omega))
      · exact hRS111
    · skip
      refine ⟨vin1, ?_⟩
      refine ⟨vin2, ?_⟩
      refine sf_X8_leaf hJSq1.1 (fun r112  => ?_)
      refine ⟨vin1, ?_⟩
      refine ⟨vin2, ?_⟩
      refine sf_X9_leaf hJSq1.2 (fun r114 u115 hJu115 hfu115  => ?_)
      intro S116 eS116
      subst eS116
      have hJS116 : J8 Sq1.1 ∧ J9 u115 := ⟨hJSq1.1, hJu115⟩
      have hFS116 : True := trivial
      have hRS116 := st_leaf hJSq1.2 hiq1_2 hfu115
      clear hfu115
      unfold wp_L_law_1745
      refine ⟨_, ?_, ?_, ?_, ?_, ?_, ?_, rfl⟩
      · first | omega | ((try simp (disch := first | ((try simp (disch := first | ((try simp only [pn]) <;> omega) | fail) only [pn, pq]) <;> omega) | fail) only [pn, pq]) <;> (intros; (try simp (disch := first | ((try simp (disch := first | ((try simp only [pn]) <;> omega) | fail) only [pn, pq]) <;> omega) | fail) only [pn, pq]) <;> omega))
      · exact hJS116
      · exact hFS116
      · first | omega | ((try simp (disch := first | ((try simp (disch := first | ((try simp only [pn]) <;> omega) | fail) only [pn, pq]) <;> omega) | fail) only [pn, pq]) <;> (intros; (try simp (disch := first | ((try simp (disch := first | ((try simp only [pn]) <;> omega) | fail) only [pn, pq]) <;> omega) | fail) only [pn, pq]) <;> omega))
      · first | omega | ((try simp (disch := first | ((try simp (disch := first | ((try simp only [pn]) <;> omega) | fail) only [pn, pq]) <;> omega) | fail) only [pn, pq]) <;> (intros; (try simp (disch := first | ((try simp (disch := first | ((try simp only [pn]) <;> omega) | fail) only [pn, pq]) <;> omega) | fail) only [pn, pq]) <;> omega))
      · exact hRS116
    · skip
      refine ⟨vin1, ?_⟩
      refine sf_X8_leafAt hJSq1.1 (fun r117  => ?_)
      refine ⟨vin1, ?_⟩
      refine sf_X9_leafAt hJSq1.2 (fun r119 u120 hJu120 hfu120  => ?_)
      intro S121 eS121
      subst eS121
      have hJS121 : J8 Sq1.1 ∧ J9 u120 := ⟨hJSq1.1, hJu120⟩
      have hFS121 : True := trivial
      have hRS121 := st_leafAt hJSq1.2 hiq1_2 hfu120
      clear hfu120
      unfold wp_L_law_1745
      refine ⟨_, ?_, ?_, ?_, ?_, ?_, ?_, rfl⟩
      · first | omega | ((try simp (disch := first | ((try simp (disch := first | ((try simp only [pn]) <;> omega) | fail) only [pn, pq]) <;> omega) | fail) only [pn, pq]) <;> (intros; (try simp (disch := first | ((try simp (disch := first | ((try simp only [pn]) <;> omega) | fail) only [pn, pq]) <;> omega) | fail) only [pn, pq]) <;> omega))
      · exact hJS121
      · exact hFS121
      · first | omega | ((try simp (disch := first | ((try simp (disch := first | ((try simp only [pn]) <;> omega) | fail) only [pn, pq]) <;> omega) | fail) only [pn, pq]) <;> (intros; (try simp (disch := first | ((try simp (disch := first | ((try simp only [pn]) <;> omega) | fail) only [pn, pq]) <;> omega) | fail) only [pn, pq]) <;> omega))
      · first | omega | ((try simp (disch := first | ((try simp (disch := first | ((try simp only [pn]) <;> omega) | fail) only [pn, pq]) <;> omega) | fail) only [pn, pq]) <;> (intros; (try simp (disch := first | ((try simp (disch := first | ((try simp only [pn]) <;> omega) | fail) only [pn, pq]) <;> omega) | fail) only [pn, pq]) <;> omega))
      · exact hRS121
    · skip
      refine ⟨vin1, ?_⟩
      refine ⟨vin2, ?_⟩
      refine sf_X8_node hJSq1.1 (fun r122  => ?_)
      refine ⟨vin1, ?_⟩
      refine ⟨vin2, ?_⟩
      refine sf_X9_node hJSq1.2 (fun r124 u125 hJu125 hfu125  => ?_)
      intro S126 eS126
      subst eS126
      have hJS126 : J8 Sq1.1 ∧ J9 u125 := ⟨hJSq1.1, hJu125⟩
      have hFS126 : True := trivial
      have hRS126 := st_node hJSq1.2 hiq1_2 hfu125
      clear hfu125
      unfold wp_L_law_1745
      refine ⟨_, ?_, ?_, ?_, ?_, ?_, ?_, rfl⟩
      · first | omega | ((try simp (disch := first | ((try simp (disch := first | ((try simp only [pn]) <;> omega) | fail) only [pn, pq]) <;> omega) | fail) only [pn, pq]) <;> (intros; (try simp (disch := first | ((try simp (disch := first | ((try simp only [pn]) <;> omega) | fail) only [pn, pq]) <;> omega) | fail) only [pn, pq]) <;> omega))
      · exact hJS126
      · exact hFS126
      · first | omega | ((try simp (disch := first | ((try simp (disch := first | ((try simp only [pn]) <;> omega) | fail) only [pn, pq]) <;> omega) | fail) only [pn, pq]) <;> (intros; (try simp (disch := first | ((try simp (disch := first | ((try simp only [pn]) <;> omega) | fail) only [pn, pq]) <;> omega) | fail) only [pn, pq]) <;> omega))
      · first | omega | ((try simp (disch := first | ((try simp (disch := first | ((try simp only [pn]) <;> omega) | fail) only [pn, pq]) <;> omega) | fail) only [pn, pq]) <;> (intros; (try simp (disch := first | ((try simp (disch := first | ((try simp only [pn]) <;> omega) | fail) only [pn, pq]) <;> omega) | fail) only [pn, pq]) <;> omega))
      · exact hRS126
    · skip
      refine ⟨vin1, ?_⟩
      refine ⟨vin2, ?_⟩
      refine sf_X8_child hJSq1.1 (fun r127  => ?_)
      refine ⟨vin1, ?_⟩
      refine ⟨vin2, ?_⟩
      refine sf_X9_child hJSq1.2 (fun r129 u130 hJu130 hfu130  => ?_)
      intro S131 eS131
      subst eS131
      have hJS131 : J8 Sq1.1 ∧ J9 u130 := ⟨hJSq1.1, hJu130⟩
      have hFS131 : True := trivial
      have hRS131 := st_child hJSq1.2 hiq1_2 hfu130
      clear hfu130
      unfold wp_L_law_1745
      refine ⟨_, ?_, ?_, ?_, ?_, ?_, ?_, rfl⟩
      · first | omega | ((try simp (disch := first | ((try simp (disch := first | ((try simp only [pn]) <;> omega) | fail) only [pn, pq]) <;> omega) | fail) only [pn, pq]) <;> (intros; (try simp (disch := first | ((try simp (disch := first | ((try simp only [pn]) <;> omega) | fail) only [pn, pq]) <;> omega) | fail) only [pn, pq]) <;> omega))
      · exact hJS131
      · exact hFS131
      · first | omega | ((try simp (disch := first | ((try simp (disch := first | ((try simp only [pn]) <;> omega) | fail) only [pn, pq]) <;> omega) | fail) only [pn, pq]) <;> (intros; (try simp (disch := first | ((try simp (disch := first | ((try simp only [pn]) <;> omega) | fail) only [pn, pq]) <;> omega) | fail) only [pn, pq]) <;> omega))
      · first | omega | ((try simp (disch := first | ((try simp (disch := first | ((try simp only [pn]) <;> omega) | fail) only [pn, pq]) <;> omega) | fail) only [pn, pq]) <;> (intros; (try simp (disch := first | ((try simp (disch := first | ((try simp only [pn]) <;> omega) | fail) only [pn, pq]) <;> omega) | fail) only [pn, pq]) <;> omega))
      · exact hRS131
    · skip
      refine ⟨vin1, ?_⟩
      refine ⟨vin2, ?_⟩
      refine sf_X8_level hJSq1.1 (fun r132  => ?_)
      refine ⟨vin1, ?_⟩
      refine ⟨vin2, ?_⟩
      refine sf_X9_level hJSq1.2 (fun r134 u135 hJu135 hfu135  => ?_)
      intro S136 eS136
      subst eS136
      have hJS136 : J8 Sq1.1 ∧ J9 u135 := ⟨hJSq1.1, hJu135⟩
      have hFS136 : True := trivial
      have hRS136 := st_level hJSq1.2 hiq1_2 hfu135
      clear hfu135
      unfold wp_L_law_1745
      refine ⟨_, ?_, ?_, ?_, ?_, ?_, ?_, rfl⟩
      · first | omega | ((try simp (disch := first | ((try simp (disch := first | ((try simp only [pn]) <;> omega) | fail) only [pn, pq]) <;> omega) | fail) only [pn, pq]) <;> (intros; (try simp (disch := first | ((try simp (disch := first | ((try simp only [pn]) <;> omega) | fail) only [pn, pq]) <;> omega) | fail) only [pn, pq]) <;> omega))
      · exact hJS136
      · exact hFS136
      · first | omega | ((try simp (disch := first | ((try simp (disch := first | ((try simp only [pn]) <;> omega) | fail) only [pn, pq]) <;> omega) | fail) only [pn, pq]) <;> (intros; (try simp (disch := first | ((try simp (disch := first | ((try simp only [pn]) <;> omega) | fail) only [pn, pq]) <;> omega) | fail) only [pn, pq]) <;> omega))
      · first | omega | ((try simp (disch := first | ((try simp (disch := first | ((try simp only [pn]) <;> omega) | fail) only [pn, pq]) <;> omega) | fail) only [pn, pq]) <;> (intros; (try simp (disch := first | ((try simp (disch := first | ((try simp only [pn]) <;> omega) | fail) only [pn, pq]) <;> omega) | fail) only [pn, pq]) <;> omega))
      · exact hRS136
    · skip
      refine ⟨vin1, ?_⟩
      refine ⟨vin2, ?_⟩
      refine sf_X8_item hJSq1.1 (fun r137  => ?_)
      refine ⟨vin1, ?_⟩
      refine ⟨vin2, ?_⟩
      refine sf_X9_item hJSq1.2 (fun r139 u140 hJu140 hfu140  => ?_)
      intro S141 eS141
      subst eS141
      have hJS141 : J8 Sq1.1 ∧ J9 u140 := ⟨hJSq1.1, hJu140⟩
      have hFS141 : True := trivial
      have hRS141 := st_item hJSq1.2 hiq1_2 hfu140
      clear hfu140
      unfold wp_L_law_1745
      refine ⟨_, ?_, ?_, ?_, ?_, ?_, ?_, rfl⟩
      · first | omega | ((try simp (disch := first | ((try simp (disch := first | ((try simp only [pn]) <;> omega) | fail) only [pn, pq]) <;> omega) | fail) only [pn, pq]) <;> (intros; (try simp (disch := first | ((try simp (disch := first | ((try simp only [pn]) <;> omega) | fail) only [pn, pq]) <;> omega) | fail) only [pn, pq]) <;> omega))
      · exact hJS141
      · exact hFS141
      · first | omega | ((try simp (disch := first | ((try simp (disch := first | ((try simp only [pn]) <;> omega) | fail) only [pn, pq]) <;> omega) | fail) only [pn, pq]) <;> (intros; (try simp (disch := first | ((try simp (disch := first | ((try simp only [pn]) <;> omega) | fail) only [pn, pq]) <;> omega) | fail) only [pn, pq]) <;> omega))
      · first | omega | ((try simp (disch := first | ((try simp (disch := first | ((try simp only [pn]) <;> omega) | fail) only [pn, pq]) <;> omega) | fail) only [pn, pq]) <;> (intros; (try simp (disch := first | ((try simp (disch := first | ((try simp only [pn]) <;> omega) | fail) only [pn, pq]) <;> omega) | fail) only [pn, pq]) <;> omega))
      · exact hRS141
    · skip
      refine ⟨vin1, ?_⟩
      refine sf_X8_bit hJSq1.1 (fun r142  => ?_)
      refine ⟨vin1, ?_⟩
      refine sf_X9_bit hJSq1.2 (fun r144 u145 hJu145 hfu145  => ?_)
      intro S146 eS146
      subst eS146
      have hJS146 : J8 Sq1.1 ∧ J9 u145 := ⟨hJSq1.1, hJu145⟩
      have hFS146 : True := trivial
      have hRS146 := st_bit hJSq1.2 hiq1_2 hfu145
      clear hfu145
      unfold wp_L_law_1745
      refine ⟨_, ?_, ?_, ?_, ?_, ?_, ?_, rfl⟩
      · first | omega | ((try simp (disch := first | ((try simp (disch := first | ((try simp only [pn]) <;> omega) | fail) only [pn, pq]) <;> omega) | fail) only [pn, pq]) <;> (intros; (try simp (disch := first | ((try simp (disch := first | ((try simp only [pn]) <;> omega) | fail) only [pn, pq]) <;> omega) | fail) only [pn, pq]) <;> omega))
      · exact hJS146
      · exact hFS146
      · first | omega | ((try simp (disch := first | ((try simp (disch := first | ((try simp only [pn]) <;> omega) | fail) only [pn, pq]) <;> omega) | fail) only [pn, pq]) <;> (intros; (try simp (disch := first | ((try simp (disch := first | ((try simp only [pn]) <;> omega) | fail) only [pn, pq]) <;> omega) | fail) only [pn, pq]) <;> omega))
      · first | omega | ((try simp (disch := first | ((try simp (disch := first | ((try simp only [pn]) <;> omega) | fail) only [pn, pq]) <;> omega) | fail) only [pn, pq]) <;> (intros; (try simp (disch := first | ((try simp (disch := first | ((try simp only [pn]) <;> omega) | fail) only [pn, pq]) <;> omega) | fail) only [pn, pq]) <;> omega))
      · exact hRS146
    · skip
      refine ⟨vin1, ?_⟩
      refine sf_X8_rank hJSq1.1 (fun r147  => ?_)
      refine ⟨vin1, ?_⟩
      refine sf_X9_rank hJSq1.2 (fun r149 u150 hJu150 hfu150  => ?_)
      intro S151 eS151
      subst eS151
      have hJS151 : J8 Sq1.1 ∧ J9 u150 := ⟨hJSq1.1, hJu150⟩
      have hFS151 : True := trivial
      have hRS151 := st_rank hJSq1.2 hiq1_2 hfu150
      clear hfu150
      unfold wp_L_law_1745
      refine ⟨_, ?_, ?_, ?_, ?_, ?_, ?_, rfl⟩
      · first | omega | ((try simp (disch := first | ((try simp (disch := first | ((try simp only [pn]) <;> omega) | fail) only [pn, pq]) <;> omega) | fail) only [pn, pq]) <;> (intros; (try simp (disch := first | ((try simp (disch := first | ((try simp only [pn]) <;> omega) | fail) only [pn, pq]) <;> omega) | fail) only [pn, pq]) <;> omega))
      · exact hJS151
      · exact hFS151
      · first | omega | ((try simp (disch := first | ((try simp (disch := first | ((try simp only [pn]) <;> omega) | fail) only [pn, pq]) <;> omega) | fail) only [pn, pq]) <;> (intros; (try simp (disch := first | ((try simp (disch := first | ((try simp only [pn]) <;> omega) | fail) only [pn, pq]) <;> omega) | fail) only [pn, pq]) <;> omega))
      · first | omega | ((try simp (disch := first | ((try simp (disch := first | ((try simp only [pn]) <;> omega) | fail) only [pn, pq]) <;> omega) | fail) only [pn, pq]) <;> (intros; (try simp (disch := first | ((try simp (disch := first | ((try simp only [pn]) <;> omega) | fail) only [pn, pq]) <;> omega) | fail) only [pn, pq]) <;> omega))
      · exact hRS151
    · skip
      refine ⟨vin1, ?_⟩
      refine sf_X8_select hJSq1.1 (fun r152  => ?_)
      refine ⟨vin1, ?_⟩
      refine sf_X9_select hJSq1.2 (fun r154 u155 hJu155 hfu155  => ?_)
      intro S156 eS156
      subst eS156
      have hJS156 : J8 Sq1.1 ∧ J9 u155 := ⟨hJSq1.1, hJu155⟩
      have hFS156 : True := trivial
      have hRS156 := st_select hJSq1.2 hiq1_2 hfu155
      clear hfu155
      unfold wp_L_law_1745
      refine ⟨_, ?_, ?_, ?_, ?_, ?_, ?_, rfl⟩
      · first | omega | ((try simp (disch := first | ((try simp (disch := first | ((try simp only [pn]) <;> omega) | fail) only [pn, pq]) <;> omega) | fail) only [pn, pq]) <;> (intros; (try simp (disch := first | ((try simp (disch := first | ((try simp only [pn]) <;> omega) | fail) only [pn, pq]) <;> omega) | fail) only [pn, pq]) <;> omega))
      · exact hJS156
      · exact hFS156
      · first | omega | ((try simp (disch := first | ((try simp (disch := first | ((try simp only [pn]) <;> omega) | fail) only [pn, pq]) <;> omega) | fail) only [pn, pq]) <;> (intros; (try simp (disch := first | ((try simp (disch := first | ((try simp only [pn]) <;> omega) | fail) only [pn, pq]) <;> omega) | fail) only [pn, pq]) <;> omega))
      · first | omega | ((try simp (disch := first | ((try simp (disch := first | ((try simp only [pn]) <;> omega) | fail) only [pn, pq]) <;> omega) | fail) only [pn, pq]) <;> (intros; (try simp (disch := first | ((try simp (disch := first | ((try simp only [pn]) <;> omega) | fail) only [pn, pq]) <;> omega) | fail) only [pn, pq]) <;> omega))
      · exact hRS156
    · skip
      refine ⟨vin1, ?_⟩
      refine sf_X8_bits hJSq1.1 (fun r157  => ?_)
      refine ⟨vin1, ?_⟩
      refine sf_X9_bits hJSq1.2 (fun r159 u160 hJu160 hfu160  => ?_)
      intro S161 eS161
      subst eS161
      have hJS161 : J8 Sq1.1 ∧ J9 u160 := ⟨hJSq1.1, hJu160⟩
      have hFS161 : True := trivial
      have hRS161 := st_bits hJSq1.2 hiq1_2 hfu160
      clear hfu160
      unfold wp_L_law_1745
      refine ⟨_, ?_, ?_, ?_, ?_, ?_, ?_, rfl⟩
      · first | omega | ((try simp (disch := first | ((try simp (disch := first | ((try simp only [pn]) <;> omega) | fail) only [pn, pq]) <;> omega) | fail) only [pn, pq]) <;> (intros; (try simp (disch := first | ((try simp (disch := first | ((try simp only [pn]) <;> omega) | fail) only [pn, pq]) <;> omega) | fail) only [pn, pq]) <;> omega))
      · exact hJS161
      · exact hFS161
      · first | omega | ((try simp (disch := first | ((try simp (disch := first | ((try simp only [pn]) <;> omega) | fail) only [pn, pq]) <;> omega) | fail) only [pn, pq]) <;> (intros; (try simp (disch := first | ((try simp (disch := first | ((try simp only [pn]) <;> omega) | fail) only [pn, pq]) <;> omega) | fail) only [pn, pq]) <;> omega))
      · first | omega | ((try simp (disch := first | ((try simp (disch := first | ((try simp only [pn]) <;> omega) | fail) only [pn, pq]) <;> omega) | fail) only [pn, pq]) <;> (intros; (try simp (disch := first | ((try simp (disch := first | ((try simp only [pn]) <;> omega) | fail) only [pn, pq]) <;> omega) | fail) only [pn, pq]) <;> omega))
      · exact hRS161
    · skip
      refine ⟨vin1, ?_⟩
      refine sf_X8_least hJSq1.1 (fun r162  => ?_)
      refine ⟨vin1, ?_⟩
      refine sf_X9_least hJSq1.2 (fun r164 u165 hJu165 hfu165  => ?_)
      intro S166 eS166
      subst eS166
      have hJS166 : J8 Sq1.1 ∧ J9 u165 := ⟨hJSq1.1, hJu165⟩
      have hFS166 : True := trivial
      have hRS166 := st_least hJSq1.2 hiq1_2 hfu165
      clear hfu165
      unfold wp_L_law_1745
      refine ⟨_, ?_, ?_, ?_, ?_, ?_, ?_, rfl⟩
      · first | omega | ((try simp (disch := first | ((try simp (disch := first | ((try simp only [pn]) <;> omega) | fail) only [pn, pq]) <;> omega) | fail) only [pn, pq]) <;> (intros; (try simp (disch := first | ((try simp (disch := first | ((try simp only [pn]) <;> omega) | fail) only [pn, pq]) <;> omega) | fail) only [pn, pq]) <;> omega))
      · exact hJS166
      · exact hFS166
      · first | omega | ((try simp (disch := first | ((try simp (disch := first | ((try simp only [pn]) <;> omega) | fail) only [pn, pq]) <;> omega) | fail) only [pn, pq]) <;> (intros; (try simp (disch := first | ((try simp (disch := first | ((try simp only [pn]) <;> omega) | fail) only [pn, pq]) <;> omega) | fail) only [pn, pq]) <;> omega))
      · first | omega | ((try simp (disch := first | ((try simp (disch := first | ((try simp only [pn]) <;> omega) | fail) only [pn, pq]) <;> omega) | fail) only [pn, pq]) <;> (intros; (try simp (disch := first | ((try simp (disch := first | ((try simp only [pn]) <;> omega) | fail) only [pn, pq]) <;> omega) | fail) only [pn, pq]) <;> omega))
      · exact hRS166
    · skip
      refine ⟨vin1, ?_⟩
      refine sf_X8_cover hJSq1.1 (fun r167 hr167_0 => ?_)
      refine ⟨vin1, ?_⟩
      refine sf_X9_cover hJSq1.2 (fun r169 u170 hJu170 hfu170 hr169_0 => ?_)
      intro S171 eS171
      subst eS171
      have hJS171 : J8 Sq1.1 ∧ J9 u170 := ⟨hJSq1.1, hJu170⟩
      have hFS171 : True := trivial
      have hRS171 := st_cover hJSq1.2 hiq1_2 hr167_0 hfu170 hr169_0
      clear hr167_0 hfu170 hr169_0
      unfold wp_L_law_1745
      refine ⟨_, ?_, ?_, ?_, ?_, ?_, ?_, rfl⟩
      · first | omega | ((try simp (disch := first | ((try simp (disch := first | ((try simp only [pn]) <;> omega) | fail) only [pn, pq]) <;> omega) | fail) only [pn, pq]) <;> (intros; (try simp (disch := first | ((try simp (disch := first | ((try simp only [pn]) <;> omega) | fail) only [pn, pq]) <;> omega) | fail) only [pn, pq]) <;> omega))
      · exact hJS171
      · exact hFS171
      · first | omega | ((try simp (disch := first | ((try simp (disch := first | ((try simp only [pn]) <;> omega) | fail) only [pn, pq]) <;> omega) | fail) only [pn, pq]) <;> (intros; (try simp (disch := first | ((try simp (disch := first | ((try simp only [pn]) <;> omega) | fail) only [pn, pq]) <;> omega) | fail) only [pn, pq]) <;> omega))
      · first | omega | ((try simp (disch := first | ((try simp (disch := first | ((try simp only [pn]) <;> omega) | fail) only [pn, pq]) <;> omega) | fail) only [pn, pq]) <;> (intros; (try simp (disch := first | ((try simp (disch := first | ((try simp only [pn]) <;> omega) | fail) only [pn, pq]) <;> omega) | fail) only [pn, pq]) <;> omega))
      · exact hRS171
    · skip
      refine ⟨vin1, ?_⟩
      refine sf_X8_loose hJSq1.1 (fun r172 hr172_0 => ?_)
      refine ⟨vin1, ?_⟩
      refine sf_X9_loose hJSq1.2 (fun r174 u175 hJu175 hfu175 hr174_0 => ?_)
      intro S176 eS176
      subst eS176
      have hJS176 : J8 Sq1.1 ∧ J9 u175 := ⟨hJSq1.1, hJu175⟩
      have hFS176 : True := trivial
      have hRS176 := st_loose hJSq1.2 hiq1_2 hr172_0 hfu175 hr174_0
      clear hr172_0 hfu175 hr174_0
      unfold wp_L_law_1745
      refine ⟨_, ?_, ?_, ?_, ?_, ?_, ?_, rfl⟩
      · first | omega | ((try simp (disch := first | ((try simp (disch := first | ((try simp only [pn]) <;> omega) | fail) only [pn, pq]) <;> omega) | fail) only [pn, pq]) <;> (intros; (try simp (disch := first | ((try simp (disch := first | ((try simp only [pn]) <;> omega) | fail) only [pn, pq]) <;> omega) | fail) only [pn, pq]) <;> omega))
      · exact hJS176
      · exact hFS176
      · first | omega | ((try simp (disch := first | ((try simp (disch := first | ((try simp only [pn]) <;> omega) | fail) only [pn, pq]) <;> omega) | fail) only [pn, pq]) <;> (intros; (try simp (disch := first | ((try simp (disch := first | ((try simp only [pn]) <;> omega) | fail) only [pn, pq]) <;> omega) | fail) only [pn, pq]) <;> omega))
      · first | omega | ((try simp (disch := first | ((try simp (disch := first | ((try simp only [pn]) <;> omega) | fail) only [pn, pq]) <;> omega) | fail) only [pn, pq]) <;> (intros; (try simp (disch := first | ((try simp (disch := first | ((try simp only [pn]) <;> omega) | fail) only [pn, pq]) <;> omega) | fail) only [pn, pq]) <;> omega))
      · exact hRS176
    · skip
      refine ⟨vin1, ?_⟩
      refine ⟨vin2, ?_⟩
      refine sf_X8_free hJSq1.1 (fun r177 hr177_0 => ?_)
      refine ⟨vin1, ?_⟩
      refine ⟨vin2, ?_⟩
      refine sf_X9_free hJSq1.2 (fun r179 u180 hJu180 hfu180 hr179_0 => ?_)
      intro S181 eS181
      subst eS181
      have hJS181 : J8 Sq1.1 ∧ J9 u180 := ⟨hJSq1.1, hJu180⟩
      have hFS181 : True := trivial
      have hRS181 := st_free hJSq1.2 hiq1_2 hr177_0 hfu180 hr179_0
      clear hr177_0 hfu180 hr179_0
      unfold wp_L_law_1745
      refine ⟨_, ?_, ?_, ?_, ?_, ?_, ?_, rfl⟩
      · first | omega | ((try simp (disch := first | ((try simp (disch := first | ((try simp only [pn]) <;> omega) | fail) only [pn, pq]) <;> omega) | fail) only [pn, pq]) <;> (intros; (try simp (disch := first | ((try simp (disch := first | ((try simp only [pn]) <;> omega) | fail) only [pn, pq]) <;> omega) | fail) only [pn, pq]) <;> omega))
      · exact hJS181
      · exact hFS181
      · first | omega | ((try simp (disch := first | ((try simp (disch := first | ((try simp only [pn]) <;> omega) | fail) only [pn, pq]) <;> omega) | fail) only [pn, pq]) <;> (intros; (try simp (disch := first | ((try simp (disch := first | ((try simp only [pn]) <;> omega) | fail) only [pn, pq]) <;> omega) | fail) only [pn, pq]) <;> omega))
      · first | omega | ((try simp (disch := first | ((try simp (disch := first | ((try simp only [pn]) <;> omega) | fail) only [pn, pq]) <;> omega) | fail) only [pn, pq]) <;> (intros; (try simp (disch := first | ((try simp (disch := first | ((try simp only [pn]) <;> omega) | fail) only [pn, pq]) <;> omega) | fail) only [pn, pq]) <;> omega))
      · exact hRS181
    · skip
      refine ⟨vin1, ?_⟩
      refine ⟨vin2, ?_⟩
      refine ⟨vin3, ?_⟩
      refine ⟨vin4, ?_⟩
      refine sf_X8_spread hJSq1.1 (fun r182 hr182_0 => ?_)
      refine ⟨vin1, ?_⟩
      refine ⟨vin2, ?_⟩
      refine ⟨vin3, ?_⟩
      refine ⟨vin4, ?_⟩
      refine sf_X9_spread hJSq1.2 (fun r184 u185 hJu185 hfu185 hr184_0 => ?_)
      intro S186 eS186
      subst eS186
      have hJS186 : J8 Sq1.1 ∧ J9 u185 := ⟨hJSq1.1, hJu185⟩
      have hFS186 : True := trivial
      have hRS186 := st_spread hJSq1.2 hiq1_2 hr182_0 hfu185 hr184_0
      clear hr182_0 hfu185 hr184_0
      unfold wp_L_law_1745
      refine ⟨_, ?_, ?_, ?_, ?_, ?_, ?_, rfl⟩
      · first | omega | ((try simp (disch := first | ((try simp (disch := first | ((try simp only [pn]) <;> omega) | fail) only [pn, pq]) <;> omega) | fail) only [pn, pq]) <;> (intros; (try simp (disch := first | ((try simp (disch := first | ((try simp only [pn]) <;> omega) | fail) only [pn, pq]) <;> omega) | fail) only [pn, pq]) <;> omega))
      · exact hJS186
      · exact hFS186
      · first | omega | ((try simp (disch := first | ((try simp (disch := first | ((try simp only [pn]) <;> omega) | fail) only [pn, pq]) <;> omega) | fail) only [pn, pq]) <;> (intros; (try simp (disch := first | ((try simp (disch := first | ((try simp only [pn]) <;> omega) | fail) only [pn, pq]) <;> omega) | fail) only [pn, pq]) <;> omega))
      · first | omega | ((try simp (disch := first | ((try simp (disch := first | ((try simp only [pn]) <;> omega) | fail) only [pn, pq]) <;> omega) | fail) only [pn, pq]) <;> (intros; (try simp (disch := first | ((try simp (disch := first | ((try simp only [pn]) <;> omega) | fail) only [pn, pq]) <;> omega) | fail) only [pn, pq]) <;> omega))
      · exact hRS186
    · skip
      refine ⟨vin1, ?_⟩
      refine ⟨vin2, ?_⟩
      refine ⟨vin3, ?_⟩
      refine sf_X8_question hJSq1.1 (fun r187 u188 hJu188 hfu188 hr187_0 hr187_1 hr187_2 => ?_)
      intro S189 eS189
      subst eS189
      have hJS189 : J8 u188 ∧ J9 Sq1.2 := ⟨hJu188, hJSq1.2⟩
      have hFS189 : True := trivial
      refine ⟨vin1, ?_⟩
      refine ⟨vin2, ?_⟩
      refine ⟨vin3, ?_⟩
      refine sf_X9_question hJSq1.2 (fun r190 u191 hJu191 hfu191 hr190_0 hr190_1 hr190_2 hr190_3 hr190_4 hr190_5 => ?_)
      intro S192 eS192
      subst eS192
      have hJS192 : J8 u188 ∧ J9 u191 := ⟨hJu188, hJu191⟩
      have hFS192 : True := trivial
      obtain ⟨hRS192, hcmp⟩ := st_question hJSq1.2 hiq1_2 hfu188 hr187_0 hr187_1 hr187_2 hfu191 hr190_0 hr190_1 hr190_2 hr190_3 hr190_4 hr190_5
      clear hfu188 hr187_0 hr187_1 hr187_2 hfu191 hr190_0 hr190_1 hr190_2 hr190_3 hr190_4 hr190_5
      refine ⟨fun c193 => ?_, fun c193 => ?_⟩
      · try simp (disch := first | ((try simp (disch := first | ((try simp only [pn]) <;> omega) | fail) only [pn, pq]) <;> omega) | fail) only [pn, pq] at c193
        unfold wp_L_law_1745
        refine ⟨_, ?_, ?_, ?_, ?_, ?_, ?_, rfl⟩
        · first | omega | ((try simp (disch := first | ((try simp (disch := first | ((try simp only [pn]) <;> omega) | fail) only [pn, pq]) <;> omega) | fail) only [pn, pq]) <;> (intros; (try simp (disch := first | ((try simp (disch := first | ((try simp only [pn]) <;> omega) | fail) only [pn, pq]) <;> omega) | fail) only [pn, pq]) <;> omega))
        · exact hJS192
        · exact hFS192
        · first | omega | ((try simp (disch := first | ((try simp (disch := first | ((try simp only [pn]) <;> omega) | fail) only [pn, pq]) <;> omega) | fail) only [pn, pq]) <;> (intros; (try simp (disch := first | ((try simp (disch := first | ((try simp only [pn]) <;> omega) | fail) only [pn, pq]) <;> omega) | fail) only [pn, pq]) <;> omega))
        · first | omega | ((try simp (disch := first | ((try simp (disch := first | ((try simp only [pn]) <;> omega) | fail) only [pn, pq]) <;> omega) | fail) only [pn, pq]) <;> (intros; (try simp (disch := first | ((try simp (disch := first | ((try simp only [pn]) <;> omega) | fail) only [pn, pq]) <;> omega) | fail) only [pn, pq]) <;> omega))
        · exact hRS192
      · try simp (disch := first | ((try simp (disch := first | ((try simp only [pn]) <;> omega) | fail) only [pn, pq]) <;> omega) | fail) only [pn, pq] at c193
        exfalso
        first | omega | ((try simp (disch := first | ((try simp (disch := first | ((try simp only [pn]) <;> omega) | fail) only [pn, pq]) <;> omega) | fail) only [pn, pq]) <;> (intros; (try simp (disch := first | ((try simp (disch := first | ((try simp only [pn]) <;> omega) | fail) only [pn, pq]) <;> omega) | fail) only [pn, pq]) <;> omega))
    · skip
      refine sf_X8_forget hJSq1.1 (fun r194 u195 hJu195 hfu195 hr194_0 hr194_1 => ?_)
      intro S196 eS196
      subst eS196
      have hJS196 : J8 u195 ∧ J9 Sq1.2 := ⟨hJu195, hJSq1.2⟩
      have hFS196 : True := trivial
      refine sf_X9_forget hJSq1.2 (fun r197 u198 hJu198 hfu198 hr197_0 hr197_1 hr197_2 hr197_3 hr197_4 hr197_5 => ?_)
      intro S199 eS199
      subst eS199
      have hJS199 : J8 u195 ∧ J9 u198 := ⟨hJu195, hJu198⟩
      have hFS199 : True := trivial
      have hRS199 := st_forget hJSq1.2 hiq1_2 hfu195 hr194_0 hr194_1 hfu198 hr197_0 hr197_1 hr197_2 hr197_3 hr197_4 hr197_5
      clear hfu195 hr194_0 hr194_1 hfu198 hr197_0 hr197_1 hr197_2 hr197_3 hr197_4 hr197_5
      unfold wp_L_law_1745
      refine ⟨_, ?_, ?_, ?_, ?_, ?_, ?_, rfl⟩
      · first | omega | ((try simp (disch := first | ((try simp (disch := first | ((try simp only [pn]) <;> omega) | fail) only [pn, pq]) <;> omega) | fail) only [pn, pq]) <;> (intros; (try simp (disch := first | ((try simp (disch := first | ((try simp only [pn]) <;> omega) | fail) only [pn, pq]) <;> omega) | fail) only [pn, pq]) <;> omega))
      · exact hJS199
      · exact hFS199
      · first | omega | ((try simp (disch := first | ((try simp (disch := first | ((try simp only [pn]) <;> omega) | fail) only [pn, pq]) <;> omega) | fail) only [pn, pq]) <;> (intros; (try simp (disch := first | ((try simp (disch := first | ((try simp only [pn]) <;> omega) | fail) only [pn, pq]) <;> omega) | fail) only [pn, pq]) <;> omega))
      · first | omega | ((try simp (disch := first | ((try simp (disch := first | ((try simp only [pn]) <;> omega) | fail) only [pn, pq]) <;> omega) | fail) only [pn, pq]) <;> (intros; (try simp (disch := first | ((try simp (disch := first | ((try simp only [pn]) <;> omega) | fail) only [pn, pq]) <;> omega) | fail) only [pn, pq]) <;> omega))
      · exact hRS199
    · skip
      refine ⟨vin1, ?_⟩
      refine ⟨vin2, ?_⟩
      refine sf_X8_tuned hJSq1.1 (fun r200 u201 hJu201 hfu201 hr200_0 => ?_)
      intro S202 eS202
      subst eS202
      have hJS202 : J8 u201 ∧ J9 Sq1.2 := ⟨hJu201, hJSq1.2⟩
      have hFS202 : True := trivial
      refine ⟨vin1, ?_⟩
      refine ⟨vin2, ?_⟩
      refine sf_X9_tuned hJSq1.2 (fun r203 u204 hJu204 hfu204 hr203_0 => ?_)
      intro S205 eS205
      subst eS205
      have hJS205 : J8 u201 ∧ J9 u204 := ⟨hJu201, hJu204⟩
      have hFS205 : True := trivial
      have hRS205 := st_tuned hJSq1.2 hiq1_2 hfu201 hr200_0 hfu204 hr203_0
      clear hfu201 hr200_0 hfu204 hr203_0
      unfold wp_L_law_1745
      refine ⟨_, ?_, ?_, ?_, ?_, ?_, ?_, rfl⟩
      · first | omega | ((try simp (disch := first | ((try simp (disch := first | ((try simp only [pn]) <;> omega) | fail) only [pn, pq]) <;> omega) | fail) only [pn, pq]) <;> (intros; (try simp (disch := first | ((try simp (disch := first | ((try simp only [pn]) <;> omega) | fail) only [pn, pq]) <;> omega) | fail) only [pn, pq]) <;> omega))
      · exact hJS205
      · exact hFS205
      · first | omega | ((try simp (disch := first | ((try simp (disch := first | ((try simp only [pn]) <;> omega) | fail) only [pn, pq]) <;> omega) | fail) only [pn, pq]) <;> (intros; (try simp (disch := first | ((try simp (disch := first | ((try simp only [pn]) <;> omega) | fail) only [pn, pq]) <;> omega) | fail) only [pn, pq]) <;> omega))
      · first | omega | ((try simp (disch := first | ((try simp (disch := first | ((try simp only [pn]) <;> omega) | fail) only [pn, pq]) <;> omega) | fail) only [pn, pq]) <;> (intros; (try simp (disch := first | ((try simp (disch := first | ((try simp only [pn]) <;> omega) | fail) only [pn, pq]) <;> omega) | fail) only [pn, pq]) <;> omega))
      · exact hRS205
    · skip
      refine ⟨vin1, ?_⟩
      refine ⟨vin2, ?_⟩
      refine sf_X8_storm hJSq1.1 (fun r206 u207 hJu207 hfu207 hr206_0 hr206_1 => ?_)
      intro S208 eS208
      subst eS208
      have hJS208 : J8 u207 ∧ J9 Sq1.2 := ⟨hJu207, hJSq1.2⟩
      have hFS208 : True := trivial
      refine ⟨vin1, ?_⟩
      refine ⟨vin2, ?_⟩
      refine sf_X9_storm hJSq1.2 (fun r209 u210 hJu210 hfu210 hr209_0 hr209_1 hr209_2 hr209_3 hr209_4 hr209_5 => ?_)
      intro S211 eS211
      subst eS211
      have hJS211 : J8 u207 ∧ J9 u210 := ⟨hJu207, hJu210⟩
      have hFS211 : True := trivial
      have hRS211 := st_storm hJSq1.2 hiq1_2 hfu207 hr206_0 hr206_1 hfu210 hr209_0 hr209_1 hr209_2 hr209_3 hr209_4 hr209_5
      clear hfu207 hr206_0 hr206_1 hfu210 hr209_0 hr209_1 hr209_2 hr209_3 hr209_4 hr209_5
      unfold wp_L_law_1745
      refine ⟨_, ?_, ?_, ?_, ?_, ?_, ?_, rfl⟩
      · first | omega | ((try simp (disch := first | ((try simp (disch := first | ((try simp only [pn]) <;> omega) | fail) only [pn, pq]) <;> omega) | fail) only [pn, pq]) <;> (intros; (try simp (disch := first | ((try simp (disch := first | ((try simp only [pn]) <;> omega) | fail) only [pn, pq]) <;> omega) | fail) only [pn, pq]) <;> omega))
      · exact hJS211
      · exact hFS211
      · first | omega | ((try simp (disch := first | ((try simp (disch := first | ((try simp only [pn]) <;> omega) | fail) only [pn, pq]) <;> omega) | fail) only [pn, pq]) <;> (intros; (try simp (disch := first | ((try simp (disch := first | ((try simp only [pn]) <;> omega) | fail) only [pn, pq]) <;> omega) | fail) only [pn, pq]) <;> omega))
      · first | omega | ((try simp (disch := first | ((try simp (disch := first | ((try simp only [pn]) <;> omega) | fail) only [pn, pq]) <;> omega) | fail) only [pn, pq]) <;> (intros; (try simp (disch := first | ((try simp (disch := first | ((try simp only [pn]) <;> omega) | fail) only [pn, pq]) <;> omega) | fail) only [pn, pq]) <;> omega))
      · exact hRS211
    · skip
      refine ⟨vin1, ?_⟩
      refine ⟨vin2, ?_⟩
      refine ⟨vin3, ?_⟩
      refine sf_X8_stormRange hJSq1.1 (fun r212 u213 hJu213 hfu213 hr212_0 hr212_1 => ?_)
      intro S214 eS214
      subst eS214
      have hJS214 : J8 u213 ∧ J9 Sq1.2 := ⟨hJu213, hJSq1.2⟩
      have hFS214 : True := trivial
      refine ⟨vin1, ?_⟩
      refine ⟨vin2, ?_⟩
      refine ⟨vin3, ?_⟩
      refine sf_X9_stormRange hJSq1.2 (fun r215 u216 hJu216 hfu216 hr215_0 hr215_1 hr215_2 hr215_3 hr215_4 hr215_5 => ?_)
      intro S217 eS217
      subst eS217
      have hJS217 : J8 u213 ∧ J9 u216 := ⟨hJu213, hJu216⟩
      have hFS217 : True := trivial
      have hRS217 := st_stormRange hJSq1.2 hiq1_2 hfu213 hr212_0 hr212_1 hfu216 hr215_0 hr215_1 hr215_2 hr215_3 hr215_4 hr215_5
      clear hfu213 hr212_0 hr212_1 hfu216 hr215_0 hr215_1 hr215_2 hr215_3 hr215_4 hr215_5
      unfold wp_L_law_1745
      refine ⟨_, ?_, ?_, ?_, ?_, ?_, ?_, rfl⟩
      · first | omega | ((try simp (disch := first | ((try simp (disch := first | ((try simp only [pn]) <;> omega) | fail) only [pn, pq]) <;> omega) | fail) only [pn, pq]) <;> (intros; (try simp (disch := first | ((try simp (disch := first | ((try simp only [pn]) <;> omega) | fail) only [pn, pq]) <;> omega) | fail) only [pn, pq]) <;> omega))
      · exact hJS217
      · exact hFS217
      · first | omega | ((try simp (disch := first | ((try simp (disch := first | ((try simp only [pn]) <;> omega) | fail) only [pn, pq]) <;> omega) | fail) only [pn, pq]) <;> (intros; (try simp (disch := first | ((try simp (disch := first | ((try simp only [pn]) <;> omega) | fail) only [pn, pq]) <;> omega) | fail) only [pn, pq]) <;> omega))
      · first | omega | ((try simp (disch := first | ((try simp (disch := first | ((try simp only [pn]) <;> omega) | fail) only [pn, pq]) <;> omega) | fail) only [pn, pq]) <;> (intros; (try simp (disch := first | ((try simp (disch := first | ((try simp only [pn]) <;> omega) | fail) only [pn, pq]) <;> omega) | fail) only [pn, pq]) <;> omega))
      · exact hRS217
    · skip
      refine ⟨vin1, ?_⟩
      refine sf_X8_account hJSq1.1 (fun r218 hr218_0 => ?_)
      refine ⟨vin1, ?_⟩
      refine sf_X9_account hJSq1.2 (fun r220 u221 hJu221 hfu221 hr220_0 => ?_)
      intro S222 eS222
      subst eS222
      have hJS222 : J8 Sq1.1 ∧ J9 u221 := ⟨hJSq1.1, hJu221⟩
      have hFS222 : True := trivial
      have hRS222 := st_account hJSq1.2 hiq1_2 hr218_0 hfu221 hr220_0
      clear hr218_0 hfu221 hr220_0
      unfold wp_L_law_1745
      refine ⟨_, ?_, ?_, ?_, ?_, ?_, ?_, rfl⟩
      · first | omega | ((try simp (disch := first | ((try simp (disch := first | ((try simp only [pn]) <;> omega) | fail) only [pn, pq]) <;> omega) | fail) only [pn, pq]) <;> (intros; (try simp (disch := first | ((try simp (disch := first | ((try simp only [pn]) <;> omega) | fail) only [pn, pq]) <;> omega) | fail) only [pn, pq]) <;> omega))
      · exact hJS222
      · exact hFS222
      · first | omega | ((try simp (disch := first | ((try simp (disch := first | ((try simp only [pn]) <;> omega) | fail) only [pn, pq]) <;> omega) | fail) only [pn, pq]) <;> (intros; (try simp (disch := first | ((try simp (disch := first | ((try simp only [pn]) <;> omega) | fail) only [pn, pq]) <;> omega) | fail) only [pn, pq]) <;> omega))
      · first | omega | ((try simp (disch := first | ((try simp (disch := first | ((try simp only [pn]) <;> omega) | fail) only [pn, pq]) <;> omega) | fail) only [pn, pq]) <;> (intros; (try simp (disch := first | ((try simp (disch := first | ((try simp only [pn]) <;> omega) | fail) only [pn, pq]) <;> omega) | fail) only [pn, pq]) <;> omega))
      · exact hRS222
    · skip
      refine ⟨vin1, ?_⟩
      refine sf_X8_since hJSq1.1 (fun r223 hr223_0 => ?_)
      refine ⟨vin1, ?_⟩
      refine sf_X9_since hJSq1.2 (fun r225 u226 hJu226 hfu226 hr225_0 => ?_)
      intro S227 eS227
      subst eS227
      have hJS227 : J8 Sq1.1 ∧ J9 u226 := ⟨hJSq1.1, hJu226⟩
      have hFS227 : True := trivial
      have hRS227 := st_since hJSq1.2 hiq1_2 hr223_0 hfu226 hr225_0
      clear hr223_0 hfu226 hr225_0
      unfold wp_L_law_1745
      refine ⟨_, ?_, ?_, ?_, ?_, ?_, ?_, rfl⟩
      · first | omega | ((try simp (disch := first | ((try simp (disch := first | ((try simp only [pn]) <;> omega) | fail) only [pn, pq]) <;> omega) | fail) only [pn, pq]) <;> (intros; (try simp (disch := first | ((try simp (disch := first | ((try simp only [pn]) <;> omega) | fail) only [pn, pq]) <;> omega) | fail) only [pn, pq]) <;> omega))
      · exact hJS227
      · exact hFS227
      · first | omega | ((try simp (disch := first | ((try simp (disch := first | ((try simp only [pn]) <;> omega) | fail) only [pn, pq]) <;> omega) | fail) only [pn, pq]) <;> (intros; (try simp (disch := first | ((try simp (disch := first | ((try simp only [pn]) <;> omega) | fail) only [pn, pq]) <;> omega) | fail) only [pn, pq]) <;> omega))
      · first | omega | ((try simp (disch := first | ((try simp (disch := first | ((try simp only [pn]) <;> omega) | fail) only [pn, pq]) <;> omega) | fail) only [pn, pq]) <;> (intros; (try simp (disch := first | ((try simp (disch := first | ((try simp only [pn]) <;> omega) | fail) only [pn, pq]) <;> omega) | fail) only [pn, pq]) <;> omega))
      · exact hRS227
    · skip
      refine ⟨vin1, ?_⟩
      refine sf_X8_report hJSq1.1 (fun r228 u229 hJu229 hfu229  => ?_)
      intro S230 eS230
      subst eS230
      have hJS230 : J8 u229 ∧ J9 Sq1.2 := ⟨hJu229, hJSq1.2⟩
      have hFS230 : True := trivial
      refine ⟨vin1, ?_⟩
      refine sf_X9_report hJSq1.2 (fun r231 u232 hJu232 hfu232  => ?_)
      intro S233 eS233
      subst eS233
      have hJS233 : J8 u229 ∧ J9 u232 := ⟨hJu229, hJu232⟩
      have hFS233 : True := trivial
      have hRS233 := st_report hJSq1.2 hiq1_2 hfu229 hfu232
      clear hfu229 hfu232
      unfold wp_L_law_1745
      refine ⟨_, ?_, ?_, ?_, ?_, ?_, ?_, rfl⟩
      · first | omega | ((try simp (disch := first | ((try simp (disch := first | ((try simp only [pn]) <;> omega) | fail) only [pn, pq]) <;> omega) | fail) only [pn, pq]) <;> (intros; (try simp (disch := first | ((try simp (disch := first | ((try simp only [pn]) <;> omega) | fail) only [pn, pq]) <;> omega) | fail) only [pn, pq]) <;> omega))
      · exact hJS233
      · exact hFS233
      · first | omega | ((try simp (disch := first | ((try simp (disch := first | ((try simp only [pn]) <;> omega) | fail) only [pn, pq]) <;> omega) | fail) only [pn, pq]) <;> (intros; (try simp (disch := first | ((try simp (disch := first | ((try simp only [pn]) <;> omega) | fail) only [pn, pq]) <;> omega) | fail) only [pn, pq]) <;> omega))
      · first | omega | ((try simp (disch := first | ((try simp (disch := first | ((try simp only [pn]) <;> omega) | fail) only [pn, pq]) <;> omega) | fail) only [pn, pq]) <;> (intros; (try simp (disch := first | ((try simp (disch := first | ((try simp only [pn]) <;> omega) | fail) only [pn, pq]) <;> omega) | fail) only [pn, pq]) <;> omega))
      · exact hRS233
    · skip
      refine ⟨vin1, ?_⟩
      refine sf_X8_sign hJSq1.1 (fun r234  => ?_)
      refine ⟨vin1, ?_⟩
      refine sf_X9_sign hJSq1.2 (fun r236 u237 hJu237 hfu237  => ?_)
      intro S238 eS238
      subst eS238
      have hJS238 : J8 Sq1.1 ∧ J9 u237 := ⟨hJSq1.1, hJu237⟩
      have hFS238 : True := trivial
      have hRS238 := st_sign hJSq1.2 hiq1_2 hfu237
      clear hfu237
      unfold wp_L_law_1745
      refine ⟨_, ?_, ?_, ?_, ?_, ?_, ?_, rfl⟩
      · first | omega | ((try simp (disch := first | ((try simp (disch := first | ((try simp only [pn]) <;> omega) | fail) only [pn, pq]) <;> omega) | fail) only [pn, pq]) <;> (intros; (try simp (disch := first | ((try simp (disch := first | ((try simp only [pn]) <;> omega) | fail) only [pn, pq]) <;> omega) | fail) only [pn, pq]) <;> omega))
      · exact hJS238
      · exact hFS238
      · first | omega | ((try simp (disch := first | ((try simp (disch := first | ((try simp only [pn]) <;> omega) | fail) only [pn, pq]) <;> omega) | fail) only [pn, pq]) <;> (intros; (try simp (disch := first | ((try simp (disch := first | ((try simp only [pn]) <;> omega) | fail) only [pn, pq]) <;> omega) | fail) only [pn, pq]) <;> omega))
      · first | omega | ((try simp (disch := first | ((try simp (disch := first | ((try simp only [pn]) <;> omega) | fail) only [pn, pq]) <;> omega) | fail) only [pn, pq]) <;> (intros; (try simp (disch := first | ((try simp (disch := first | ((try simp only [pn]) <;> omega) | fail) only [pn, pq]) <;> omega) | fail) only [pn, pq]) <;> omega))
      · exact hRS238
    · skip
      refine ⟨vin1, ?_⟩
      refine ⟨fun c239 => ?_, fun c239 => ?_⟩
      · try simp (disch := first | ((try simp (disch := first | ((try simp only [pn]) <;> omega) | fail) only [pn, pq]) <;> omega) | fail) only [pn, pq] at c239
        unfold wp_L_law_1697
        refine sf_X8_image hJSq1.1 (fun r240 u241 hJu241 hfu241 hzr240 hr240_0 hr240_1 hr240_2 hr240_3 hr240_4 hr240_5 => ?_)
        intro S242 eS242
        subst eS242
        have hJS242 : J8 u241 ∧ J9 Sq1.2 := ⟨hJu241, hJSq1.2⟩
        have hFS242 : True := trivial
        refine ⟨vin1, ?_⟩
        refine ⟨fun c243 => ?_, fun c243 => ?_⟩
        · try simp (disch := first | ((try simp (disch := first | ((try simp only [pn]) <;> omega) | fail) only [pn, pq]) <;> omega) | fail) only [pn, pq] at c243
          unfold wp_L_law_1715
          refine sf_X9_image hJSq1.2 (fun r244 u245 hJu245 hfu245 hzr244 hr244_0 hr244_1 hr244_2 => ?_)
          intro S246 eS246
          subst eS246
          have hJS246 : J8 u241 ∧ J9 u245 := ⟨hJu241, hJu245⟩
          have hFS246 : True := trivial
          have hRS246 : LRQ u241 u245 := by first | contradiction | exact st_image hJSq1.2 hiq1_2 hfu241 hr240_0 hr240_1 hr240_2 hr240_3 hr240_4 hr240_5 hfu245 hr244_0 hr244_1 hr244_2 | (exfalso; omega)
          clear hfu241 hr240_0 hr240_1 hr240_2 hr240_3 hr240_4 hr240_5 hfu245 hr244_0 hr244_1 hr244_2
          unfold wp_L_law_1745
          refine ⟨_, ?_, ?_, ?_, ?_, ?_, ?_, rfl⟩
          · first | omega | ((try simp (disch := first | ((try simp (disch := first | ((try simp only [pn]) <;> omega) | fail) only [pn, pq]) <;> omega) | fail) only [pn, pq]) <;> (intros; (try simp (disch := first | ((try simp (disch := first | ((try simp only [pn]) <;> omega) | fail) only [pn, pq]) <;> omega) | fail) only [pn, pq]) <;> omega))
          · exact hJS246
          · exact hFS246
          · first | omega | ((try simp (disch := first | ((try simp (disch := first | ((try simp only [pn]) <;> omega) | fail) only [pn, pq]) <;> omega) | fail) only [pn, pq]) <;> (intros; (try simp (disch := first | ((try simp (disch := first | ((try simp only [pn]) <;> omega) | fail) only [pn, pq]) <;> omega) | fail) only [pn, pq]) <;> omega))
          · first | omega | ((try simp (disch := first | ((try simp (disch := first | ((try simp only [pn]) <;> omega) | fail) only [pn, pq]) <;> omega) | fail) only [pn, pq]) <;> (intros; (try simp (disch := first | ((try simp (disch := first | ((try simp only [pn]) <;> omega) | fail) only [pn, pq]) <;> omega) | fail) only [pn, pq]) <;> omega))
          · exact hRS246
        · try simp (disch := first | ((try simp (disch := first | ((try simp only [pn]) <;> omega) | fail) only [pn, pq]) <;> omega) | fail) only [pn, pq] at c243
          unfold wp_L_law_1715
          refine sf_X9_image hJSq1.2 (fun r247 u248 hJu248 hfu248 hzr247 hr247_0 hr247_1 hr247_2 => ?_)
          intro S249 eS249
          subst eS249
          have hJS249 : J8 u241 ∧ J9 u248 := ⟨hJu241, hJu248⟩
          have hFS249 : True := trivial
          have hRS249 : LRQ u241 u248 := by first | contradiction | exact st_image hJSq1.2 hiq1_2 hfu241 hr240_0 hr240_1 hr240_2 hr240_3 hr240_4 hr240_5 hfu248 hr247_0 hr247_1 hr247_2 | (exfalso; omega)
          clear hfu241 hr240_0 hr240_1 hr240_2 hr240_3 hr240_4 hr240_5 hfu248 hr247_0 hr247_1 hr247_2
          unfold wp_L_law_1745
          refine ⟨_, ?_, ?_, ?_, ?_, ?_, ?_, rfl⟩
          · first | omega | ((try simp (disch := first | ((try simp (disch := first | ((try simp only [pn]) <;> omega) | fail) only [pn, pq]) <;> omega) | fail) only [pn, pq]) <;> (intros; (try simp (disch := first | ((try simp (disch := first | ((try simp only [pn]) <;> omega) | fail) only [pn, pq]) <;> omega) | fail) only [pn, pq]) <;> omega))
          · exact hJS249
          · exact hFS249
          · first | omega | ((try simp (disch := first | ((try simp (disch := first | ((try simp only [pn]) <;> omega) | fail) only [pn, pq]) <;> omega) | fail) only [pn, pq]) <;> (intros; (try simp (disch := first | ((try simp (disch := first | ((try simp only [pn]) <;> omega) | fail) only [pn, pq]) <;> omega) | fail) only [pn, pq]) <;> omega))
          · first | omega | ((try simp (disch := first | ((try simp (disch := first | ((try simp only [pn]) <;> omega) | fail) only [pn, pq]) <;> omega) | fail) only [pn, pq]) <;> (intros; (try simp (disch := first | ((try simp (disch := first | ((try simp only [pn]) <;> omega) | fail) only [pn, pq]) <;> omega) | fail) only [pn, pq]) <;> omega))
          · exact hRS249
      · try simp (disch := first | ((try simp (disch := first | ((try simp only [pn]) <;> omega) | fail) only [pn, pq]) <;> omega) | fail) only [pn, pq] at c239
        unfold wp_L_law_1697
        refine sf_X8_image hJSq1.1 (fun r250 u251 hJu251 hfu251 hzr250 hr250_0 hr250_1 hr250_2 hr250_3 hr250_4 hr250_5 => ?_)
        intro S252 eS252
        subst eS252
        have hJS252 : J8 u251 ∧ J9 Sq1.2 := ⟨hJu251, hJSq1.2⟩
        have hFS252 : True := trivial
        refine ⟨vin1, ?_⟩
        refine ⟨fun c253 => ?_, fun c253 => ?_⟩
        · try simp (disch := first | ((try simp (disch := first | ((try simp only [pn]) <;> omega) | fail) only [pn, pq]) <;> omega) | fail) only [pn, pq] at c253
          unfold wp_L_law_1715
          refine sf_X9_image hJSq1.2 (fun r254 u255 hJu255 hfu255 hzr254 hr254_0 hr254_1 hr254_2 => ?_)
          intro S256 eS256
          subst eS256
          have hJS256 : J8 u251 ∧ J9 u255 := ⟨hJu251, hJu255⟩
          have hFS256 : True := trivial
          have hRS256 : LRQ u251 u255 := by first | contradiction | exact st_image hJSq1.2 hiq1_2 hfu251 hr250_0 hr250_1 hr250_2 hr250_3 hr250_4 hr250_5 hfu255 hr254_0 hr254_1 hr254_2 | (exfalso; omega)
          clear hfu251 hr250_0 hr250_1 hr250_2 hr250_3 hr250_4 hr250_5 hfu255 hr254_0 hr254_1 hr254_2
          unfold wp_L_law_1745
          refine ⟨_, ?_, ?_, ?_, ?_, ?_, ?_, rfl⟩
          · first | omega | ((try simp (disch := first | ((try simp (disch := first | ((try simp only [pn]) <;> omega) | fail) only [pn, pq]) <;> omega) | fail) only [pn, pq]) <;> (intros; (try simp (disch := first | ((try simp (disch := first | ((try simp only [pn]) <;> omega) | fail) only [pn, pq]) <;> omega) | fail) only [pn, pq]) <;> omega))
          · exact hJS256
          · exact hFS256
          · first | omega | ((try simp (disch := first | ((try simp (disch := first | ((try simp only [pn]) <;> omega) | fail) only [pn, pq]) <;> omega) | fail) only [pn, pq]) <;> (intros; (try simp (disch := first | ((try simp (disch := first | ((try simp only [pn]) <;> omega) | fail) only [pn, pq]) <;> omega) | fail) only [pn, pq]) <;> omega))
          · first | omega | ((try simp (disch := first | ((try simp (disch := first | ((try simp only [pn]) <;> omega) | fail) only [pn, pq]) <;> omega) | fail) only [pn, pq]) <;> (intros; (try simp (disch := first | ((try simp (disch := first | ((try simp only [pn]) <;> omega) | fail) only [pn, pq]) <;> omega) | fail) only [pn, pq]) <;> omega))
          · exact hRS256
        · try simp (disch := first | ((try simp (disch := first | ((try simp only [pn]) <;> omega) | fail) only [pn, pq]) <;> omega) | fail) only [pn, pq] at c253
          unfold wp_L_law_1715
          refine sf_X9_image hJSq1.2 (fun r257 u258 hJu258 hfu258 hzr257 hr257_0 hr257_1 hr257_2 => ?_)
          intro S259 eS259
          subst eS259
          have hJS259 : J8 u251 ∧ J9 u258 := ⟨hJu251, hJu258⟩
          have hFS259 : True := trivial
          have hRS259 : LRQ u251 u258 := by first | contradiction | exact st_image hJSq1.2 hiq1_2 hfu251 hr250_0 hr250_1 hr250_2 hr250_3 hr250_4 hr250_5 hfu258 hr257_0 hr257_1 hr257_2 | (exfalso; omega)
          clear hfu251 hr250_0 hr250_1 hr250_2 hr250_3 hr250_4 hr250_5 hfu258 hr257_0 hr257_1 hr257_2
          unfold wp_L_law_1745
          refine ⟨_, ?_, ?_, ?_, ?_, ?_, ?_, rfl⟩
          · first | omega | ((try simp (disch := first | ((try simp (disch := first | ((try simp only [pn]) <;> omega) | fail) only [pn, pq]) <;> omega) | fail) only [pn, pq]) <;> (intros; (try simp (disch := first | ((try simp (disch := first | ((try simp only [pn]) <;> omega) | fail) only [pn, pq]) <;> omega) | fail) only [pn, pq]) <;> omega))
          · exact hJS259
          · exact hFS259
          · first | omega | ((try simp (disch := first | ((try simp (disch := first | ((try simp only [pn]) <;> omega) | fail) only [pn, pq]) <;> omega) | fail) only [pn, pq]) <;> (intros; (try simp (disch := first | ((try simp (disch := first | ((try simp only [pn]) <;> omega) | fail) only [pn, pq]) <;> omega) | fail) only [pn, pq]) <;> omega))
          · first | omega | ((try simp (disch := first | ((try simp (disch := first | ((try simp only [pn]) <;> omega) | fail) only [pn, pq]) <;> omega) | fail) only [pn, pq]) <;> (intros; (try simp (disch := first | ((try simp (disch := first | ((try simp only [pn]) <;> omega) | fail) only [pn, pq]) <;> omega) | fail) only [pn, pq]) <;> omega))
          · exact hRS259
    · skip
      refine ⟨vin1, ?_⟩
      refine sf_X8_look hJSq1.1 (fun r260  => ?_)
      refine ⟨vin1, ?_⟩
      refine sf_X9_look hJSq1.2 (fun r262 u263 hJu263 hfu263  => ?_)
      intro S264 eS264
      subst eS264
      have hJS264 : J8 Sq1.1 ∧ J9 u263 := ⟨hJSq1.1, hJu263⟩
      have hFS264 : True := trivial
      have hRS264 := st_look hJSq1.2 hiq1_2 hfu263
      clear hfu263
      unfold wp_L_law_1745
      refine ⟨_, ?_, ?_, ?_, ?_, ?_, ?_, rfl⟩
      · first | omega | ((try simp (disch := first | ((try simp (disch := first | ((try simp only [pn]) <;> omega) | fail) only [pn, pq]) <;> omega) | fail) only [pn, pq]) <;> (intros; (try simp (disch := first | ((try simp (disch := first | ((try simp only [pn]) <;> omega) | fail) only [pn, pq]) <;> omega) | fail) only [pn, pq]) <;> omega))
      · exact hJS264
      · exact hFS264
      · first | omega | ((try simp (disch := first | ((try simp (disch := first | ((try simp only [pn]) <;> omega) | fail) only [pn, pq]) <;> omega) | fail) only [pn, pq]) <;> (intros; (try simp (disch := first | ((try simp (disch := first | ((try simp only [pn]) <;> omega) | fail) only [pn, pq]) <;> omega) | fail) only [pn, pq]) <;> omega))
      · first | omega | ((try simp (disch := first | ((try simp (disch := first | ((try simp only [pn]) <;> omega) | fail) only [pn, pq]) <;> omega) | fail) only [pn, pq]) <;> (intros; (try simp (disch := first | ((try simp (disch := first | ((try simp only [pn]) <;> omega) | fail) only [pn, pq]) <;> omega) | fail) only [pn, pq]) <;> omega))
      · exact hRS264
