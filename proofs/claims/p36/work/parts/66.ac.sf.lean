def F_X7_tune (S u : bT7 × bT1 × bT0) : Prop := u.2.1 = S.2.1 ∧ u.2.2 = S.2.2
set_option maxRecDepth 20000 in
set_option maxHeartbeats 8000000 in
theorem sj_X7_tune {S : bT7 × bT1 × bT0} (hJ : J7 S.1 ∧ J1 S.2.1 ∧ J0 S.2.2) {a3 : Int32} {Q : (bT7 × bT1 × bT0) → Prop} (hp0 : a3.toInt ≤ 16) (hq : ∀ u : bT7 × bT1 × bT0, (J7 u.1 ∧ J1 u.2.1 ∧ J0 u.2.2) → F_X7_tune S u → Q u) : wp_X7_tune S a3 Q := by
  unfold wp_X7_tune
  have hFS : F_X7_tune S S := ⟨rfl, rfl⟩
  have jf1 := J7g_count hJ.1
  have jf2 := J0g_count hJ.2.2
  have rga3 := pt_rg a3
  intro v1 ev1
  have nv1 := congrArg Int32.toInt ev1
  try simp (disch := first | ((try simp (disch := first | ((try simp only [pn]) <;> omega) | fail) only [pn, pq]) <;> omega) | fail) only [pn, pq] at nv1
  intro S2 eS2
  have hJS2 : J7 S2.1 ∧ J1 S2.2.1 ∧ J0 S2.2.2 := by rw [eS2]; exact ⟨(J7s_count hJ.1 ⟨(by (try simp (disch := first | ((try simp (disch := first | ((try simp only [pn]) <;> omega) | fail) only [pn, pq]) <;> omega) | fail) only [pn, pq]) <;> (intros; (try simp (disch := first | ((try simp (disch := first | ((try simp only [pn]) <;> omega) | fail) only [pn, pq]) <;> omega) | fail) only [pn, pq]) <;> omega)), (by (try simp (disch := first | ((try simp (disch := first | ((try simp only [pn]) <;> omega) | fail) only [pn, pq]) <;> omega) | fail) only [pn, pq]) <;> (intros; (try simp (disch := first | ((try simp (disch := first | ((try simp only [pn]) <;> omega) | fail) only [pn, pq]) <;> omega) | fail) only [pn, pq]) <;> omega))⟩), hJ.2.1, hJ.2.2⟩
  have hFS2 : F_X7_tune S S2 := by rw [eS2]; exact hFS
  have je3 : ((b7g_count S2.1)).toInt = (v1).toInt := by rw [eS2]
  try simp (disch := first | ((try simp (disch := first | ((try simp only [pn]) <;> omega) | fail) only [pn, pq]) <;> omega) | fail) only [pn, pq] at je3
  have jf4 := J7g_count hJS2.1
  have je5 : ((b7g_falsely S2.1)).toInt = ((b7g_falsely S.1)).toInt := by rw [eS2]
  have je7 : ((b0g_count S2.2.2)).toInt = ((b0g_count S.2.2)).toInt := congrArg (fun z => ((b0g_count z)).toInt) hFS2.2
  refine ⟨fun n x3q3 x4q3 Sq3 => (J7 Sq3.1 ∧ J1 Sq3.2.1 ∧ J0 Sq3.2.2) ∧ (F_X7_tune S Sq3) ∧ (x3q3 = a3) ∧ (0 ≤ (x4q3).toInt) ∧ n = (((b7g_count Sq3.1)).toInt + 1 - (x4q3).toInt).toNat, ⟨_, hJS2, hFS2, rfl, (by (try simp (disch := first | ((try simp (disch := first | ((try simp only [pn]) <;> omega) | fail) only [pn, pq]) <;> omega) | fail) only [pn, pq]) <;> (intros; (try simp (disch := first | ((try simp (disch := first | ((try simp only [pn]) <;> omega) | fail) only [pn, pq]) <;> omega) | fail) only [pn, pq]) <;> omega)), rfl⟩, ?_⟩
  rintro n4 x3q3 x4q3 Sq3 ⟨hJSq3, hFSq3, hkq3_0, hiq3_0, hn4⟩
  subst hkq3_0
  have rgx3q3 := pt_rg x3q3
  have rgx4q3 := pt_rg x4q3
  unfold wp_X7_tune_16b
  have jf8 := J7g_count hJSq3.1
  have je10 : ((b0g_count Sq3.2.2)).toInt = ((b0g_count S.2.2)).toInt := congrArg (fun z => ((b0g_count z)).toInt) hFSq3.2
  refine ⟨fun c5 => ?_, fun c5 => ?_⟩
  · try simp (disch := first | ((try simp (disch := first | ((try simp only [pn]) <;> omega) | fail) only [pn, pq]) <;> omega) | fail) only [pn, pq] at c5
    intro S6 eS6
    have hJS6 : J7 S6.1 ∧ J1 S6.2.1 ∧ J0 S6.2.2 := by rw [eS6]; exact ⟨(J7s_hashBits hJSq3.1), hJSq3.2.1, hJSq3.2.2⟩
    have hFS6 : F_X7_tune S S6 := by rw [eS6]; exact hFSq3
    have je11 : ((b7g_count S6.1)).toInt = ((b7g_count Sq3.1)).toInt := by rw [eS6]
    have jf12 := J7g_count hJS6.1
    have je13 : ((b7g_falsely S6.1)).toInt = ((b7g_falsely Sq3.1)).toInt := by rw [eS6]
    have je15 : ((b0g_count S6.2.2)).toInt = ((b0g_count S.2.2)).toInt := congrArg (fun z => ((b0g_count z)).toInt) hFS6.2
    intro S7 eS7
    have hJS7 : J7 S7.1 ∧ J1 S7.2.1 ∧ J0 S7.2.2 := by rw [eS7]; exact ⟨(J7s_realBits hJS6.1), hJS6.2.1, hJS6.2.2⟩
    have hFS7 : F_X7_tune S S7 := by rw [eS7]; exact hFS6
    have je16 : ((b7g_count S7.1)).toInt = ((b7g_count S6.1)).toInt := by rw [eS7]
    have jf17 := J7g_count hJS7.1
    have je18 : ((b7g_falsely S7.1)).toInt = ((b7g_falsely S6.1)).toInt := by rw [eS7]
    have je20 : ((b0g_count S7.2.2)).toInt = ((b0g_count S.2.2)).toInt := congrArg (fun z => ((b0g_count z)).toInt) hFS7.2
    refine sf_X7_falseBy hJS7.1 (fun r8  => ?_)
    have rgr8 := pt_rg r8
    intro S10 eS10
    have hJS10 : J7 S10.1 ∧ J1 S10.2.1 ∧ J0 S10.2.2 := by rw [eS10]; exact ⟨(J7s_falsely hJS7.1), hJS7.2.1, hJS7.2.2⟩
    have hFS10 : F_X7_tune S S10 := by rw [eS10]; exact hFS7
    have je21 : ((b7g_count S10.1)).toInt = ((b7g_count S7.1)).toInt := by rw [eS10]
    have jf22 := J7g_count hJS10.1
    have je23 : ((b7g_falsely S10.1)).toInt = (r8).toInt := by rw [eS10]
    try simp (disch := first | ((try simp (disch := first | ((try simp only [pn]) <;> omega) | fail) only [pn, pq]) <;> omega) | fail) only [pn, pq] at je23
    have je25 : ((b0g_count S10.2.2)).toInt = ((b0g_count S.2.2)).toInt := congrArg (fun z => ((b0g_count z)).toInt) hFS10.2
    refine ⟨fun n x3q11 x4q11 Sq11 => (J7 Sq11.1 ∧ J1 Sq11.2.1 ∧ J0 Sq11.2.2) ∧ (F_X7_tune S Sq11) ∧ (x3q11 = x3q3) ∧ (1 ≤ (x4q11).toInt) ∧ ((x4q11).toInt ≤ 17) ∧ ((x3q11).toInt ≤ 16) ∧ n = (20 - (x4q11).toInt).toNat, ⟨_, hJS10, hFS10, rfl, (by (try simp (disch := first | ((try simp (disch := first | ((try simp only [pn]) <;> omega) | fail) only [pn, pq]) <;> omega) | fail) only [pn, pq]) <;> (intros; (try simp (disch := first | ((try simp (disch := first | ((try simp only [pn]) <;> omega) | fail) only [pn, pq]) <;> omega) | fail) only [pn, pq]) <;> omega)), (by (try simp (disch := first | ((try simp (disch := first | ((try simp only [pn]) <;> omega) | fail) only [pn, pq]) <;> omega) | fail) only [pn, pq]) <;> (intros; (try simp (disch := first | ((try simp (disch := first | ((try simp only [pn]) <;> omega) | fail) only [pn, pq]) <;> omega) | fail) only [pn, pq]) <;> omega)), (by (try simp (disch := first | ((try simp (disch := first | ((try simp only [pn]) <;> omega) | fail) only [pn, pq]) <;> omega) | fail) only [pn, pq]) <;> (intros; (try simp (disch := first | ((try simp (disch := first | ((try simp only [pn]) <;> omega) | fail) only [pn, pq]) <;> omega) | fail) only [pn, pq]) <;> omega)), rfl⟩, ?_⟩
    rintro n12 x3q11 x4q11 Sq11 ⟨hJSq11, hFSq11, hkq11_0, hiq11_0, hiq11_1, hiq11_2, hn12⟩
    subst hkq11_0
    have rgx3q11 := pt_rg x3q11
    have rgx4q11 := pt_rg x4q11
    unfold wp_X7_tune_73b
    have jf26 := J7g_count hJSq11.1
    have je28 : ((b0g_count Sq11.2.2)).toInt = ((b0g_count S.2.2)).toInt := congrArg (fun z => ((b0g_count z)).toInt) hFSq11.2
    refine ⟨fun c13 => ?_, fun c13 => ?_⟩
    · try simp (disch := first | ((try simp (disch := first | ((try simp only [pn]) <;> omega) | fail) only [pn, pq]) <;> omega) | fail) only [pn, pq] at c13
      exact hq _ hJSq11 hFSq11 
    · try simp (disch := first | ((try simp (disch := first | ((try simp only [pn]) <;> omega) | fail) only [pn, pq]) <;> omega) | fail) only [pn, pq] at c13
      intro v14 ev14
      have nv14 := congrArg Int32.toInt ev14
      try simp (disch := first | ((try simp (disch := first | ((try simp only [pn]) <;> omega) | fail) only [pn, pq]) <;> omega) | fail) only [pn, pq] at nv14
      refine ⟨fun n x3q15 x4q15 x5q15 Sq15 => (J7 Sq15.1 ∧ J1 Sq15.2.1 ∧ J0 Sq15.2.2) ∧ (F_X7_tune S Sq15) ∧ (x3q15 = x3q11) ∧ (x4q15 = x4q11) ∧ (1 ≤ (x4q15).toInt) ∧ ((x4q15).toInt ≤ 16) ∧ ((x3q15).toInt ≤ 16) ∧ (0 ≤ (x5q15).toInt) ∧ ((x5q15).toInt ≤ 9) ∧ n = (10 - (x5q15).toInt).toNat, ⟨_, hJSq11, hFSq11, rfl, rfl, (by (try simp (disch := first | ((try simp (disch := first | ((try simp only [pn]) <;> omega) | fail) only [pn, pq]) <;> omega) | fail) only [pn, pq]) <;> (intros; (try simp (disch := first | ((try simp (disch := first | ((try simp only [pn]) <;> omega) | fail) only [pn, pq]) <;> omega) | fail) only [pn, pq]) <;> omega)), (by (try simp (disch := first | ((try simp (disch := first | ((try simp only [pn]) <;> omega) | fail) only [pn, pq]) <;> omega) | fail) only [pn, pq]) <;> (intros; (try simp (disch := first | ((try simp (disch := first | ((try simp only [pn]) <;> omega) | fail) only [pn, pq]) <;> omega) | fail) only [pn, pq]) <;> omega)), (by (try simp (disch := first | ((try simp (disch := first | ((try simp only [pn]) <;> omega) | fail) only [pn, pq]) <;> omega) | fail) only [pn, pq]) <;> (intros; (try simp (disch := first | ((try simp (disch := first | ((try simp only [pn]) <;> omega) | fail) only [pn, pq]) <;> omega) | fail) only [pn, pq]) <;> omega)), (by (try simp (disch := first | ((try simp (disch := first | ((try simp only [pn]) <;> omega) | fail) only [pn, pq]) <;> omega) | fail) only [pn, pq]) <;> (intros; (try simp (disch := first | ((try simp (disch := first | ((try simp only [pn]) <;> omega) | fail) only [pn, pq]) <;> omega) | fail) only [pn, pq]) <;> omega)), (by (try simp (disch := first | ((try simp (disch := first | ((try simp only [pn]) <;> omega) | fail) only [pn, pq]) <;> omega) | fail) only [pn, pq]) <;> (intros; (try simp (disch := first | ((try simp (disch := first | ((try simp only [pn]) <;> omega) | fail) only [pn, pq]) <;> omega) | fail) only [pn, pq]) <;> omega)), rfl⟩, ?_⟩
      rintro n16 x3q15 x4q15 x5q15 Sq15 ⟨hJSq15, hFSq15, hkq15_0, hkq15_1, hiq15_0, hiq15_1, hiq15_2, hiq15_3, hiq15_4, hn16⟩
      subst hkq15_0
      subst hkq15_1
      have rgx3q15 := pt_rg x3q15
      have rgx4q15 := pt_rg x4q15
      have rgx5q15 := pt_rg x5q15
      unfold wp_X7_tune_90b
      have jf29 := J7g_count hJSq15.1
      have je31 : ((b0g_count Sq15.2.2)).toInt = ((b0g_count S.2.2)).toInt := congrArg (fun z => ((b0g_count z)).toInt) hFSq15.2
      refine ⟨fun c17 => ?_, fun c17 => ?_⟩
      · try simp (disch := first | ((try simp (disch := first | ((try simp only [pn]) <;> omega) | fail) only [pn, pq]) <;> omega) | fail) only [pn, pq] at c17
        refine ⟨_, ?_, ?_, ?_, ?_, ?_, ?_, ?_, rfl⟩
        · (try simp (disch := first | ((try simp (disch := first | ((try simp only [pn]) <;> omega) | fail) only [pn, pq]) <;> omega) | fail) only [pn, pq]) <;> (intros; (try simp (disch := first | ((try simp (disch := first | ((try simp only [pn]) <;> omega) | fail) only [pn, pq]) <;> omega) | fail) only [pn, pq]) <;> omega)
        · exact hJSq15
        · exact hFSq15
        · first | rfl | assumption
        · (try simp (disch := first | ((try simp (disch := first | ((try simp only [pn]) <;> omega) | fail) only [pn, pq]) <;> omega) | fail) only [pn, pq]) <;> (intros; (try simp (disch := first | ((try simp (disch := first | ((try simp only [pn]) <;> omega) | fail) only [pn, pq]) <;> omega) | fail) only [pn, pq]) <;> omega)
        · (try simp (disch := first | ((try simp (disch := first | ((try simp only [pn]) <;> omega) | fail) only [pn, pq]) <;> omega) | fail) only [pn, pq]) <;> (intros; (try simp (disch := first | ((try simp (disch := first | ((try simp only [pn]) <;> omega) | fail) only [pn, pq]) <;> omega) | fail) only [pn, pq]) <;> omega)
        · (try simp (disch := first | ((try simp (disch := first | ((try simp only [pn]) <;> omega) | fail) only [pn, pq]) <;> omega) | fail) only [pn, pq]) <;> (intros; (try simp (disch := first | ((try simp (disch := first | ((try simp only [pn]) <;> omega) | fail) only [pn, pq]) <;> omega) | fail) only [pn, pq]) <;> omega)
      · try simp (disch := first | ((try simp (disch := first | ((try simp only [pn]) <;> omega) | fail) only [pn, pq]) <;> omega) | fail) only [pn, pq] at c17
        refine sf_X7_falseBy hJSq15.1 (fun r18  => ?_)
        have rgr18 := pt_rg r18
        refine ⟨fun c20 => ?_, fun c20 => ?_⟩
        · try simp (disch := first | ((try simp (disch := first | ((try simp only [pn]) <;> omega) | fail) only [pn, pq]) <;> omega) | fail) only [pn, pq] at c20
          unfold wp_X7_tune_145
          refine ⟨_, ?_, ?_, ?_, ?_, ?_, ?_, ?_, ?_, ?_, ?_, rfl⟩
          · (try simp (disch := first | ((try simp (disch := first | ((try simp only [pn]) <;> omega) | fail) only [pn, pq]) <;> omega) | fail) only [pn, pq]) <;> (intros; (try simp (disch := first | ((try simp (disch := first | ((try simp only [pn]) <;> omega) | fail) only [pn, pq]) <;> omega) | fail) only [pn, pq]) <;> omega)
          · exact hJSq15
          · exact hFSq15
          · first | rfl | assumption
          · first | rfl | assumption
          · (try simp (disch := first | ((try simp (disch := first | ((try simp only [pn]) <;> omega) | fail) only [pn, pq]) <;> omega) | fail) only [pn, pq]) <;> (intros; (try simp (disch := first | ((try simp (disch := first | ((try simp only [pn]) <;> omega) | fail) only [pn, pq]) <;> omega) | fail) only [pn, pq]) <;> omega)
          · (try simp (disch := first | ((try simp (disch := first | ((try simp only [pn]) <;> omega) | fail) only [pn, pq]) <;> omega) | fail) only [pn, pq]) <;> (intros; (try simp (disch := first | ((try simp (disch := first | ((try simp only [pn]) <;> omega) | fail) only [pn, pq]) <;> omega) | fail) only [pn, pq]) <;> omega)
          · (try simp (disch := first | ((try simp (disch := first | ((try simp only [pn]) <;> omega) | fail) only [pn, pq]) <;> omega) | fail) only [pn, pq]) <;> (intros; (try simp (disch := first | ((try simp (disch := first | ((try simp only [pn]) <;> omega) | fail) only [pn, pq]) <;> omega) | fail) only [pn, pq]) <;> omega)
          · (try simp (disch := first | ((try simp (disch := first | ((try simp only [pn]) <;> omega) | fail) only [pn, pq]) <;> omega) | fail) only [pn, pq]) <;> (intros; (try simp (disch := first | ((try simp (disch := first | ((try simp only [pn]) <;> omega) | fail) only [pn, pq]) <;> omega) | fail) only [pn, pq]) <;> omega)
          · (try simp (disch := first | ((try simp (disch := first | ((try simp only [pn]) <;> omega) | fail) only [pn, pq]) <;> omega) | fail) only [pn, pq]) <;> (intros; (try simp (disch := first | ((try simp (disch := first | ((try simp only [pn]) <;> omega) | fail) only [pn, pq]) <;> omega) | fail) only [pn, pq]) <;> omega)
        · try simp (disch := first | ((try simp (disch := first | ((try simp only [pn]) <;> omega) | fail) only [pn, pq]) <;> omega) | fail) only [pn, pq] at c20
          intro S21 eS21
          have hJS21 : J7 S21.1 ∧ J1 S21.2.1 ∧ J0 S21.2.2 := by rw [eS21]; exact ⟨(J7s_falsely hJSq15.1), hJSq15.2.1, hJSq15.2.2⟩
          have hFS21 : F_X7_tune S S21 := by rw [eS21]; exact hFSq15
          have je32 : ((b7g_count S21.1)).toInt = ((b7g_count Sq15.1)).toInt := by rw [eS21]
          have jf33 := J7g_count hJS21.1
          have je34 : ((b7g_falsely S21.1)).toInt = (r18).toInt := by rw [eS21]
          try simp (disch := first | ((try simp (disch := first | ((try simp only [pn]) <;> omega) | fail) only [pn, pq]) <;> omega) | fail) only [pn, pq] at je34
          have je36 : ((b0g_count S21.2.2)).toInt = ((b0g_count S.2.2)).toInt := congrArg (fun z => ((b0g_count z)).toInt) hFS21.2
          intro S22 eS22
          have hJS22 : J7 S22.1 ∧ J1 S22.2.1 ∧ J0 S22.2.2 := by rw [eS22]; exact ⟨(J7s_hashBits hJS21.1), hJS21.2.1, hJS21.2.2⟩
          have hFS22 : F_X7_tune S S22 := by rw [eS22]; exact hFS21
          have je37 : ((b7g_count S22.1)).toInt = ((b7g_count S21.1)).toInt := by rw [eS22]
          have jf38 := J7g_count hJS22.1
          have je39 : ((b7g_falsely S22.1)).toInt = ((b7g_falsely S21.1)).toInt := by rw [eS22]
          have je41 : ((b0g_count S22.2.2)).toInt = ((b0g_count S.2.2)).toInt := congrArg (fun z => ((b0g_count z)).toInt) hFS22.2
          intro S23 eS23
          have hJS23 : J7 S23.1 ∧ J1 S23.2.1 ∧ J0 S23.2.2 := by rw [eS23]; exact ⟨(J7s_realBits hJS22.1), hJS22.2.1, hJS22.2.2⟩
          have hFS23 : F_X7_tune S S23 := by rw [eS23]; exact hFS22
          have je42 : ((b7g_count S23.1)).toInt = ((b7g_count S22.1)).toInt := by rw [eS23]
          have jf43 := J7g_count hJS23.1
          have je44 : ((b7g_falsely S23.1)).toInt = ((b7g_falsely S22.1)).toInt := by rw [eS23]
          have je46 : ((b0g_count S23.2.2)).toInt = ((b0g_count S.2.2)).toInt := congrArg (fun z => ((b0g_count z)).toInt) hFS23.2
          unfold wp_X7_tune_145
          refine ⟨_, ?_, ?_, ?_, ?_, ?_, ?_, ?_, ?_, ?_, ?_, rfl⟩
          · (try simp (disch := first | ((try simp (disch := first | ((try simp only [pn]) <;> omega) | fail) only [pn, pq]) <;> omega) | fail) only [pn, pq]) <;> (intros; (try simp (disch := first | ((try simp (disch := first | ((try simp only [pn]) <;> omega) | fail) only [pn, pq]) <;> omega) | fail) only [pn, pq]) <;> omega)
          · exact hJS23
          · exact hFS23
          · first | rfl | assumption
          · first | rfl | assumption
          · (try simp (disch := first | ((try simp (disch := first | ((try simp only [pn]) <;> omega) | fail) only [pn, pq]) <;> omega) | fail) only [pn, pq]) <;> (intros; (try simp (disch := first | ((try simp (disch := first | ((try simp only [pn]) <;> omega) | fail) only [pn, pq]) <;> omega) | fail) only [pn, pq]) <;> omega)
          · (try simp (disch := first | ((try simp (disch := first | ((try simp only [pn]) <;> omega) | fail) only [pn, pq]) <;> omega) | fail) only [pn, pq]) <;> (intros; (try simp (disch := first | ((try simp (disch := first | ((try simp only [pn]) <;> omega) | fail) only [pn, pq]) <;> omega) | fail) only [pn, pq]) <;> omega)
          · (try simp (disch := first | ((try simp (disch := first | ((try simp only [pn]) <;> omega) | fail) only [pn, pq]) <;> omega) | fail) only [pn, pq]) <;> (intros; (try simp (disch := first | ((try simp (disch := first | ((try simp only [pn]) <;> omega) | fail) only [pn, pq]) <;> omega) | fail) only [pn, pq]) <;> omega)
          · (try simp (disch := first | ((try simp (disch := first | ((try simp only [pn]) <;> omega) | fail) only [pn, pq]) <;> omega) | fail) only [pn, pq]) <;> (intros; (try simp (disch := first | ((try simp (disch := first | ((try simp only [pn]) <;> omega) | fail) only [pn, pq]) <;> omega) | fail) only [pn, pq]) <;> omega)
          · (try simp (disch := first | ((try simp (disch := first | ((try simp only [pn]) <;> omega) | fail) only [pn, pq]) <;> omega) | fail) only [pn, pq]) <;> (intros; (try simp (disch := first | ((try simp (disch := first | ((try simp only [pn]) <;> omega) | fail) only [pn, pq]) <;> omega) | fail) only [pn, pq]) <;> omega)
  · try simp (disch := first | ((try simp (disch := first | ((try simp only [pn]) <;> omega) | fail) only [pn, pq]) <;> omega) | fail) only [pn, pq] at c5
    refine sf_X0_bytesAt hJSq3.2.2 (fun r24  => ?_)
    refine sf_X0_lengthAt hJSq3.2.2 (fun r26  => ?_)
    have rgr26 := pt_rg r26
    refine sf_X7_compare (S := (Sq3.1, Sq3.2.1)) ⟨hJSq3.1, hJSq3.2.1⟩ (fun u29 hJu29 hfu29  => ?_)
    have je48 : ((b7g_count u29.1)).toInt = ((b7g_count Sq3.1)).toInt := congrArg (fun z => (z).toInt) hfu29.1
    have je50 : ((b7g_falsely u29.1)).toInt = ((b7g_falsely Sq3.1)).toInt := congrArg (fun z => (z).toInt) hfu29.2.2.2.1
    intro S30 eS30
    have hGS30 : F_X7_tune S S30 := by
      rw [eS30]
      exact ⟨(congrArg (fun z => z) hfu29.2.2.2.2).trans hFSq3.1, hFSq3.2⟩
    have hJS30 : J7 S30.1 ∧ J1 S30.2.1 ∧ J0 S30.2.2 := by rw [eS30]; exact ⟨hJu29.1, hJu29.2, hJSq3.2.2⟩
    have hFS30 : F_X7_tune S S30 := hGS30
    have je51 : ((b7g_count S30.1)).toInt = ((b7g_count u29.1)).toInt := by rw [eS30]
    try simp (disch := first | ((try simp (disch := first | ((try simp only [pn]) <;> omega) | fail) only [pn, pq]) <;> omega) | fail) only [pn, pq] at je51
    have jf52 := J7g_count hJS30.1
    have je53 : ((b7g_falsely S30.1)).toInt = ((b7g_falsely u29.1)).toInt := by rw [eS30]
    try simp (disch := first | ((try simp (disch := first | ((try simp only [pn]) <;> omega) | fail) only [pn, pq]) <;> omega) | fail) only [pn, pq] at je53
    have je55 : ((b0g_count S30.2.2)).toInt = ((b0g_count S.2.2)).toInt := congrArg (fun z => ((b0g_count z)).toInt) hFS30.2
    refine ⟨_, ?_, ?_, ?_, ?_, ?_, rfl⟩
    · (try simp (disch := first | ((try simp (disch := first | ((try simp only [pn]) <;> omega) | fail) only [pn, pq]) <;> omega) | fail) only [pn, pq]) <;> (intros; (try simp (disch := first | ((try simp (disch := first | ((try simp only [pn]) <;> omega) | fail) only [pn, pq]) <;> omega) | fail) only [pn, pq]) <;> omega)
    · exact hJS30
    · exact hFS30
    · first | rfl | assumption
    · (try simp (disch := first | ((try simp (disch := first | ((try simp only [pn]) <;> omega) | fail) only [pn, pq]) <;> omega) | fail) only [pn, pq]) <;> (intros; (try simp (disch := first | ((try simp (disch := first | ((try simp only [pn]) <;> omega) | fail) only [pn, pq]) <;> omega) | fail) only [pn, pq]) <;> omega)
theorem sf_X7_tune {S : bT7 × bT1 × bT0} (hJ : J7 S.1 ∧ J1 S.2.1 ∧ J0 S.2.2) {a3 : Int32} {Q : (bT7 × bT1 × bT0) → Prop} (hp0 : a3.toInt ≤ 16) (hq : ∀ u : bT7 × bT1 × bT0, (J7 u.1 ∧ J1 u.2.1 ∧ J0 u.2.2) → F_X7_tune S u → (LVO S.2.1 → QOK S.2.2 → 0 ≤ a3.toInt → OPT (FQN (b0g_bytes (b1g_owners S.2.1)) (b0g_lengths (b1g_owners S.2.1)) (b0g_count (b1g_owners S.2.1)).toInt (b1g_salt S.2.1) (b0g_bytes S.2.2) (b0g_lengths S.2.2) (b0g_count S.2.2).toInt.toNat) (VPR a3.toInt) (b7g_hashBits u.1).toInt (b7g_realBits u.1).toInt (b7g_falsely u.1).toInt) → Q u) : wp_X7_tune S a3 Q := by
  by_cases hyp : LVO S.2.1 ∧ QOK S.2.2 ∧ 0 ≤ a3.toInt
  case neg => exact sj_X7_tune hJ hp0 (fun u j f => hq u j f (fun a b c => absurd ⟨a, b, c⟩ hyp))
  case pos =>
    obtain ⟨o, qk, a0⟩ := hyp
    obtain ⟨j7, j1, j0⟩ := hJ
    have jc := J0g_count j0
    obtain ⟨c, ec⟩ : ∃ c : Nat, (b0g_count S.2.2).toInt = (c : Int) := ⟨(b0g_count S.2.2).toInt.toNat, by omega⟩
    have ecn : (b0g_count S.2.2).toInt.toNat = c := by omega
    have k16 := qk.1
    have fb : ∀ V : bT7, (b7g_count V).toInt = (c : Int) → (∀ y : Nat, y < c → (∀ h rb : Int32, 0 ≤ h.toInt → h.toInt ≤ 8 → 0 ≤ rb.toInt → rb.toInt ≤ 8 → (FBQ (b0g_bytes (b1g_owners S.2.1)) (b0g_lengths (b1g_owners S.2.1)) (b0g_count (b1g_owners S.2.1)).toInt (b1g_salt S.2.1) h rb (b0g_bytes S.2.2 y) (b0g_lengths S.2.2 y) ↔ (h.toInt ≤ (b7g_likeHash V y).toInt ∧ rb.toInt ≤ (b7g_likeNext V y).toInt)))) → ∀ (h rb : Int32) (Q' : Int32 → Prop), 0 ≤ h.toInt → h.toInt ≤ 8 → 0 ≤ rb.toInt → rb.toInt ≤ 8 → (∀ r : Int32, r.toInt = (FQN (b0g_bytes (b1g_owners S.2.1)) (b0g_lengths (b1g_owners S.2.1)) (b0g_count (b1g_owners S.2.1)).toInt (b1g_salt S.2.1) (b0g_bytes S.2.2) (b0g_lengths S.2.2) (b0g_count S.2.2).toInt.toNat) h.toInt rb.toInt → Q' r) → wp_X7_falseBy V h rb Q' := by
      intro V hc hB h rb Q' h0 h8 r0 r8 hQ
      refine fx7_falseBy hc (by omega) (fun r hr => hQ r ?_)
      rw [hr]
      unfold FQN
      rw [ecn, nI_back h0, nI_back r0]
      exact CTP_congr c (fun y hy => (hB y hy h rb h0 h8 r0 r8).symm)
    unfold wp_X7_tune
    intro v19 e19 S20 e20
    have e19' : v19 = b0g_count S.2.2 := by
      rw [e19]
      exact if_neg (fun z => by simp only [pn] at z; omega)
    unfold wp_X7_tune_16
    refine ⟨fun n x3 x4 V => ∃ m : Nat, a3 = x3 ∧ x4.toInt = (m : Int) ∧ m ≤ c ∧ V.2 = S.2 ∧ (b7g_count V.1).toInt = (c : Int) ∧ (∀ y : Nat, y < m → (∀ h rb : Int32, 0 ≤ h.toInt → h.toInt ≤ 8 → 0 ≤ rb.toInt → rb.toInt ≤ 8 → (FBQ (b0g_bytes (b1g_owners S.2.1)) (b0g_lengths (b1g_owners S.2.1)) (b0g_count (b1g_owners S.2.1)).toInt (b1g_salt S.2.1) h rb (b0g_bytes S.2.2 y) (b0g_lengths S.2.2 y) ↔ (h.toInt ≤ (b7g_likeHash V.1 y).toInt ∧ rb.toInt ≤ (b7g_likeNext V.1 y).toInt)))) ∧ n = c - m, ⟨_, 0, rfl, rfl, by omega, by rw [e20], by rw [e20, e19']; exact ec, fun y hy => by omega, rfl⟩, ?_⟩
    rintro n x3 x4 ⟨V1, V2⟩ ⟨m, rfl, e4, mc, eV, hc, hB0, hn⟩
    obtain rfl : V2 = S.2 := eV
    suffices H : ∀ B : Int32 → Int32 → (bT7 × bT1 × bT0) → Prop, (∀ t : bT7, m < c → (b7g_count t).toInt = (c : Int) → (∀ y : Nat, y < m + 1 → (∀ h rb : Int32, 0 ≤ h.toInt → h.toInt ≤ 8 → 0 ≤ rb.toInt → rb.toInt ≤ 8 → (FBQ (b0g_bytes (b1g_owners S.2.1)) (b0g_lengths (b1g_owners S.2.1)) (b0g_count (b1g_owners S.2.1)).toInt (b1g_salt S.2.1) h rb (b0g_bytes S.2.2 y) (b0g_lengths S.2.2 y) ↔ (h.toInt ≤ (b7g_likeHash t y).toInt ∧ rb.toInt ≤ (b7g_likeNext t y).toInt)))) → B a3 (x4 + 1) (t, S.2)) → wp_X7_tune_16b (V1, S.2) a3 x4 Q B from H _ (fun t h1 h2 h3 => ⟨c - (m + 1), by omega, m + 1, rfl, by rw [pt_add (by rw [pl_1]; omega) (by rw [pl_1]; omega), pl_1, e4]; omega, by omega, rfl, h2, h3, rfl⟩)
    intro B hB
    have hc' : (b7g_count V1).toInt = (c : Int) := hc
    unfold wp_X7_tune_16b
    refine ⟨fun d => ?_, fun d => ?_⟩
    · intro S7 e7 S8 e8
      subst e7 e8
      have d' : ¬ x4.toInt < (b7g_count V1).toInt := fun z => by
        have d2 : b7g_count V1 ≤ x4 := d
        simp only [pn] at d2
        omega
      have mc2 : m = c := by omega
      rw [mc2] at hB0
      refine fb (b7s_realBits (b7s_hashBits V1 0) 0) hc' hB0 0 0 _ (by decide) (by decide) (by decide) (by decide) (fun r9 h9 S11 e11 => ?_)
      have h9' : r9.toInt = (FQN (b0g_bytes (b1g_owners S.2.1)) (b0g_lengths (b1g_owners S.2.1)) (b0g_count (b1g_owners S.2.1)).toInt (b1g_salt S.2.1) (b0g_bytes S.2.2) (b0g_lengths S.2.2) (b0g_count S.2.2).toInt.toNat) 0 0 := h9
      subst e11
      unfold wp_X7_tune_73
      refine ⟨fun n x3 x4 V => ∃ s : Nat, a3 = x3 ∧ x4.toInt = (s : Int) ∧ 1 ≤ s ∧ (s : Int) ≤ a3.toInt + 1 ∧ V.2 = S.2 ∧ (b7g_count V.1).toInt = (c : Int) ∧ (∀ y : Nat, y < c → (∀ h rb : Int32, 0 ≤ h.toInt → h.toInt ≤ 8 → 0 ≤ rb.toInt → rb.toInt ≤ 8 → (FBQ (b0g_bytes (b1g_owners S.2.1)) (b0g_lengths (b1g_owners S.2.1)) (b0g_count (b1g_owners S.2.1)).toInt (b1g_salt S.2.1) h rb (b0g_bytes S.2.2 y) (b0g_lengths S.2.2 y) ↔ (h.toInt ≤ (b7g_likeHash V.1 y).toInt ∧ rb.toInt ≤ (b7g_likeNext V.1 y).toInt)))) ∧ OPT (FQN (b0g_bytes (b1g_owners S.2.1)) (b0g_lengths (b1g_owners S.2.1)) (b0g_count (b1g_owners S.2.1)).toInt (b1g_salt S.2.1) (b0g_bytes S.2.2) (b0g_lengths S.2.2) (b0g_count S.2.2).toInt.toNat) (AHD (s : Int) 0) (b7g_hashBits V.1).toInt (b7g_realBits V.1).toInt (b7g_falsely V.1).toInt ∧ n = 20 - s, ⟨_, 1, rfl, rfl, by omega, by omega, rfl, hc', hB0, ?_, rfl⟩, ?_⟩
      · show OPT (FQN (b0g_bytes (b1g_owners S.2.1)) (b0g_lengths (b1g_owners S.2.1)) (b0g_count (b1g_owners S.2.1)).toInt (b1g_salt S.2.1) (b0g_bytes S.2.2) (b0g_lengths S.2.2) (b0g_count S.2.2).toInt.toNat) (AHD 1 0) 0 0 r9.toInt
        rw [h9']
        exact OPT_first
      rintro n2 x3 x4 ⟨W1, W2⟩ ⟨s, rfl, es, s1, sw, eW, wc, wB, wO, hn2⟩
      obtain rfl : W2 = S.2 := eW
      have wc' : (b7g_count W1).toInt = (c : Int) := wc
      suffices H2 : ∀ B73 : Int32 → Int32 → (bT7 × bT1 × bT0) → Prop, (∀ t : bT7, (s : Int) ≤ a3.toInt → (b7g_count t).toInt = (c : Int) → (∀ y : Nat, y < c → (∀ h rb : Int32, 0 ≤ h.toInt → h.toInt ≤ 8 → 0 ≤ rb.toInt → rb.toInt ≤ 8 → (FBQ (b0g_bytes (b1g_owners S.2.1)) (b0g_lengths (b1g_owners S.2.1)) (b0g_count (b1g_owners S.2.1)).toInt (b1g_salt S.2.1) h rb (b0g_bytes S.2.2 y) (b0g_lengths S.2.2 y) ↔ (h.toInt ≤ (b7g_likeHash t y).toInt ∧ rb.toInt ≤ (b7g_likeNext t y).toInt)))) → OPT (FQN (b0g_bytes (b1g_owners S.2.1)) (b0g_lengths (b1g_owners S.2.1)) (b0g_count (b1g_owners S.2.1)).toInt (b1g_salt S.2.1) (b0g_bytes S.2.2) (b0g_lengths S.2.2) (b0g_count S.2.2).toInt.toNat) (AHD ((s : Int) + 1) 0) (b7g_hashBits t).toInt (b7g_realBits t).toInt (b7g_falsely t).toInt → B73 a3 (x4 + 1) (t, S.2)) → wp_X7_tune_73b (W1, S.2) a3 x4 Q B73 from H2 _ (fun t h1 h2 h3 h4 => ⟨20 - (s + 1), by omega, s + 1, rfl, by rw [pt_add (by rw [pl_1]; omega) (by rw [pl_1]; omega), pl_1, es]; omega, by omega, by omega, rfl, h2, h3, h4, rfl⟩)
      intro B73 hB73
      unfold wp_X7_tune_73b
      refine ⟨fun e => ?_, fun e v6 e6 => ?_⟩
      · simp only [pn] at e
        refine hq (W1, S.2) ⟨⟨by omega, by omega⟩, j1, j0⟩ ⟨rfl, rfl⟩ (fun _ _ _ => ?_)
        have es2 : (s : Int) = a3.toInt + 1 := by omega
        rw [es2] at wO
        exact OPT_end wO
      · simp only [pn] at e
        have s8 : (x4 - (8 : Int32)).toInt = x4.toInt - 8 := by rw [pt_sub (by show _ ≤ _ - 8; omega) (by show _ - 8 < _; omega)]; rfl
        have v6' : v6.toInt = max ((s : Int) - 8) 0 := by
          rw [e6]
          by_cases z : (x4 - (8 : Int32)) < (0 : Int32)
          · rw [if_pos z]
            simp only [pn] at z
            show (0 : Int) = _
            omega
          · rw [if_neg z]
            simp only [pn] at z
            omega
        have mx : (if (8 : Int32) < x4 then (8 : Int32) else x4).toInt = min 8 (s : Int) := by
          by_cases z : (8 : Int32) < x4
          · rw [if_pos z]
            simp only [pn] at z
            show (8 : Int) = _
            omega
          · rw [if_neg z]
            simp only [pn] at z
            omega
        unfold wp_X7_tune_90
        refine ⟨fun n x3 x4' x5 V => ∃ t : Nat, a3 = x3 ∧ x4 = x4' ∧ x5.toInt = (t : Int) ∧ t ≤ 9 ∧ (s : Int) - 8 ≤ (t : Int) ∧ t ≤ s + 1 ∧ V.2 = S.2 ∧ (b7g_count V.1).toInt = (c : Int) ∧ (∀ y : Nat, y < c → (∀ h rb : Int32, 0 ≤ h.toInt → h.toInt ≤ 8 → 0 ≤ rb.toInt → rb.toInt ≤ 8 → (FBQ (b0g_bytes (b1g_owners S.2.1)) (b0g_lengths (b1g_owners S.2.1)) (b0g_count (b1g_owners S.2.1)).toInt (b1g_salt S.2.1) h rb (b0g_bytes S.2.2 y) (b0g_lengths S.2.2 y) ↔ (h.toInt ≤ (b7g_likeHash V.1 y).toInt ∧ rb.toInt ≤ (b7g_likeNext V.1 y).toInt)))) ∧ OPT (FQN (b0g_bytes (b1g_owners S.2.1)) (b0g_lengths (b1g_owners S.2.1)) (b0g_count (b1g_owners S.2.1)).toInt (b1g_salt S.2.1) (b0g_bytes S.2.2) (b0g_lengths S.2.2) (b0g_count S.2.2).toInt.toNat) (AHD (s : Int) (t : Int)) (b7g_hashBits V.1).toInt (b7g_realBits V.1).toInt (b7g_falsely V.1).toInt ∧ n = 20 - t, ⟨_, v6.toInt.toNat, rfl, rfl, by omega, by omega, by omega, by omega, rfl, wc', wB, OPT_low wO (by omega) (by omega), rfl⟩, ?_⟩
        rintro n3 x3 x4' x5 ⟨Y1, Y2⟩ ⟨t, rfl, rfl, e5, t9, tl, ts, eY, yc, yB, yO, hn3⟩
        obtain rfl : Y2 = S.2 := eY
        have yc' : (b7g_count Y1).toInt = (c : Int) := yc
        suffices H3 : ∀ B90 : Int32 → Int32 → Int32 → (bT7 × bT1 × bT0) → Prop, (∀ q : bT7, (t : Int) ≤ min 8 (s : Int) → (b7g_count q).toInt = (c : Int) → (∀ y : Nat, y < c → (∀ h rb : Int32, 0 ≤ h.toInt → h.toInt ≤ 8 → 0 ≤ rb.toInt → rb.toInt ≤ 8 → (FBQ (b0g_bytes (b1g_owners S.2.1)) (b0g_lengths (b1g_owners S.2.1)) (b0g_count (b1g_owners S.2.1)).toInt (b1g_salt S.2.1) h rb (b0g_bytes S.2.2 y) (b0g_lengths S.2.2 y) ↔ (h.toInt ≤ (b7g_likeHash q y).toInt ∧ rb.toInt ≤ (b7g_likeNext q y).toInt)))) → OPT (FQN (b0g_bytes (b1g_owners S.2.1)) (b0g_lengths (b1g_owners S.2.1)) (b0g_count (b1g_owners S.2.1)).toInt (b1g_salt S.2.1) (b0g_bytes S.2.2) (b0g_lengths S.2.2) (b0g_count S.2.2).toInt.toNat) (AHD (s : Int) ((t : Int) + 1)) (b7g_hashBits q).toInt (b7g_realBits q).toInt (b7g_falsely q).toInt → B90 a3 x4 (x5 + 1) (q, S.2)) → wp_X7_tune_90b (Y1, S.2) a3 x4 x5 Q B73 B90 from H3 _ (fun q h1 h2 h3 h4 => ⟨20 - (t + 1), by omega, t + 1, rfl, rfl, by rw [pt_add (by rw [pl_1]; omega) (by rw [pl_1]; omega), pl_1, e5]; omega, by omega, by omega, by omega, rfl, h2, h3, h4, rfl⟩)
        intro B90 hB90
        unfold wp_X7_tune_90b wp_X7_tune_145
        refine ⟨fun g => ?_, fun g => ?_⟩
        · have g' := Int32.lt_iff_toInt_lt.mp g
          rw [mx] at g'
          exact hB73 Y1 (by omega) yc' yB (OPT_lev yO (by omega))
        · have g' : ¬ (if (8 : Int32) < x4 then (8 : Int32) else x4).toInt < x5.toInt := fun z => g (Int32.lt_iff_toInt_lt.mpr z)
          rw [mx] at g'
          have d45 : (x4 - x5).toInt = (s : Int) - (t : Int) := by rw [pt_sub (by omega) (by omega), es, e5]
          refine fb Y1 yc' yB x5 (x4 - x5) _ (by omega) (by omega) (by omega) (by omega) (fun r1 h1 => ?_)
          rw [e5, d45] at h1
          refine ⟨fun k => hB90 Y1 (by omega) yc' yB (OPT_old yO (fun _ => ?_)), fun k S3 e3 S4 e4' S5 e5' => ?_⟩
          · have k2 : b7g_falsely Y1 ≤ r1 := k
            simp only [pn] at k2
            show (b7g_falsely Y1).toInt ≤ _
            omega
          · have k2 : ¬ b7g_falsely Y1 ≤ r1 := k
            simp only [pn] at k2
            subst e3 e4' e5'
            refine hB90 _ (by omega) yc' yB ?_
            show OPT (FQN (b0g_bytes (b1g_owners S.2.1)) (b0g_lengths (b1g_owners S.2.1)) (b0g_count (b1g_owners S.2.1)).toInt (b1g_salt S.2.1) (b0g_bytes S.2.2) (b0g_lengths S.2.2) (b0g_count S.2.2).toInt.toNat) (AHD (s : Int) ((t : Int) + 1)) x5.toInt (x4 - x5).toInt r1.toInt
            rw [e5, d45, h1]
            refine OPT_new yO ⟨by omega, by omega, by omega, by omega⟩ ?_
            rw [← h1]
            show r1.toInt < (b7g_falsely Y1).toInt
            omega
    · have d2 : ¬ b7g_count V1 ≤ x4 := d
      simp only [pn] at d2
      have mlt : m < c := by omega
      refine fx_bytesAt j0 (fun r12 h12 _ => fx_lengthAt j0 (fun r14 h14 _ => ?_))
      have e12 : r12 = b0g_bytes S.2.2 m := h12 m (by omega) (by omega)
      have e14 : r14 = b0g_lengths S.2.2 m := h14 m (by omega) (by omega)
      obtain ⟨ql, qc⟩ := qk.2 m (by omega)
      rw [e12, e14]
      refine fx7_compare (S := (V1, S.2.1)) o j1 ql.1 ql.2 qc e4 (by omega) (fun t tc to tf => ?_)
      intro S18 e18
      subst e18
      refine hB t mlt (by rw [tc]; exact hc') (fun y hy => ?_)
      by_cases z : y = m
      · rw [z]
        exact tf
      · intro h rb h0 h8 r0 r8
        rw [(to y z).1, (to y z).2]
        exact hB0 y (by omega) h rb h0 h8 r0 r8
def F_X8_rebuild (S u : bT8) : Prop := (b8g_now u) = (b8g_now S) ∧ (b8g_kept u) = (b8g_kept S) ∧ (b8g_isKept u) = (b8g_isKept S) ∧ (b8g_tuning u) = (b8g_tuning S) ∧ (b8g_trial u) = (b8g_trial S) ∧ (b8g_tape u) = (b8g_tape S) ∧ (b8g_text u) = (b8g_text S) ∧ (b8g_chosenRow u) = (b8g_chosenRow S)
theorem sf_X8_rebuild {S : bT8} (hJ : J8 S) {Q : (bT8) → Prop} (hq : ∀ u : bT8, (J8 u) → F_X8_rebuild S u → ((b0g_count (b1g_owners (b8g_leaves u))).toInt = (b0g_count (b3g_members (b2g_built (b8g_now S)))).toInt) → (LVX (b8g_leaves u) (b2g_built (b8g_now S))) → Q u) : wp_X8_rebuild S Q := by
  unfold wp_X8_rebuild
  refine sf_X1_make (S := ((b8g_leaves S), (b2g_built (b8g_now S)))) ⟨J8g_leaves hJ, J2g_built (J8g_now hJ)⟩ (fun u2 hJ2 hf2 c2 x2 => ?_)
  have f2 : u2.2 = b2g_built (b8g_now S) := hf2
  intro S3 e3
  have n3 : b8g_now S3 = b8g_now S := by
    have : b8g_now S3 = b2s_built (b8g_now S) u2.2 := by rw [e3]
    rw [this, f2]
  have l3 : b8g_leaves S3 = u2.1 := by rw [e3]
  have hJ3 : J8 S3 := by
    rw [e3]
    have hA := J8s_leaves hJ hJ2.1
    exact J8s_now hA (J2s_built (J8g_now hA) hJ2.2)
  refine sf_X8_at (by decide) (fun r4 _ => sf_X8_at (by decide) (fun r6 _ => sf_X6_make (S := ((b8g_tree S3), (b8g_leaves S3))) ⟨J8g_tree hJ3, J8g_leaves hJ3⟩ (fun u9 hJ9 hf9 => ?_)))
  have f9 : u9.2 = b8g_leaves S3 := hf9
  intro S10 e10
  have l10 : b8g_leaves S10 = u2.1 := by
    have : b8g_leaves S10 = u9.2 := by rw [e10]
    rw [this, f9, l3]
  have n10 : b8g_now S10 = b8g_now S := by
    have : b8g_now S10 = b8g_now S3 := by rw [e10]
    rw [this, n3]
  refine hq _ (by rw [e10]; exact J8s_leaves (J8s_tree hJ3 hJ9.1) hJ9.2) ⟨n10, by rw [e10, e3], by rw [e10, e3], by rw [e10, e3], by rw [e10, e3], by rw [e10, e3], by rw [e10, e3], by rw [e10, e3]⟩ ?_ ?_
  · rw [l10]
    exact c2
  · rw [l10]
    exact x2
def F_X8_feed (S u : bT8) : Prop := (b8g_now u) = (b8g_now S) ∧ (b8g_kept u) = (b8g_kept S) ∧ (b8g_isKept u) = (b8g_isKept S) ∧ (b8g_leaves u) = (b8g_leaves S) ∧ (b8g_tree u) = (b8g_tree S) ∧ (b8g_tuning u) = (b8g_tuning S) ∧ (b8g_trial u) = (b8g_trial S) ∧ (b8g_text u) = (b8g_text S) ∧ (b8g_chosenRow u) = (b8g_chosenRow S)
theorem sf_X8_feed {S : bT8} (hJ : J8 S) {a1 : Int32} {a2 : Int32} {a3 : Int32} {a4 : Int32} {a5 : Int32} {Q : Int32 → (bT8) → Prop} (hq : ∀ (r : Int32) (u : bT8), (J8 u) → F_X8_feed S u → (140 < (b4g_count (b8g_tape S)).toInt → r.toInt = -1 ∧ (b4g_count (b8g_tape u)).toInt = (b4g_count (b8g_tape S)).toInt) → ((b4g_count (b8g_tape S)).toInt ≤ 140 → r.toInt = (b4g_count (b8g_tape S)).toInt + 20 ∧ (b4g_count (b8g_tape u)).toInt = (b4g_count (b8g_tape S)).toInt + 20) → ((b4g_count (b8g_tape S)).toInt ≤ 140 → PF5 (b4g_octets (b8g_tape S)) (b4g_count (b8g_tape S)).toInt a1 a2 a3 a4 a5 (b4g_octets (b8g_tape u))) → (140 < (b4g_count (b8g_tape S)).toInt → b8g_tape u = b8g_tape S) → Q r u) : wp_X8_feed S a1 a2 a3 a4 a5 Q := by
  have jc := J4g_count (J8g_tape hJ)
  have e20 : ((b4g_count (b8g_tape S)) + (20 : Int32)).toInt = (b4g_count (b8g_tape S)).toInt + 20 := by
    have : (20 : Int32).toInt = 20 := rfl
    rw [pt_add (by omega) (by omega)]
    omega
  unfold wp_X8_feed
  refine ⟨fun c => ?_, fun c => ?_⟩
  rotate_left
  · simp only [pn] at c
    exact hq _ _ hJ ⟨rfl, rfl, rfl, rfl, rfl, rfl, rfl, rfl, rfl⟩ (fun _ => ⟨rfl, rfl⟩) (fun h => by exfalso; omega) (fun h => by exfalso; omega) (fun _ => rfl)
  simp only [pn] at c
  refine sf_X4_putFour (J8g_tape hJ) (fun u2 hJ2 hf2 n2 p2 => ?_)
  have n2' := n2 (by omega)
  intro S3 e3
  have t3 : b8g_tape S3 = u2 := by rw [e3]
  rw [t3]
  refine sf_X4_putFour hJ2 (fun u5 hJ5 hf5 n5 p5 => ?_)
  have n5' := n5 (by omega)
  intro S6 e6
  have t6 : b8g_tape S6 = u5 := by rw [e6]
  rw [t6]
  refine sf_X4_putFour hJ5 (fun u8 hJ8 hf8 n8 p8 => ?_)
  have n8' := n8 (by omega)
  intro S9 e9
  have t9 : b8g_tape S9 = u8 := by rw [e9]
  rw [t9]
  refine sf_X4_putFour hJ8 (fun u11 hJ11 hf11 n11 p11 => ?_)
  have n11' := n11 (by omega)
  intro S12 e12
  have t12 : b8g_tape S12 = u11 := by rw [e12]
  rw [t12]
  refine sf_X4_putFour hJ11 (fun u14 hJ14 hf14 n14 p14 => ?_)
  have n14' := n14 (by omega)
  intro S15 e15
  have t15 : b8g_tape S15 = u14 := by rw [e15]
  have q2 := p2 (by omega)
  have q5 := p5 (by omega)
  have q8 := p8 (by omega)
  have q11 := p11 (by omega)
  have q14 := p14 (by omega)
  rw [n2'] at q5
  rw [n5', n2', Int.add_assoc] at q8
  rw [n8', n5', n2', Int.add_assoc, Int.add_assoc] at q11
  rw [n11', n8', n5', n2', Int.add_assoc, Int.add_assoc, Int.add_assoc] at q14
  have cc : (b4g_count (b8g_tape S15)).toInt = (b4g_count (b8g_tape S)).toInt + 20 := by rw [t15]; omega
  refine hq _ _ ?_ ?_ (fun h => by exfalso; omega) (fun _ => ⟨cc, cc⟩) (fun _ => ?_) (fun h => by exfalso; omega)
  · rw [e15, e12, e9, e6, e3]
    exact J8s_tape (J8s_tape (J8s_tape (J8s_tape (J8s_tape hJ hJ2) hJ5) hJ8) hJ11) hJ14
  · rw [e15, e12, e9, e6, e3]
    exact ⟨rfl, rfl, rfl, rfl, rfl, rfl, rfl, rfl, rfl⟩
  · rw [t15]
    exact ⟨_, _, _, _, q2, q5, q8, q11, q14⟩
def F_X8_end (S u : bT8) : Prop := (b8g_now u) = (b8g_now S) ∧ (b8g_kept u) = (b8g_kept S) ∧ (b8g_isKept u) = (b8g_isKept S) ∧ (b8g_leaves u) = (b8g_leaves S) ∧ (b8g_tree u) = (b8g_tree S) ∧ (b8g_tuning u) = (b8g_tuning S) ∧ (b8g_trial u) = (b8g_trial S) ∧ (b4g_octets (b8g_tape u)) = (b4g_octets (b8g_tape S)) ∧ (b8g_text u) = (b8g_text S) ∧ (b8g_chosenRow u) = (b8g_chosenRow S)
theorem sf_X8_end {S : bT8} (hJ : J8 S) {a1 : Int32} {Q : Int32 → (bT8) → Prop} (hq : ∀ (r : Int32) (u : bT8), (J8 u) → F_X8_end S u → bf_bool r → ((r.toInt = 1 ∧ 0 ≤ a1.toInt ∧ a1.toInt ≤ (b4g_count (b8g_tape S)).toInt ∧ (b4g_count (b8g_tape u)).toInt = a1.toInt) ∨ (r.toInt = 0 ∧ (a1.toInt < 0 ∨ (b4g_count (b8g_tape S)).toInt < a1.toInt) ∧ (b4g_count (b8g_tape u)).toInt = (b4g_count (b8g_tape S)).toInt)) → (∀ T : Nat → Int32, TPE (b8g_tape S) T → TPE (b8g_tape u) T) → Q r u) : wp_X8_end S a1 Q := by
  have jc := J4g_count (J8g_tape hJ)
  unfold wp_X8_end
  refine ⟨fun c => ?_, fun c => ⟨fun d => ?_, fun d => ?_⟩⟩
  · simp only [pn] at c
    exact ⟨rfl, hq _ _ hJ ⟨rfl, rfl, rfl, rfl, rfl, rfl, rfl, rfl, rfl, rfl⟩ rfl (Or.inr ⟨rfl, Or.inl c, rfl⟩) (fun T h => h)⟩
  · simp only [pn] at c d
    intro S1 e1
    have ec : b4g_count (b8g_tape S1) = a1 := by rw [e1]
    have eo : b4g_octets (b8g_tape S1) = b4g_octets (b8g_tape S) := by rw [e1]
    refine ⟨rfl, hq _ _ ?_ ?_ rfl (Or.inl ⟨rfl, by omega, d, by rw [ec]⟩) (fun T h j hj => ?_)⟩
    · rw [e1]
      exact J8s_tape hJ (J4s_count (J8g_tape hJ) ⟨by omega, by omega⟩)
    · rw [e1]
      exact ⟨rfl, rfl, rfl, rfl, rfl, rfl, rfl, rfl, rfl, rfl⟩
    · rw [ec] at hj
      rw [eo]
      exact h j (by omega)
  · simp only [pn] at c d
    exact ⟨rfl, hq _ _ hJ ⟨rfl, rfl, rfl, rfl, rfl, rfl, rfl, rfl, rfl, rfl⟩ rfl (Or.inr ⟨rfl, Or.inr (by omega), rfl⟩) (fun T h => h)⟩
def F_X8_mode (S u : bT8) : Prop := (b3g_members (b2g_told (b8g_now u))) = (b3g_members (b2g_told (b8g_now S))) ∧ (b3g_values (b2g_told (b8g_now u))) = (b3g_values (b2g_told (b8g_now S))) ∧ (b2g_built (b8g_now u)) = (b2g_built (b8g_now S)) ∧ (b2g_questions (b8g_now u)) = (b2g_questions (b8g_now S)) ∧ (b2g_answers (b8g_now u)) = (b2g_answers (b8g_now S)) ∧ (b2g_draws (b8g_now u)) = (b2g_draws (b8g_now S)) ∧ (b8g_kept u) = (b8g_kept S) ∧ (b8g_isKept u) = (b8g_isKept S) ∧ (b8g_leaves u) = (b8g_leaves S) ∧ (b8g_tree u) = (b8g_tree S) ∧ (b8g_tuning u) = (b8g_tuning S) ∧ (b8g_trial u) = (b8g_trial S) ∧ (b4g_octets (b8g_tape u)) = (b4g_octets (b8g_tape S)) ∧ (b8g_text u) = (b8g_text S) ∧ (b8g_chosenRow u) = (b8g_chosenRow S)
theorem sf_X8_mode {S : bT8} (hJ : J8 S) {Q : Int32 → (bT8) → Prop} (hq : ∀ (r : Int32) (u : bT8), (J8 u) → F_X8_mode S u → ((b4g_count (b8g_tape u)).toInt = 0) → (MDE (b4g_octets (b8g_tape S)) (b4g_count (b8g_tape S)) r) → (∀ T : Nat → Int32, TPE (b8g_tape u) T) → ((r.toInt = -1 → b3g_mode (b2g_told (b8g_now u)) = b3g_mode (b2g_told (b8g_now S))) ∧ (r.toInt ≠ -1 → b3g_mode (b2g_told (b8g_now u)) = r)) → Q r u) : wp_X8_mode S Q := by
  unfold wp_X8_mode
  intro r hr S1 e1
  have hJ1 : J8 S1 := by rw [e1]; exact J8s_tape hJ (J4s_count (J8g_tape hJ) ⟨by decide, by decide⟩)
  have sp : ∀ k : Nat, k < 4 → (bf_sp (0 + k) (b8g_tape S) ↔ SPL (b4g_octets (b8g_tape S)) (b4g_count (b8g_tape S)) (0 + k)) := by
    intro k hk
    have hs : sln (0 + k) < 7 := (nm_pos (0 + k) (by omega)).2.2.2.2
    have ei : (nI (bf_slen.getD (0 + k) 0)).toInt = (sln (0 + k) : Int) := nI_toInt (by unfold sln at hs; omega)
    refine ⟨fun h => ⟨by rw [h.1]; exact ei, fun j hj => h.2 j hj⟩, fun h => ⟨Int32.toInt_inj.mp (by rw [ei]; exact h.1), fun j hj => h.2 j hj⟩⟩
  have hE : MDE (b4g_octets (b8g_tape S)) (b4g_count (b8g_tape S)) r := by
    rcases hr with ⟨k, hk, e, h, _⟩ | ⟨e, h⟩
    · exact Or.inl ⟨k, hk, by rw [e]; exact nI_toInt (by omega), (sp k hk).mp h⟩
    · exact Or.inr ⟨by rw [e]; rfl, fun k hk hh => h k hk ((sp k hk).mpr hh)⟩
  have t1 : (b4g_count (b8g_tape S1)).toInt = 0 := by rw [e1]; first | done | rfl
  have z1 : ∀ T : Nat → Int32, TPE (b8g_tape S1) T := fun T j hj => by rw [t1] at hj; omega
  refine ⟨fun c => hq _ _ hJ1 (by rw [e1]; exact ⟨rfl, rfl, rfl, rfl, rfl, rfl, rfl, rfl, rfl, rfl, rfl, rfl, rfl, rfl, rfl⟩) t1 hE z1 ⟨fun _ => by rw [e1], fun h => absurd (by rw [c]; rfl) h⟩, fun c S2 e2 => hq _ _ ?_ (by rw [e2, e1]; exact ⟨rfl, rfl, rfl, rfl, rfl, rfl, rfl, rfl, rfl, rfl, rfl, rfl, rfl, rfl, rfl⟩) ?_ hE ?_ ⟨fun h => absurd (Int32.toInt_inj.mp (h.trans pl_m1.symm)) c, fun _ => by rw [e2]⟩⟩
  · rw [e2]
    exact J8s_now hJ1 (J2s_told (J8g_now hJ1) (J3s_mode (J2g_told (J8g_now hJ1))))
  · rw [e2]
    exact t1
  · rw [e2]
    exact z1
def F_X8_row (S u : bT8) : Prop := (b8g_now u) = (b8g_now S) ∧ (b8g_kept u) = (b8g_kept S) ∧ (b8g_isKept u) = (b8g_isKept S) ∧ (b8g_leaves u) = (b8g_leaves S) ∧ (b8g_tree u) = (b8g_tree S) ∧ (b8g_tuning u) = (b8g_tuning S) ∧ (b8g_trial u) = (b8g_trial S) ∧ (b4g_octets (b8g_tape u)) = (b4g_octets (b8g_tape S)) ∧ (b8g_text u) = (b8g_text S)
theorem sf_X8_row {S : bT8} (hJ : J8 S) {Q : Int32 → (bT8) → Prop} (hq : ∀ (r : Int32) (u : bT8), (J8 u) → F_X8_row S u → ((b4g_count (b8g_tape u)).toInt = 0) → (RWE (b4g_octets (b8g_tape S)) (b4g_count (b8g_tape S)) r) → (∀ T : Nat → Int32, TPE (b8g_tape u) T) → Q r u) : wp_X8_row S Q := by
  unfold wp_X8_row
  intro r hr S1 e1
  have hJ1 : J8 S1 := by rw [e1]; exact J8s_tape hJ (J4s_count (J8g_tape hJ) ⟨by decide, by decide⟩)
  have sp : ∀ k : Nat, k < 6 → (bf_sp (4 + k) (b8g_tape S) ↔ SPL (b4g_octets (b8g_tape S)) (b4g_count (b8g_tape S)) (4 + k)) := by
    intro k hk
    have hs : sln (4 + k) < 7 := (nm_pos (4 + k) (by omega)).2.2.2.2
    have ei : (nI (bf_slen.getD (4 + k) 0)).toInt = (sln (4 + k) : Int) := nI_toInt (by unfold sln at hs; omega)
    refine ⟨fun h => ⟨by rw [h.1]; exact ei, fun j hj => h.2 j hj⟩, fun h => ⟨Int32.toInt_inj.mp (by rw [ei]; exact h.1), fun j hj => h.2 j hj⟩⟩
  have hE : RWE (b4g_octets (b8g_tape S)) (b4g_count (b8g_tape S)) r := by
    rcases hr with ⟨k, hk, e, h, _⟩ | ⟨e, h⟩
    · exact Or.inl ⟨k, hk, by rw [e]; exact nI_toInt (by omega), (sp k hk).mp h⟩
    · exact Or.inr ⟨by rw [e]; rfl, fun k hk hh => h k hk ((sp k hk).mpr hh)⟩
  have t1 : (b4g_count (b8g_tape S1)).toInt = 0 := by rw [e1]; first | done | rfl
  have z1 : ∀ T : Nat → Int32, TPE (b8g_tape S1) T := fun T j hj => by rw [t1] at hj; omega
  refine ⟨fun _ => hq _ _ hJ1 (by rw [e1]; exact ⟨rfl, rfl, rfl, rfl, rfl, rfl, rfl, rfl, rfl⟩) t1 hE z1, fun _ S2 e2 => hq _ _ ?_ (by rw [e2, e1]; exact ⟨rfl, rfl, rfl, rfl, rfl, rfl, rfl, rfl, rfl⟩) ?_ hE ?_⟩
  · rw [e2]
    exact J8s_chosenRow hJ1
  · rw [e2]
    exact t1
  · rw [e2]
    exact z1
def F_X8_keys (S u : bT8) : Prop := (b3g_values (b2g_told (b8g_now u))) = (b3g_values (b2g_told (b8g_now S))) ∧ (b3g_mode (b2g_told (b8g_now u))) = (b3g_mode (b2g_told (b8g_now S))) ∧ (b2g_built (b8g_now u)) = (b2g_built (b8g_now S)) ∧ (b2g_questions (b8g_now u)) = (b2g_questions (b8g_now S)) ∧ (b2g_answers (b8g_now u)) = (b2g_answers (b8g_now S)) ∧ (b2g_draws (b8g_now u)) = (b2g_draws (b8g_now S)) ∧ (b8g_kept u) = (b8g_kept S) ∧ (b8g_isKept u) = (b8g_isKept S) ∧ (b8g_leaves u) = (b8g_leaves S) ∧ (b8g_tree u) = (b8g_tree S) ∧ (b8g_tuning u) = (b8g_tuning S) ∧ (b4g_octets (b8g_tape u)) = (b4g_octets (b8g_tape S)) ∧ (b8g_text u) = (b8g_text S) ∧ (b8g_chosenRow u) = (b8g_chosenRow S)
theorem sf_X8_keys {S : bT8} (hJ : J8 S) {Q : Int32 → (bT8) → Prop} (hq : ∀ (r : Int32) (u : bT8), (J8 u) → F_X8_keys S u → ((b4g_count (b8g_tape u)).toInt = 0) → (∀ T : Nat → Int32, TPE (b8g_tape u) T) → (SRT (b0g_bytes (b3g_members (b2g_told (b8g_now S)))) (b0g_lengths (b3g_members (b2g_told (b8g_now S)))) (b0g_count (b3g_members (b2g_told (b8g_now S)))).toInt → (∃ p : Nat, WFP (b4g_octets (b8g_tape S)) (b4g_count (b8g_tape S)).toInt p ∧ (b0g_count (b3g_members (b2g_told (b8g_now S)))).toInt + NWC (b0g_bytes (b3g_members (b2g_told (b8g_now S)))) (b0g_lengths (b3g_members (b2g_told (b8g_now S)))) (b0g_count (b3g_members (b2g_told (b8g_now S)))).toInt (TKY (b4g_octets (b8g_tape S))) (TNY (b4g_octets (b8g_tape S))) p ≤ 64 ∧ CHN (TKY (b4g_octets (b8g_tape S))) (TNY (b4g_octets (b8g_tape S))) p (b0g_bytes (b3g_members (b2g_told (b8g_now S)))) (b0g_lengths (b3g_members (b2g_told (b8g_now S)))) (b0g_count (b3g_members (b2g_told (b8g_now S)))).toInt (b0g_bytes (b3g_members (b2g_told (b8g_now u)))) (b0g_lengths (b3g_members (b2g_told (b8g_now u)))) (b0g_count (b3g_members (b2g_told (b8g_now u)))).toInt r.toInt) ∨ (r.toInt = -1 ∧ (∀ p : Nat, WFP (b4g_octets (b8g_tape S)) (b4g_count (b8g_tape S)).toInt p → 64 < (b0g_count (b3g_members (b2g_told (b8g_now S)))).toInt + NWC (b0g_bytes (b3g_members (b2g_told (b8g_now S)))) (b0g_lengths (b3g_members (b2g_told (b8g_now S)))) (b0g_count (b3g_members (b2g_told (b8g_now S)))).toInt (TKY (b4g_octets (b8g_tape S))) (TNY (b4g_octets (b8g_tape S))) p) ∧ (b3g_members (b2g_told (b8g_now u))) = (b3g_members (b2g_told (b8g_now S))))) → Q r u) : wp_X8_keys S Q := by
  have hm := J3g_members (J2g_told (J8g_now hJ))
  have jm := J0g_count hm
  obtain ⟨M, hM⟩ : ∃ M : bT0, b3g_members (b2g_told (b8g_now S)) = M := ⟨_, rfl⟩
  unfold wp_X8_keys
  rw [hM]
  rw [hM] at hq hm jm
  refine sf_X0_copyFrom (S := ((b8g_trial S), M)) ⟨J8g_trial hJ, hm⟩ (fun u2 hJ2 hf2 c2 q2 => ?_)
  have f2 : u2.2 = M := hf2
  intro S3 e3
  have hJ3 : J8 S3 := by
    rw [e3]
    have hT := J8s_trial hJ hJ2.1
    exact J8s_now hT (J2s_told (J8g_now hT) (J3s_members (J2g_told (J8g_now hT)) hJ2.2))
  have a1 : b8g_tape S3 = b8g_tape S := by rw [e3]
  have a2 : b8g_trial S3 = u2.1 := by rw [e3]
  have a3 : b3g_members (b2g_told (b8g_now S3)) = M := by
    have : b3g_members (b2g_told (b8g_now S3)) = u2.2 := by rw [e3]
    rw [this, f2]
  have hF3 : F_X8_keys S S3 := by rw [e3]; exact ⟨rfl, rfl, rfl, rfl, rfl, rfl, rfl, rfl, rfl, rfl, rfl, rfl, rfl, rfl⟩
  rw [a1, a2]
  refine sf_X4_readInto (S := ((b8g_tape S), u2.1)) ⟨J8g_tape hJ, hJ2.1⟩ (fun r4 u5 hJ5 hf5 hz4 hR => ?_)
  have f5 : u5.1 = b8g_tape S := hf5
  intro S6 e6 S7 e7
  have b1 : b8g_trial S7 = u5.2 := by rw [e7, e6]
  have b3 : b3g_members (b2g_told (b8g_now S7)) = M := by
    have : b3g_members (b2g_told (b8g_now S7)) = b3g_members (b2g_told (b8g_now S3)) := by rw [e7, e6]
    rw [this, a3]
  have hJ6 : J8 S6 := by rw [e6]; exact J8s_trial (J8s_tape hJ3 hJ5.1) hJ5.2
  have hJ7 : J8 S7 := by rw [e7]; exact J8s_tape hJ6 (J4s_count (J8g_tape hJ6) ⟨by decide, by decide⟩)
  have t7 : (b4g_count (b8g_tape S7)).toInt = 0 := by rw [e7]; first | done | rfl
  have z7 : ∀ T : Nat → Int32, TPE (b8g_tape S7) T := fun T j hj => by rw [t7] at hj; omega
  have hF7 : F_X8_keys S S7 := by
    have h := hF3
    unfold F_X8_keys at h ⊢
    rw [a1] at h
    rw [e7, e6, f5]
    exact h
  have agr : AGR (b0g_bytes u2.1) (b0g_bytes M) (b0g_lengths u2.1) (b0g_lengths M) (b0g_count M).toInt := fun j hj => q2.2 j (by omega)
  have cnt : (b0g_count u2.1).toInt = (b0g_count M).toInt := c2
  have hR' : SRT (b0g_bytes M) (b0g_lengths M) (b0g_count M).toInt → RDI (b4g_octets (b8g_tape S)) (b4g_count (b8g_tape S)).toInt (b0g_bytes u2.1) (b0g_lengths u2.1) (b0g_count M).toInt r4.toInt (b0g_bytes u5.2) (b0g_lengths u5.2) (b0g_count u5.2).toInt := by
    intro hs
    have hs2 : SRT (b0g_bytes u2.1) (b0g_lengths u2.1) (b0g_count M).toInt := SRT_agr (fun j hj => ⟨(agr j hj).1.symm, (agr j hj).2.symm⟩) hs
    have := hR (by rw [cnt]; exact hs2)
    rw [cnt] at this
    exact this
  have nw : ∀ p : Nat, NWC (b0g_bytes u2.1) (b0g_lengths u2.1) (b0g_count M).toInt (TKY (b4g_octets (b8g_tape S))) (TNY (b4g_octets (b8g_tape S))) p = NWC (b0g_bytes M) (b0g_lengths M) (b0g_count M).toInt (TKY (b4g_octets (b8g_tape S))) (TNY (b4g_octets (b8g_tape S))) p := NWC_agr agr
  refine ⟨fun d => ?_, fun d => ?_⟩
  · intro v8 e8
    rw [b1, b3] at e8 ⊢
    refine sf_X0_copyFrom (S := (M, u5.2)) ⟨hm, hJ5.2⟩ (fun u10 hJ10 hf10 c10 q10 => ?_)
    have f10 : u10.2 = u5.2 := hf10
    intro S11 e11
    have m11 : b3g_members (b2g_told (b8g_now S11)) = u10.1 := by rw [e11]
    have t11 : b8g_tape S11 = b8g_tape S7 := by rw [e11]
    have hJ11 : J8 S11 := by
      rw [e11]
      exact J8s_trial (J8s_now hJ7 (J2s_told (J8g_now hJ7) (J3s_members (J2g_told (J8g_now hJ7)) hJ10.1))) hJ10.2
    have hF11 : F_X8_keys S S11 := by rw [e11]; exact hF7
    have j5 := J0g_count hJ5.2
    have ev : v8.toInt = (b0g_count u5.2).toInt - (b0g_count M).toInt := by rw [e8]; exact pt_sub (by omega) (by omega)
    refine hq _ _ hJ11 hF11 (by rw [t11]; exact t7) (by rw [t11]; exact z7) (fun hs => ?_)
    rcases hR' hs with ⟨_, p, w, hp, hc, ch⟩ | ⟨h0, _⟩
    · obtain ⟨m1, m2, m3⟩ := CHN_new p hc ch
      rw [nw] at hc m1 m2
      refine Or.inl ⟨p, hp, hc, ?_⟩
      rw [m11]
      have ch2 : CHN (TKY (b4g_octets (b8g_tape S))) (TNY (b4g_octets (b8g_tape S))) p (b0g_bytes M) (b0g_lengths M) (b0g_count M).toInt (b0g_bytes u5.2) (b0g_lengths u5.2) (b0g_count u5.2).toInt w := CHN_start agr p ch
      have ew : v8.toInt = w := by omega
      rw [ew]
      exact CHN_end p ch2 c10 (fun j hj => q10.2 j (by omega))
    · exact absurd (Int32.toInt_inj.mp h0) d
  · refine hq _ _ hJ7 hF7 t7 z7 (fun hs => Or.inr ⟨rfl, fun p hp => ?_, by rw [b3]⟩)
    rcases hR' hs with ⟨h1, _⟩ | ⟨_, h2⟩
    · rw [d] at h1
      exact absurd h1 (by decide)
    · have := h2 p hp
      rw [nw] at this
      exact this
def F_X8_set (S u : bT8) : Prop := (b3g_members (b2g_told (b8g_now u))) = (b3g_members (b2g_told (b8g_now S))) ∧ (b3g_mode (b2g_told (b8g_now u))) = (b3g_mode (b2g_told (b8g_now S))) ∧ (b2g_built (b8g_now u)) = (b2g_built (b8g_now S)) ∧ (b2g_questions (b8g_now u)) = (b2g_questions (b8g_now S)) ∧ (b2g_answers (b8g_now u)) = (b2g_answers (b8g_now S)) ∧ (b2g_draws (b8g_now u)) = (b2g_draws (b8g_now S)) ∧ (b8g_kept u) = (b8g_kept S) ∧ (b8g_isKept u) = (b8g_isKept S) ∧ (b8g_leaves u) = (b8g_leaves S) ∧ (b8g_tree u) = (b8g_tree S) ∧ (b8g_tuning u) = (b8g_tuning S) ∧ (b8g_trial u) = (b8g_trial S) ∧ (b8g_tape u) = (b8g_tape S) ∧ (b8g_text u) = (b8g_text S) ∧ (b8g_chosenRow u) = (b8g_chosenRow S)
theorem sf_X8_set {S : bT8} (hJ : J8 S) {a1 : Int32} {a2 : Int32} {Q : Int32 → (bT8) → Prop} (hq : ∀ (r : Int32) (u : bT8), (J8 u) → F_X8_set S u → bf_bool r → ((r.toInt = 1 ∧ ((a1.toInt = 0 ∧ 0 ≤ a2.toInt ∧ a2.toInt ≤ 8) ∨ (a1.toInt = 1 ∧ 0 ≤ a2.toInt ∧ a2.toInt ≤ 8) ∨ (a1.toInt = 2 ∧ 0 ≤ a2.toInt ∧ a2.toInt ≤ 9) ∨ (a1.toInt = 3 ∧ 1 ≤ a2.toInt ∧ a2.toInt ≤ 64) ∨ (a1.toInt = 4 ∧ 1 ≤ a2.toInt ∧ a2.toInt ≤ 256) ∨ a1.toInt = 5)) ∨ (r.toInt = 0 ∧ ¬ ((a1.toInt = 0 ∧ 0 ≤ a2.toInt ∧ a2.toInt ≤ 8) ∨ (a1.toInt = 1 ∧ 0 ≤ a2.toInt ∧ a2.toInt ≤ 8) ∨ (a1.toInt = 2 ∧ 0 ≤ a2.toInt ∧ a2.toInt ≤ 9) ∨ (a1.toInt = 3 ∧ 1 ≤ a2.toInt ∧ a2.toInt ≤ 64) ∨ (a1.toInt = 4 ∧ 1 ≤ a2.toInt ∧ a2.toInt ≤ 256) ∨ a1.toInt = 5))) → (r.toInt = 1 → b3g_values (b2g_told (b8g_now u)) = upd (b3g_values (b2g_told (b8g_now S))) a1.toNatClampNeg a2) → (r.toInt = 0 → u = S) → Q r u) : wp_X8_set S a1 a2 Q := by
  unfold wp_X8_set
  have rg1 := pt_rg a1
  have rg2 := pt_rg a2
  have tab : ∀ k : Nat, k < 6 → a1.toInt = k → (bf_at6 bf_least a1).toInt = (bf_least.getD k 0).toInt ∧ (bf_at6 bf_most a1).toInt = (bf_most.getD k 0).toInt := by
    intro k hk e
    have c := pt_clamp (i := a1) (by omega)
    have ek : a1.toNatClampNeg = k := by omega
    have n1 : ¬ a1 < 0 := by rw [Int32.lt_iff_toInt_lt, pl_0]; omega
    have n2 : ¬ (6 : Int32) ≤ a1 := by rw [Int32.le_iff_toInt_le, pl_6]; omega
    unfold bf_at6
    rw [if_neg n1, if_neg n2, if_neg n1, if_neg n2, ek]
    exact ⟨rfl, rfl⟩
  have t0 := tab 0 (by decide)
  have t1 := tab 1 (by decide)
  have t2 := tab 2 (by decide)
  have t3 := tab 3 (by decide)
  have t4 := tab 4 (by decide)
  have t5 := tab 5 (by decide)
  have l0 : (bf_least.getD 0 0).toInt = 0 ∧ (bf_most.getD 0 0).toInt = 8 := ⟨rfl, rfl⟩
  have l1 : (bf_least.getD 1 0).toInt = 0 ∧ (bf_most.getD 1 0).toInt = 8 := ⟨rfl, rfl⟩
  have l2 : (bf_least.getD 2 0).toInt = 0 ∧ (bf_most.getD 2 0).toInt = 9 := ⟨rfl, rfl⟩
  have l3 : (bf_least.getD 3 0).toInt = 1 ∧ (bf_most.getD 3 0).toInt = 64 := ⟨rfl, rfl⟩
  have l4 : (bf_least.getD 4 0).toInt = 1 ∧ (bf_most.getD 4 0).toInt = 256 := ⟨rfl, rfl⟩
  have l5 : (bf_least.getD 5 0).toInt = -2147483648 ∧ (bf_most.getD 5 0).toInt = 2147483647 := ⟨rfl, rfl⟩
  refine ⟨fun c => ?_, fun c1 c2 c3 c4 => ⟨?_, fun S2 e2 => ?_⟩⟩
  · simp only [pn] at c
    refine hq _ _ hJ ⟨rfl, rfl, rfl, rfl, rfl, rfl, rfl, rfl, rfl, rfl, rfl, rfl, rfl, rfl, rfl⟩ rfl (Or.inr ⟨rfl, ?_⟩) (fun h => absurd h (by decide)) (fun _ => rfl)
    omega
  · simp only [pn] at c1 c2
    exact pt_in (by omega) (by omega)
  · simp only [pn] at c1 c2 c3 c4
    refine hq _ _ ?_ ?_ rfl (Or.inl ⟨rfl, ?_⟩) (fun _ => by rw [e2]) (fun h => absurd h (by decide))
    · rw [e2]
      exact J8s_now hJ (J2s_told (J8g_now hJ) (J3s_values (J2g_told (J8g_now hJ))))
    · rw [e2]
      exact ⟨rfl, rfl, rfl, rfl, rfl, rfl, rfl, rfl, rfl, rfl, rfl, rfl, rfl, rfl, rfl⟩
    · omega
def F_X8_state (S u : bT8) : Prop := (b2g_told (b8g_now u)) = (b2g_told (b8g_now S)) ∧ (b2g_built (b8g_now u)) = (b2g_built (b8g_now S)) ∧ (b2g_questions (b8g_now u)) = (b2g_questions (b8g_now S)) ∧ (b2g_answers (b8g_now u)) = (b2g_answers (b8g_now S)) ∧ (b8g_kept u) = (b8g_kept S) ∧ (b8g_isKept u) = (b8g_isKept S) ∧ (b8g_leaves u) = (b8g_leaves S) ∧ (b8g_tree u) = (b8g_tree S) ∧ (b8g_tuning u) = (b8g_tuning S) ∧ (b8g_trial u) = (b8g_trial S) ∧ (b8g_tape u) = (b8g_tape S) ∧ (b8g_text u) = (b8g_text S) ∧ (b8g_chosenRow u) = (b8g_chosenRow S)
set_option maxRecDepth 20000 in
set_option maxHeartbeats 8000000 in
theorem sf_X8_state {S : bT8} (hJ : J8 S) {a1 : Int32} {Q : Int32 → (bT8) → Prop} (hq : ∀ (r : Int32) (u : bT8), (J8 u) → F_X8_state S u → (r.toInt = (b2g_draws (b8g_now S)).toInt) → ((b2g_draws (b8g_now u)).toInt = a1.toInt) → Q r u) : wp_X8_state S a1 Q := by
  unfold wp_X8_state
  have hFS : F_X8_state S S := ⟨rfl, rfl, rfl, rfl, rfl, rfl, rfl, rfl, rfl, rfl, rfl, rfl, rfl⟩
  have rga1 := pt_rg a1
  intro S1 eS1
  have hJS1 : J8 S1 := by rw [eS1]; exact (J8s_now hJ (J2s_draws (J8g_now hJ)))
  have hFS1 : F_X8_state S S1 := by rw [eS1]; exact hFS
  have je1 : ((b2g_draws (b8g_now S1))).toInt = (a1).toInt := by rw [eS1]
  try simp (disch := first | ((try simp (disch := first | ((try simp only [pn]) <;> omega) | fail) only [pn, pq]) <;> omega) | fail) only [pn, pq] at je1
  exact hq _ _ hJS1 hFS1 (by (try simp (disch := first | ((try simp (disch := first | ((try simp only [pn]) <;> omega) | fail) only [pn, pq]) <;> omega) | fail) only [pn, pq]) <;> (intros; (try simp (disch := first | ((try simp (disch := first | ((try simp only [pn]) <;> omega) | fail) only [pn, pq]) <;> omega) | fail) only [pn, pq]) <;> omega)) (by (try simp (disch := first | ((try simp (disch := first | ((try simp only [pn]) <;> omega) | fail) only [pn, pq]) <;> omega) | fail) only [pn, pq]) <;> (intros; (try simp (disch := first | ((try simp (disch := first | ((try simp only [pn]) <;> omega) | fail) only [pn, pq]) <;> omega) | fail) only [pn, pq]) <;> omega))
theorem sf_X8_keyOf {a0 : Int32} {a1 : Int32} {a2 : Int32} {Q : Int64 → Prop} (hq : ∀ r : Int64, (1 ≤ a2.toInt → a2.toInt ≤ 8 → r = KEY a0 a1 a2) → Q r) : wp_X8_keyOf a0 a1 a2 Q := by
  unfold wp_X8_keyOf
  refine sf_X8_front (fun r1 h1 => hq _ (fun h2 h3 => ?_))
  rw [h1 h2 h3]
  exact key_eq h2 h3
def F_X8_add (S u : bT8) : Prop := (b3g_values (b2g_told (b8g_now u))) = (b3g_values (b2g_told (b8g_now S))) ∧ (b3g_mode (b2g_told (b8g_now u))) = (b3g_mode (b2g_told (b8g_now S))) ∧ (b2g_built (b8g_now u)) = (b2g_built (b8g_now S)) ∧ (b2g_questions (b8g_now u)) = (b2g_questions (b8g_now S)) ∧ (b2g_answers (b8g_now u)) = (b2g_answers (b8g_now S)) ∧ (b2g_draws (b8g_now u)) = (b2g_draws (b8g_now S)) ∧ (b8g_kept u) = (b8g_kept S) ∧ (b8g_isKept u) = (b8g_isKept S) ∧ (b8g_leaves u) = (b8g_leaves S) ∧ (b8g_tree u) = (b8g_tree S) ∧ (b8g_tuning u) = (b8g_tuning S) ∧ (b8g_trial u) = (b8g_trial S) ∧ (b8g_tape u) = (b8g_tape S) ∧ (b8g_text u) = (b8g_text S) ∧ (b8g_chosenRow u) = (b8g_chosenRow S)
theorem sf_X8_add {S : bT8} (hJ : J8 S) {a1 : Int32} {a2 : Int32} {a3 : Int32} {Q : Int32 → (bT8) → Prop} (hq : ∀ (r : Int32) (u : bT8), (J8 u) → F_X8_add S u → (SRT (b0g_bytes (b3g_members (b2g_told (b8g_now S)))) (b0g_lengths (b3g_members (b2g_told (b8g_now S)))) (b0g_count (b3g_members (b2g_told (b8g_now S)))).toInt → (1 ≤ a3.toInt ∧ a3.toInt ≤ 8 → INS (b0g_bytes (b3g_members (b2g_told (b8g_now S)))) (b0g_lengths (b3g_members (b2g_told (b8g_now S)))) (b0g_count (b3g_members (b2g_told (b8g_now S)))).toInt (KEY a1 a2 a3) a3 r.toInt (b0g_bytes (b3g_members (b2g_told (b8g_now u)))) (b0g_lengths (b3g_members (b2g_told (b8g_now u)))) (b0g_count (b3g_members (b2g_told (b8g_now u)))).toInt) ∧ (¬ (1 ≤ a3.toInt ∧ a3.toInt ≤ 8) → r.toInt = -1 ∧ u = S)) → Q r u) : wp_X8_add S a1 a2 a3 Q := by
  have hm := J3g_members (J2g_told (J8g_now hJ))
  unfold wp_X8_add
  refine sf_X8_isLength (fun r1 hz h1 => ⟨fun c => ?_, fun c => ?_⟩)
  · simp only [pn] at c
    have hn : 1 ≤ a3.toInt ∧ a3.toInt ≤ 8 := by omega
    refine sf_X8_keyOf (fun r3 h3 => ?_)
    have e3 := h3 hn.1 hn.2
    refine sf_X0_insert hm (fun r5 u6 hJ6 hf6 hI => ?_)
    intro S7 e7
    have em : b3g_members (b2g_told (b8g_now S7)) = u6 := by rw [e7]
    refine hq _ _ ?_ ?_ (fun hs => ⟨fun h => ?_, fun h => absurd hn h⟩)
    · rw [e7]
      exact J8s_now hJ (J2s_told (J8g_now hJ) (J3s_members (J2g_told (J8g_now hJ)) hJ6))
    · rw [e7]
      exact ⟨rfl, rfl, rfl, rfl, rfl, rfl, rfl, rfl, rfl, rfl, rfl, rfl, rfl, rfl, rfl⟩
    · rw [em, ← e3]
      exact hI hs h
  · simp only [pn] at c
    exact hq _ _ hJ ⟨rfl, rfl, rfl, rfl, rfl, rfl, rfl, rfl, rfl, rfl, rfl, rfl, rfl, rfl, rfl⟩ (fun _ => ⟨fun h => by omega, fun _ => ⟨rfl, rfl⟩⟩)
def F_X8_remove (S u : bT8) : Prop := (b3g_values (b2g_told (b8g_now u))) = (b3g_values (b2g_told (b8g_now S))) ∧ (b3g_mode (b2g_told (b8g_now u))) = (b3g_mode (b2g_told (b8g_now S))) ∧ (b2g_built (b8g_now u)) = (b2g_built (b8g_now S)) ∧ (b2g_questions (b8g_now u)) = (b2g_questions (b8g_now S)) ∧ (b2g_answers (b8g_now u)) = (b2g_answers (b8g_now S)) ∧ (b2g_draws (b8g_now u)) = (b2g_draws (b8g_now S)) ∧ (b8g_kept u) = (b8g_kept S) ∧ (b8g_isKept u) = (b8g_isKept S) ∧ (b8g_leaves u) = (b8g_leaves S) ∧ (b8g_tree u) = (b8g_tree S) ∧ (b8g_tuning u) = (b8g_tuning S) ∧ (b8g_trial u) = (b8g_trial S) ∧ (b8g_tape u) = (b8g_tape S) ∧ (b8g_text u) = (b8g_text S) ∧ (b8g_chosenRow u) = (b8g_chosenRow S)
theorem sf_X8_remove {S : bT8} (hJ : J8 S) {a1 : Int32} {a2 : Int32} {a3 : Int32} {Q : Int32 → (bT8) → Prop} (hq : ∀ (r : Int32) (u : bT8), (J8 u) → F_X8_remove S u → (SRT (b0g_bytes (b3g_members (b2g_told (b8g_now S)))) (b0g_lengths (b3g_members (b2g_told (b8g_now S)))) (b0g_count (b3g_members (b2g_told (b8g_now S)))).toInt → (1 ≤ a3.toInt ∧ a3.toInt ≤ 8 → NUM (b0g_bytes (b3g_members (b2g_told (b8g_now S)))) (b0g_lengths (b3g_members (b2g_told (b8g_now S)))) (b0g_count (b3g_members (b2g_told (b8g_now S)))).toInt (KEY a1 a2 a3) a3 r.toInt) ∧ (¬ (1 ≤ a3.toInt ∧ a3.toInt ≤ 8) → r.toInt = -1)) → (DRP (b0g_bytes (b3g_members (b2g_told (b8g_now S)))) (b0g_lengths (b3g_members (b2g_told (b8g_now S)))) (b0g_count (b3g_members (b2g_told (b8g_now S)))).toInt r.toInt (b0g_bytes (b3g_members (b2g_told (b8g_now u)))) (b0g_lengths (b3g_members (b2g_told (b8g_now u)))) (b0g_count (b3g_members (b2g_told (b8g_now u)))).toInt) → Q r u) : wp_X8_remove S a1 a2 a3 Q := by
  have hm := J3g_members (J2g_told (J8g_now hJ))
  unfold wp_X8_remove
  refine sf_X8_isLength (fun r1 hz h1 => ⟨fun c => ?_, fun c => ?_⟩)
  · simp only [pn] at c
    have hn : 1 ≤ a3.toInt ∧ a3.toInt ≤ 8 := by omega
    refine sf_X8_keyOf (fun r3 h3 => ?_)
    have e3 := h3 hn.1 hn.2
    refine fx_numberOf hm (fun r5 h5 h6 hN => ?_)
    refine sf_X0_drop hm (fun u8 hJ8 hf8 hD => ?_)
    intro S9 e9
    have em : b3g_members (b2g_told (b8g_now S9)) = u8 := by rw [e9]
    refine hq _ _ ?_ ?_ (fun hs => ⟨fun h => ?_, fun h => absurd hn h⟩) ?_
    · rw [e9]
      exact J8s_now hJ (J2s_told (J8g_now hJ) (J3s_members (J2g_told (J8g_now hJ)) hJ8))
    · rw [e9]
      exact ⟨rfl, rfl, rfl, rfl, rfl, rfl, rfl, rfl, rfl, rfl, rfl, rfl, rfl, rfl, rfl⟩
    · rw [← e3]
      exact hN hs h
    · rw [em]
      exact hD
  · simp only [pn] at c
    exact hq _ _ hJ ⟨rfl, rfl, rfl, rfl, rfl, rfl, rfl, rfl, rfl, rfl, rfl, rfl, rfl, rfl, rfl⟩ (fun _ => ⟨fun h => by omega, fun _ => rfl⟩) (Or.inl ⟨by rw [pl_m1]; omega, rfl, fun j hj => ⟨rfl, rfl⟩⟩)
def F_X8_fill (S u : bT8) : Prop := (b3g_values (b2g_told (b8g_now u))) = (b3g_values (b2g_told (b8g_now S))) ∧ (b3g_mode (b2g_told (b8g_now u))) = (b3g_mode (b2g_told (b8g_now S))) ∧ (b2g_built (b8g_now u)) = (b2g_built (b8g_now S)) ∧ (b2g_questions (b8g_now u)) = (b2g_questions (b8g_now S)) ∧ (b2g_answers (b8g_now u)) = (b2g_answers (b8g_now S)) ∧ (b8g_kept u) = (b8g_kept S) ∧ (b8g_isKept u) = (b8g_isKept S) ∧ (b8g_leaves u) = (b8g_leaves S) ∧ (b8g_tree u) = (b8g_tree S) ∧ (b8g_tuning u) = (b8g_tuning S) ∧ (b8g_trial u) = (b8g_trial S) ∧ (b8g_tape u) = (b8g_tape S) ∧ (b8g_text u) = (b8g_text S) ∧ (b8g_chosenRow u) = (b8g_chosenRow S)
theorem sf_X8_fill {S : bT8} (hJ : J8 S) {a1 : Int32} {a2 : Int32} {Q : Int32 → (bT8) → Prop} (hq : ∀ (r : Int32) (u : bT8), (J8 u) → F_X8_fill S u → (b2g_draws (b8g_now u) = filS a1 a2 64 (b2g_draws (b8g_now S))) → (SRT (b0g_bytes (b3g_members (b2g_told (b8g_now S)))) (b0g_lengths (b3g_members (b2g_told (b8g_now S)))) (b0g_count (b3g_members (b2g_told (b8g_now S)))).toInt → (1 ≤ a1.toInt ∧ a1.toInt ≤ 64 ∧ 1 ≤ a2.toInt ∧ a2.toInt ≤ 8 → CHN (KN (b3g_values (b2g_told (b8g_now S)) 4) a2 (b2g_draws (b8g_now S))) (NN a2 (b2g_draws (b8g_now S))) a1.toInt.toNat (b0g_bytes (b3g_members (b2g_told (b8g_now S)))) (b0g_lengths (b3g_members (b2g_told (b8g_now S)))) (b0g_count (b3g_members (b2g_told (b8g_now S)))).toInt (b0g_bytes (b3g_members (b2g_told (b8g_now u)))) (b0g_lengths (b3g_members (b2g_told (b8g_now u)))) (b0g_count (b3g_members (b2g_told (b8g_now u)))).toInt r.toInt) ∧ (¬ (1 ≤ a1.toInt ∧ a1.toInt ≤ 64 ∧ 1 ≤ a2.toInt ∧ a2.toInt ≤ 8) → r.toInt = -1 ∧ u = S)) → Q r u) : wp_X8_fill S a1 a2 Q := by
  unfold wp_X8_fill
  have bad : ¬ (1 ≤ a1.toInt ∧ a1.toInt ≤ 64 ∧ 1 ≤ a2.toInt ∧ a2.toInt ≤ 8) → Q (-1) S := by
    intro h
    exact hq _ _ hJ ⟨rfl, rfl, rfl, rfl, rfl, rfl, rfl, rfl, rfl, rfl, rfl, rfl, rfl, rfl⟩ (filS_0 h).symm (fun _ => ⟨fun g => absurd g h, fun _ => ⟨rfl, rfl⟩⟩)
  refine ⟨fun c => bad ?_, fun c => ⟨fun d => bad ?_, fun d => sf_X8_isLength (fun r1 hz h1 => ⟨fun g => ?_, fun g => bad ?_⟩)⟩⟩
  · simp only [pn] at c; omega
  · simp only [pn] at d; omega
  rotate_left
  · simp only [pn] at g; omega
  simp only [pn] at c d g
  have hok : 1 ≤ a1.toInt ∧ a1.toInt ≤ 64 ∧ 1 ≤ a2.toInt ∧ a2.toInt ≤ 8 := by omega
  unfold wp_X8_fill_25
  refine ⟨fun n x1 x2 x3 x4 V => x1 = a1 ∧ x2 = a2 ∧ 0 ≤ x4.toInt ∧ x4.toInt ≤ a1.toInt ∧ 0 ≤ x3.toInt ∧ x3.toInt ≤ x4.toInt ∧ J8 V ∧ F_X8_fill S V ∧ b2g_draws (b8g_now V) = stpN a2 x4.toInt.toNat (b2g_draws (b8g_now S)) ∧ (SRT (b0g_bytes (b3g_members (b2g_told (b8g_now S)))) (b0g_lengths (b3g_members (b2g_told (b8g_now S)))) (b0g_count (b3g_members (b2g_told (b8g_now S)))).toInt → CHN (KN (b3g_values (b2g_told (b8g_now S)) 4) a2 (b2g_draws (b8g_now S))) (NN a2 (b2g_draws (b8g_now S))) x4.toInt.toNat (b0g_bytes (b3g_members (b2g_told (b8g_now S)))) (b0g_lengths (b3g_members (b2g_told (b8g_now S)))) (b0g_count (b3g_members (b2g_told (b8g_now S)))).toInt (b0g_bytes (b3g_members (b2g_told (b8g_now V)))) (b0g_lengths (b3g_members (b2g_told (b8g_now V)))) (b0g_count (b3g_members (b2g_told (b8g_now V)))).toInt x3.toInt) ∧ n = (a1.toInt - x4.toInt).toNat, ⟨_, rfl, rfl, by decide, by rw [pl_0]; omega, by decide, by decide, hJ, ⟨rfl, rfl, rfl, rfl, rfl, rfl, rfl, rfl, rfl, rfl, rfl, rfl, rfl, rfl⟩, by rw [z0, stpN0], fun _ => by rw [z0]; exact ⟨rfl, fun j hj => ⟨rfl, rfl⟩, rfl⟩, rfl⟩, ?_⟩
  rintro n x1 x2 x3 x4 V ⟨e1, e2, h0, h1', w0, w1, hJV, hFV, hd, hC, hn⟩
  unfold wp_X8_fill_25b
  rw [e1, e2]
  refine ⟨fun c2 => ?_, fun c2 => ?_⟩
  · simp only [pn] at c2
    have ex : x4.toInt = a1.toInt := by omega
    rw [ex] at hd hC
    exact hq _ _ hJV hFV (hd.trans (filS_1 hok).symm) (fun hs => ⟨fun _ => hC hs, fun h => absurd hok h⟩)
  simp only [pn] at c2
  have x4' : (x4 + 1).toInt = x4.toInt + 1 := by rw [pt_add (by rw [pl_1]; omega) (by rw [pl_1]; omega), pl_1]
  have x3' : (x3 + 1).toInt = x3.toInt + 1 := by rw [pt_add (by rw [pl_1]; omega) (by rw [pl_1]; omega), pl_1]
  have hv : b3g_values (b2g_told (b8g_now V)) = b3g_values (b2g_told (b8g_now S)) := hFV.1
  refine sf_X2_draw (J8g_now hJV) (fun r1 u2 hJ2 hf2 d2 q2 => ?_)
  intro S3 e3
  have n3 : b8g_now S3 = u2 := by rw [e3]
  have hJ3 : J8 S3 := by rw [e3]; exact J8s_now hJV hJ2
  rw [n3]
  have er : r1 + 1 = NN a2 (b2g_draws (b8g_now S)) x4.toInt.toNat := by
    rw [q2, d2, hd, Int32.add_comm]
    rfl
  have rN := NN_rng (m := a2) (s := b2g_draws (b8g_now S)) (i := x4.toInt.toNat) (by omega) (by omega)
  refine sf_X2_drawBytes hJ2 (fun r4 u5 hJ5 hf5 d5 k5 => ?_)
  intro S6 e6
  have n6 : b8g_now S6 = u5 := by rw [e6]
  have t5 : b2g_told u5 = b2g_told (b8g_now V) := (hf5.1).trans (hf2.1)
  have t2 : b2g_told u2 = b2g_told (b8g_now V) := hf2.1
  have hJ6 : J8 S6 := by rw [e6]; exact J8s_now hJ3 hJ5
  have ek : r4 = KN (b3g_values (b2g_told (b8g_now S)) 4) a2 (b2g_draws (b8g_now S)) x4.toInt.toNat := by
    rw [k5 (by rw [er]; omega) (by rw [er]; omega), er, d2, hd, t2, hv]
    rfl
  have d5' : b2g_draws u5 = stpN a2 (x4 + 1).toInt.toNat (b2g_draws (b8g_now S)) := by
    rw [d5, d2, hd, stpN_s h0 (by omega), er]
    rfl
  rw [n6, t5]
  refine sf_X0_insert (J3g_members (J2g_told (J8g_now hJV))) (fun r7 u8 hJ8 hf8 hI => ?_)
  intro S9 e9
  have m9 : b3g_members (b2g_told (b8g_now S9)) = u8 := by rw [e9]
  have d9 : b2g_draws (b8g_now S9) = b2g_draws u5 := by rw [e9, ← n6]
  have hJ9' : J8 S9 := by
    rw [e9]
    exact J8s_now hJ6 (J2s_told hJ5 (J3s_members (J2g_told (J8g_now hJV)) hJ8))
  have hF9 : F_X8_fill S S9 := by
    have tb : b2g_built u5 = b2g_built (b8g_now V) := (hf5.2.1).trans (hf2.2.1)
    have tq : b2g_questions u5 = b2g_questions (b8g_now V) := (hf5.2.2.1).trans (hf2.2.2.1)
    have ta : b2g_answers u5 = b2g_answers (b8g_now V) := (hf5.2.2.2).trans (hf2.2.2.2)
    have h := hFV
    unfold F_X8_fill at h ⊢
    rw [← tb, ← tq, ← ta] at h
    rw [e9, e6, e3]
    exact h
  have next : ∀ y3 : Int32, y3.toInt = x3.toInt + (if r7.toInt = -1 then 0 else 1) → wp_X8_fill_78 S9 a1 a2 y3 x4 Q (fun x1 x2 x3 x4 S_1 => ∃ n2 : Nat, n2 < n ∧ x1 = a1 ∧ x2 = a2 ∧ 0 ≤ x4.toInt ∧ x4.toInt ≤ a1.toInt ∧ 0 ≤ x3.toInt ∧ x3.toInt ≤ x4.toInt ∧ J8 S_1 ∧ F_X8_fill S S_1 ∧ b2g_draws (b8g_now S_1) = stpN a2 x4.toInt.toNat (b2g_draws (b8g_now S)) ∧ (SRT (b0g_bytes (b3g_members (b2g_told (b8g_now S)))) (b0g_lengths (b3g_members (b2g_told (b8g_now S)))) (b0g_count (b3g_members (b2g_told (b8g_now S)))).toInt → CHN (KN (b3g_values (b2g_told (b8g_now S)) 4) a2 (b2g_draws (b8g_now S))) (NN a2 (b2g_draws (b8g_now S))) x4.toInt.toNat (b0g_bytes (b3g_members (b2g_told (b8g_now S)))) (b0g_lengths (b3g_members (b2g_told (b8g_now S)))) (b0g_count (b3g_members (b2g_told (b8g_now S)))).toInt (b0g_bytes (b3g_members (b2g_told (b8g_now S_1)))) (b0g_lengths (b3g_members (b2g_told (b8g_now S_1)))) (b0g_count (b3g_members (b2g_told (b8g_now S_1)))).toInt x3.toInt) ∧ n2 = (a1.toInt - x4.toInt).toNat) := by
    intro y3 hy
    unfold wp_X8_fill_78
    refine ⟨_, ?_, rfl, rfl, by omega, by omega, by split at hy <;> omega, by split at hy <;> omega, hJ9', hF9, by rw [d9]; exact d5', fun hs => ?_, rfl⟩
    · omega
    · rw [m9]
      refine CHN_step h0 (by omega) (hC hs) ?_ hy
      rw [← ek, ← er]
      have hsV := CHN_srt hs x4.toInt.toNat (fun q hq => NN_rng (by omega) (by omega)) (hC hs)
      exact hI hsV (by rw [er]; exact rN)
  refine ⟨fun g2 => next x3 ?_, fun g2 => next (x3 + 1) ?_⟩
  · rw [if_pos (by rw [g2]; rfl)]
    omega
  · rw [if_neg (fun h => g2 (Int32.toInt_inj.mp (h.trans pl_m1.symm)))]
    exact x3'
def F_X8_build (S u : bT8) : Prop := (b2g_told (b8g_now u)) = (b2g_told (b8g_now S)) ∧ (b2g_questions (b8g_now u)) = (b2g_questions (b8g_now S)) ∧ (b2g_answers (b8g_now u)) = (b2g_answers (b8g_now S)) ∧ (b2g_draws (b8g_now u)) = (b2g_draws (b8g_now S)) ∧ (b8g_kept u) = (b8g_kept S) ∧ (b8g_isKept u) = (b8g_isKept S) ∧ (b8g_tuning u) = (b8g_tuning S) ∧ (b8g_trial u) = (b8g_trial S) ∧ (b8g_tape u) = (b8g_tape S) ∧ (b8g_text u) = (b8g_text S) ∧ (b8g_chosenRow u) = (b8g_chosenRow S)
theorem sf_X8_build {S : bT8} (hJ : J8 S) {Q : Int32 → (bT8) → Prop} (hq : ∀ (r : Int32) (u : bT8), (J8 u) → F_X8_build S u → (r.toInt = (b0g_count (b3g_members (b2g_told (b8g_now S)))).toInt) → (PEQ (b2g_built (b8g_now u)) (b2g_told (b8g_now S))) → (LVX (b8g_leaves u) (b2g_built (b8g_now u))) → Q r u) : wp_X8_build S Q := by
  unfold wp_X8_build
  refine sf_X3_copyFrom (S := ((b2g_built (b8g_now S)), (b2g_told (b8g_now S)))) ⟨J2g_built (J8g_now hJ), J2g_told (J8g_now hJ)⟩ (fun u2 hJ2 hf2 c2 q2 => ?_)
  have f2 : u2.2 = b2g_told (b8g_now S) := hf2
  intro S3 e3
  have n3 : b8g_now S3 = b2s_told (b2s_built (b8g_now S) u2.1) u2.2 := by rw [e3]
  have b3 : b2g_built (b8g_now S3) = u2.1 := by rw [n3]
  have t3 : b2g_told (b8g_now S3) = b2g_told (b8g_now S) := by rw [n3]; exact f2
  have hJ3 : J8 S3 := by
    rw [e3]
    have hA := J8s_now hJ (J2s_built (J8g_now hJ) hJ2.1)
    exact J8s_now hA (J2s_told (J8g_now hA) hJ2.2)
  refine sf_X8_rebuild hJ3 (fun u5 hJ5 hf5 c5 x5 => ?_)
  unfold wp_X1_count
  have n5 : b8g_now u5 = b8g_now S3 := hf5.1
  refine hq _ _ hJ5 ⟨by rw [n5]; exact t3, by rw [n5, n3], by rw [n5, n3], by rw [n5, n3], (hf5.2.1).trans (by rw [e3]), (hf5.2.2.1).trans (by rw [e3]), (hf5.2.2.2.1).trans (by rw [e3]), (hf5.2.2.2.2.1).trans (by rw [e3]), (hf5.2.2.2.2.2.1).trans (by rw [e3]), (hf5.2.2.2.2.2.2.1).trans (by rw [e3]), (hf5.2.2.2.2.2.2.2).trans (by rw [e3])⟩ ?_ ?_ ?_
  · rw [c5, b3]
    exact c2
  · rw [n5, b3]
    exact q2
  · rw [n5]
    exact x5
theorem sf_X8_has {S : bT8} (hJ : J8 S) {a1 : Int32} {a2 : Int32} {a3 : Int32} {a4 : Int32} {Q : Int32 → Prop} (hq : ∀ r : Int32, (1 ≤ a3.toInt ∧ a3.toInt ≤ 8 → a4.toInt = 0 → SRT (b0g_bytes (b3g_members (b2g_told (b8g_now S)))) (b0g_lengths (b3g_members (b2g_told (b8g_now S)))) (b0g_count (b3g_members (b2g_told (b8g_now S)))).toInt → NUM (b0g_bytes (b3g_members (b2g_told (b8g_now S)))) (b0g_lengths (b3g_members (b2g_told (b8g_now S)))) (b0g_count (b3g_members (b2g_told (b8g_now S)))).toInt (KEY a1 a2 a3) a3 r.toInt) → (1 ≤ a3.toInt ∧ a3.toInt ≤ 8 → a4.toInt = 1 → SRT (b0g_bytes (b1g_owners (b8g_leaves S))) (b0g_lengths (b1g_owners (b8g_leaves S))) (b0g_count (b1g_owners (b8g_leaves S))).toInt → NUM (b0g_bytes (b1g_owners (b8g_leaves S))) (b0g_lengths (b1g_owners (b8g_leaves S))) (b0g_count (b1g_owners (b8g_leaves S))).toInt (KEY a1 a2 a3) a3 r.toInt) → (¬ ((1 ≤ a3.toInt ∧ a3.toInt ≤ 8) ∧ (a4.toInt = 0 ∨ a4.toInt = 1)) → r.toInt = -1) → Q r) : wp_X8_has S a1 a2 a3 a4 Q := by
  unfold wp_X8_has
  refine sf_X8_isLength (fun r1 hz h1 => ⟨fun c => ?_, fun c => ?_⟩)
  · simp only [pn] at c
    have hn : 1 ≤ a3.toInt ∧ a3.toInt ≤ 8 := by omega
    refine sf_X8_keyOf (fun r3 h3 => ?_)
    have e3 := h3 hn.1 hn.2
    refine ⟨fun d => ⟨fun e => ?_, fun e => ?_⟩, fun d => ?_⟩
    · simp only [pn] at d e
      exact hq _ (fun _ h => by omega) (fun _ h => by omega) (fun _ => rfl)
    · simp only [pn] at d e
      exact fx_numberOf (J1g_owners (J8g_leaves hJ)) (fun r5 g1 g2 hN => hq _ (fun _ h => by omega) (fun _ _ hs => by rw [← e3]; exact hN hs hn) (fun h => absurd ⟨hn, Or.inr e⟩ h))
    · simp only [pn] at d
      exact fx_numberOf (J3g_members (J2g_told (J8g_now hJ))) (fun r7 g1 g2 hN => hq _ (fun _ _ hs => by rw [← e3]; exact hN hs hn) (fun _ h => by omega) (fun h => absurd ⟨hn, Or.inl d⟩ h))
  · simp only [pn] at c
    exact hq _ (fun h _ => by omega) (fun h _ => by omega) (fun _ => rfl)
def F_X8_askKey (S u : bT8) : Prop := (b2g_told (b8g_now u)) = (b2g_told (b8g_now S)) ∧ (b2g_built (b8g_now u)) = (b2g_built (b8g_now S)) ∧ (b2g_questions (b8g_now u)) = (b2g_questions (b8g_now S)) ∧ (b2g_draws (b8g_now u)) = (b2g_draws (b8g_now S)) ∧ (b8g_kept u) = (b8g_kept S) ∧ (b8g_isKept u) = (b8g_isKept S) ∧ (b8g_leaves u) = (b8g_leaves S) ∧ (b8g_tree u) = (b8g_tree S) ∧ (b8g_tuning u) = (b8g_tuning S) ∧ (b8g_trial u) = (b8g_trial S) ∧ (b8g_tape u) = (b8g_tape S) ∧ (b8g_text u) = (b8g_text S) ∧ (b8g_chosenRow u) = (b8g_chosenRow S)
theorem sf_X8_askKey {S : bT8} (hJ : J8 S) {a1 : Int64} {a3 : Int32} {Q : Int32 → (bT8) → Prop} (hq : ∀ (r : Int32) (u : bT8), (J8 u) → F_X8_askKey S u → (0 ≤ r.toInt) → (r.toInt ≤ 2) → (LVO (b8g_leaves S) → 1 ≤ a3.toInt → a3.toInt ≤ 8 → VRD (b0g_bytes (b1g_owners (b8g_leaves S))) (b0g_lengths (b1g_owners (b8g_leaves S))) (b0g_count (b1g_owners (b8g_leaves S))).toInt (b1g_realBits (b8g_leaves S)) (b1g_salt (b8g_leaves S)) (b1g_hashBits (b8g_leaves S)) a1 a3 r.toInt) → (b2g_answers (b8g_now u) = NTE (b2g_answers (b8g_now S)) 0 (YN r) (IS2 r)) → Q r u) : wp_X8_askKey S a1 a3 Q := by
  unfold wp_X8_askKey
  refine sf_X1_verdictOf (J8g_leaves hJ) (fun r1 p0 p2 h1 => sf_X2_note (J8g_now hJ) (by decide) (by decide) (fun u4 hJ4 hf4 h4 => ?_))
  intro S5 e5
  have n5 : b8g_now S5 = u4 := by rw [e5]
  refine hq _ _ (by rw [e5]; exact J8s_now hJ hJ4) ?_ p0 p2 h1 (by rw [n5, h4]; rfl)
  obtain ⟨f1, f2, f3, f4⟩ := hf4
  rw [e5]
  exact ⟨f1, f2, f3, f4, rfl, rfl, rfl, rfl, rfl, rfl, rfl, rfl, rfl⟩
def F_X8_may (S u : bT8) : Prop := (b2g_told (b8g_now u)) = (b2g_told (b8g_now S)) ∧ (b2g_built (b8g_now u)) = (b2g_built (b8g_now S)) ∧ (b2g_questions (b8g_now u)) = (b2g_questions (b8g_now S)) ∧ (b2g_draws (b8g_now u)) = (b2g_draws (b8g_now S)) ∧ (b8g_kept u) = (b8g_kept S) ∧ (b8g_isKept u) = (b8g_isKept S) ∧ (b8g_leaves u) = (b8g_leaves S) ∧ (b8g_tree u) = (b8g_tree S) ∧ (b8g_tuning u) = (b8g_tuning S) ∧ (b8g_trial u) = (b8g_trial S) ∧ (b8g_tape u) = (b8g_tape S) ∧ (b8g_text u) = (b8g_text S) ∧ (b8g_chosenRow u) = (b8g_chosenRow S)
theorem sf_X8_may {S : bT8} (hJ : J8 S) {a1 : Int32} {a2 : Int32} {a3 : Int32} {Q : Int32 → (bT8) → Prop} (hq : ∀ (r : Int32) (u : bT8), (J8 u) → F_X8_may S u → (LVO (b8g_leaves S) → (1 ≤ a3.toInt ∧ a3.toInt ≤ 8 → ∃ v : Int32, VRD (b0g_bytes (b1g_owners (b8g_leaves S))) (b0g_lengths (b1g_owners (b8g_leaves S))) (b0g_count (b1g_owners (b8g_leaves S))).toInt (b1g_realBits (b8g_leaves S)) (b1g_salt (b8g_leaves S)) (b1g_hashBits (b8g_leaves S)) (KEY a1 a2 a3) a3 v.toInt ∧ r = YN v ∧ b2g_answers (b8g_now u) = NTE (b2g_answers (b8g_now S)) 0 (YN v) (IS2 v)) ∧ (¬ (1 ≤ a3.toInt ∧ a3.toInt ≤ 8) → r.toInt = -1 ∧ u = S)) → Q r u) : wp_X8_may S a1 a2 a3 Q := by
  unfold wp_X8_may
  refine sf_X8_isLength (fun r1 z1 h1 => ⟨fun c => sf_X8_keyOf (fun r3 h3 => sf_X8_askKey hJ (fun r5 u6 hJ6 hf6 p0 p2 h5 h6 => ?_)), fun c => hq _ _ hJ ⟨rfl, rfl, rfl, rfl, rfl, rfl, rfl, rfl, rfl, rfl, rfl, rfl, rfl⟩ (fun o => ⟨fun h => ?_, fun _ => ⟨rfl, rfl⟩⟩)⟩)
  · simp only [pn] at c
    have n1 : 1 ≤ a3.toInt ∧ a3.toInt ≤ 8 := by omega
    rw [h3 n1.1 n1.2] at h5
    have hF6 : F_X8_may S u6 := hf6
    exact ⟨fun d => hq _ _ hJ6 hF6 (fun o => ⟨fun _ => ⟨r5, h5 o n1.1 n1.2, by rw [YN_y d], h6⟩, fun h => absurd n1 h⟩), fun d => hq _ _ hJ6 hF6 (fun o => ⟨fun _ => ⟨r5, h5 o n1.1 n1.2, by rw [YN_n d], h6⟩, fun h => absurd n1 h⟩)⟩
  · rw [c, pl_0] at h1; omega
theorem sf_X8_leafOf {S : bT8} (hJ : J8 S) {a1 : Int32} {a2 : Int32} {a3 : Int32} {Q : Int32 → Prop} (hq : ∀ r : Int32, (LVO (b8g_leaves S) → (1 ≤ a3.toInt ∧ a3.toInt ≤ 8 → LFA (b0g_bytes (b1g_owners (b8g_leaves S))) (b0g_lengths (b1g_owners (b8g_leaves S))) (b0g_count (b1g_owners (b8g_leaves S))).toInt (b1g_realBits (b8g_leaves S)) (KEY a1 a2 a3) a3 r.toInt) ∧ (¬ (1 ≤ a3.toInt ∧ a3.toInt ≤ 8) → r.toInt = -1)) → Q r) : wp_X8_leafOf S a1 a2 a3 Q := by
  unfold wp_X8_leafOf
  refine sf_X8_isLength (fun r1 z1 h1 => ⟨fun c => hq _ (fun _ => ⟨fun h => ?_, fun _ => rfl⟩), fun c => sf_X8_keyOf (fun r3 h3 => sf_X1_possibleAt (J8g_leaves hJ) (fun r5 h5 => hq _ (fun o => ⟨fun h => ?_, fun h => ?_⟩)))⟩)
  · rw [c, pl_0] at h1; omega
  · have := h5 o h.1 h.2
    rw [h3 h.1 h.2] at this
    exact this
  · simp only [pn] at c
    omega
def F_X8_askRange (S u : bT8) : Prop := (b2g_told (b8g_now u)) = (b2g_told (b8g_now S)) ∧ (b2g_built (b8g_now u)) = (b2g_built (b8g_now S)) ∧ (b2g_questions (b8g_now u)) = (b2g_questions (b8g_now S)) ∧ (b2g_draws (b8g_now u)) = (b2g_draws (b8g_now S)) ∧ (b8g_kept u) = (b8g_kept S) ∧ (b8g_isKept u) = (b8g_isKept S) ∧ (b8g_leaves u) = (b8g_leaves S) ∧ (b8g_tree u) = (b8g_tree S) ∧ (b8g_tuning u) = (b8g_tuning S) ∧ (b8g_trial u) = (b8g_trial S) ∧ (b8g_tape u) = (b8g_tape S) ∧ (b8g_text u) = (b8g_text S) ∧ (b8g_chosenRow u) = (b8g_chosenRow S)
theorem sf_X8_askRange {S : bT8} (hJ : J8 S) {a1 : Int64} {a3 : Int32} {a4 : Int64} {a6 : Int32} {Q : Int32 → (bT8) → Prop} (hq : ∀ (r : Int32) (u : bT8), (J8 u) → F_X8_askRange S u → (LVO (b8g_leaves S) → 1 ≤ a3.toInt → a3.toInt ≤ 8 → 1 ≤ a6.toInt → a6.toInt ≤ 8 → RVD (b0g_bytes (b1g_owners (b8g_leaves S))) (b0g_lengths (b1g_owners (b8g_leaves S))) (b0g_count (b1g_owners (b8g_leaves S))).toInt (b1g_realBits (b8g_leaves S)) a1 a3 a4 a6 r.toInt) → (b2g_answers (b8g_now u) = NTE (b2g_answers (b8g_now S)) 3 (YN r) (IS2 r)) → Q r u) : wp_X8_askRange S a1 a3 a4 a6 Q := by
  have jo := J0g_count (J1g_owners (J8g_leaves hJ))
  unfold wp_X8_askRange
  have fin : ∀ x7 : Int32, (LVO (b8g_leaves S) → 1 ≤ a3.toInt → a3.toInt ≤ 8 → 1 ≤ a6.toInt → a6.toInt ≤ 8 → RVD (b0g_bytes (b1g_owners (b8g_leaves S))) (b0g_lengths (b1g_owners (b8g_leaves S))) (b0g_count (b1g_owners (b8g_leaves S))).toInt (b1g_realBits (b8g_leaves S)) a1 a3 a4 a6 x7.toInt) → wp_X8_askRange_67 S x7 Q := by
    intro x7 hR
    unfold wp_X8_askRange_67
    refine sf_X2_note (J8g_now hJ) (by decide) (by decide) (fun u2 hJ2 hf2 h2 => ?_)
    intro S3 e3
    have n3 : b8g_now S3 = u2 := by rw [e3]
    refine hq _ _ (by rw [e3]; exact J8s_now hJ hJ2) ?_ hR (by rw [n3, h2]; rfl)
    obtain ⟨f1, f2, f3, f4⟩ := hf2
    rw [e3]
    exact ⟨f1, f2, f3, f4, rfl, rfl, rfl, rfl, rfl, rfl, rfl, rfl, rfl⟩
  refine sf_X1_met (J8g_leaves hJ) (fun r4 h4 => ⟨fun c => fin 0 (fun o p1 p8 q1 q8 => Or.inl ⟨rfl, ?_⟩), fun c => ?_⟩)
  · simp only [pn] at c
    rw [← h4 o p1 p8 q1 q8]
    exact c
  simp only [pn] at c
  unfold wp_X0_upTo wp_X0_ahead
  refine fx_counted (J1g_owners (J8g_leaves hJ)) (Or.inr rfl) (fun r6 g0 g1 hC => fx_counted (J1g_owners (J8g_leaves hJ)) (Or.inl rfl) (fun r8 k0 k1 hD => ?_))
  unfold wp_X8_askRange_53 wp_X8_askRange_65
  refine ⟨fun d => ⟨fun _ => fin 2 (fun o p1 p8 q1 q8 => Or.inr (Or.inr ⟨rfl, ?_, ?_⟩)), fun h => absurd rfl h⟩, fun d => ⟨fun h => absurd h (by decide), fun _ => fin 1 (fun o p1 p8 q1 q8 => Or.inr (Or.inl ⟨rfl, ?_, ?_⟩))⟩⟩
  · rw [← h4 o p1 p8 q1 q8]; omega
  · simp only [pn] at d
    exact (any_cls k0 g1 (hC o.2.1 ⟨q1, q8⟩) (hD o.2.1 ⟨p1, p8⟩)).2 d
  · rw [← h4 o p1 p8 q1 q8]; omega
  · simp only [pn] at d
    exact (any_cls k0 g1 (hC o.2.1 ⟨q1, q8⟩) (hD o.2.1 ⟨p1, p8⟩)).1 (by omega)
theorem sf_X8_isRange {a0 : Int32} {a1 : Int32} {a2 : Int32} {a3 : Int32} {a4 : Int32} {a5 : Int32} {Q : Int32 → Prop} (hq : ∀ r : Int32, bf_bool r → ((r.toInt = 1 ∧ ((1 ≤ a2.toInt ∧ a2.toInt ≤ 8) ∧ (1 ≤ a5.toInt ∧ a5.toInt ≤ 8) ∧ ¬ KLT (KEY a3 a4 a5) a5 (KEY a0 a1 a2) a2)) ∨ (r.toInt = 0 ∧ ¬ ((1 ≤ a2.toInt ∧ a2.toInt ≤ 8) ∧ (1 ≤ a5.toInt ∧ a5.toInt ≤ 8) ∧ ¬ KLT (KEY a3 a4 a5) a5 (KEY a0 a1 a2) a2))) → Q r) : wp_X8_isRange a0 a1 a2 a3 a4 a5 Q := by
  unfold wp_X8_isRange
  refine sf_X8_isLength (fun r1 z1 h1 => ⟨fun c => ⟨rfl, hq _ rfl (Or.inr ⟨rfl, fun h => ?_⟩)⟩, fun c => sf_X8_isLength (fun r3 z3 h3 => ⟨fun d => ⟨rfl, hq _ rfl (Or.inr ⟨rfl, fun h => ?_⟩)⟩, fun d => sf_X8_keyOf (fun r5 h5 => sf_X8_keyOf (fun r7 h7 => ?_))⟩)⟩)
  · rw [c, pl_0] at h1; omega
  · rw [d, pl_0] at h3; omega
  simp only [pn] at c d
  have n1 : 1 ≤ a2.toInt ∧ a2.toInt ≤ 8 := by omega
  have n3 : 1 ≤ a5.toInt ∧ a5.toInt ≤ 8 := by omega
  refine fx_order ⟨by omega, by omega⟩ ⟨by omega, by omega⟩ (fun r9 _ g9 => ⟨fun e => ⟨rfl, hq _ rfl (Or.inr ⟨rfl, fun h => ?_⟩)⟩, fun e => ⟨rfl, hq _ rfl (Or.inl ⟨rfl, n1, n3, ?_⟩)⟩⟩)
  · simp only [pn] at e
    rw [h5 n1.1 n1.2, h7 n3.1 n3.2] at g9
    have := g9.mpr h.2.2
    omega
  · simp only [pn] at e
    rw [h5 n1.1 n1.2, h7 n3.1 n3.2] at g9
    exact g9.mp (by omega)
def F_X8_range (S u : bT8) : Prop := (b2g_told (b8g_now u)) = (b2g_told (b8g_now S)) ∧ (b2g_built (b8g_now u)) = (b2g_built (b8g_now S)) ∧ (b2g_questions (b8g_now u)) = (b2g_questions (b8g_now S)) ∧ (b2g_draws (b8g_now u)) = (b2g_draws (b8g_now S)) ∧ (b8g_kept u) = (b8g_kept S) ∧ (b8g_isKept u) = (b8g_isKept S) ∧ (b8g_leaves u) = (b8g_leaves S) ∧ (b8g_tree u) = (b8g_tree S) ∧ (b8g_tuning u) = (b8g_tuning S) ∧ (b8g_trial u) = (b8g_trial S) ∧ (b8g_tape u) = (b8g_tape S) ∧ (b8g_text u) = (b8g_text S) ∧ (b8g_chosenRow u) = (b8g_chosenRow S)
theorem sf_X8_range {S : bT8} (hJ : J8 S) {a1 : Int32} {a2 : Int32} {a3 : Int32} {a4 : Int32} {a5 : Int32} {a6 : Int32} {Q : Int32 → (bT8) → Prop} (hq : ∀ (r : Int32) (u : bT8), (J8 u) → F_X8_range S u → (LVO (b8g_leaves S) → (((1 ≤ a3.toInt ∧ a3.toInt ≤ 8) ∧ (1 ≤ a6.toInt ∧ a6.toInt ≤ 8) ∧ ¬ KLT (KEY a4 a5 a6) a6 (KEY a1 a2 a3) a3) → ∃ v : Int32, RVD (b0g_bytes (b1g_owners (b8g_leaves S))) (b0g_lengths (b1g_owners (b8g_leaves S))) (b0g_count (b1g_owners (b8g_leaves S))).toInt (b1g_realBits (b8g_leaves S)) (KEY a1 a2 a3) a3 (KEY a4 a5 a6) a6 v.toInt ∧ r = YN v ∧ b2g_answers (b8g_now u) = NTE (b2g_answers (b8g_now S)) 3 (YN v) (IS2 v)) ∧ (¬ ((1 ≤ a3.toInt ∧ a3.toInt ≤ 8) ∧ (1 ≤ a6.toInt ∧ a6.toInt ≤ 8) ∧ ¬ KLT (KEY a4 a5 a6) a6 (KEY a1 a2 a3) a3) → r.toInt = -1 ∧ u = S)) → Q r u) : wp_X8_range S a1 a2 a3 a4 a5 a6 Q := by
  unfold wp_X8_range
  refine sf_X8_isRange (fun r1 z1 h1 => ⟨fun c => sf_X8_keyOf (fun r3 h3 => sf_X8_keyOf (fun r5 h5 => sf_X8_askRange hJ (fun r7 u8 hJ8 hf8 h7 h8 => ?_))), fun c => hq _ _ hJ ⟨rfl, rfl, rfl, rfl, rfl, rfl, rfl, rfl, rfl, rfl, rfl, rfl, rfl⟩ (fun o => ⟨fun h => absurd h (bl_n h1 c), fun _ => ⟨rfl, rfl⟩⟩)⟩)
  have p := bl_y h1 c
  rw [h3 p.1.1 p.1.2, h5 p.2.1.1 p.2.1.2] at h7
  have hF8 : F_X8_range S u8 := hf8
  exact ⟨fun d => hq _ _ hJ8 hF8 (fun o => ⟨fun _ => ⟨r7, h7 o p.1.1 p.1.2 p.2.1.1 p.2.1.2, by rw [YN_y d], h8⟩, fun h => absurd p h⟩), fun d => hq _ _ hJ8 hF8 (fun o => ⟨fun _ => ⟨r7, h7 o p.1.1 p.1.2 p.2.1.1 p.2.1.2, by rw [YN_n d], h8⟩, fun h => absurd p h⟩)⟩
theorem sf_X8_meets {S : bT8} (hJ : J8 S) {a1 : Int32} {a2 : Int32} {a3 : Int32} {a4 : Int32} {a5 : Int32} {a6 : Int32} {Q : Int32 → Prop} (hq : ∀ r : Int32, (LVO (b8g_leaves S) → (((1 ≤ a3.toInt ∧ a3.toInt ≤ 8) ∧ (1 ≤ a6.toInt ∧ a6.toInt ≤ 8) ∧ ¬ KLT (KEY a4 a5 a6) a6 (KEY a1 a2 a3) a3) → r.toInt = CTP (MET (b0g_bytes (b1g_owners (b8g_leaves S))) (b0g_lengths (b1g_owners (b8g_leaves S))) (b0g_count (b1g_owners (b8g_leaves S))).toInt (b1g_realBits (b8g_leaves S)) (KEY a1 a2 a3) a3 (KEY a4 a5 a6) a6) (b0g_count (b1g_owners (b8g_leaves S))).toInt.toNat) ∧ (¬ ((1 ≤ a3.toInt ∧ a3.toInt ≤ 8) ∧ (1 ≤ a6.toInt ∧ a6.toInt ≤ 8) ∧ ¬ KLT (KEY a4 a5 a6) a6 (KEY a1 a2 a3) a3) → r.toInt = -1)) → Q r) : wp_X8_meets S a1 a2 a3 a4 a5 a6 Q := by
  unfold wp_X8_meets
  refine sf_X8_isRange (fun r1 z1 h1 => ⟨fun c => sf_X8_keyOf (fun r3 h3 => sf_X8_keyOf (fun r5 h5 => sf_X1_met (J8g_leaves hJ) (fun r7 h7 => hq _ (fun o => ⟨fun h => ?_, fun h => ?_⟩)))), fun c => hq _ (fun o => ⟨fun h => ?_, fun _ => rfl⟩)⟩)
  · rw [h7 o h.1.1 h.1.2 h.2.1.1 h.2.1.2, h3 h.1.1 h.1.2, h5 h.2.1.1 h.2.1.2]
  · simp only [pn] at c
    rcases h1 with ⟨_, g⟩ | ⟨e, _⟩
    · exact absurd g h
    · omega
  · rw [c, pl_0] at h1
    rcases h1 with ⟨e, _⟩ | ⟨_, g⟩
    · omega
    · exact absurd h g
theorem sf_X8_holds {S : bT8} (hJ : J8 S) {a1 : Int32} {a2 : Int32} {a3 : Int32} {a4 : Int32} {a5 : Int32} {a6 : Int32} {Q : Int32 → Prop} (hq : ∀ r : Int32, (LVO (b8g_leaves S) → (((1 ≤ a3.toInt ∧ a3.toInt ≤ 8) ∧ (1 ≤ a6.toInt ∧ a6.toInt ≤ 8) ∧ ¬ KLT (KEY a4 a5 a6) a6 (KEY a1 a2 a3) a3) → r.toInt = CTP (SUR (b0g_bytes (b1g_owners (b8g_leaves S))) (b0g_lengths (b1g_owners (b8g_leaves S))) (b0g_count (b1g_owners (b8g_leaves S))).toInt (b1g_realBits (b8g_leaves S)) (KEY a1 a2 a3) a3 (KEY a4 a5 a6) a6) (b0g_count (b1g_owners (b8g_leaves S))).toInt.toNat) ∧ (¬ ((1 ≤ a3.toInt ∧ a3.toInt ≤ 8) ∧ (1 ≤ a6.toInt ∧ a6.toInt ≤ 8) ∧ ¬ KLT (KEY a4 a5 a6) a6 (KEY a1 a2 a3) a3) → r.toInt = -1)) → Q r) : wp_X8_holds S a1 a2 a3 a4 a5 a6 Q := by
  unfold wp_X8_holds
  refine sf_X8_isRange (fun r1 z1 h1 => ⟨fun c => sf_X8_keyOf (fun r3 h3 => sf_X8_keyOf (fun r5 h5 => sf_X1_held (J8g_leaves hJ) (fun r7 h7 => hq _ (fun o => ⟨fun h => ?_, fun h => ?_⟩)))), fun c => hq _ (fun o => ⟨fun h => ?_, fun _ => rfl⟩)⟩)
  · rw [h7 o h.1.1 h.1.2 h.2.1.1 h.2.1.2, h3 h.1.1 h.1.2, h5 h.2.1.1 h.2.1.2]
  · simp only [pn] at c
    rcases h1 with ⟨_, g⟩ | ⟨e, _⟩
    · exact absurd g h
    · omega
  · rw [c, pl_0] at h1
    rcases h1 with ⟨e, _⟩ | ⟨_, g⟩
    · omega
    · exact absurd h g
theorem sf_X8_seek {S : bT8} (hJ : J8 S) {a1 : Int32} {a2 : Int32} {a3 : Int32} {Q : Int32 → Prop} (hq : ∀ r : Int32, (LVO (b8g_leaves S) → (1 ≤ a3.toInt ∧ a3.toInt ≤ 8 → SKF (b0g_bytes (b1g_owners (b8g_leaves S))) (b0g_lengths (b1g_owners (b8g_leaves S))) (b0g_count (b1g_owners (b8g_leaves S))).toInt (b1g_realBits (b8g_leaves S)) (KEY a1 a2 a3) a3 r.toInt) ∧ (¬ (1 ≤ a3.toInt ∧ a3.toInt ≤ 8) → r.toInt = -1)) → Q r) : wp_X8_seek S a1 a2 a3 Q := by
  unfold wp_X8_seek
  refine sf_X8_isLength (fun r1 z1 h1 => ⟨fun c => sf_X8_keyOf (fun r3 h3 => fx_seekF (J8g_leaves hJ) (fun r5 p0 p64 h5 => ?_)), fun c => hq _ (fun o => ⟨fun h => ?_, fun _ => rfl⟩)⟩)
  · simp only [pn] at c
    have n1 : 1 ≤ a3.toInt ∧ a3.toInt ≤ 8 := by omega
    rw [h3 n1.1 n1.2] at h5
    unfold wp_X1_count
    refine ⟨fun d => hq _ (fun o => ⟨fun h => Or.inr ⟨rfl, fun i hi => ?_⟩, fun h => absurd n1 h⟩), fun d => hq _ (fun o => ⟨fun h => Or.inl ⟨p0, ?_, fun i hi => ?_, fun i hi => ?_⟩, fun h => absurd n1 h⟩)⟩
    · simp only [pn] at d
      have g := h5 o n1.1 n1.2
      exact (g.2 i hi).mp (by omega)
    · simp only [pn] at d
      omega
    · simp only [pn] at d
      have g := h5 o n1.1 n1.2
      intro hn
      have := (g.2 i (by omega)).mpr hn
      omega
    · simp only [pn] at d
      have g := h5 o n1.1 n1.2
      exact (g.2 i (by omega)).mp (by omega)
  · rw [c, pl_0] at h1; omega
theorem sf_X8_seekBack {S : bT8} (hJ : J8 S) {a1 : Int32} {a2 : Int32} {a3 : Int32} {Q : Int32 → Prop} (hq : ∀ r : Int32, (LVO (b8g_leaves S) → (1 ≤ a3.toInt ∧ a3.toInt ≤ 8 → SKB (b0g_bytes (b1g_owners (b8g_leaves S))) (b0g_lengths (b1g_owners (b8g_leaves S))) (b0g_count (b1g_owners (b8g_leaves S))).toInt (b1g_realBits (b8g_leaves S)) (KEY a1 a2 a3) a3 r.toInt) ∧ (¬ (1 ≤ a3.toInt ∧ a3.toInt ≤ 8) → r.toInt = -1)) → Q r) : wp_X8_seekBack S a1 a2 a3 Q := by
  unfold wp_X8_seekBack
  refine sf_X8_isLength (fun r1 z1 h1 => ⟨fun c => hq _ (fun o => ⟨fun h => ?_, fun _ => rfl⟩), fun c => sf_X8_keyOf (fun r3 h3 => fx_seekB (J8g_leaves hJ) (fun r5 p0 p64 h5 => ?_))⟩)
  · rw [c, pl_0] at h1; omega
  · simp only [pn] at c
    have n1 : 1 ≤ a3.toInt ∧ a3.toInt ≤ 8 := by omega
    rw [h3 n1.1 n1.2] at h5
    have em : (r5 - 1).toInt = r5.toInt - 1 := by rw [pt_sub (by rw [pl_1]; omega) (by rw [pl_1]; omega), pl_1]
    refine hq _ (fun o => ⟨fun h => ?_, fun h => absurd n1 h⟩)
    have g := h5 o n1.1 n1.2
    rw [em]
    by_cases z : r5.toInt = 0
    · refine Or.inr ⟨by omega, fun i hi => ?_⟩
      apply Classical.byContradiction
      intro hn
      have := (g.2 i hi).mpr hn
      omega
    · refine Or.inl ⟨by omega, by omega, fun i hi => (g.2 i (by omega)).mp (by omega), fun i hi hc => ?_⟩
      apply Classical.byContradiction
      intro hn
      have := (g.2 i hc).mpr hn
      omega
set_option maxRecDepth 20000 in
set_option maxHeartbeats 8000000 in
theorem sf_X8_leaf {S : bT8} (hJ : J8 S) {a1 : Int32} {a2 : Int32} {Q : Int32 → Prop} (hq : ∀ r : Int32, Q r) : wp_X8_leaf S a1 a2 Q := by
  unfold wp_X8_leaf
  have rga1 := pt_rg a1
  have rga2 := pt_rg a2
  refine ⟨fun c1 => ?_, fun c1 => ?_⟩
  · try simp (disch := first | ((try simp (disch := first | ((try simp only [pn]) <;> omega) | fail) only [pn, pq]) <;> omega) | fail) only [pn, pq] at c1
    exact hq _ 
  · try simp (disch := first | ((try simp (disch := first | ((try simp only [pn]) <;> omega) | fail) only [pn, pq]) <;> omega) | fail) only [pn, pq] at c1
    refine sf_X1_count (J8g_leaves hJ) (fun r2 hr2_0 => ?_)
    have rgr2 := pt_rg r2
    try simp (disch := first | ((try simp (disch := first | ((try simp only [pn]) <;> omega) | fail) only [pn, pq]) <;> omega) | fail) only [pn, pq] at hr2_0
    refine ⟨fun c4 => ?_, fun c4 => ?_⟩
    · try simp (disch := first | ((try simp (disch := first | ((try simp only [pn]) <;> omega) | fail) only [pn, pq]) <;> omega) | fail) only [pn, pq] at c4
      refine ⟨fun c => ?_, fun c => ?_, fun c => ?_, fun c => ?_, fun c => ?_, fun c => ?_, fun c => ?_, fun c => ?_⟩
      · skip
        refine ⟨fun c5 => ?_, fun c5 => ?_⟩
        · try simp (disch := first | ((try simp (disch := first | ((try simp only [pn]) <;> omega) | fail) only [pn, pq]) <;> omega) | fail) only [pn, pq] at c5
          exact hq _ 
        · try simp (disch := first | ((try simp (disch := first | ((try simp only [pn]) <;> omega) | fail) only [pn, pq]) <;> omega) | fail) only [pn, pq] at c5
          refine sf_X1_lengthAt (J8g_leaves hJ) (fun r6 hr6_0 => ?_)
          have rgr6 := pt_rg r6
          try simp (disch := first | ((try simp (disch := first | ((try simp only [pn]) <;> omega) | fail) only [pn, pq]) <;> omega) | fail) only [pn, pq] at hr6_0
          refine ⟨fun c8 => ?_, fun c8 => ?_⟩
          · try simp (disch := first | ((try simp (disch := first | ((try simp only [pn]) <;> omega) | fail) only [pn, pq]) <;> omega) | fail) only [pn, pq] at c8
            refine sf_X0_bytesAt (J1g_owners (J8g_leaves hJ)) (fun r9  => ?_)
            refine sf_X8_octetAt  (fun r11  => ?_)
            have rgr11 := pt_rg r11
            exact hq _ 
          · try simp (disch := first | ((try simp (disch := first | ((try simp only [pn]) <;> omega) | fail) only [pn, pq]) <;> omega) | fail) only [pn, pq] at c8
            exact hq _ 
      · skip
        refine sf_X1_lengthAt (J8g_leaves hJ) (fun r13 hr13_0 => ?_)
        have rgr13 := pt_rg r13
        try simp (disch := first | ((try simp (disch := first | ((try simp only [pn]) <;> omega) | fail) only [pn, pq]) <;> omega) | fail) only [pn, pq] at hr13_0
        exact hq _ 
      · skip
        refine sf_X1_isEnded (J8g_leaves hJ) (fun r15 hzr15  => ?_)
        refine ⟨fun c17 => ?_, fun c17 => ?_⟩
        · try simp (disch := first | ((try simp (disch := first | ((try simp only [pn]) <;> omega) | fail) only [pn, pq]) <;> omega) | fail) only [pn, pq] at c17
          exact hq _ 
        · try simp (disch := first | ((try simp (disch := first | ((try simp only [pn]) <;> omega) | fail) only [pn, pq]) <;> omega) | fail) only [pn, pq] at c17
          exact hq _ 
      · skip
        refine sf_X1_hashAt (J8g_leaves hJ) (fun r18  => ?_)
        have rgr18 := pt_rg r18
        exact hq _ 
      · skip
        refine sf_X1_nextAt (J8g_leaves hJ) (fun r20  => ?_)
        have rgr20 := pt_rg r20
        exact hq _ 
      · skip
        refine sf_X8_at (by decide) (fun r22 hr22_0 => ?_)
        have rgr22 := pt_rg r22
        try simp (disch := first | ((try simp (disch := first | ((try simp only [pn]) <;> omega) | fail) only [pn, pq]) <;> omega) | fail) only [pn, pq] at hr22_0
        exact hq _ 
      · skip
        refine sf_X8_at (by decide) (fun r24 hr24_0 => ?_)
        have rgr24 := pt_rg r24
        try simp (disch := first | ((try simp (disch := first | ((try simp only [pn]) <;> omega) | fail) only [pn, pq]) <;> omega) | fail) only [pn, pq] at hr24_0
        exact hq _ 
      · skip
        refine sf_X8_at (by decide) (fun r26 hr26_0 => ?_)
        have rgr26 := pt_rg r26
        try simp (disch := first | ((try simp (disch := first | ((try simp only [pn]) <;> omega) | fail) only [pn, pq]) <;> omega) | fail) only [pn, pq] at hr26_0
        exact hq _ 
    · try simp (disch := first | ((try simp (disch := first | ((try simp only [pn]) <;> omega) | fail) only [pn, pq]) <;> omega) | fail) only [pn, pq] at c4
      exact hq _ 
set_option maxRecDepth 20000 in
set_option maxHeartbeats 8000000 in
theorem sf_X8_leafAt {S : bT8} (hJ : J8 S) {a1 : Int32} {Q : Int32 → Prop} (hq : ∀ r : Int32, Q r) : wp_X8_leafAt S a1 Q := by
  unfold wp_X8_leafAt
  have rga1 := pt_rg a1
  refine ⟨fun c1 => ?_, fun c1 => ?_⟩
  · try simp (disch := first | ((try simp (disch := first | ((try simp only [pn]) <;> omega) | fail) only [pn, pq]) <;> omega) | fail) only [pn, pq] at c1
    exact hq _ 
  · try simp (disch := first | ((try simp (disch := first | ((try simp only [pn]) <;> omega) | fail) only [pn, pq]) <;> omega) | fail) only [pn, pq] at c1
    refine sf_X1_count (J8g_leaves hJ) (fun r2 hr2_0 => ?_)
    have rgr2 := pt_rg r2
    try simp (disch := first | ((try simp (disch := first | ((try simp only [pn]) <;> omega) | fail) only [pn, pq]) <;> omega) | fail) only [pn, pq] at hr2_0
    refine ⟨fun c4 => ?_, fun c4 => ?_⟩
    · try simp (disch := first | ((try simp (disch := first | ((try simp only [pn]) <;> omega) | fail) only [pn, pq]) <;> omega) | fail) only [pn, pq] at c4
      exact hq _ 
    · try simp (disch := first | ((try simp (disch := first | ((try simp only [pn]) <;> omega) | fail) only [pn, pq]) <;> omega) | fail) only [pn, pq] at c4
      refine sf_X8_at (by decide) (fun r5 hr5_0 => ?_)
      have rgr5 := pt_rg r5
      try simp (disch := first | ((try simp (disch := first | ((try simp only [pn]) <;> omega) | fail) only [pn, pq]) <;> omega) | fail) only [pn, pq] at hr5_0
      exact hq _ 
set_option maxRecDepth 20000 in
set_option maxHeartbeats 8000000 in
theorem sf_X8_node {S : bT8} (hJ : J8 S) {a1 : Int32} {a2 : Int32} {Q : Int32 → Prop} (hq : ∀ r : Int32, Q r) : wp_X8_node S a1 a2 Q := by
  unfold wp_X8_node
  have jf1 := J6g_nodes (J8g_tree hJ)
  have rga1 := pt_rg a1
  have rga2 := pt_rg a2
  refine ⟨fun c1 => ?_, fun c1 => ?_⟩
  · try simp (disch := first | ((try simp (disch := first | ((try simp only [pn]) <;> omega) | fail) only [pn, pq]) <;> omega) | fail) only [pn, pq] at c1
    exact hq _ 
  · try simp (disch := first | ((try simp (disch := first | ((try simp only [pn]) <;> omega) | fail) only [pn, pq]) <;> omega) | fail) only [pn, pq] at c1
    refine ⟨fun c2 => ?_, fun c2 => ?_⟩
    · try simp (disch := first | ((try simp (disch := first | ((try simp only [pn]) <;> omega) | fail) only [pn, pq]) <;> omega) | fail) only [pn, pq] at c2
      refine ⟨fun c => ?_, fun c => ?_, fun c => ?_, fun c => ?_, fun c => ?_, fun c => ?_, fun c => ?_, fun c => ?_⟩
      · skip
        exact hq _ 
      · skip
        refine sf_X8_at (by decide) (fun r3 hr3_0 => ?_)
        have rgr3 := pt_rg r3
        try simp (disch := first | ((try simp (disch := first | ((try simp only [pn]) <;> omega) | fail) only [pn, pq]) <;> omega) | fail) only [pn, pq] at hr3_0
        exact hq _ 
      · skip
        refine sf_X6_branches (J8g_tree hJ) (fun r5  => ?_)
        have rgr5 := pt_rg r5
        exact hq _ 
      · skip
        refine sf_X6_childrenOf (J8g_tree hJ) (fun r7  => ?_)
        have rgr7 := pt_rg r7
        exact hq _ 
      · skip
        refine sf_X6_endsAmong (J8g_tree hJ) (fun r9  => ?_)
        have rgr9 := pt_rg r9
        exact hq _ 
      · skip
        refine ⟨fun c11 => ?_, fun c11 => ?_⟩
        · try simp (disch := first | ((try simp (disch := first | ((try simp only [pn]) <;> omega) | fail) only [pn, pq]) <;> omega) | fail) only [pn, pq] at c11
          exact hq _ 
        · try simp (disch := first | ((try simp (disch := first | ((try simp only [pn]) <;> omega) | fail) only [pn, pq]) <;> omega) | fail) only [pn, pq] at c11
          exact hq _ 
      · skip
        refine sf_X8_at (by decide) (fun r12 hr12_0 => ?_)
        have rgr12 := pt_rg r12
        try simp (disch := first | ((try simp (disch := first | ((try simp only [pn]) <;> omega) | fail) only [pn, pq]) <;> omega) | fail) only [pn, pq] at hr12_0
        exact hq _ 
      · skip
        refine sf_X8_at (by decide) (fun r14 hr14_0 => ?_)
        have rgr14 := pt_rg r14
        try simp (disch := first | ((try simp (disch := first | ((try simp only [pn]) <;> omega) | fail) only [pn, pq]) <;> omega) | fail) only [pn, pq] at hr14_0
        exact hq _ 
    · try simp (disch := first | ((try simp (disch := first | ((try simp only [pn]) <;> omega) | fail) only [pn, pq]) <;> omega) | fail) only [pn, pq] at c2
      exact hq _ 
set_option maxRecDepth 20000 in
set_option maxHeartbeats 8000000 in
theorem sf_X8_child {S : bT8} (hJ : J8 S) {a1 : Int32} {a2 : Int32} {Q : Int32 → Prop} (hq : ∀ r : Int32, Q r) : wp_X8_child S a1 a2 Q := by
  unfold wp_X8_child
  have jf1 := J6g_nodes (J8g_tree hJ)
  have rga1 := pt_rg a1
  have rga2 := pt_rg a2
  refine ⟨fun c1 => ?_, fun c1 => ?_⟩
  · try simp (disch := first | ((try simp (disch := first | ((try simp only [pn]) <;> omega) | fail) only [pn, pq]) <;> omega) | fail) only [pn, pq] at c1
    exact hq _ 
  · try simp (disch := first | ((try simp (disch := first | ((try simp only [pn]) <;> omega) | fail) only [pn, pq]) <;> omega) | fail) only [pn, pq] at c1
    refine ⟨fun c2 => ?_, fun c2 => ?_⟩
    · try simp (disch := first | ((try simp (disch := first | ((try simp only [pn]) <;> omega) | fail) only [pn, pq]) <;> omega) | fail) only [pn, pq] at c2
      exact hq _ 
    · try simp (disch := first | ((try simp (disch := first | ((try simp only [pn]) <;> omega) | fail) only [pn, pq]) <;> omega) | fail) only [pn, pq] at c2
      refine ⟨fun c3 => ?_, fun c3 => ?_⟩
      · try simp (disch := first | ((try simp (disch := first | ((try simp only [pn]) <;> omega) | fail) only [pn, pq]) <;> omega) | fail) only [pn, pq] at c3
        exact hq _ 
      · try simp (disch := first | ((try simp (disch := first | ((try simp only [pn]) <;> omega) | fail) only [pn, pq]) <;> omega) | fail) only [pn, pq] at c3
        refine ⟨fun c4 => ?_, fun c4 => ?_⟩
        · try simp (disch := first | ((try simp (disch := first | ((try simp only [pn]) <;> omega) | fail) only [pn, pq]) <;> omega) | fail) only [pn, pq] at c4
          refine sf_X6_goneAlong (J8g_tree hJ) (fun r5  => ?_)
          have rgr5 := pt_rg r5
          exact hq _ 
        · try simp (disch := first | ((try simp (disch := first | ((try simp only [pn]) <;> omega) | fail) only [pn, pq]) <;> omega) | fail) only [pn, pq] at c4
          exact hq _ 
set_option maxRecDepth 20000 in
set_option maxHeartbeats 8000000 in
theorem sf_X8_level {S : bT8} (hJ : J8 S) {a1 : Int32} {a2 : Int32} {Q : Int32 → Prop} (hq : ∀ r : Int32, Q r) : wp_X8_level S a1 a2 Q := by
  unfold wp_X8_level
  have jf1 := J6g_levels (J8g_tree hJ)
  have rga1 := pt_rg a1
  have rga2 := pt_rg a2
  refine ⟨fun c1 => ?_, fun c1 => ?_⟩
  · try simp (disch := first | ((try simp (disch := first | ((try simp only [pn]) <;> omega) | fail) only [pn, pq]) <;> omega) | fail) only [pn, pq] at c1
    exact hq _ 
  · try simp (disch := first | ((try simp (disch := first | ((try simp only [pn]) <;> omega) | fail) only [pn, pq]) <;> omega) | fail) only [pn, pq] at c1
    refine ⟨fun c2 => ?_, fun c2 => ?_⟩
    · try simp (disch := first | ((try simp (disch := first | ((try simp only [pn]) <;> omega) | fail) only [pn, pq]) <;> omega) | fail) only [pn, pq] at c2
      refine sf_X8_at (by decide) (fun r3 hr3_0 => ?_)
      have rgr3 := pt_rg r3
      try simp (disch := first | ((try simp (disch := first | ((try simp only [pn]) <;> omega) | fail) only [pn, pq]) <;> omega) | fail) only [pn, pq] at hr3_0
      refine sf_X8_at (by decide) (fun r5 hr5_0 => ?_)
      have rgr5 := pt_rg r5
      try simp (disch := first | ((try simp (disch := first | ((try simp only [pn]) <;> omega) | fail) only [pn, pq]) <;> omega) | fail) only [pn, pq] at hr5_0
      refine ⟨fun c => ?_, fun c => ?_, fun c => ?_, fun c => ?_, fun c => ?_, fun c => ?_⟩
      · skip
        exact hq _ 
      · skip
        exact hq _ 
      · skip
        refine sf_X6_branches (J8g_tree hJ) (fun r7  => ?_)
        have rgr7 := pt_rg r7
        exact hq _ 
      · skip
        refine sf_X1_ofLevel (J8g_leaves hJ) (fun r9  => ?_)
        have rgr9 := pt_rg r9
        exact hq _ 
      · skip
        refine ⟨fun c11 => ?_, fun c11 => ?_⟩
        · try simp (disch := first | ((try simp (disch := first | ((try simp only [pn]) <;> omega) | fail) only [pn, pq]) <;> omega) | fail) only [pn, pq] at c11
          exact hq _ 
        · try simp (disch := first | ((try simp (disch := first | ((try simp only [pn]) <;> omega) | fail) only [pn, pq]) <;> omega) | fail) only [pn, pq] at c11
          exact hq _ 
      · skip
        refine ⟨fun c12 => ?_, fun c12 => ?_⟩
        · try simp (disch := first | ((try simp (disch := first | ((try simp only [pn]) <;> omega) | fail) only [pn, pq]) <;> omega) | fail) only [pn, pq] at c12
          refine sf_X6_edgesAmong (J8g_tree hJ) (fun r13  => ?_)
          have rgr13 := pt_rg r13
          exact hq _ 
        · try simp (disch := first | ((try simp (disch := first | ((try simp only [pn]) <;> omega) | fail) only [pn, pq]) <;> omega) | fail) only [pn, pq] at c12
          exact hq _ 
    · try simp (disch := first | ((try simp (disch := first | ((try simp only [pn]) <;> omega) | fail) only [pn, pq]) <;> omega) | fail) only [pn, pq] at c2
      exact hq _ 
set_option maxRecDepth 20000 in
set_option maxHeartbeats 8000000 in
theorem sf_X8_item {S : bT8} (hJ : J8 S) {a1 : Int32} {a2 : Int32} {Q : Int32 → Prop} (hq : ∀ r : Int32, Q r) : wp_X8_item S a1 a2 Q := by
  unfold wp_X8_item
  have jf1 := J6g_itemStart (J8g_tree hJ)
  have rga1 := pt_rg a1
  have rga2 := pt_rg a2
  refine ⟨fun c1 => ?_, fun c1 => ?_⟩
  · try simp (disch := first | ((try simp (disch := first | ((try simp only [pn]) <;> omega) | fail) only [pn, pq]) <;> omega) | fail) only [pn, pq] at c1
    exact hq _ 
  · try simp (disch := first | ((try simp (disch := first | ((try simp only [pn]) <;> omega) | fail) only [pn, pq]) <;> omega) | fail) only [pn, pq] at c1
    refine sf_X6_items (J8g_tree hJ) (fun r2  => ?_)
    have rgr2 := pt_rg r2
    refine ⟨fun c4 => ?_, fun c4 => ?_⟩
    · try simp (disch := first | ((try simp (disch := first | ((try simp only [pn]) <;> omega) | fail) only [pn, pq]) <;> omega) | fail) only [pn, pq] at c4
      refine ⟨fun c => ?_, fun c => ?_, fun c => ?_, fun c => ?_, fun c => ?_⟩
      · skip
        exact hq _ 
      · skip
        refine sf_X8_at (by decide) (fun r5 hr5_0 => ?_)
        have rgr5 := pt_rg r5
        try simp (disch := first | ((try simp (disch := first | ((try simp only [pn]) <;> omega) | fail) only [pn, pq]) <;> omega) | fail) only [pn, pq] at hr5_0
        exact hq _ 
      · skip
        refine sf_X6_isEnd (J8g_tree hJ) (fun r7 hzr7  => ?_)
        refine ⟨fun c9 => ?_, fun c9 => ?_⟩
        · try simp (disch := first | ((try simp (disch := first | ((try simp only [pn]) <;> omega) | fail) only [pn, pq]) <;> omega) | fail) only [pn, pq] at c9
          exact hq _ 
        · try simp (disch := first | ((try simp (disch := first | ((try simp only [pn]) <;> omega) | fail) only [pn, pq]) <;> omega) | fail) only [pn, pq] at c9
          exact hq _ 
      · skip
        refine sf_X6_hasChild (J8g_tree hJ) (fun r10 hzr10  => ?_)
        refine ⟨fun c12 => ?_, fun c12 => ?_⟩
        · try simp (disch := first | ((try simp (disch := first | ((try simp only [pn]) <;> omega) | fail) only [pn, pq]) <;> omega) | fail) only [pn, pq] at c12
          exact hq _ 
        · try simp (disch := first | ((try simp (disch := first | ((try simp only [pn]) <;> omega) | fail) only [pn, pq]) <;> omega) | fail) only [pn, pq] at c12
          exact hq _ 
      · skip
        refine sf_X8_at (by decide) (fun r13 hr13_0 => ?_)
        have rgr13 := pt_rg r13
        try simp (disch := first | ((try simp (disch := first | ((try simp only [pn]) <;> omega) | fail) only [pn, pq]) <;> omega) | fail) only [pn, pq] at hr13_0
        exact hq _ 
    · try simp (disch := first | ((try simp (disch := first | ((try simp only [pn]) <;> omega) | fail) only [pn, pq]) <;> omega) | fail) only [pn, pq] at c4
      exact hq _ 
set_option maxRecDepth 20000 in
set_option maxHeartbeats 8000000 in
theorem sf_X8_bit {S : bT8} (hJ : J8 S) {a1 : Int32} {Q : Int32 → Prop} (hq : ∀ r : Int32, Q r) : wp_X8_bit S a1 Q := by
  unfold wp_X8_bit
  have rga1 := pt_rg a1
  refine ⟨fun c1 => ?_, fun c1 => ?_⟩
  · try simp (disch := first | ((try simp (disch := first | ((try simp only [pn]) <;> omega) | fail) only [pn, pq]) <;> omega) | fail) only [pn, pq] at c1
    exact hq _ 
  · try simp (disch := first | ((try simp (disch := first | ((try simp only [pn]) <;> omega) | fail) only [pn, pq]) <;> omega) | fail) only [pn, pq] at c1
    refine sf_X6_rowLength (J8g_tree hJ) (fun r2  => ?_)
    have rgr2 := pt_rg r2
    refine ⟨fun c4 => ?_, fun c4 => ?_⟩
    · try simp (disch := first | ((try simp (disch := first | ((try simp only [pn]) <;> omega) | fail) only [pn, pq]) <;> omega) | fail) only [pn, pq] at c4
      refine sf_X6_onesAhead (J8g_tree hJ) (fun r5  => ?_)
      have rgr5 := pt_rg r5
      refine sf_X6_onesAhead (J8g_tree hJ) (fun r7  => ?_)
      have rgr7 := pt_rg r7
      exact hq _ 
    · try simp (disch := first | ((try simp (disch := first | ((try simp only [pn]) <;> omega) | fail) only [pn, pq]) <;> omega) | fail) only [pn, pq] at c4
      exact hq _ 
set_option maxRecDepth 20000 in
set_option maxHeartbeats 8000000 in
theorem sf_X8_rank {S : bT8} (hJ : J8 S) {a1 : Int32} {Q : Int32 → Prop} (hq : ∀ r : Int32, Q r) : wp_X8_rank S a1 Q := by
  unfold wp_X8_rank
  have rga1 := pt_rg a1
  refine ⟨fun c1 => ?_, fun c1 => ?_⟩
  · try simp (disch := first | ((try simp (disch := first | ((try simp only [pn]) <;> omega) | fail) only [pn, pq]) <;> omega) | fail) only [pn, pq] at c1
    exact hq _ 
  · try simp (disch := first | ((try simp (disch := first | ((try simp only [pn]) <;> omega) | fail) only [pn, pq]) <;> omega) | fail) only [pn, pq] at c1
    refine sf_X6_rowLength (J8g_tree hJ) (fun r2  => ?_)
    have rgr2 := pt_rg r2
    refine ⟨fun c4 => ?_, fun c4 => ?_⟩
    · try simp (disch := first | ((try simp (disch := first | ((try simp only [pn]) <;> omega) | fail) only [pn, pq]) <;> omega) | fail) only [pn, pq] at c4
      refine sf_X6_onesAhead (J8g_tree hJ) (fun r5  => ?_)
      have rgr5 := pt_rg r5
      exact hq _ 
    · try simp (disch := first | ((try simp (disch := first | ((try simp only [pn]) <;> omega) | fail) only [pn, pq]) <;> omega) | fail) only [pn, pq] at c4
      exact hq _ 
set_option maxRecDepth 20000 in
set_option maxHeartbeats 8000000 in
theorem sf_X8_select {S : bT8} (hJ : J8 S) {a1 : Int32} {Q : Int32 → Prop} (hq : ∀ r : Int32, Q r) : wp_X8_select S a1 Q := by
  unfold wp_X8_select
  have rga1 := pt_rg a1
  refine sf_X6_placeOfOne (J8g_tree hJ) (fun r1  => ?_)
  have rgr1 := pt_rg r1
  exact hq _ 
set_option maxRecDepth 20000 in
set_option maxHeartbeats 8000000 in
theorem sf_X8_bits {S : bT8} (hJ : J8 S) {a1 : Int32} {Q : Int32 → Prop} (hq : ∀ r : Int32, Q r) : wp_X8_bits S a1 Q := by
  unfold wp_X8_bits
  have rga1 := pt_rg a1
  intro v1 ev1
  have nv1 := congrArg Int32.toInt ev1
  try simp (disch := first | ((try simp (disch := first | ((try simp only [pn]) <;> omega) | fail) only [pn, pq]) <;> omega) | fail) only [pn, pq] at nv1
  refine sf_X6_bitsBy (J8g_tree hJ) (fun r2  => ?_)
  have rgr2 := pt_rg r2
  refine ⟨fun c => ?_, fun c => ?_, fun c => ?_, fun c => ?_, fun c => ?_, fun c => ?_, fun c => ?_, fun c => ?_⟩
  · skip
    exact hq _ 
  · skip
    exact hq _ 
  · skip
    exact hq _ 
  · skip
    refine sf_X1_tailBits (J8g_leaves hJ) (fun r4  => ?_)
    have rgr4 := pt_rg r4
    exact hq _ 
  · skip
    refine sf_X1_tailBits (J8g_leaves hJ) (fun r6  => ?_)
    have rgr6 := pt_rg r6
    exact hq _ 
  · skip
    refine sf_X0_allBytes (J1g_owners (J8g_leaves hJ)) (fun r8  => ?_)
    have rgr8 := pt_rg r8
    exact hq _ 
  · skip
    refine sf_X6_rowLength (J8g_tree hJ) (fun r10  => ?_)
    have rgr10 := pt_rg r10
    exact hq _ 
  · skip
    refine sf_X6_rowLength (J8g_tree hJ) (fun r12  => ?_)
    have rgr12 := pt_rg r12
    refine sf_X6_onesAhead (J8g_tree hJ) (fun r14  => ?_)
    have rgr14 := pt_rg r14
    exact hq _ 
set_option maxRecDepth 20000 in
set_option maxHeartbeats 8000000 in
theorem sf_X8_least {S : bT8} (hJ : J8 S) {a1 : Int32} {Q : Int32 → Prop} (hq : ∀ r : Int32, Q r) : wp_X8_least S a1 Q := by
  unfold wp_X8_least
  have jf1 := J6g_levels (J8g_tree hJ)
  have rga1 := pt_rg a1
  refine ⟨fun n x1q1 x2q1 x3q1 => (x1q1 = a1) ∧ (0 ≤ (x3q1).toInt) ∧ n = (((b6g_levels (b8g_tree S))).toInt + 1 - (x3q1).toInt).toNat, ⟨_, rfl, (by (try simp (disch := first | ((try simp (disch := first | ((try simp only [pn]) <;> omega) | fail) only [pn, pq]) <;> omega) | fail) only [pn, pq]) <;> (intros; (try simp (disch := first | ((try simp (disch := first | ((try simp only [pn]) <;> omega) | fail) only [pn, pq]) <;> omega) | fail) only [pn, pq]) <;> omega)), rfl⟩, ?_⟩
  rintro n2 x1q1 x2q1 x3q1 ⟨hkq1_0, hiq1_0, hn2⟩
  subst hkq1_0
  have rgx1q1 := pt_rg x1q1
  have rgx2q1 := pt_rg x2q1
  have rgx3q1 := pt_rg x3q1
  unfold wp_X8_least_4b
  refine ⟨fun c3 => ?_, fun c3 => ?_⟩
  · try simp (disch := first | ((try simp (disch := first | ((try simp only [pn]) <;> omega) | fail) only [pn, pq]) <;> omega) | fail) only [pn, pq] at c3
    refine ⟨fun c4 => ?_, fun c4 => ?_⟩
    · try simp (disch := first | ((try simp (disch := first | ((try simp only [pn]) <;> omega) | fail) only [pn, pq]) <;> omega) | fail) only [pn, pq] at c4
      refine ⟨fun c5 => ?_, fun c5 => ?_⟩
      · try simp (disch := first | ((try simp (disch := first | ((try simp only [pn]) <;> omega) | fail) only [pn, pq]) <;> omega) | fail) only [pn, pq] at c5
        exact hq _ 
      · try simp (disch := first | ((try simp (disch := first | ((try simp only [pn]) <;> omega) | fail) only [pn, pq]) <;> omega) | fail) only [pn, pq] at c5
        refine sf_X6_bitsBy (J8g_tree hJ) (fun r6  => ?_)
        have rgr6 := pt_rg r6
        refine sf_X1_tailBits (J8g_leaves hJ) (fun r8  => ?_)
        have rgr8 := pt_rg r8
        exact hq _ 
    · try simp (disch := first | ((try simp (disch := first | ((try simp only [pn]) <;> omega) | fail) only [pn, pq]) <;> omega) | fail) only [pn, pq] at c4
      exact hq _ 
  · try simp (disch := first | ((try simp (disch := first | ((try simp only [pn]) <;> omega) | fail) only [pn, pq]) <;> omega) | fail) only [pn, pq] at c3
    refine sf_X6_bitsBy (J8g_tree hJ) (fun r10  => ?_)
    have rgr10 := pt_rg r10
    refine sf_X6_bitsBy (J8g_tree hJ) (fun r12  => ?_)
    have rgr12 := pt_rg r12
    refine ⟨fun c14 => ?_, fun c14 => ?_⟩
    · try simp (disch := first | ((try simp (disch := first | ((try simp only [pn]) <;> omega) | fail) only [pn, pq]) <;> omega) | fail) only [pn, pq] at c14
      unfold wp_X8_least_36
      refine ⟨_, ?_, ?_, ?_, rfl⟩
      · (try simp (disch := first | ((try simp (disch := first | ((try simp only [pn]) <;> omega) | fail) only [pn, pq]) <;> omega) | fail) only [pn, pq]) <;> (intros; (try simp (disch := first | ((try simp (disch := first | ((try simp only [pn]) <;> omega) | fail) only [pn, pq]) <;> omega) | fail) only [pn, pq]) <;> omega)
      · first | rfl | assumption
      · (try simp (disch := first | ((try simp (disch := first | ((try simp only [pn]) <;> omega) | fail) only [pn, pq]) <;> omega) | fail) only [pn, pq]) <;> (intros; (try simp (disch := first | ((try simp (disch := first | ((try simp only [pn]) <;> omega) | fail) only [pn, pq]) <;> omega) | fail) only [pn, pq]) <;> omega)
    · try simp (disch := first | ((try simp (disch := first | ((try simp only [pn]) <;> omega) | fail) only [pn, pq]) <;> omega) | fail) only [pn, pq] at c14
      unfold wp_X8_least_36
      refine ⟨_, ?_, ?_, ?_, rfl⟩
      · (try simp (disch := first | ((try simp (disch := first | ((try simp only [pn]) <;> omega) | fail) only [pn, pq]) <;> omega) | fail) only [pn, pq]) <;> (intros; (try simp (disch := first | ((try simp (disch := first | ((try simp only [pn]) <;> omega) | fail) only [pn, pq]) <;> omega) | fail) only [pn, pq]) <;> omega)
      · first | rfl | assumption
      · (try simp (disch := first | ((try simp (disch := first | ((try simp only [pn]) <;> omega) | fail) only [pn, pq]) <;> omega) | fail) only [pn, pq]) <;> (intros; (try simp (disch := first | ((try simp (disch := first | ((try simp only [pn]) <;> omega) | fail) only [pn, pq]) <;> omega) | fail) only [pn, pq]) <;> omega)
set_option maxRecDepth 20000 in
set_option maxHeartbeats 8000000 in
theorem sf_X8_isCounted {a0 : Int32} {Q : Int32 → Prop} (hq : ∀ r : Int32, bf_bool r → (r.toInt = 0 ∨ (1 ≤ a0.toInt ∧ a0.toInt ≤ 7)) → ((r.toInt = 1 ∧ 1 ≤ a0.toInt ∧ a0.toInt ≤ 7) ∨ (r.toInt = 0 ∧ ¬ (1 ≤ a0.toInt ∧ a0.toInt ≤ 7))) → Q r) : wp_X8_isCounted a0 Q := by
  unfold wp_X8_isCounted
  have rga0 := pt_rg a0
  refine ⟨fun c1 => ?_, fun c1 => ?_⟩
  · try simp (disch := first | ((try simp (disch := first | ((try simp only [pn]) <;> omega) | fail) only [pn, pq]) <;> omega) | fail) only [pn, pq] at c1
    exact ⟨by first | rfl | assumption, hq _ (by first | rfl | assumption) (by (try simp (disch := first | ((try simp (disch := first | ((try simp only [pn]) <;> omega) | fail) only [pn, pq]) <;> omega) | fail) only [pn, pq]) <;> (intros; (try simp (disch := first | ((try simp (disch := first | ((try simp only [pn]) <;> omega) | fail) only [pn, pq]) <;> omega) | fail) only [pn, pq]) <;> omega)) (by (try simp (disch := first | ((try simp (disch := first | ((try simp only [pn]) <;> omega) | fail) only [pn, pq]) <;> omega) | fail) only [pn, pq]) <;> (intros; (try simp (disch := first | ((try simp (disch := first | ((try simp only [pn]) <;> omega) | fail) only [pn, pq]) <;> omega) | fail) only [pn, pq]) <;> omega))⟩
  · try simp (disch := first | ((try simp (disch := first | ((try simp only [pn]) <;> omega) | fail) only [pn, pq]) <;> omega) | fail) only [pn, pq] at c1
    refine ⟨fun c2 => ?_, fun c2 => ?_⟩
    · try simp (disch := first | ((try simp (disch := first | ((try simp only [pn]) <;> omega) | fail) only [pn, pq]) <;> omega) | fail) only [pn, pq] at c2
      exact ⟨by first | rfl | assumption, hq _ (by first | rfl | assumption) (by (try simp (disch := first | ((try simp (disch := first | ((try simp only [pn]) <;> omega) | fail) only [pn, pq]) <;> omega) | fail) only [pn, pq]) <;> (intros; (try simp (disch := first | ((try simp (disch := first | ((try simp only [pn]) <;> omega) | fail) only [pn, pq]) <;> omega) | fail) only [pn, pq]) <;> omega)) (by (try simp (disch := first | ((try simp (disch := first | ((try simp only [pn]) <;> omega) | fail) only [pn, pq]) <;> omega) | fail) only [pn, pq]) <;> (intros; (try simp (disch := first | ((try simp (disch := first | ((try simp only [pn]) <;> omega) | fail) only [pn, pq]) <;> omega) | fail) only [pn, pq]) <;> omega))⟩
    · try simp (disch := first | ((try simp (disch := first | ((try simp only [pn]) <;> omega) | fail) only [pn, pq]) <;> omega) | fail) only [pn, pq] at c2
      exact ⟨by first | rfl | assumption, hq _ (by first | rfl | assumption) (by (try simp (disch := first | ((try simp (disch := first | ((try simp only [pn]) <;> omega) | fail) only [pn, pq]) <;> omega) | fail) only [pn, pq]) <;> (intros; (try simp (disch := first | ((try simp (disch := first | ((try simp only [pn]) <;> omega) | fail) only [pn, pq]) <;> omega) | fail) only [pn, pq]) <;> omega)) (by (try simp (disch := first | ((try simp (disch := first | ((try simp only [pn]) <;> omega) | fail) only [pn, pq]) <;> omega) | fail) only [pn, pq]) <;> (intros; (try simp (disch := first | ((try simp (disch := first | ((try simp only [pn]) <;> omega) | fail) only [pn, pq]) <;> omega) | fail) only [pn, pq]) <;> omega))⟩
theorem sf_X8_cover {S : bT8} (hJ : J8 S) {a1 : Int32} {Q : Int64 → Prop} (hq : ∀ r : Int64, (LVO (b8g_leaves S) → ((1 ≤ a1.toInt ∧ a1.toInt ≤ 7) → r = COV (b0g_bytes (b1g_owners (b8g_leaves S))) (b0g_lengths (b1g_owners (b8g_leaves S))) (b0g_count (b1g_owners (b8g_leaves S))).toInt (b1g_realBits (b8g_leaves S)) a1 (b0g_count (b1g_owners (b8g_leaves S))).toInt.toNat) ∧ (¬ (1 ≤ a1.toInt ∧ a1.toInt ≤ 7) → r = -1)) → Q r) : wp_X8_cover S a1 Q := by
  unfold wp_X8_cover
  refine sf_X8_isCounted (fun r1 z1 _ h1 => ⟨fun c => hq _ (fun _ => ⟨fun g => ?_, fun _ => rfl⟩), fun c => sf_X1_covered (J8g_leaves hJ) (fun r3 h3 => hq _ (fun o => ⟨fun _ => h3 o, fun g => ?_⟩))⟩)
  · rw [c, pl_0] at h1; omega
  · simp only [pn] at c; omega
theorem sf_X8_loose {S : bT8} (hJ : J8 S) {a1 : Int32} {Q : Int64 → Prop} (hq : ∀ r : Int64, (LVO (b8g_leaves S) → ((1 ≤ a1.toInt ∧ a1.toInt ≤ 7) → r = LSE (COV (b0g_bytes (b1g_owners (b8g_leaves S))) (b0g_lengths (b1g_owners (b8g_leaves S))) (b0g_count (b1g_owners (b8g_leaves S))).toInt (b1g_realBits (b8g_leaves S)) a1 (b0g_count (b1g_owners (b8g_leaves S))).toInt.toNat) (b0g_lengths (b1g_owners (b8g_leaves S))) a1 (b0g_count (b1g_owners (b8g_leaves S))).toInt.toNat) ∧ (¬ (1 ≤ a1.toInt ∧ a1.toInt ≤ 7) → r = -1)) → Q r) : wp_X8_loose S a1 Q := by
  unfold wp_X8_loose
  refine sf_X8_isCounted (fun r1 z1 _ h1 => ⟨fun c => hq _ (fun _ => ⟨fun g => ?_, fun _ => rfl⟩), fun c => sf_X1_covered (J8g_leaves hJ) (fun r3 h3 => sf_X0_ofLength (J1g_owners (J8g_leaves hJ)) (fun r5 h5 => hq _ (fun o => ⟨fun _ => ?_, fun g => ?_⟩)))⟩)
  · rw [c, pl_0] at h1; omega
  · rw [h5, h3 o]
  · simp only [pn] at c; omega
theorem sf_X8_free {S : bT8} (hJ : J8 S) {a1 : Int32} {a2 : Int32} {Q : Int64 → Prop} (hq : ∀ r : Int64, (LVO (b8g_leaves S) → (((0 ≤ a1.toInt ∧ a1.toInt ≤ (b0g_count (b1g_owners (b8g_leaves S))).toInt) ∧ 1 ≤ a2.toInt ∧ a2.toInt ≤ 7) → r = FRE (b0g_bytes (b1g_owners (b8g_leaves S))) (b0g_lengths (b1g_owners (b8g_leaves S))) (b0g_count (b1g_owners (b8g_leaves S))).toInt (b1g_realBits (b8g_leaves S)) a1 a2) ∧ (¬ ((0 ≤ a1.toInt ∧ a1.toInt ≤ (b0g_count (b1g_owners (b8g_leaves S))).toInt) ∧ 1 ≤ a2.toInt ∧ a2.toInt ≤ 7) → r = -1)) → Q r) : wp_X8_free S a1 a2 Q := by
  have hL := J8g_leaves hJ
  have jo := J0g_count (J1g_owners hL)
  unfold wp_X8_free
  have bad : ¬ ((0 ≤ a1.toInt ∧ a1.toInt ≤ (b0g_count (b1g_owners (b8g_leaves S))).toInt) ∧ 1 ≤ a2.toInt ∧ a2.toInt ≤ 7) → Q (-1) := fun h => hq _ (fun _ => ⟨fun g => absurd g h, fun _ => rfl⟩)
  have tail : ((0 ≤ a1.toInt ∧ a1.toInt ≤ (b0g_count (b1g_owners (b8g_leaves S))).toInt) ∧ 1 ≤ a2.toInt ∧ a2.toInt ≤ 7) → ∀ t : Int64, (a1.toInt = 0 → t = 0) → (LVO (b8g_leaves S) → ¬ a1.toInt = 0 → ∃ (k : Int64) (l : Int32), t = CUP k l a2 ∧ ub k = HIV (b0g_bytes (b1g_owners (b8g_leaves S))) (b0g_lengths (b1g_owners (b8g_leaves S))) (b0g_count (b1g_owners (b8g_leaves S))).toInt (b1g_realBits (b8g_leaves S)) (a1.toInt.toNat - 1) ∧ l.toInt = (HIL (b0g_bytes (b1g_owners (b8g_leaves S))) (b0g_lengths (b1g_owners (b8g_leaves S))) (b0g_count (b1g_owners (b8g_leaves S))).toInt (a1.toInt.toNat - 1) : Nat)) → wp_X8_free_64 S a1 a2 t Q := by
    intro b t t0 t1
    unfold wp_X8_free_64
    refine sf_X1_count hL (fun r1 h1 => ⟨fun c => fx_bytesAt (J1g_lows hL) (fun r3 p3 _ => fx_lengthAt (J1g_lows hL) (fun r5 p5 _ => fx_countAhead (hq _ (fun o => ⟨fun _ => ?_, fun h => absurd b h⟩)))), fun c => hq _ (fun o => ⟨fun _ => ?_, fun h => absurd b h⟩)⟩)
    · simp only [pn] at c
      have q := (o.1.2.2 a1.toInt.toNat (by omega)).2
      have l1 := o.1.1
      have e3 := p3 a1.toInt.toNat (by omega) (by omega)
      have e5 := p5 a1.toInt.toNat (by omega) (by omega)
      exact FRE_s (fun h => absurd h (by omega)) (fun _ => ⟨r3, r5, rfl, by rw [e3]; exact q.1, by rw [e5]; exact q.2.1⟩) t0 (t1 o)
    · simp only [pn] at c
      exact FRE_s (fun _ => rfl) (fun h => absurd (by omega) h) t0 (t1 o)
  refine ⟨fun c => bad ?_, fun c => sf_X1_count hL (fun r9 h9 => ⟨fun d => bad ?_, fun d => sf_X8_isCounted (fun r11 z11 _ h11 => ⟨fun e => ⟨fun k => ?_, fun k => ?_⟩, fun e => bad ?_⟩)⟩)⟩
  · simp only [pn] at c; omega
  · simp only [pn] at d; omega
  · simp only [pn] at c d e k
    have b : ((0 ≤ a1.toInt ∧ a1.toInt ≤ (b0g_count (b1g_owners (b8g_leaves S))).toInt) ∧ 1 ≤ a2.toInt ∧ a2.toInt ≤ 7) := by omega
    have am : (a1 - 1).toInt = a1.toInt - 1 := by rw [pt_sub (by rw [pl_1]; omega) (by rw [pl_1]; omega), pl_1]
    refine fx_bytesAt (J1g_highs hL) (fun r13 p13 _ => fx_lengthAt (J1g_highs hL) (fun r15 p15 _ => fx_countUpTo (tail b _ (fun h => absurd h k) (fun o _ => ⟨r13, r15, rfl, ?_, ?_⟩))))
    · have q := (o.1.2.2 (a1.toInt.toNat - 1) (by omega)).2
      have l2 := o.1.2.1
      rw [p13 (a1.toInt.toNat - 1) (by omega) (by omega)]
      exact q.2.2.1
    · have q := (o.1.2.2 (a1.toInt.toNat - 1) (by omega)).2
      have l2 := o.1.2.1
      rw [p15 (a1.toInt.toNat - 1) (by omega) (by omega)]
      exact q.2.2.2
  · simp only [pn] at c d e k
    exact tail (by omega) 0 (fun _ => rfl) (fun _ h => absurd k h)
  · simp only [pn] at e; omega
theorem sf_X8_spread {S : bT8} (hJ : J8 S) {a1 : Int32} {a2 : Int32} {a3 : Int32} {a4 : Int32} {Q : Int32 → Prop} (hq : ∀ r : Int32, (LVO (b8g_leaves S) → (((1 ≤ a3.toInt ∧ a3.toInt ≤ 7) ∧ 0 ≤ a4.toInt ∧ a4.toInt ≤ 2) → SPO (fun c => MAY (b0g_bytes (b1g_owners (b8g_leaves S))) (b0g_lengths (b1g_owners (b8g_leaves S))) (b0g_count (b1g_owners (b8g_leaves S))).toInt (b1g_realBits (b8g_leaves S)) (b1g_salt (b8g_leaves S)) (b1g_hashBits (b8g_leaves S)) (SPK (KEY a1 a2 a3) a3 c) (a3 + 1) 1) (fun c => VRD (b0g_bytes (b1g_owners (b8g_leaves S))) (b0g_lengths (b1g_owners (b8g_leaves S))) (b0g_count (b1g_owners (b8g_leaves S))).toInt (b1g_realBits (b8g_leaves S)) (b1g_salt (b8g_leaves S)) (b1g_hashBits (b8g_leaves S)) (SPK (KEY a1 a2 a3) a3 c) (a3 + 1) 2) a4.toInt r.toInt) ∧ (¬ ((1 ≤ a3.toInt ∧ a3.toInt ≤ 7) ∧ 0 ≤ a4.toInt ∧ a4.toInt ≤ 2) → r.toInt = -1)) → Q r) : wp_X8_spread S a1 a2 a3 a4 Q := by
  unfold wp_X8_spread
  have bad : ¬ ((1 ≤ a3.toInt ∧ a3.toInt ≤ 7) ∧ 0 ≤ a4.toInt ∧ a4.toInt ≤ 2) → Q (-1) := fun h => hq _ (fun _ => ⟨fun g => absurd g h, fun _ => rfl⟩)
  refine sf_X8_isCounted (fun r5 z5 _ h5 => ⟨fun c => bad ?_, fun c => ⟨fun d => bad ?_, fun d => ⟨fun e => sf_X8_keyOf (fun r7 h7 => ?_), fun e => bad ?_⟩⟩⟩)
  · rw [c, pl_0] at h5; omega
  · simp only [pn] at d; omega
  rotate_left
  · simp only [pn] at e; omega
  simp only [pn] at c d e
  have ok : (1 ≤ a3.toInt ∧ a3.toInt ≤ 7) ∧ 0 ≤ a4.toInt ∧ a4.toInt ≤ 2 := by omega
  have e7 := h7 (by omega) (by omega)
  have a3' : (a3 + 1).toInt = a3.toInt + 1 := by rw [pt_add (by rw [pl_1]; omega) (by rw [pl_1]; omega), pl_1]
  unfold wp_X8_spread_40
  refine ⟨fun n x3 x4 x5 x7 x8 x9 x10 => x3 = a3 ∧ x4 = a4 ∧ x5 = KEY a1 a2 a3 ∧ 0 ≤ x10.toInt ∧ x10.toInt ≤ 256 ∧ 0 ≤ x7.toInt ∧ x7.toInt ≤ x10.toInt ∧ 0 ≤ x8.toInt ∧ x8.toInt ≤ x10.toInt ∧ (LVO (b8g_leaves S) → x7.toInt = CTP (fun c => (MAY (b0g_bytes (b1g_owners (b8g_leaves S))) (b0g_lengths (b1g_owners (b8g_leaves S))) (b0g_count (b1g_owners (b8g_leaves S))).toInt (b1g_realBits (b8g_leaves S)) (b1g_salt (b8g_leaves S)) (b1g_hashBits (b8g_leaves S)) (SPK (KEY a1 a2 a3) a3 c) (a3 + 1) 1)) x10.toInt.toNat ∧ x8.toInt = CTP (fun c => (VRD (b0g_bytes (b1g_owners (b8g_leaves S))) (b0g_lengths (b1g_owners (b8g_leaves S))) (b0g_count (b1g_owners (b8g_leaves S))).toInt (b1g_realBits (b8g_leaves S)) (b1g_salt (b8g_leaves S)) (b1g_hashBits (b8g_leaves S)) (SPK (KEY a1 a2 a3) a3 c) (a3 + 1) 2)) x10.toInt.toNat ∧ (((x9).toInt = -1 ∧ ∀ c : Nat, (c : Int) < (x10).toInt → ¬ (MAY (b0g_bytes (b1g_owners (b8g_leaves S))) (b0g_lengths (b1g_owners (b8g_leaves S))) (b0g_count (b1g_owners (b8g_leaves S))).toInt (b1g_realBits (b8g_leaves S)) (b1g_salt (b8g_leaves S)) (b1g_hashBits (b8g_leaves S)) (SPK (KEY a1 a2 a3) a3 c) (a3 + 1) 1)) ∨ (0 ≤ (x9).toInt ∧ (x9).toInt < (x10).toInt ∧ (∀ c : Nat, (c : Int) = (x9).toInt → (MAY (b0g_bytes (b1g_owners (b8g_leaves S))) (b0g_lengths (b1g_owners (b8g_leaves S))) (b0g_count (b1g_owners (b8g_leaves S))).toInt (b1g_realBits (b8g_leaves S)) (b1g_salt (b8g_leaves S)) (b1g_hashBits (b8g_leaves S)) (SPK (KEY a1 a2 a3) a3 c) (a3 + 1) 1)) ∧ ∀ c : Nat, (c : Int) < (x9).toInt → ¬ (MAY (b0g_bytes (b1g_owners (b8g_leaves S))) (b0g_lengths (b1g_owners (b8g_leaves S))) (b0g_count (b1g_owners (b8g_leaves S))).toInt (b1g_realBits (b8g_leaves S)) (b1g_salt (b8g_leaves S)) (b1g_hashBits (b8g_leaves S)) (SPK (KEY a1 a2 a3) a3 c) (a3 + 1) 1)))) ∧ n = (256 - x10.toInt).toNat, ⟨_, rfl, rfl, e7, by decide, by decide, by decide, by decide, by decide, by decide, fun _ => ⟨rfl, rfl, Or.inl ⟨rfl, fun c hc => by rw [pl_0] at hc; omega⟩⟩, rfl⟩, ?_⟩
  rintro n x3 x4 x5 x7 x8 x9 x10 ⟨e3, e4, e5, h0, h1, p0, p1, q0, q1, hI, hn⟩
  unfold wp_X8_spread_40b
  rw [e3, e4, e5]
  have e256 : ((256 : Int32)).toInt = 256 := rfl
  refine ⟨fun g => ?_, fun g => ?_⟩
  · simp only [pn] at g
    have ex : x10.toInt.toNat = 256 := by omega
    have fin : ∀ r : Int32, (LVO (b8g_leaves S) → SPO (fun c => (MAY (b0g_bytes (b1g_owners (b8g_leaves S))) (b0g_lengths (b1g_owners (b8g_leaves S))) (b0g_count (b1g_owners (b8g_leaves S))).toInt (b1g_realBits (b8g_leaves S)) (b1g_salt (b8g_leaves S)) (b1g_hashBits (b8g_leaves S)) (SPK (KEY a1 a2 a3) a3 c) (a3 + 1) 1)) (fun c => (VRD (b0g_bytes (b1g_owners (b8g_leaves S))) (b0g_lengths (b1g_owners (b8g_leaves S))) (b0g_count (b1g_owners (b8g_leaves S))).toInt (b1g_realBits (b8g_leaves S)) (b1g_salt (b8g_leaves S)) (b1g_hashBits (b8g_leaves S)) (SPK (KEY a1 a2 a3) a3 c) (a3 + 1) 2)) a4.toInt r.toInt) → Q r := fun r hr => hq _ (fun o => ⟨fun _ => hr o, fun h => absurd ok h⟩)
    refine ⟨fun k => ⟨fun l => fin _ (fun o => ?_), fun l => fin _ (fun o => ?_)⟩, fun k => fin _ (fun o => ?_)⟩
    · simp only [pn] at k l
      obtain ⟨i1, i2, i3⟩ := hI o
      exact ⟨fun h => by omega, fun h => by rw [i2, ex], fun h => by omega⟩
    · simp only [pn] at k l
      obtain ⟨i1, i2, i3⟩ := hI o
      exact ⟨fun h => by rw [i1, ex], fun h => by omega, fun h => by omega⟩
    · simp only [pn] at k
      obtain ⟨i1, i2, i3⟩ := hI o
      refine ⟨fun h => by omega, fun h => by omega, fun _ => ?_⟩
      rcases i3 with ⟨u, v⟩ | ⟨u, v, w, y⟩
      · exact Or.inl ⟨u, fun c hc => v c (by omega)⟩
      · exact Or.inr ⟨u, by omega, w, y⟩
  simp only [pn] at g
  have x10' : (x10 + 1).toInt = x10.toInt + 1 := by rw [pt_add (by rw [pl_1]; omega) (by rw [pl_1]; omega), pl_1]
  have x7' : (x7 + 1).toInt = x7.toInt + 1 := by rw [pt_add (by rw [pl_1]; omega) (by rw [pl_1]; omega), pl_1]
  have x8' : (x8 + 1).toInt = x8.toInt + 1 := by rw [pt_add (by rw [pl_1]; omega) (by rw [pl_1]; omega), pl_1]
  refine fx_octetTo (fun r1 g1 => sf_X1_verdictOf (J8g_leaves hJ) (fun r3 v0 v2 h3 => ?_))
  have ek : KEY a1 a2 a3 ||| r1 = SPK (KEY a1 a2 a3) a3 x10.toInt.toNat := by
    unfold SPK
    rw [g1 (by omega) (by omega), nI_back h0]
  rw [ek] at h3
  have hv : LVO (b8g_leaves S) → VRD (b0g_bytes (b1g_owners (b8g_leaves S))) (b0g_lengths (b1g_owners (b8g_leaves S))) (b0g_count (b1g_owners (b8g_leaves S))).toInt (b1g_realBits (b8g_leaves S)) (b1g_salt (b8g_leaves S)) (b1g_hashBits (b8g_leaves S)) (SPK (KEY a1 a2 a3) a3 x10.toInt.toNat) (a3 + 1) r3.toInt := fun o => h3 o (by omega) (by omega)
  have step : ∀ y7 y8 y9 : Int32, 0 ≤ y7.toInt → y7.toInt ≤ (x10 + 1).toInt → 0 ≤ y8.toInt → y8.toInt ≤ (x10 + 1).toInt → (LVO (b8g_leaves S) → y7.toInt = CTP (fun c => (MAY (b0g_bytes (b1g_owners (b8g_leaves S))) (b0g_lengths (b1g_owners (b8g_leaves S))) (b0g_count (b1g_owners (b8g_leaves S))).toInt (b1g_realBits (b8g_leaves S)) (b1g_salt (b8g_leaves S)) (b1g_hashBits (b8g_leaves S)) (SPK (KEY a1 a2 a3) a3 c) (a3 + 1) 1)) (x10.toInt.toNat + 1) ∧ y8.toInt = CTP (fun c => (VRD (b0g_bytes (b1g_owners (b8g_leaves S))) (b0g_lengths (b1g_owners (b8g_leaves S))) (b0g_count (b1g_owners (b8g_leaves S))).toInt (b1g_realBits (b8g_leaves S)) (b1g_salt (b8g_leaves S)) (b1g_hashBits (b8g_leaves S)) (SPK (KEY a1 a2 a3) a3 c) (a3 + 1) 2)) (x10.toInt.toNat + 1) ∧ (((y9).toInt = -1 ∧ ∀ c : Nat, (c : Int) < (x10 + 1).toInt → ¬ (MAY (b0g_bytes (b1g_owners (b8g_leaves S))) (b0g_lengths (b1g_owners (b8g_leaves S))) (b0g_count (b1g_owners (b8g_leaves S))).toInt (b1g_realBits (b8g_leaves S)) (b1g_salt (b8g_leaves S)) (b1g_hashBits (b8g_leaves S)) (SPK (KEY a1 a2 a3) a3 c) (a3 + 1) 1)) ∨ (0 ≤ (y9).toInt ∧ (y9).toInt < (x10 + 1).toInt ∧ (∀ c : Nat, (c : Int) = (y9).toInt → (MAY (b0g_bytes (b1g_owners (b8g_leaves S))) (b0g_lengths (b1g_owners (b8g_leaves S))) (b0g_count (b1g_owners (b8g_leaves S))).toInt (b1g_realBits (b8g_leaves S)) (b1g_salt (b8g_leaves S)) (b1g_hashBits (b8g_leaves S)) (SPK (KEY a1 a2 a3) a3 c) (a3 + 1) 1)) ∧ ∀ c : Nat, (c : Int) < (y9).toInt → ¬ (MAY (b0g_bytes (b1g_owners (b8g_leaves S))) (b0g_lengths (b1g_owners (b8g_leaves S))) (b0g_count (b1g_owners (b8g_leaves S))).toInt (b1g_realBits (b8g_leaves S)) (b1g_salt (b8g_leaves S)) (b1g_hashBits (b8g_leaves S)) (SPK (KEY a1 a2 a3) a3 c) (a3 + 1) 1)))) → wp_X8_spread_101 S a3 a4 (KEY a1 a2 a3) y7 y8 y9 x10 Q (fun x3 x4 x5 x7 x8 x9 x10 => ∃ n2 : Nat, n2 < n ∧ x3 = a3 ∧ x4 = a4 ∧ x5 = KEY a1 a2 a3 ∧ 0 ≤ x10.toInt ∧ x10.toInt ≤ 256 ∧ 0 ≤ x7.toInt ∧ x7.toInt ≤ x10.toInt ∧ 0 ≤ x8.toInt ∧ x8.toInt ≤ x10.toInt ∧ (LVO (b8g_leaves S) → x7.toInt = CTP (fun c => (MAY (b0g_bytes (b1g_owners (b8g_leaves S))) (b0g_lengths (b1g_owners (b8g_leaves S))) (b0g_count (b1g_owners (b8g_leaves S))).toInt (b1g_realBits (b8g_leaves S)) (b1g_salt (b8g_leaves S)) (b1g_hashBits (b8g_leaves S)) (SPK (KEY a1 a2 a3) a3 c) (a3 + 1) 1)) x10.toInt.toNat ∧ x8.toInt = CTP (fun c => (VRD (b0g_bytes (b1g_owners (b8g_leaves S))) (b0g_lengths (b1g_owners (b8g_leaves S))) (b0g_count (b1g_owners (b8g_leaves S))).toInt (b1g_realBits (b8g_leaves S)) (b1g_salt (b8g_leaves S)) (b1g_hashBits (b8g_leaves S)) (SPK (KEY a1 a2 a3) a3 c) (a3 + 1) 2)) x10.toInt.toNat ∧ (((x9).toInt = -1 ∧ ∀ c : Nat, (c : Int) < (x10).toInt → ¬ (MAY (b0g_bytes (b1g_owners (b8g_leaves S))) (b0g_lengths (b1g_owners (b8g_leaves S))) (b0g_count (b1g_owners (b8g_leaves S))).toInt (b1g_realBits (b8g_leaves S)) (b1g_salt (b8g_leaves S)) (b1g_hashBits (b8g_leaves S)) (SPK (KEY a1 a2 a3) a3 c) (a3 + 1) 1)) ∨ (0 ≤ (x9).toInt ∧ (x9).toInt < (x10).toInt ∧ (∀ c : Nat, (c : Int) = (x9).toInt → (MAY (b0g_bytes (b1g_owners (b8g_leaves S))) (b0g_lengths (b1g_owners (b8g_leaves S))) (b0g_count (b1g_owners (b8g_leaves S))).toInt (b1g_realBits (b8g_leaves S)) (b1g_salt (b8g_leaves S)) (b1g_hashBits (b8g_leaves S)) (SPK (KEY a1 a2 a3) a3 c) (a3 + 1) 1)) ∧ ∀ c : Nat, (c : Int) < (x9).toInt → ¬ (MAY (b0g_bytes (b1g_owners (b8g_leaves S))) (b0g_lengths (b1g_owners (b8g_leaves S))) (b0g_count (b1g_owners (b8g_leaves S))).toInt (b1g_realBits (b8g_leaves S)) (b1g_salt (b8g_leaves S)) (b1g_hashBits (b8g_leaves S)) (SPK (KEY a1 a2 a3) a3 c) (a3 + 1) 1)))) ∧ n2 = (256 - x10.toInt).toNat) := by
    intro y7 y8 y9 a b c' d' hh
    unfold wp_X8_spread_101
    refine ⟨_, ?_, rfl, rfl, rfl, by omega, by omega, a, b, c', d', fun o => ?_, rfl⟩
    · omega
    · rw [show (x10 + 1).toInt.toNat = x10.toInt.toNat + 1 by omega]
      exact hh o
  refine ⟨fun z => ?_, fun z => ?_⟩
  · unfold wp_X8_spread_92
    refine ⟨fun _ => step x7 x8 x9 (by omega) (by omega) (by omega) (by omega) (fun o => ?_), fun y => ?_⟩
    · obtain ⟨i1, i2, i3⟩ := hI o
      have v := hv o
      rw [z, pl_0] at v
      have nm : ¬ (MAY (b0g_bytes (b1g_owners (b8g_leaves S))) (b0g_lengths (b1g_owners (b8g_leaves S))) (b0g_count (b1g_owners (b8g_leaves S))).toInt (b1g_realBits (b8g_leaves S)) (b1g_salt (b8g_leaves S)) (b1g_hashBits (b8g_leaves S)) (SPK (KEY a1 a2 a3) a3 x10.toInt.toNat) (a3 + 1) 1) := by
        intro hM
        rcases v with ⟨_, v⟩ | ⟨v, _⟩ | ⟨v, _⟩
        · have := MAY_one o.2.1 o.2.2.1 o.2.2.2.1 o.2.2.2.2 v hM
          omega
        · omega
        · omega
      have nv : ¬ (VRD (b0g_bytes (b1g_owners (b8g_leaves S))) (b0g_lengths (b1g_owners (b8g_leaves S))) (b0g_count (b1g_owners (b8g_leaves S))).toInt (b1g_realBits (b8g_leaves S)) (b1g_salt (b8g_leaves S)) (b1g_hashBits (b8g_leaves S)) (SPK (KEY a1 a2 a3) a3 x10.toInt.toNat) (a3 + 1) 2) := fun hV => by
        have := VRD_one o.2.1 o.2.2.1 o.2.2.2.1 o.2.2.2.2 v hV
        omega
      refine ⟨by rw [CTP_n (P := fun c => (MAY (b0g_bytes (b1g_owners (b8g_leaves S))) (b0g_lengths (b1g_owners (b8g_leaves S))) (b0g_count (b1g_owners (b8g_leaves S))).toInt (b1g_realBits (b8g_leaves S)) (b1g_salt (b8g_leaves S)) (b1g_hashBits (b8g_leaves S)) (SPK (KEY a1 a2 a3) a3 c) (a3 + 1) 1)) nm]; exact i1, by rw [CTP_n (P := fun c => (VRD (b0g_bytes (b1g_owners (b8g_leaves S))) (b0g_lengths (b1g_owners (b8g_leaves S))) (b0g_count (b1g_owners (b8g_leaves S))).toInt (b1g_realBits (b8g_leaves S)) (b1g_salt (b8g_leaves S)) (b1g_hashBits (b8g_leaves S)) (SPK (KEY a1 a2 a3) a3 c) (a3 + 1) 2)) nv]; exact i2, ?_⟩
      rcases i3 with ⟨u, w⟩ | ⟨u, w, w2, w3⟩
      · refine Or.inl ⟨u, fun c hc => ?_⟩
        by_cases e : c = x10.toInt.toNat
        · rw [e]; exact nm
        · exact w c (by omega)
      · exact Or.inr ⟨u, by omega, w2, w3⟩
    · rw [z] at y
      exact absurd y (by decide)
  · have body : ∀ y9 : Int32, (y9 = x9 ∧ ¬ x9 = -1) ∨ (y9 = x10 ∧ x9 = -1) → wp_X8_spread_92 S a3 a4 (KEY a1 a2 a3) (x7 + 1) x8 y9 x10 r3 Q (fun x3 x4 x5 x7 x8 x9 x10 => ∃ n2 : Nat, n2 < n ∧ x3 = a3 ∧ x4 = a4 ∧ x5 = KEY a1 a2 a3 ∧ 0 ≤ x10.toInt ∧ x10.toInt ≤ 256 ∧ 0 ≤ x7.toInt ∧ x7.toInt ≤ x10.toInt ∧ 0 ≤ x8.toInt ∧ x8.toInt ≤ x10.toInt ∧ (LVO (b8g_leaves S) → x7.toInt = CTP (fun c => (MAY (b0g_bytes (b1g_owners (b8g_leaves S))) (b0g_lengths (b1g_owners (b8g_leaves S))) (b0g_count (b1g_owners (b8g_leaves S))).toInt (b1g_realBits (b8g_leaves S)) (b1g_salt (b8g_leaves S)) (b1g_hashBits (b8g_leaves S)) (SPK (KEY a1 a2 a3) a3 c) (a3 + 1) 1)) x10.toInt.toNat ∧ x8.toInt = CTP (fun c => (VRD (b0g_bytes (b1g_owners (b8g_leaves S))) (b0g_lengths (b1g_owners (b8g_leaves S))) (b0g_count (b1g_owners (b8g_leaves S))).toInt (b1g_realBits (b8g_leaves S)) (b1g_salt (b8g_leaves S)) (b1g_hashBits (b8g_leaves S)) (SPK (KEY a1 a2 a3) a3 c) (a3 + 1) 2)) x10.toInt.toNat ∧ (((x9).toInt = -1 ∧ ∀ c : Nat, (c : Int) < (x10).toInt → ¬ (MAY (b0g_bytes (b1g_owners (b8g_leaves S))) (b0g_lengths (b1g_owners (b8g_leaves S))) (b0g_count (b1g_owners (b8g_leaves S))).toInt (b1g_realBits (b8g_leaves S)) (b1g_salt (b8g_leaves S)) (b1g_hashBits (b8g_leaves S)) (SPK (KEY a1 a2 a3) a3 c) (a3 + 1) 1)) ∨ (0 ≤ (x9).toInt ∧ (x9).toInt < (x10).toInt ∧ (∀ c : Nat, (c : Int) = (x9).toInt → (MAY (b0g_bytes (b1g_owners (b8g_leaves S))) (b0g_lengths (b1g_owners (b8g_leaves S))) (b0g_count (b1g_owners (b8g_leaves S))).toInt (b1g_realBits (b8g_leaves S)) (b1g_salt (b8g_leaves S)) (b1g_hashBits (b8g_leaves S)) (SPK (KEY a1 a2 a3) a3 c) (a3 + 1) 1)) ∧ ∀ c : Nat, (c : Int) < (x9).toInt → ¬ (MAY (b0g_bytes (b1g_owners (b8g_leaves S))) (b0g_lengths (b1g_owners (b8g_leaves S))) (b0g_count (b1g_owners (b8g_leaves S))).toInt (b1g_realBits (b8g_leaves S)) (b1g_salt (b8g_leaves S)) (b1g_hashBits (b8g_leaves S)) (SPK (KEY a1 a2 a3) a3 c) (a3 + 1) 1)))) ∧ n2 = (256 - x10.toInt).toNat) := by
      intro y9 hy
      have ym : LVO (b8g_leaves S) → (MAY (b0g_bytes (b1g_owners (b8g_leaves S))) (b0g_lengths (b1g_owners (b8g_leaves S))) (b0g_count (b1g_owners (b8g_leaves S))).toInt (b1g_realBits (b8g_leaves S)) (b1g_salt (b8g_leaves S)) (b1g_hashBits (b8g_leaves S)) (SPK (KEY a1 a2 a3) a3 x10.toInt.toNat) (a3 + 1) 1) := by
        intro o
        rcases hv o with ⟨v, _⟩ | ⟨_, v, _⟩ | ⟨_, v, _⟩
        · exact absurd (Int32.toInt_inj.mp (v.trans pl_0.symm)) z
        · exact v
        · exact v
      have yl : LVO (b8g_leaves S) → (((y9).toInt = -1 ∧ ∀ c : Nat, (c : Int) < (x10 + 1).toInt → ¬ (MAY (b0g_bytes (b1g_owners (b8g_leaves S))) (b0g_lengths (b1g_owners (b8g_leaves S))) (b0g_count (b1g_owners (b8g_leaves S))).toInt (b1g_realBits (b8g_leaves S)) (b1g_salt (b8g_leaves S)) (b1g_hashBits (b8g_leaves S)) (SPK (KEY a1 a2 a3) a3 c) (a3 + 1) 1)) ∨ (0 ≤ (y9).toInt ∧ (y9).toInt < (x10 + 1).toInt ∧ (∀ c : Nat, (c : Int) = (y9).toInt → (MAY (b0g_bytes (b1g_owners (b8g_leaves S))) (b0g_lengths (b1g_owners (b8g_leaves S))) (b0g_count (b1g_owners (b8g_leaves S))).toInt (b1g_realBits (b8g_leaves S)) (b1g_salt (b8g_leaves S)) (b1g_hashBits (b8g_leaves S)) (SPK (KEY a1 a2 a3) a3 c) (a3 + 1) 1)) ∧ ∀ c : Nat, (c : Int) < (y9).toInt → ¬ (MAY (b0g_bytes (b1g_owners (b8g_leaves S))) (b0g_lengths (b1g_owners (b8g_leaves S))) (b0g_count (b1g_owners (b8g_leaves S))).toInt (b1g_realBits (b8g_leaves S)) (b1g_salt (b8g_leaves S)) (b1g_hashBits (b8g_leaves S)) (SPK (KEY a1 a2 a3) a3 c) (a3 + 1) 1))) := by
        intro o
        obtain ⟨i1, i2, i3⟩ := hI o
        rcases hy with ⟨e, f⟩ | ⟨e, f⟩
        · rw [e]
          rcases i3 with ⟨u, w⟩ | ⟨u, w, w2, w3⟩
          · exact absurd (Int32.toInt_inj.mp (u.trans pl_m1.symm)) f
          · exact Or.inr ⟨u, by omega, w2, w3⟩
        · rw [e]
          rcases i3 with ⟨u, w⟩ | ⟨u, w, w2, w3⟩
          · exact Or.inr ⟨h0, by omega, fun c hc => by rw [show c = x10.toInt.toNat by omega]; exact ym o, fun c hc => w c hc⟩
          · rw [f, pl_m1] at u
            omega
      unfold wp_X8_spread_92
      refine ⟨fun y => step (x7 + 1) x8 y9 (by omega) (by omega) (by omega) (by omega) (fun o => ?_), fun y => step (x7 + 1) (x8 + 1) y9 (by omega) (by omega) (by omega) (by omega) (fun o => ?_)⟩
      · obtain ⟨i1, i2, i3⟩ := hI o
        have nv : ¬ (VRD (b0g_bytes (b1g_owners (b8g_leaves S))) (b0g_lengths (b1g_owners (b8g_leaves S))) (b0g_count (b1g_owners (b8g_leaves S))).toInt (b1g_realBits (b8g_leaves S)) (b1g_salt (b8g_leaves S)) (b1g_hashBits (b8g_leaves S)) (SPK (KEY a1 a2 a3) a3 x10.toInt.toNat) (a3 + 1) 2) := fun hV => y (Int32.toInt_inj.mp ((VRD_one o.2.1 o.2.2.1 o.2.2.2.1 o.2.2.2.2 (hv o) hV).trans pl_2.symm))
        exact ⟨by rw [CTP_y (P := fun c => (MAY (b0g_bytes (b1g_owners (b8g_leaves S))) (b0g_lengths (b1g_owners (b8g_leaves S))) (b0g_count (b1g_owners (b8g_leaves S))).toInt (b1g_realBits (b8g_leaves S)) (b1g_salt (b8g_leaves S)) (b1g_hashBits (b8g_leaves S)) (SPK (KEY a1 a2 a3) a3 c) (a3 + 1) 1)) (ym o), x7', i1], by rw [CTP_n (P := fun c => (VRD (b0g_bytes (b1g_owners (b8g_leaves S))) (b0g_lengths (b1g_owners (b8g_leaves S))) (b0g_count (b1g_owners (b8g_leaves S))).toInt (b1g_realBits (b8g_leaves S)) (b1g_salt (b8g_leaves S)) (b1g_hashBits (b8g_leaves S)) (SPK (KEY a1 a2 a3) a3 c) (a3 + 1) 2)) nv]; exact i2, yl o⟩
      · obtain ⟨i1, i2, i3⟩ := hI o
        have v := hv o
        rw [y, pl_2] at v
        exact ⟨by rw [CTP_y (P := fun c => (MAY (b0g_bytes (b1g_owners (b8g_leaves S))) (b0g_lengths (b1g_owners (b8g_leaves S))) (b0g_count (b1g_owners (b8g_leaves S))).toInt (b1g_realBits (b8g_leaves S)) (b1g_salt (b8g_leaves S)) (b1g_hashBits (b8g_leaves S)) (SPK (KEY a1 a2 a3) a3 c) (a3 + 1) 1)) (ym o), x7', i1], by rw [CTP_y (P := fun c => (VRD (b0g_bytes (b1g_owners (b8g_leaves S))) (b0g_lengths (b1g_owners (b8g_leaves S))) (b0g_count (b1g_owners (b8g_leaves S))).toInt (b1g_realBits (b8g_leaves S)) (b1g_salt (b8g_leaves S)) (b1g_hashBits (b8g_leaves S)) (SPK (KEY a1 a2 a3) a3 c) (a3 + 1) 2)) v, x8', i2], yl o⟩
    unfold wp_X8_spread_90
    exact ⟨fun y => body x9 (Or.inl ⟨rfl, y⟩), fun y => body x10 (Or.inr ⟨rfl, y⟩)⟩
def F_X8_question (S u : bT8) : Prop := (b2g_told (b8g_now u)) = (b2g_told (b8g_now S)) ∧ (b2g_built (b8g_now u)) = (b2g_built (b8g_now S)) ∧ (b2g_answers (b8g_now u)) = (b2g_answers (b8g_now S)) ∧ (b2g_draws (b8g_now u)) = (b2g_draws (b8g_now S)) ∧ (b8g_kept u) = (b8g_kept S) ∧ (b8g_isKept u) = (b8g_isKept S) ∧ (b8g_leaves u) = (b8g_leaves S) ∧ (b8g_tree u) = (b8g_tree S) ∧ (b8g_tuning u) = (b8g_tuning S) ∧ (b8g_trial u) = (b8g_trial S) ∧ (b8g_tape u) = (b8g_tape S) ∧ (b8g_text u) = (b8g_text S) ∧ (b8g_chosenRow u) = (b8g_chosenRow S)
theorem sf_X8_question {S : bT8} (hJ : J8 S) {a1 : Int32} {a2 : Int32} {a3 : Int32} {Q : Int32 → (bT8) → Prop} (hq : ∀ (r : Int32) (u : bT8), (J8 u) → F_X8_question S u → ((r.toInt = -1 ∧ (b0g_count (b2g_questions (b8g_now u))).toInt = (b0g_count (b2g_questions (b8g_now S))).toInt ∧ (a3.toInt < 1 ∨ 8 < a3.toInt ∨ 16 ≤ (b0g_count (b2g_questions (b8g_now S))).toInt)) ∨ (1 ≤ a3.toInt ∧ a3.toInt ≤ 8 ∧ (b0g_count (b2g_questions (b8g_now S))).toInt < 16 ∧ r.toInt = (b0g_count (b2g_questions (b8g_now S))).toInt + 1 ∧ (b0g_count (b2g_questions (b8g_now u))).toInt = (b0g_count (b2g_questions (b8g_now S))).toInt + 1)) → ((1 ≤ a3.toInt ∧ a3.toInt ≤ 8 ∧ (b0g_count (b2g_questions (b8g_now S))).toInt < 16) → (∀ j : Nat, (j : Int) < (b0g_count (b2g_questions (b8g_now S))).toInt → b0g_bytes (b2g_questions (b8g_now u)) j = b0g_bytes (b2g_questions (b8g_now S)) j ∧ b0g_lengths (b2g_questions (b8g_now u)) j = b0g_lengths (b2g_questions (b8g_now S)) j) ∧ ∀ j : Nat, (j : Int) = (b0g_count (b2g_questions (b8g_now S))).toInt → b0g_bytes (b2g_questions (b8g_now u)) j = KEY a1 a2 a3 ∧ b0g_lengths (b2g_questions (b8g_now u)) j = a3) → (¬ (1 ≤ a3.toInt ∧ a3.toInt ≤ 8 ∧ (b0g_count (b2g_questions (b8g_now S))).toInt < 16) → (b2g_questions (b8g_now u)) = (b2g_questions (b8g_now S))) → Q r u) : wp_X8_question S a1 a2 a3 Q := by
  have jk := J2g_questions (J8g_now hJ)
  have jc := J0g_count jk
  unfold wp_X8_question
  refine sf_X8_isLength (fun r1 hz h1 => ⟨fun c => ?_, fun c => ⟨fun d => ?_, fun d => ?_⟩⟩)
  · simp only [pn] at c
    exact hq _ _ hJ ⟨rfl, rfl, rfl, rfl, rfl, rfl, rfl, rfl, rfl, rfl, rfl, rfl, rfl⟩ (Or.inl ⟨rfl, rfl, by omega⟩) (fun z => by exfalso; omega) (fun _ => rfl)
  · simp only [pn] at c d
    have hn : 1 ≤ a3.toInt ∧ a3.toInt ≤ 8 := by omega
    refine sf_X8_keyOf (fun r3 h3 => fx_append jk (fun u6 j6 h6 => ?_))
    have e3 := h3 hn.1 hn.2
    intro S7 e7
    obtain ⟨q1, q2, q3⟩ := h6 (by omega)
    have eq7 : b2g_questions (b8g_now S7) = u6 := by rw [e7]
    have cc := pt_clamp jc.1
    refine hq _ _ ?_ ?_ (Or.inr ⟨hn.1, hn.2, d, ?_, ?_⟩) (fun z => ⟨fun j hj => ?_, fun j hj => ?_⟩) (fun z => absurd ⟨hn.1, hn.2, d⟩ z)
    · rw [e7]
      exact J8s_now hJ (J2s_questions (J8g_now hJ) j6)
    · rw [e7]
      exact ⟨rfl, rfl, rfl, rfl, rfl, rfl, rfl, rfl, rfl, rfl, rfl, rfl, rfl⟩
    · rw [eq7]
      exact q1
    · rw [eq7]
      exact q1
    · rw [eq7, q2, q3]
      exact ⟨upL_n (by omega), up_n (by omega)⟩
    · rw [eq7, q2, q3, show j = (b0g_count (b2g_questions (b8g_now S))).toNatClampNeg by omega]
      exact ⟨upL_s.trans e3, up_s⟩
  · simp only [pn] at c d
    exact hq _ _ hJ ⟨rfl, rfl, rfl, rfl, rfl, rfl, rfl, rfl, rfl, rfl, rfl, rfl, rfl⟩ (Or.inl ⟨rfl, rfl, by omega⟩) (fun z => by exfalso; omega) (fun _ => rfl)
def F_X8_forget (S u : bT8) : Prop := (b2g_told (b8g_now u)) = (b2g_told (b8g_now S)) ∧ (b2g_built (b8g_now u)) = (b2g_built (b8g_now S)) ∧ (b0g_bytes (b2g_questions (b8g_now u))) = (b0g_bytes (b2g_questions (b8g_now S))) ∧ (b0g_lengths (b2g_questions (b8g_now u))) = (b0g_lengths (b2g_questions (b8g_now S))) ∧ (b2g_answers (b8g_now u)) = (b2g_answers (b8g_now S)) ∧ (b2g_draws (b8g_now u)) = (b2g_draws (b8g_now S)) ∧ (b8g_kept u) = (b8g_kept S) ∧ (b8g_isKept u) = (b8g_isKept S) ∧ (b8g_leaves u) = (b8g_leaves S) ∧ (b8g_tree u) = (b8g_tree S) ∧ (b8g_tuning u) = (b8g_tuning S) ∧ (b8g_trial u) = (b8g_trial S) ∧ (b8g_tape u) = (b8g_tape S) ∧ (b8g_text u) = (b8g_text S) ∧ (b8g_chosenRow u) = (b8g_chosenRow S)
set_option maxRecDepth 20000 in
set_option maxHeartbeats 8000000 in
theorem sf_X8_forget {S : bT8} (hJ : J8 S) {Q : Int32 → (bT8) → Prop} (hq : ∀ (r : Int32) (u : bT8), (J8 u) → F_X8_forget S u → (r.toInt = (b0g_count (b2g_questions (b8g_now S))).toInt) → ((b0g_count (b2g_questions (b8g_now u))).toInt = 0) → Q r u) : wp_X8_forget S Q := by
  unfold wp_X8_forget
  have hFS : F_X8_forget S S := ⟨rfl, rfl, rfl, rfl, rfl, rfl, rfl, rfl, rfl, rfl, rfl, rfl, rfl, rfl, rfl⟩
  have jf1 := J0g_count (J2g_questions (J8g_now hJ))
  intro S1 eS1
  have hJS1 : J8 S1 := by rw [eS1]; exact (J8s_now hJ (J2s_questions (J8g_now hJ) (J0s_count (J2g_questions (J8g_now hJ)) ⟨(by (try simp (disch := first | ((try simp (disch := first | ((try simp only [pn]) <;> omega) | fail) only [pn, pq]) <;> omega) | fail) only [pn, pq]) <;> (intros; (try simp (disch := first | ((try simp (disch := first | ((try simp only [pn]) <;> omega) | fail) only [pn, pq]) <;> omega) | fail) only [pn, pq]) <;> omega)), (by (try simp (disch := first | ((try simp (disch := first | ((try simp only [pn]) <;> omega) | fail) only [pn, pq]) <;> omega) | fail) only [pn, pq]) <;> (intros; (try simp (disch := first | ((try simp (disch := first | ((try simp only [pn]) <;> omega) | fail) only [pn, pq]) <;> omega) | fail) only [pn, pq]) <;> omega))⟩)))
  have hFS1 : F_X8_forget S S1 := by rw [eS1]; exact hFS
  have je2 : ((b0g_count (b2g_questions (b8g_now S1)))).toInt = ((0 : Int32)).toInt := by rw [eS1]
  try simp (disch := first | ((try simp (disch := first | ((try simp only [pn]) <;> omega) | fail) only [pn, pq]) <;> omega) | fail) only [pn, pq] at je2
  have jf3 := J0g_count (J2g_questions (J8g_now hJS1))
  exact hq _ _ hJS1 hFS1 (by (try simp (disch := first | ((try simp (disch := first | ((try simp only [pn]) <;> omega) | fail) only [pn, pq]) <;> omega) | fail) only [pn, pq]) <;> (intros; (try simp (disch := first | ((try simp (disch := first | ((try simp only [pn]) <;> omega) | fail) only [pn, pq]) <;> omega) | fail) only [pn, pq]) <;> omega)) (by (try simp (disch := first | ((try simp (disch := first | ((try simp only [pn]) <;> omega) | fail) only [pn, pq]) <;> omega) | fail) only [pn, pq]) <;> (intros; (try simp (disch := first | ((try simp (disch := first | ((try simp only [pn]) <;> omega) | fail) only [pn, pq]) <;> omega) | fail) only [pn, pq]) <;> omega))
def F_X8_tuned (S u : bT8) : Prop := (b8g_now u) = (b8g_now S) ∧ (b8g_kept u) = (b8g_kept S) ∧ (b8g_isKept u) = (b8g_isKept S) ∧ (b8g_leaves u) = (b8g_leaves S) ∧ (b8g_tree u) = (b8g_tree S) ∧ (b8g_trial u) = (b8g_trial S) ∧ (b8g_tape u) = (b8g_tape S) ∧ (b8g_text u) = (b8g_text S) ∧ (b8g_chosenRow u) = (b8g_chosenRow S)
theorem sf_X8_tuned {S : bT8} (hJ : J8 S) {a1 : Int32} {a2 : Int32} {Q : Int32 → (bT8) → Prop} (hq : ∀ (r : Int32) (u : bT8), (J8 u) → F_X8_tuned S u → (LVO (b8g_leaves S) → QOK (b2g_questions (b8g_now S)) → TUV (FQN (b0g_bytes (b1g_owners (b8g_leaves S))) (b0g_lengths (b1g_owners (b8g_leaves S))) (b0g_count (b1g_owners (b8g_leaves S))).toInt (b1g_salt (b8g_leaves S)) (b0g_bytes (b2g_questions (b8g_now S))) (b0g_lengths (b2g_questions (b8g_now S))) (b0g_count (b2g_questions (b8g_now S))).toInt.toNat) a1.toInt a2.toInt r.toInt) → Q r u) : wp_X8_tuned S a1 a2 Q := by
  have hFS : F_X8_tuned S S := ⟨rfl, rfl, rfl, rfl, rfl, rfl, rfl, rfl, rfl⟩
  have out : ¬ ((0 ≤ a1.toInt ∧ a1.toInt ≤ 16) ∧ (0 ≤ a2.toInt ∧ a2.toInt ≤ 2)) → Q (-1) S := fun z => hq _ S hJ hFS (fun _ _ => ⟨fun y => absurd y z, fun _ => rfl⟩)
  unfold wp_X8_tuned
  refine ⟨fun c => out (fun z => ?_), fun c => ⟨fun d => out (fun z => ?_), fun d => ⟨fun e => out (fun z => ?_), fun e => ⟨fun f => ?_, fun f => out (fun z => ?_)⟩⟩⟩⟩
  · simp only [pn] at c
    omega
  · have d' : ¬ a1.toInt ≤ 16 := fun y => by simp only [pn] at d; omega
    omega
  · simp only [pn] at e
    omega
  rotate_left
  · have f' : ¬ a2.toInt ≤ 2 := fun y => f (by simp only [pn]; exact y)
    omega
  have d1 : a1.toInt ≤ 16 := by
    apply Classical.byContradiction
    intro y
    exact d (by simp only [pn]; omega)
  have f1 : a2.toInt ≤ 2 := by simp only [pn] at f; exact f
  simp only [pn] at c e
  refine sf_X7_tune (S := (b8g_tuning S, b8g_leaves S, b2g_questions (b8g_now S))) ⟨J8g_tuning hJ, J8g_leaves hJ, J2g_questions (J8g_now hJ)⟩ (by omega) (fun u2 j2 f2 w2 S3 e3 => ?_)
  have jS3 : J8 S3 := by rw [e3]; exact J8s_now (J8s_leaves (J8s_tuning hJ j2.1) j2.2.1) (J2s_questions (J8g_now (J8s_leaves (J8s_tuning hJ j2.1) j2.2.1)) j2.2.2)
  have fS3 : F_X8_tuned S S3 := by
    rw [e3, f2.1, f2.2]
    exact hFS
  have t3 : b8g_tuning S3 = u2.1 := by rw [e3]
  have fin : ∀ r : Int32, (∀ h t c : Int, h = (b7g_hashBits u2.1).toInt → t = (b7g_realBits u2.1).toInt → c = (b7g_falsely u2.1).toInt → (a2.toInt = 0 → r.toInt = h) ∧ (a2.toInt = 1 → r.toInt = t) ∧ (a2.toInt = 2 → r.toInt = c)) → Q r S3 := fun r y => hq r S3 jS3 fS3 (fun lo qk => ⟨fun _ => ⟨_, _, _, w2 lo qk (by omega), y _ _ _ rfl rfl rfl⟩, fun z => absurd ⟨⟨by omega, by omega⟩, by omega, by omega⟩ z⟩)
  rw [t3]
  refine ⟨fun g => ⟨fun g2 => fin _ (fun h t c eh et ec => ⟨fun z => absurd (Int32.toInt_inj.mp z) g2, fun _ => et.symm, fun z => absurd (Int32.toInt_inj.mp z) g⟩), fun g2 => fin _ (fun h t c eh et ec => ⟨fun _ => eh.symm, fun z => ?_, fun z => absurd (Int32.toInt_inj.mp z) g⟩)⟩, fun g => fin _ (fun h t c eh et ec => ⟨fun z => ?_, fun z => ?_, fun _ => ec.symm⟩)⟩
  · rw [g2] at z
    exact absurd z (by decide)
  · rw [g] at z
    exact absurd z (by decide)
  · rw [g] at z
    exact absurd z (by decide)
def F_X8_storm (S u : bT8) : Prop := (b2g_told (b8g_now u)) = (b2g_told (b8g_now S)) ∧ (b2g_built (b8g_now u)) = (b2g_built (b8g_now S)) ∧ (b2g_questions (b8g_now u)) = (b2g_questions (b8g_now S)) ∧ (b8g_kept u) = (b8g_kept S) ∧ (b8g_isKept u) = (b8g_isKept S) ∧ (b8g_leaves u) = (b8g_leaves S) ∧ (b8g_tree u) = (b8g_tree S) ∧ (b8g_tuning u) = (b8g_tuning S) ∧ (b8g_trial u) = (b8g_trial S) ∧ (b8g_tape u) = (b8g_tape S) ∧ (b8g_text u) = (b8g_text S) ∧ (b8g_chosenRow u) = (b8g_chosenRow S)
theorem sf_X8_storm {S : bT8} (hJ : J8 S) {a1 : Int32} {a2 : Int32} {Q : Int32 → (bT8) → Prop} (hq : ∀ (r : Int32) (u : bT8), (J8 u) → F_X8_storm S u → (b2g_draws (b8g_now u) = filS a1 a2 200 (b2g_draws (b8g_now S))) → (LVO (b8g_leaves S) → (1 ≤ a1.toInt ∧ a1.toInt ≤ 200 ∧ 1 ≤ a2.toInt ∧ a2.toInt ≤ 8 → STR (fun j v => VRD (b0g_bytes (b1g_owners (b8g_leaves S))) (b0g_lengths (b1g_owners (b8g_leaves S))) (b0g_count (b1g_owners (b8g_leaves S))).toInt (b1g_realBits (b8g_leaves S)) (b1g_salt (b8g_leaves S)) (b1g_hashBits (b8g_leaves S)) (KN (b3g_values (b2g_told (b8g_now S)) 4) a2 (b2g_draws (b8g_now S)) j) (NN a2 (b2g_draws (b8g_now S)) j) v.toInt) 0 a1.toInt.toNat (b2g_answers (b8g_now S)) (b2g_answers (b8g_now u)) r) ∧ (¬ (1 ≤ a1.toInt ∧ a1.toInt ≤ 200 ∧ 1 ≤ a2.toInt ∧ a2.toInt ≤ 8) → r.toInt = -1 ∧ u = S)) → Q r u) : wp_X8_storm S a1 a2 Q := by
  unfold wp_X8_storm
  have bad : ¬ (1 ≤ a1.toInt ∧ a1.toInt ≤ 200 ∧ 1 ≤ a2.toInt ∧ a2.toInt ≤ 8) → Q (-1) S := by
    intro h
    exact hq _ _ hJ ⟨rfl, rfl, rfl, rfl, rfl, rfl, rfl, rfl, rfl, rfl, rfl, rfl⟩ (filS_0 h).symm (fun _ => ⟨fun g => absurd g h, fun _ => ⟨rfl, rfl⟩⟩)
  refine ⟨fun c => bad ?_, fun c => ⟨fun d => bad ?_, fun d => sf_X8_isLength (fun r1 hz h1 => ⟨fun g => ?_, fun g => bad ?_⟩)⟩⟩
  · simp only [pn] at c; omega
  · simp only [pn] at d; omega
  rotate_left
  · simp only [pn] at g; omega
  simp only [pn] at c d g
  have hok : 1 ≤ a1.toInt ∧ a1.toInt ≤ 200 ∧ 1 ≤ a2.toInt ∧ a2.toInt ≤ 8 := by omega
  unfold wp_X8_storm_26
  refine ⟨fun n x1 x2 x3 x4 V => x1 = a1 ∧ x2 = a2 ∧ 0 ≤ x4.toInt ∧ x4.toInt ≤ a1.toInt ∧ J8 V ∧ F_X8_storm S V ∧ b2g_draws (b8g_now V) = stpN a2 x4.toInt.toNat (b2g_draws (b8g_now S)) ∧ (LVO (b8g_leaves S) → STR (fun j v => VRD (b0g_bytes (b1g_owners (b8g_leaves S))) (b0g_lengths (b1g_owners (b8g_leaves S))) (b0g_count (b1g_owners (b8g_leaves S))).toInt (b1g_realBits (b8g_leaves S)) (b1g_salt (b8g_leaves S)) (b1g_hashBits (b8g_leaves S)) (KN (b3g_values (b2g_told (b8g_now S)) 4) a2 (b2g_draws (b8g_now S)) j) (NN a2 (b2g_draws (b8g_now S)) j) v.toInt) 0 x4.toInt.toNat (b2g_answers (b8g_now S)) (b2g_answers (b8g_now V)) x3) ∧ n = (a1.toInt - x4.toInt).toNat, ⟨_, rfl, rfl, by decide, by rw [pl_0]; omega, hJ, ⟨rfl, rfl, rfl, rfl, rfl, rfl, rfl, rfl, rfl, rfl, rfl, rfl⟩, by rw [z0, stpN0], fun _ => by rw [z0]; exact ⟨rfl, rfl⟩, rfl⟩, ?_⟩
  rintro n x1 x2 x3 x4 V ⟨e1, e2, h0, h1', hJV, hFV, hd, hC, hn⟩
  unfold wp_X8_storm_26b
  rw [e1, e2]
  refine ⟨fun c2 => ?_, fun c2 => ?_⟩
  · simp only [pn] at c2
    have ex : x4.toInt = a1.toInt := by omega
    rw [ex] at hd hC
    exact hq _ _ hJV hFV (hd.trans (filS_1 hok).symm) (fun o => ⟨fun _ => hC o, fun h => absurd hok h⟩)
  simp only [pn] at c2
  have x4' : (x4 + 1).toInt = x4.toInt + 1 := by rw [pt_add (by rw [pl_1]; omega) (by rw [pl_1]; omega), pl_1]
  have ht : b2g_told (b8g_now V) = b2g_told (b8g_now S) := hFV.1
  have hl : b8g_leaves V = b8g_leaves S := hFV.2.2.2.2.2.1
  refine sf_X2_draw (J8g_now hJV) (fun r1 u2 hJ2 hf2 d2 q2 => ?_)
  intro S3 e3
  have n3 : b8g_now S3 = u2 := by rw [e3]
  have hJ3 : J8 S3 := by rw [e3]; exact J8s_now hJV hJ2
  rw [n3]
  have er : r1 + 1 = NN a2 (b2g_draws (b8g_now S)) x4.toInt.toNat := by
    rw [q2, d2, hd, Int32.add_comm]
    rfl
  have rN := NN_rng (m := a2) (s := b2g_draws (b8g_now S)) (i := x4.toInt.toNat) (by omega) (by omega)
  refine sf_X2_drawBytes hJ2 (fun r4 u5 hJ5 hf5 d5 k5 => ?_)
  intro S6 e6
  have n6 : b8g_now S6 = u5 := by rw [e6]
  have l6 : b8g_leaves S6 = b8g_leaves S := by rw [e6, e3]; exact hl
  have t5 : b2g_told u5 = b2g_told (b8g_now V) := (hf5.1).trans (hf2.1)
  have t2 : b2g_told u2 = b2g_told (b8g_now V) := hf2.1
  have b5 : b2g_built u5 = b2g_built (b8g_now V) := (hf5.2.1).trans (hf2.2.1)
  have c5 : b2g_questions u5 = b2g_questions (b8g_now V) := (hf5.2.2.1).trans (hf2.2.2.1)
  have a5 : b2g_answers u5 = b2g_answers (b8g_now V) := (hf5.2.2.2).trans (hf2.2.2.2)
  have hJ6 : J8 S6 := by rw [e6]; exact J8s_now hJ3 hJ5
  have ek : r4 = KN (b3g_values (b2g_told (b8g_now S)) 4) a2 (b2g_draws (b8g_now S)) x4.toInt.toNat := by
    rw [k5 (by rw [er]; omega) (by rw [er]; omega), er, d2, hd, t2, ht]
    rfl
  have d5' : b2g_draws u5 = stpN a2 (x4 + 1).toInt.toNat (b2g_draws (b8g_now S)) := by
    rw [d5, d2, hd, stpN_s h0 (by omega), er]
    rfl
  refine sf_X8_askKey hJ6 (fun r7 u8 hJ8 hf8 p0 p2 h7 h8 => ?_)
  have hF8 : F_X8_storm S u8 := by
    have q1 : b2g_told (b8g_now u8) = b2g_told (b8g_now S) := (hf8.1).trans (by rw [n6, t5]; exact ht)
    have q2 : b2g_built (b8g_now u8) = b2g_built (b8g_now S) := (hf8.2.1).trans (by rw [n6, b5]; exact hFV.2.1)
    have q3 : b2g_questions (b8g_now u8) = b2g_questions (b8g_now S) := (hf8.2.2.1).trans (by rw [n6, c5]; exact hFV.2.2.1)
    exact ⟨q1, q2, q3, (hf8.2.2.2.2.1).trans (by rw [e6, e3]; exact hFV.2.2.2.1), (hf8.2.2.2.2.2.1).trans (by rw [e6, e3]; exact hFV.2.2.2.2.1), (hf8.2.2.2.2.2.2.1).trans l6, (hf8.2.2.2.2.2.2.2.1).trans (by rw [e6, e3]; exact hFV.2.2.2.2.2.2.1), (hf8.2.2.2.2.2.2.2.2.1).trans (by rw [e6, e3]; exact hFV.2.2.2.2.2.2.2.1), (hf8.2.2.2.2.2.2.2.2.2.1).trans (by rw [e6, e3]; exact hFV.2.2.2.2.2.2.2.2.1), (hf8.2.2.2.2.2.2.2.2.2.2.1).trans (by rw [e6, e3]; exact hFV.2.2.2.2.2.2.2.2.2.1), (hf8.2.2.2.2.2.2.2.2.2.2.2.1).trans (by rw [e6, e3]; exact hFV.2.2.2.2.2.2.2.2.2.2.1), (hf8.2.2.2.2.2.2.2.2.2.2.2.2).trans (by rw [e6, e3]; exact hFV.2.2.2.2.2.2.2.2.2.2.2)⟩
  have d8 : b2g_draws (b8g_now u8) = stpN a2 (x4 + 1).toInt.toNat (b2g_draws (b8g_now S)) := (hf8.2.2.2.1).trans (by rw [n6]; exact d5')
  rw [l6, ek, er] at h7
  rw [n6, a5] at h8
  have next : ∀ y3 : Int32, y3 = x3 + IS2 r7 → wp_X8_storm_70 u8 a1 a2 y3 x4 Q (fun x1 x2 x3 x4 S_1 => ∃ n2 : Nat, n2 < n ∧ x1 = a1 ∧ x2 = a2 ∧ 0 ≤ x4.toInt ∧ x4.toInt ≤ a1.toInt ∧ J8 S_1 ∧ F_X8_storm S S_1 ∧ b2g_draws (b8g_now S_1) = stpN a2 x4.toInt.toNat (b2g_draws (b8g_now S)) ∧ (LVO (b8g_leaves S) → STR (fun j v => VRD (b0g_bytes (b1g_owners (b8g_leaves S))) (b0g_lengths (b1g_owners (b8g_leaves S))) (b0g_count (b1g_owners (b8g_leaves S))).toInt (b1g_realBits (b8g_leaves S)) (b1g_salt (b8g_leaves S)) (b1g_hashBits (b8g_leaves S)) (KN (b3g_values (b2g_told (b8g_now S)) 4) a2 (b2g_draws (b8g_now S)) j) (NN a2 (b2g_draws (b8g_now S)) j) v.toInt) 0 x4.toInt.toNat (b2g_answers (b8g_now S)) (b2g_answers (b8g_now S_1)) x3) ∧ n2 = (a1.toInt - x4.toInt).toNat) := by
    intro y3 hy
    unfold wp_X8_storm_70
    refine ⟨_, ?_, rfl, rfl, by omega, by omega, hJ8, hF8, d8, fun o => STR_step h0 (by omega) (hC o) (h7 o rN.1 rN.2) h8 hy, rfl⟩
    omega
  exact ⟨fun e => next x3 (by rw [IS2_n e, Int32.add_zero]), fun e => next (x3 + 1) (by rw [IS2_y e])⟩
