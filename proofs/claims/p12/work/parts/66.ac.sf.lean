def F_X7_compare (S u : bT7 × bT1) : Prop := (b7g_count u.1) = (b7g_count S.1) ∧ (b7g_hashBits u.1) = (b7g_hashBits S.1) ∧ (b7g_realBits u.1) = (b7g_realBits S.1) ∧ (b7g_falsely u.1) = (b7g_falsely S.1) ∧ u.2 = S.2
set_option maxRecDepth 20000 in
set_option maxHeartbeats 8000000 in
theorem sf_X7_compare {S : bT7 × bT1} (hJ : J7 S.1 ∧ J1 S.2) {a2 : Int64} {a4 : Int32} {a5 : Int32} {Q : (bT7 × bT1) → Prop} (hq : ∀ u : bT7 × bT1, (J7 u.1 ∧ J1 u.2) → F_X7_compare S u → Q u) : wp_X7_compare S a2 a4 a5 Q := by
  unfold wp_X7_compare
  have hFS : F_X7_compare S S := ⟨rfl, rfl, rfl, rfl, rfl⟩
  have rga4 := pt_rg a4
  have rga5 := pt_rg a5
  refine sf_X0_numberOf (J1g_owners hJ.2) (fun r1 hr1_0 hr1_1 => ?_)
  have rgr1 := pt_rg r1
  try simp (disch := first | ((try simp (disch := first | ((try simp only [pn]) <;> omega) | fail) only [pn, pq]) <;> omega) | fail) only [pn, pq] at hr1_0
  try simp (disch := first | ((try simp (disch := first | ((try simp only [pn]) <;> omega) | fail) only [pn, pq]) <;> omega) | fail) only [pn, pq] at hr1_1
  refine ⟨fun c3 => ?_, fun c3 => ?_⟩
  · try simp (disch := first | ((try simp (disch := first | ((try simp only [pn]) <;> omega) | fail) only [pn, pq]) <;> omega) | fail) only [pn, pq] at c3
    unfold wp_X7_compare_25
    refine ⟨fun c4 => ?_, fun c4 => ?_⟩
    · try simp (disch := first | ((try simp (disch := first | ((try simp only [pn]) <;> omega) | fail) only [pn, pq]) <;> omega) | fail) only [pn, pq] at c4
      exact hq _ hJ hFS 
    · try simp (disch := first | ((try simp (disch := first | ((try simp only [pn]) <;> omega) | fail) only [pn, pq]) <;> omega) | fail) only [pn, pq] at c4
      refine ⟨fun c5 => ?_, fun c5 => ?_⟩
      · try simp (disch := first | ((try simp (disch := first | ((try simp only [pn]) <;> omega) | fail) only [pn, pq]) <;> omega) | fail) only [pn, pq] at c5
        exact hq _ hJ hFS 
      · try simp (disch := first | ((try simp (disch := first | ((try simp only [pn]) <;> omega) | fail) only [pn, pq]) <;> omega) | fail) only [pn, pq] at c5
        refine ⟨pt_in (by (try simp (disch := first | ((try simp (disch := first | ((try simp only [pn]) <;> omega) | fail) only [pn, pq]) <;> omega) | fail) only [pn, pq]) <;> (intros; (try simp (disch := first | ((try simp (disch := first | ((try simp only [pn]) <;> omega) | fail) only [pn, pq]) <;> omega) | fail) only [pn, pq]) <;> omega)) (by (try simp (disch := first | ((try simp (disch := first | ((try simp only [pn]) <;> omega) | fail) only [pn, pq]) <;> omega) | fail) only [pn, pq]) <;> (intros; (try simp (disch := first | ((try simp (disch := first | ((try simp only [pn]) <;> omega) | fail) only [pn, pq]) <;> omega) | fail) only [pn, pq]) <;> omega)), ?_⟩
        intro S6 eS6
        have hJS6 : J7 S6.1 ∧ J1 S6.2 := by rw [eS6]; exact ⟨(J7s_likeHash hJ.1), hJ.2⟩
        have hFS6 : F_X7_compare S S6 := by rw [eS6]; exact hFS
        have je2 : ((b1g_salt S6.2)).toInt = ((b1g_salt S.2)).toInt := congrArg (fun z => ((b1g_salt z)).toInt) hFS6.2.2.2.2
        refine ⟨pt_in (by (try simp (disch := first | ((try simp (disch := first | ((try simp only [pn]) <;> omega) | fail) only [pn, pq]) <;> omega) | fail) only [pn, pq]) <;> (intros; (try simp (disch := first | ((try simp (disch := first | ((try simp only [pn]) <;> omega) | fail) only [pn, pq]) <;> omega) | fail) only [pn, pq]) <;> omega)) (by (try simp (disch := first | ((try simp (disch := first | ((try simp only [pn]) <;> omega) | fail) only [pn, pq]) <;> omega) | fail) only [pn, pq]) <;> (intros; (try simp (disch := first | ((try simp (disch := first | ((try simp only [pn]) <;> omega) | fail) only [pn, pq]) <;> omega) | fail) only [pn, pq]) <;> omega)), ?_⟩
        intro S7 eS7
        have hJS7 : J7 S7.1 ∧ J1 S7.2 := by rw [eS7]; exact ⟨(J7s_likeNext hJS6.1), hJS6.2⟩
        have hFS7 : F_X7_compare S S7 := by rw [eS7]; exact hFS6
        have je4 : ((b1g_salt S7.2)).toInt = ((b1g_salt S.2)).toInt := congrArg (fun z => ((b1g_salt z)).toInt) hFS7.2.2.2.2
        refine ⟨fun c8 => ?_, fun c8 => ?_⟩
        · skip
          exact hq _ hJS7 hFS7 
        · exact absurd c8 (by decide)
  · try simp (disch := first | ((try simp (disch := first | ((try simp only [pn]) <;> omega) | fail) only [pn, pq]) <;> omega) | fail) only [pn, pq] at c3
    refine sf_X1_beginningOf hJ.2 (fun r9  => ?_)
    have rgr9 := pt_rg r9
    unfold wp_X7_compare_25
    refine ⟨fun c11 => ?_, fun c11 => ?_⟩
    · try simp (disch := first | ((try simp (disch := first | ((try simp only [pn]) <;> omega) | fail) only [pn, pq]) <;> omega) | fail) only [pn, pq] at c11
      exact hq _ hJ hFS 
    · try simp (disch := first | ((try simp (disch := first | ((try simp only [pn]) <;> omega) | fail) only [pn, pq]) <;> omega) | fail) only [pn, pq] at c11
      refine ⟨fun c12 => ?_, fun c12 => ?_⟩
      · try simp (disch := first | ((try simp (disch := first | ((try simp only [pn]) <;> omega) | fail) only [pn, pq]) <;> omega) | fail) only [pn, pq] at c12
        exact hq _ hJ hFS 
      · try simp (disch := first | ((try simp (disch := first | ((try simp only [pn]) <;> omega) | fail) only [pn, pq]) <;> omega) | fail) only [pn, pq] at c12
        refine ⟨pt_in (by (try simp (disch := first | ((try simp (disch := first | ((try simp only [pn]) <;> omega) | fail) only [pn, pq]) <;> omega) | fail) only [pn, pq]) <;> (intros; (try simp (disch := first | ((try simp (disch := first | ((try simp only [pn]) <;> omega) | fail) only [pn, pq]) <;> omega) | fail) only [pn, pq]) <;> omega)) (by (try simp (disch := first | ((try simp (disch := first | ((try simp only [pn]) <;> omega) | fail) only [pn, pq]) <;> omega) | fail) only [pn, pq]) <;> (intros; (try simp (disch := first | ((try simp (disch := first | ((try simp only [pn]) <;> omega) | fail) only [pn, pq]) <;> omega) | fail) only [pn, pq]) <;> omega)), ?_⟩
        intro S13 eS13
        have hJS13 : J7 S13.1 ∧ J1 S13.2 := by rw [eS13]; exact ⟨(J7s_likeHash hJ.1), hJ.2⟩
        have hFS13 : F_X7_compare S S13 := by rw [eS13]; exact hFS
        have je6 : ((b1g_salt S13.2)).toInt = ((b1g_salt S.2)).toInt := congrArg (fun z => ((b1g_salt z)).toInt) hFS13.2.2.2.2
        refine ⟨pt_in (by (try simp (disch := first | ((try simp (disch := first | ((try simp only [pn]) <;> omega) | fail) only [pn, pq]) <;> omega) | fail) only [pn, pq]) <;> (intros; (try simp (disch := first | ((try simp (disch := first | ((try simp only [pn]) <;> omega) | fail) only [pn, pq]) <;> omega) | fail) only [pn, pq]) <;> omega)) (by (try simp (disch := first | ((try simp (disch := first | ((try simp only [pn]) <;> omega) | fail) only [pn, pq]) <;> omega) | fail) only [pn, pq]) <;> (intros; (try simp (disch := first | ((try simp (disch := first | ((try simp only [pn]) <;> omega) | fail) only [pn, pq]) <;> omega) | fail) only [pn, pq]) <;> omega)), ?_⟩
        intro S14 eS14
        have hJS14 : J7 S14.1 ∧ J1 S14.2 := by rw [eS14]; exact ⟨(J7s_likeNext hJS13.1), hJS13.2⟩
        have hFS14 : F_X7_compare S S14 := by rw [eS14]; exact hFS13
        have je8 : ((b1g_salt S14.2)).toInt = ((b1g_salt S.2)).toInt := congrArg (fun z => ((b1g_salt z)).toInt) hFS14.2.2.2.2
        refine ⟨fun c15 => ?_, fun c15 => ?_⟩
        · try simp (disch := first | ((try simp (disch := first | ((try simp only [pn]) <;> omega) | fail) only [pn, pq]) <;> omega) | fail) only [pn, pq] at c15
          exact hq _ hJS14 hFS14 
        · try simp (disch := first | ((try simp (disch := first | ((try simp only [pn]) <;> omega) | fail) only [pn, pq]) <;> omega) | fail) only [pn, pq] at c15
          refine sf_X8_mixed  (fun r16  => ?_)
          have rgr16 := pt_rg r16
          refine sf_X8_at (by decide) (fun r18 hr18_0 => ?_)
          have rgr18 := pt_rg r18
          try simp (disch := first | ((try simp (disch := first | ((try simp only [pn]) <;> omega) | fail) only [pn, pq]) <;> omega) | fail) only [pn, pq] at hr18_0
          refine sf_X1_lengthAt hJS14.2 (fun r20 hr20_0 => ?_)
          have rgr20 := pt_rg r20
          try simp (disch := first | ((try simp (disch := first | ((try simp only [pn]) <;> omega) | fail) only [pn, pq]) <;> omega) | fail) only [pn, pq] at hr20_0
          refine sf_X8_octetAt  (fun r22  => ?_)
          have rgr22 := pt_rg r22
          refine sf_X8_at (by decide) (fun r24 hr24_0 => ?_)
          have rgr24 := pt_rg r24
          try simp (disch := first | ((try simp (disch := first | ((try simp only [pn]) <;> omega) | fail) only [pn, pq]) <;> omega) | fail) only [pn, pq] at hr24_0
          refine sf_X7_zerosFromLowest  (fun r26  => ?_)
          have rgr26 := pt_rg r26
          refine ⟨pt_in (by (try simp (disch := first | ((try simp (disch := first | ((try simp only [pn]) <;> omega) | fail) only [pn, pq]) <;> omega) | fail) only [pn, pq]) <;> (intros; (try simp (disch := first | ((try simp (disch := first | ((try simp only [pn]) <;> omega) | fail) only [pn, pq]) <;> omega) | fail) only [pn, pq]) <;> omega)) (by (try simp (disch := first | ((try simp (disch := first | ((try simp only [pn]) <;> omega) | fail) only [pn, pq]) <;> omega) | fail) only [pn, pq]) <;> (intros; (try simp (disch := first | ((try simp (disch := first | ((try simp only [pn]) <;> omega) | fail) only [pn, pq]) <;> omega) | fail) only [pn, pq]) <;> omega)), ?_⟩
          intro S28 eS28
          have hJS28 : J7 S28.1 ∧ J1 S28.2 := by rw [eS28]; exact ⟨(J7s_likeHash hJS14.1), hJS14.2⟩
          have hFS28 : F_X7_compare S S28 := by rw [eS28]; exact hFS14
          have je10 : ((b1g_salt S28.2)).toInt = ((b1g_salt S.2)).toInt := congrArg (fun z => ((b1g_salt z)).toInt) hFS28.2.2.2.2
          refine sf_X7_zerosFromHighest  (fun r29  => ?_)
          have rgr29 := pt_rg r29
          refine ⟨pt_in (by (try simp (disch := first | ((try simp (disch := first | ((try simp only [pn]) <;> omega) | fail) only [pn, pq]) <;> omega) | fail) only [pn, pq]) <;> (intros; (try simp (disch := first | ((try simp (disch := first | ((try simp only [pn]) <;> omega) | fail) only [pn, pq]) <;> omega) | fail) only [pn, pq]) <;> omega)) (by (try simp (disch := first | ((try simp (disch := first | ((try simp only [pn]) <;> omega) | fail) only [pn, pq]) <;> omega) | fail) only [pn, pq]) <;> (intros; (try simp (disch := first | ((try simp (disch := first | ((try simp only [pn]) <;> omega) | fail) only [pn, pq]) <;> omega) | fail) only [pn, pq]) <;> omega)), ?_⟩
          intro S31 eS31
          have hJS31 : J7 S31.1 ∧ J1 S31.2 := by rw [eS31]; exact ⟨(J7s_likeNext hJS28.1), hJS28.2⟩
          have hFS31 : F_X7_compare S S31 := by rw [eS31]; exact hFS28
          have je12 : ((b1g_salt S31.2)).toInt = ((b1g_salt S.2)).toInt := congrArg (fun z => ((b1g_salt z)).toInt) hFS31.2.2.2.2
          exact hq _ hJS31 hFS31 
set_option maxRecDepth 20000 in
set_option maxHeartbeats 8000000 in
theorem sf_X7_falseBy {S : bT7} (hJ : J7 S) {a1 : Int32} {a2 : Int32} {Q : Int32 → Prop} (hq : ∀ r : Int32, Q r) : wp_X7_falseBy S a1 a2 Q := by
  unfold wp_X7_falseBy
  have jf1 := J7g_count hJ
  have rga1 := pt_rg a1
  have rga2 := pt_rg a2
  refine ⟨fun n x1q1 x2q1 x3q1 x4q1 => (x1q1 = a1) ∧ (x2q1 = a2) ∧ (0 ≤ (x4q1).toInt) ∧ n = (((b7g_count S)).toInt + 1 - (x4q1).toInt).toNat, ⟨_, rfl, rfl, (by (try simp (disch := first | ((try simp (disch := first | ((try simp only [pn]) <;> omega) | fail) only [pn, pq]) <;> omega) | fail) only [pn, pq]) <;> (intros; (try simp (disch := first | ((try simp (disch := first | ((try simp only [pn]) <;> omega) | fail) only [pn, pq]) <;> omega) | fail) only [pn, pq]) <;> omega)), rfl⟩, ?_⟩
  rintro n2 x1q1 x2q1 x3q1 x4q1 ⟨hkq1_0, hkq1_1, hiq1_0, hn2⟩
  subst hkq1_0
  subst hkq1_1
  have rgx1q1 := pt_rg x1q1
  have rgx2q1 := pt_rg x2q1
  have rgx3q1 := pt_rg x3q1
  have rgx4q1 := pt_rg x4q1
  unfold wp_X7_falseBy_5b
  refine ⟨fun c3 => ?_, fun c3 => ?_⟩
  · try simp (disch := first | ((try simp (disch := first | ((try simp only [pn]) <;> omega) | fail) only [pn, pq]) <;> omega) | fail) only [pn, pq] at c3
    exact hq _ 
  · try simp (disch := first | ((try simp (disch := first | ((try simp only [pn]) <;> omega) | fail) only [pn, pq]) <;> omega) | fail) only [pn, pq] at c3
    refine sf_X8_at (by decide) (fun r4 hr4_0 => ?_)
    have rgr4 := pt_rg r4
    try simp (disch := first | ((try simp (disch := first | ((try simp only [pn]) <;> omega) | fail) only [pn, pq]) <;> omega) | fail) only [pn, pq] at hr4_0
    refine ⟨fun c6 => ?_, fun c6 => ?_⟩
    · try simp (disch := first | ((try simp (disch := first | ((try simp only [pn]) <;> omega) | fail) only [pn, pq]) <;> omega) | fail) only [pn, pq] at c6
      unfold wp_X7_falseBy_45
      unfold wp_X7_falseBy_46
      refine ⟨_, ?_, ?_, ?_, ?_, rfl⟩
      · (try simp (disch := first | ((try simp (disch := first | ((try simp only [pn]) <;> omega) | fail) only [pn, pq]) <;> omega) | fail) only [pn, pq]) <;> (intros; (try simp (disch := first | ((try simp (disch := first | ((try simp only [pn]) <;> omega) | fail) only [pn, pq]) <;> omega) | fail) only [pn, pq]) <;> omega)
      · first | rfl | assumption
      · first | rfl | assumption
      · (try simp (disch := first | ((try simp (disch := first | ((try simp only [pn]) <;> omega) | fail) only [pn, pq]) <;> omega) | fail) only [pn, pq]) <;> (intros; (try simp (disch := first | ((try simp (disch := first | ((try simp only [pn]) <;> omega) | fail) only [pn, pq]) <;> omega) | fail) only [pn, pq]) <;> omega)
    · try simp (disch := first | ((try simp (disch := first | ((try simp only [pn]) <;> omega) | fail) only [pn, pq]) <;> omega) | fail) only [pn, pq] at c6
      refine sf_X8_at (by decide) (fun r7 hr7_0 => ?_)
      have rgr7 := pt_rg r7
      try simp (disch := first | ((try simp (disch := first | ((try simp only [pn]) <;> omega) | fail) only [pn, pq]) <;> omega) | fail) only [pn, pq] at hr7_0
      refine ⟨fun c9 => ?_, fun c9 => ?_⟩
      · try simp (disch := first | ((try simp (disch := first | ((try simp only [pn]) <;> omega) | fail) only [pn, pq]) <;> omega) | fail) only [pn, pq] at c9
        unfold wp_X7_falseBy_45
        unfold wp_X7_falseBy_46
        refine ⟨_, ?_, ?_, ?_, ?_, rfl⟩
        · (try simp (disch := first | ((try simp (disch := first | ((try simp only [pn]) <;> omega) | fail) only [pn, pq]) <;> omega) | fail) only [pn, pq]) <;> (intros; (try simp (disch := first | ((try simp (disch := first | ((try simp only [pn]) <;> omega) | fail) only [pn, pq]) <;> omega) | fail) only [pn, pq]) <;> omega)
        · first | rfl | assumption
        · first | rfl | assumption
        · (try simp (disch := first | ((try simp (disch := first | ((try simp only [pn]) <;> omega) | fail) only [pn, pq]) <;> omega) | fail) only [pn, pq]) <;> (intros; (try simp (disch := first | ((try simp (disch := first | ((try simp only [pn]) <;> omega) | fail) only [pn, pq]) <;> omega) | fail) only [pn, pq]) <;> omega)
      · try simp (disch := first | ((try simp (disch := first | ((try simp only [pn]) <;> omega) | fail) only [pn, pq]) <;> omega) | fail) only [pn, pq] at c9
        unfold wp_X7_falseBy_46
        refine ⟨_, ?_, ?_, ?_, ?_, rfl⟩
        · (try simp (disch := first | ((try simp (disch := first | ((try simp only [pn]) <;> omega) | fail) only [pn, pq]) <;> omega) | fail) only [pn, pq]) <;> (intros; (try simp (disch := first | ((try simp (disch := first | ((try simp only [pn]) <;> omega) | fail) only [pn, pq]) <;> omega) | fail) only [pn, pq]) <;> omega)
        · first | rfl | assumption
        · first | rfl | assumption
        · (try simp (disch := first | ((try simp (disch := first | ((try simp only [pn]) <;> omega) | fail) only [pn, pq]) <;> omega) | fail) only [pn, pq]) <;> (intros; (try simp (disch := first | ((try simp (disch := first | ((try simp only [pn]) <;> omega) | fail) only [pn, pq]) <;> omega) | fail) only [pn, pq]) <;> omega)
def F_X7_tune (S u : bT7 × bT1 × bT0) : Prop := u.2.1 = S.2.1 ∧ u.2.2 = S.2.2
set_option maxRecDepth 20000 in
set_option maxHeartbeats 8000000 in
theorem sf_X7_tune {S : bT7 × bT1 × bT0} (hJ : J7 S.1 ∧ J1 S.2.1 ∧ J0 S.2.2) {a3 : Int32} {Q : (bT7 × bT1 × bT0) → Prop} (hp0 : a3.toInt ≤ 16) (hq : ∀ u : bT7 × bT1 × bT0, (J7 u.1 ∧ J1 u.2.1 ∧ J0 u.2.2) → F_X7_tune S u → Q u) : wp_X7_tune S a3 Q := by
  unfold wp_X7_tune
  have hFS : F_X7_tune S S := ⟨rfl, rfl⟩
  have jf1 := J7g_count hJ.1
  have jf2 := J0g_count hJ.2.2
  have rga3 := pt_rg a3
  intro v1 ev1
  have nv1 := congrArg Int32.toInt ev1
  try simp (disch := first | ((try simp (disch := first | ((try simp only [pn]) <;> omega) | fail) only [pn, pq]) <;> omega) | fail) only [pn, pq] at nv1
  intro S2 eS2
  have hJS2 : J7 S2.1 ∧ J1 S2.2.1 ∧ J0 S2.2.2 := by rw [eS2]; exact ⟨(J7s_count hJ.1 ⟨(by (try simp (disch := first | ((try simp (disch := first | ((try simp only [pn]) <;> omega) | fail) only [pn, pq]) <;> omega) | fail) only [pn, pq]) <;> (intros; (try simp (disch := first | ((try simp (disch := first | ((try simp only [pn]) <;> omega) | fail) only [pn, pq]) <;> omega) | fail) only [pn, pq]) <;> omega)), (by (try simp (disch := first | ((try simp (disch := first | ((try simp only [pn]) <;> omega) | fail) only [pn, pq]) <;> omega) | fail) only [pn, pq]) <;> (intros; (try simp (disch := first | ((try simp (disch := first | ((try simp only [pn]) <;> omega) | fail) only [pn, pq]) <;> omega) | fail) only [pn, pq]) <;> omega))⟩), hJ.2.1, hJ.2.2⟩
  have hFS2 : F_X7_tune S S2 := by rw [eS2]; exact hFS
  have je3 : ((b7g_count S2.1)).toInt = (v1).toInt := by rw [eS2]
  try simp (disch := first | ((try simp (disch := first | ((try simp only [pn]) <;> omega) | fail) only [pn, pq]) <;> omega) | fail) only [pn, pq] at je3
  have jf4 := J7g_count hJS2.1
  have je5 : ((b7g_falsely S2.1)).toInt = ((b7g_falsely S.1)).toInt := by rw [eS2]
  have je7 : ((b0g_count S2.2.2)).toInt = ((b0g_count S.2.2)).toInt := congrArg (fun z => ((b0g_count z)).toInt) hFS2.2
  refine ⟨fun n x3q3 x4q3 Sq3 => (J7 Sq3.1 ∧ J1 Sq3.2.1 ∧ J0 Sq3.2.2) ∧ (F_X7_tune S Sq3) ∧ (x3q3 = a3) ∧ (0 ≤ (x4q3).toInt) ∧ n = (((b7g_count Sq3.1)).toInt + 1 - (x4q3).toInt).toNat, ⟨_, hJS2, hFS2, rfl, (by (try simp (disch := first | ((try simp (disch := first | ((try simp only [pn]) <;> omega) | fail) only [pn, pq]) <;> omega) | fail) only [pn, pq]) <;> (intros; (try simp (disch := first | ((try simp (disch := first | ((try simp only [pn]) <;> omega) | fail) only [pn, pq]) <;> omega) | fail) only [pn, pq]) <;> omega)), rfl⟩, ?_⟩
  rintro n4 x3q3 x4q3 Sq3 ⟨hJSq3, hFSq3, hkq3_0, hiq3_0, hn4⟩
  subst hkq3_0
  have rgx3q3 := pt_rg x3q3
  have rgx4q3 := pt_rg x4q3
  unfold wp_X7_tune_16b
  have jf8 := J7g_count hJSq3.1
  have je10 : ((b0g_count Sq3.2.2)).toInt = ((b0g_count S.2.2)).toInt := congrArg (fun z => ((b0g_count z)).toInt) hFSq3.2
  refine ⟨fun c5 => ?_, fun c5 => ?_⟩
  · try simp (disch := first | ((try simp (disch := first | ((try simp only [pn]) <;> omega) | fail) only [pn, pq]) <;> omega) | fail) only [pn, pq] at c5
    intro S6 eS6
    have hJS6 : J7 S6.1 ∧ J1 S6.2.1 ∧ J0 S6.2.2 := by rw [eS6]; exact ⟨(J7s_hashBits hJSq3.1), hJSq3.2.1, hJSq3.2.2⟩
    have hFS6 : F_X7_tune S S6 := by rw [eS6]; exact hFSq3
    have je11 : ((b7g_count S6.1)).toInt = ((b7g_count Sq3.1)).toInt := by rw [eS6]
    have jf12 := J7g_count hJS6.1
    have je13 : ((b7g_falsely S6.1)).toInt = ((b7g_falsely Sq3.1)).toInt := by rw [eS6]
    have je15 : ((b0g_count S6.2.2)).toInt = ((b0g_count S.2.2)).toInt := congrArg (fun z => ((b0g_count z)).toInt) hFS6.2
    intro S7 eS7
    have hJS7 : J7 S7.1 ∧ J1 S7.2.1 ∧ J0 S7.2.2 := by rw [eS7]; exact ⟨(J7s_realBits hJS6.1), hJS6.2.1, hJS6.2.2⟩
    have hFS7 : F_X7_tune S S7 := by rw [eS7]; exact hFS6
    have je16 : ((b7g_count S7.1)).toInt = ((b7g_count S6.1)).toInt := by rw [eS7]
    have jf17 := J7g_count hJS7.1
    have je18 : ((b7g_falsely S7.1)).toInt = ((b7g_falsely S6.1)).toInt := by rw [eS7]
    have je20 : ((b0g_count S7.2.2)).toInt = ((b0g_count S.2.2)).toInt := congrArg (fun z => ((b0g_count z)).toInt) hFS7.2
    refine sf_X7_falseBy hJS7.1 (fun r8  => ?_)
    have rgr8 := pt_rg r8
    intro S10 eS10
    have hJS10 : J7 S10.1 ∧ J1 S10.2.1 ∧ J0 S10.2.2 := by rw [eS10]; exact ⟨(J7s_falsely hJS7.1), hJS7.2.1, hJS7.2.2⟩
    have hFS10 : F_X7_tune S S10 := by rw [eS10]; exact hFS7
    have je21 : ((b7g_count S10.1)).toInt = ((b7g_count S7.1)).toInt := by rw [eS10]
    have jf22 := J7g_count hJS10.1
    have je23 : ((b7g_falsely S10.1)).toInt = (r8).toInt := by rw [eS10]
    try simp (disch := first | ((try simp (disch := first | ((try simp only [pn]) <;> omega) | fail) only [pn, pq]) <;> omega) | fail) only [pn, pq] at je23
    have je25 : ((b0g_count S10.2.2)).toInt = ((b0g_count S.2.2)).toInt := congrArg (fun z => ((b0g_count z)).toInt) hFS10.2
    refine ⟨fun n x3q11 x4q11 Sq11 => (J7 Sq11.1 ∧ J1 Sq11.2.1 ∧ J0 Sq11.2.2) ∧ (F_X7_tune S Sq11) ∧ (x3q11 = x3q3) ∧ (1 ≤ (x4q11).toInt) ∧ ((x4q11).toInt ≤ 17) ∧ ((x3q11).toInt ≤ 16) ∧ n = (20 - (x4q11).toInt).toNat, ⟨_, hJS10, hFS10, rfl, (by (try simp (disch := first | ((try simp (disch := first | ((try simp only [pn]) <;> omega) | fail) only [pn, pq]) <;> omega) | fail) only [pn, pq]) <;> (intros; (try simp (disch := first | ((try simp (disch := first | ((try simp only [pn]) <;> omega) | fail) only [pn, pq]) <;> omega) | fail) only [pn, pq]) <;> omega)), (by (try simp (disch := first | ((try simp (disch := first | ((try simp only [pn]) <;> omega) | fail) only [pn, pq]) <;> omega) | fail) only [pn, pq]) <;> (intros; (try simp (disch := first | ((try simp (disch := first | ((try simp only [pn]) <;> omega) | fail) only [pn, pq]) <;> omega) | fail) only [pn, pq]) <;> omega)), (by (try simp (disch := first | ((try simp (disch := first | ((try simp only [pn]) <;> omega) | fail) only [pn, pq]) <;> omega) | fail) only [pn, pq]) <;> (intros; (try simp (disch := first | ((try simp (disch := first | ((try simp only [pn]) <;> omega) | fail) only [pn, pq]) <;> omega) | fail) only [pn, pq]) <;> omega)), rfl⟩, ?_⟩
    rintro n12 x3q11 x4q11 Sq11 ⟨hJSq11, hFSq11, hkq11_0, hiq11_0, hiq11_1, hiq11_2, hn12⟩
    subst hkq11_0
    have rgx3q11 := pt_rg x3q11
    have rgx4q11 := pt_rg x4q11
    unfold wp_X7_tune_73b
    have jf26 := J7g_count hJSq11.1
    have je28 : ((b0g_count Sq11.2.2)).toInt = ((b0g_count S.2.2)).toInt := congrArg (fun z => ((b0g_count z)).toInt) hFSq11.2
    refine ⟨fun c13 => ?_, fun c13 => ?_⟩
    · try simp (disch := first | ((try simp (disch := first | ((try simp only [pn]) <;> omega) | fail) only [pn, pq]) <;> omega) | fail) only [pn, pq] at c13
      exact hq _ hJSq11 hFSq11 
    · try simp (disch := first | ((try simp (disch := first | ((try simp only [pn]) <;> omega) | fail) only [pn, pq]) <;> omega) | fail) only [pn, pq] at c13
      intro v14 ev14
      have nv14 := congrArg Int32.toInt ev14
      try simp (disch := first | ((try simp (disch := first | ((try simp only [pn]) <;> omega) | fail) only [pn, pq]) <;> omega) | fail) only [pn, pq] at nv14
      refine ⟨fun n x3q15 x4q15 x5q15 Sq15 => (J7 Sq15.1 ∧ J1 Sq15.2.1 ∧ J0 Sq15.2.2) ∧ (F_X7_tune S Sq15) ∧ (x3q15 = x3q11) ∧ (x4q15 = x4q11) ∧ (1 ≤ (x4q15).toInt) ∧ ((x4q15).toInt ≤ 16) ∧ ((x3q15).toInt ≤ 16) ∧ (0 ≤ (x5q15).toInt) ∧ ((x5q15).toInt ≤ 9) ∧ n = (10 - (x5q15).toInt).toNat, ⟨_, hJSq11, hFSq11, rfl, rfl, (by (try simp (disch := first | ((try simp (disch := first | ((try simp only [pn]) <;> omega) | fail) only [pn, pq]) <;> omega) | fail) only [pn, pq]) <;> (intros; (try simp (disch := first | ((try simp (disch := first | ((try simp only [pn]) <;> omega) | fail) only [pn, pq]) <;> omega) | fail) only [pn, pq]) <;> omega)), (by (try simp (disch := first | ((try simp (disch := first | ((try simp only [pn]) <;> omega) | fail) only [pn, pq]) <;> omega) | fail) only [pn, pq]) <;> (intros; (try simp (disch := first | ((try simp (disch := first | ((try simp only [pn]) <;> omega) | fail) only [pn, pq]) <;> omega) | fail) only [pn, pq]) <;> omega)), (by (try simp (disch := first | ((try simp (disch := first | ((try simp only [pn]) <;> omega) | fail) only [pn, pq]) <;> omega) | fail) only [pn, pq]) <;> (intros; (try simp (disch := first | ((try simp (disch := first | ((try simp only [pn]) <;> omega) | fail) only [pn, pq]) <;> omega) | fail) only [pn, pq]) <;> omega)), (by (try simp (disch := first | ((try simp (disch := first | ((try simp only [pn]) <;> omega) | fail) only [pn, pq]) <;> omega) | fail) only [pn, pq]) <;> (intros; (try simp (disch := first | ((try simp (disch := first | ((try simp only [pn]) <;> omega) | fail) only [pn, pq]) <;> omega) | fail) only [pn, pq]) <;> omega)), (by (try simp (disch := first | ((try simp (disch := first | ((try simp only [pn]) <;> omega) | fail) only [pn, pq]) <;> omega) | fail) only [pn, pq]) <;> (intros; (try simp (disch := first | ((try simp (disch := first | ((try simp only [pn]) <;> omega) | fail) only [pn, pq]) <;> omega) | fail) only [pn, pq]) <;> omega)), rfl⟩, ?_⟩
      rintro n16 x3q15 x4q15 x5q15 Sq15 ⟨hJSq15, hFSq15, hkq15_0, hkq15_1, hiq15_0, hiq15_1, hiq15_2, hiq15_3, hiq15_4, hn16⟩
      subst hkq15_0
      subst hkq15_1
      have rgx3q15 := pt_rg x3q15
      have rgx4q15 := pt_rg x4q15
      have rgx5q15 := pt_rg x5q15
      unfold wp_X7_tune_90b
      have jf29 := J7g_count hJSq15.1
      have je31 : ((b0g_count Sq15.2.2)).toInt = ((b0g_count S.2.2)).toInt := congrArg (fun z => ((b0g_count z)).toInt) hFSq15.2
      refine ⟨fun c17 => ?_, fun c17 => ?_⟩
      · try simp (disch := first | ((try simp (disch := first | ((try simp only [pn]) <;> omega) | fail) only [pn, pq]) <;> omega) | fail) only [pn, pq] at c17
        refine ⟨_, ?_, ?_, ?_, ?_, ?_, ?_, ?_, rfl⟩
        · (try simp (disch := first | ((try simp (disch := first | ((try simp only [pn]) <;> omega) | fail) only [pn, pq]) <;> omega) | fail) only [pn, pq]) <;> (intros; (try simp (disch := first | ((try simp (disch := first | ((try simp only [pn]) <;> omega) | fail) only [pn, pq]) <;> omega) | fail) only [pn, pq]) <;> omega)
        · exact hJSq15
        · exact hFSq15
        · first | rfl | assumption
        · (try simp (disch := first | ((try simp (disch := first | ((try simp only [pn]) <;> omega) | fail) only [pn, pq]) <;> omega) | fail) only [pn, pq]) <;> (intros; (try simp (disch := first | ((try simp (disch := first | ((try simp only [pn]) <;> omega) | fail) only [pn, pq]) <;> omega) | fail) only [pn, pq]) <;> omega)
        · (try simp (disch := first | ((try simp (disch := first | ((try simp only [pn]) <;> omega) | fail) only [pn, pq]) <;> omega) | fail) only [pn, pq]) <;> (intros; (try simp (disch := first | ((try simp (disch := first | ((try simp only [pn]) <;> omega) | fail) only [pn, pq]) <;> omega) | fail) only [pn, pq]) <;> omega)
        · (try simp (disch := first | ((try simp (disch := first | ((try simp only [pn]) <;> omega) | fail) only [pn, pq]) <;> omega) | fail) only [pn, pq]) <;> (intros; (try simp (disch := first | ((try simp (disch := first | ((try simp only [pn]) <;> omega) | fail) only [pn, pq]) <;> omega) | fail) only [pn, pq]) <;> omega)
      · try simp (disch := first | ((try simp (disch := first | ((try simp only [pn]) <;> omega) | fail) only [pn, pq]) <;> omega) | fail) only [pn, pq] at c17
        refine sf_X7_falseBy hJSq15.1 (fun r18  => ?_)
        have rgr18 := pt_rg r18
        refine ⟨fun c20 => ?_, fun c20 => ?_⟩
        · try simp (disch := first | ((try simp (disch := first | ((try simp only [pn]) <;> omega) | fail) only [pn, pq]) <;> omega) | fail) only [pn, pq] at c20
          unfold wp_X7_tune_145
          refine ⟨_, ?_, ?_, ?_, ?_, ?_, ?_, ?_, ?_, ?_, ?_, rfl⟩
          · (try simp (disch := first | ((try simp (disch := first | ((try simp only [pn]) <;> omega) | fail) only [pn, pq]) <;> omega) | fail) only [pn, pq]) <;> (intros; (try simp (disch := first | ((try simp (disch := first | ((try simp only [pn]) <;> omega) | fail) only [pn, pq]) <;> omega) | fail) only [pn, pq]) <;> omega)
          · exact hJSq15
          · exact hFSq15
          · first | rfl | assumption
          · first | rfl | assumption
          · (try simp (disch := first | ((try simp (disch := first | ((try simp only [pn]) <;> omega) | fail) only [pn, pq]) <;> omega) | fail) only [pn, pq]) <;> (intros; (try simp (disch := first | ((try simp (disch := first | ((try simp only [pn]) <;> omega) | fail) only [pn, pq]) <;> omega) | fail) only [pn, pq]) <;> omega)
          · (try simp (disch := first | ((try simp (disch := first | ((try simp only [pn]) <;> omega) | fail) only [pn, pq]) <;> omega) | fail) only [pn, pq]) <;> (intros; (try simp (disch := first | ((try simp (disch := first | ((try simp only [pn]) <;> omega) | fail) only [pn, pq]) <;> omega) | fail) only [pn, pq]) <;> omega)
          · (try simp (disch := first | ((try simp (disch := first | ((try simp only [pn]) <;> omega) | fail) only [pn, pq]) <;> omega) | fail) only [pn, pq]) <;> (intros; (try simp (disch := first | ((try simp (disch := first | ((try simp only [pn]) <;> omega) | fail) only [pn, pq]) <;> omega) | fail) only [pn, pq]) <;> omega)
          · (try simp (disch := first | ((try simp (disch := first | ((try simp only [pn]) <;> omega) | fail) only [pn, pq]) <;> omega) | fail) only [pn, pq]) <;> (intros; (try simp (disch := first | ((try simp (disch := first | ((try simp only [pn]) <;> omega) | fail) only [pn, pq]) <;> omega) | fail) only [pn, pq]) <;> omega)
          · (try simp (disch := first | ((try simp (disch := first | ((try simp only [pn]) <;> omega) | fail) only [pn, pq]) <;> omega) | fail) only [pn, pq]) <;> (intros; (try simp (disch := first | ((try simp (disch := first | ((try simp only [pn]) <;> omega) | fail) only [pn, pq]) <;> omega) | fail) only [pn, pq]) <;> omega)
        · try simp (disch := first | ((try simp (disch := first | ((try simp only [pn]) <;> omega) | fail) only [pn, pq]) <;> omega) | fail) only [pn, pq] at c20
          intro S21 eS21
          have hJS21 : J7 S21.1 ∧ J1 S21.2.1 ∧ J0 S21.2.2 := by rw [eS21]; exact ⟨(J7s_falsely hJSq15.1), hJSq15.2.1, hJSq15.2.2⟩
          have hFS21 : F_X7_tune S S21 := by rw [eS21]; exact hFSq15
          have je32 : ((b7g_count S21.1)).toInt = ((b7g_count Sq15.1)).toInt := by rw [eS21]
          have jf33 := J7g_count hJS21.1
          have je34 : ((b7g_falsely S21.1)).toInt = (r18).toInt := by rw [eS21]
          try simp (disch := first | ((try simp (disch := first | ((try simp only [pn]) <;> omega) | fail) only [pn, pq]) <;> omega) | fail) only [pn, pq] at je34
          have je36 : ((b0g_count S21.2.2)).toInt = ((b0g_count S.2.2)).toInt := congrArg (fun z => ((b0g_count z)).toInt) hFS21.2
          intro S22 eS22
          have hJS22 : J7 S22.1 ∧ J1 S22.2.1 ∧ J0 S22.2.2 := by rw [eS22]; exact ⟨(J7s_hashBits hJS21.1), hJS21.2.1, hJS21.2.2⟩
          have hFS22 : F_X7_tune S S22 := by rw [eS22]; exact hFS21
          have je37 : ((b7g_count S22.1)).toInt = ((b7g_count S21.1)).toInt := by rw [eS22]
          have jf38 := J7g_count hJS22.1
          have je39 : ((b7g_falsely S22.1)).toInt = ((b7g_falsely S21.1)).toInt := by rw [eS22]
          have je41 : ((b0g_count S22.2.2)).toInt = ((b0g_count S.2.2)).toInt := congrArg (fun z => ((b0g_count z)).toInt) hFS22.2
          intro S23 eS23
          have hJS23 : J7 S23.1 ∧ J1 S23.2.1 ∧ J0 S23.2.2 := by rw [eS23]; exact ⟨(J7s_realBits hJS22.1), hJS22.2.1, hJS22.2.2⟩
          have hFS23 : F_X7_tune S S23 := by rw [eS23]; exact hFS22
          have je42 : ((b7g_count S23.1)).toInt = ((b7g_count S22.1)).toInt := by rw [eS23]
          have jf43 := J7g_count hJS23.1
          have je44 : ((b7g_falsely S23.1)).toInt = ((b7g_falsely S22.1)).toInt := by rw [eS23]
          have je46 : ((b0g_count S23.2.2)).toInt = ((b0g_count S.2.2)).toInt := congrArg (fun z => ((b0g_count z)).toInt) hFS23.2
          unfold wp_X7_tune_145
          refine ⟨_, ?_, ?_, ?_, ?_, ?_, ?_, ?_, ?_, ?_, ?_, rfl⟩
          · (try simp (disch := first | ((try simp (disch := first | ((try simp only [pn]) <;> omega) | fail) only [pn, pq]) <;> omega) | fail) only [pn, pq]) <;> (intros; (try simp (disch := first | ((try simp (disch := first | ((try simp only [pn]) <;> omega) | fail) only [pn, pq]) <;> omega) | fail) only [pn, pq]) <;> omega)
          · exact hJS23
          · exact hFS23
          · first | rfl | assumption
          · first | rfl | assumption
          · (try simp (disch := first | ((try simp (disch := first | ((try simp only [pn]) <;> omega) | fail) only [pn, pq]) <;> omega) | fail) only [pn, pq]) <;> (intros; (try simp (disch := first | ((try simp (disch := first | ((try simp only [pn]) <;> omega) | fail) only [pn, pq]) <;> omega) | fail) only [pn, pq]) <;> omega)
          · (try simp (disch := first | ((try simp (disch := first | ((try simp only [pn]) <;> omega) | fail) only [pn, pq]) <;> omega) | fail) only [pn, pq]) <;> (intros; (try simp (disch := first | ((try simp (disch := first | ((try simp only [pn]) <;> omega) | fail) only [pn, pq]) <;> omega) | fail) only [pn, pq]) <;> omega)
          · (try simp (disch := first | ((try simp (disch := first | ((try simp only [pn]) <;> omega) | fail) only [pn, pq]) <;> omega) | fail) only [pn, pq]) <;> (intros; (try simp (disch := first | ((try simp (disch := first | ((try simp only [pn]) <;> omega) | fail) only [pn, pq]) <;> omega) | fail) only [pn, pq]) <;> omega)
          · (try simp (disch := first | ((try simp (disch := first | ((try simp only [pn]) <;> omega) | fail) only [pn, pq]) <;> omega) | fail) only [pn, pq]) <;> (intros; (try simp (disch := first | ((try simp (disch := first | ((try simp only [pn]) <;> omega) | fail) only [pn, pq]) <;> omega) | fail) only [pn, pq]) <;> omega)
          · (try simp (disch := first | ((try simp (disch := first | ((try simp only [pn]) <;> omega) | fail) only [pn, pq]) <;> omega) | fail) only [pn, pq]) <;> (intros; (try simp (disch := first | ((try simp (disch := first | ((try simp only [pn]) <;> omega) | fail) only [pn, pq]) <;> omega) | fail) only [pn, pq]) <;> omega)
  · try simp (disch := first | ((try simp (disch := first | ((try simp only [pn]) <;> omega) | fail) only [pn, pq]) <;> omega) | fail) only [pn, pq] at c5
    refine sf_X0_bytesAt hJSq3.2.2 (fun r24  => ?_)
    refine sf_X0_lengthAt hJSq3.2.2 (fun r26  => ?_)
    have rgr26 := pt_rg r26
    refine sf_X7_compare (S := (Sq3.1, Sq3.2.1)) ⟨hJSq3.1, hJSq3.2.1⟩ (fun u29 hJu29 hfu29  => ?_)
    have je48 : ((b7g_count u29.1)).toInt = ((b7g_count Sq3.1)).toInt := congrArg (fun z => (z).toInt) hfu29.1
    have je50 : ((b7g_falsely u29.1)).toInt = ((b7g_falsely Sq3.1)).toInt := congrArg (fun z => (z).toInt) hfu29.2.2.2.1
    intro S30 eS30
    have hGS30 : F_X7_tune S S30 := by
      rw [eS30]
      exact ⟨(congrArg (fun z => z) hfu29.2.2.2.2).trans hFSq3.1, hFSq3.2⟩
    have hJS30 : J7 S30.1 ∧ J1 S30.2.1 ∧ J0 S30.2.2 := by rw [eS30]; exact ⟨hJu29.1, hJu29.2, hJSq3.2.2⟩
    have hFS30 : F_X7_tune S S30 := hGS30
    have je51 : ((b7g_count S30.1)).toInt = ((b7g_count u29.1)).toInt := by rw [eS30]
    try simp (disch := first | ((try simp (disch := first | ((try simp only [pn]) <;> omega) | fail) only [pn, pq]) <;> omega) | fail) only [pn, pq] at je51
    have jf52 := J7g_count hJS30.1
    have je53 : ((b7g_falsely S30.1)).toInt = ((b7g_falsely u29.1)).toInt := by rw [eS30]
    try simp (disch := first | ((try simp (disch := first | ((try simp only [pn]) <;> omega) | fail) only [pn, pq]) <;> omega) | fail) only [pn, pq] at je53
    have je55 : ((b0g_count S30.2.2)).toInt = ((b0g_count S.2.2)).toInt := congrArg (fun z => ((b0g_count z)).toInt) hFS30.2
    refine ⟨_, ?_, ?_, ?_, ?_, ?_, rfl⟩
    · (try simp (disch := first | ((try simp (disch := first | ((try simp only [pn]) <;> omega) | fail) only [pn, pq]) <;> omega) | fail) only [pn, pq]) <;> (intros; (try simp (disch := first | ((try simp (disch := first | ((try simp only [pn]) <;> omega) | fail) only [pn, pq]) <;> omega) | fail) only [pn, pq]) <;> omega)
    · exact hJS30
    · exact hFS30
    · first | rfl | assumption
    · (try simp (disch := first | ((try simp (disch := first | ((try simp only [pn]) <;> omega) | fail) only [pn, pq]) <;> omega) | fail) only [pn, pq]) <;> (intros; (try simp (disch := first | ((try simp (disch := first | ((try simp only [pn]) <;> omega) | fail) only [pn, pq]) <;> omega) | fail) only [pn, pq]) <;> omega)
def F_X8_rebuild (S u : bT8) : Prop := (b8g_now u) = (b8g_now S) ∧ (b8g_kept u) = (b8g_kept S) ∧ (b8g_isKept u) = (b8g_isKept S) ∧ (b8g_tuning u) = (b8g_tuning S) ∧ (b8g_trial u) = (b8g_trial S) ∧ (b8g_tape u) = (b8g_tape S) ∧ (b8g_text u) = (b8g_text S) ∧ (b8g_chosenRow u) = (b8g_chosenRow S)
set_option maxRecDepth 20000 in
set_option maxHeartbeats 8000000 in
theorem sf_X8_rebuild {S : bT8} (hJ : J8 S) {Q : (bT8) → Prop} (hq : ∀ u : bT8, (J8 u) → F_X8_rebuild S u → ((b0g_count (b1g_owners (b8g_leaves u))).toInt = (b0g_count (b3g_members (b2g_built (b8g_now S)))).toInt) → Q u) : wp_X8_rebuild S Q := by
  unfold wp_X8_rebuild
  have hFS : F_X8_rebuild S S := ⟨rfl, rfl, rfl, rfl, rfl, rfl, rfl, rfl⟩
  have jf1 := J0g_count (J1g_owners (J8g_leaves hJ))
  have jf2 := J0g_count (J3g_members (J2g_built (J8g_now hJ)))
  refine sf_X1_make (S := ((b8g_leaves S), (b2g_built (b8g_now S)))) ⟨(J8g_leaves hJ), (J2g_built (J8g_now hJ))⟩ (fun u2 hJu2 hfu2 hr1_0 => ?_)
  have je4 : ((b0g_count (b3g_members u2.2))).toInt = ((b0g_count (b3g_members (b2g_built (b8g_now S))))).toInt := congrArg (fun z => ((b0g_count (b3g_members z))).toInt) hfu2
  try simp (disch := first | ((try simp (disch := first | ((try simp only [pn]) <;> omega) | fail) only [pn, pq]) <;> omega) | fail) only [pn, pq] at hr1_0
  intro S3 eS3
  have hGS3 : F_X8_rebuild S S3 := by
    rw [eS3]
    rw [hfu2]
    exact ⟨hFS.1, hFS.2.1, hFS.2.2.1, hFS.2.2.2.1, hFS.2.2.2.2.1, hFS.2.2.2.2.2.1, hFS.2.2.2.2.2.2.1, hFS.2.2.2.2.2.2.2⟩
  have hJS3 : J8 S3 := by rw [eS3]; exact (J8s_now (J8s_leaves hJ hJu2.1) (J2s_built (J8g_now (J8s_leaves hJ hJu2.1)) hJu2.2))
  have hFS3 : F_X8_rebuild S S3 := hGS3
  have je5 : ((b0g_count (b1g_owners (b8g_leaves S3)))).toInt = ((b0g_count (b1g_owners u2.1))).toInt := by rw [eS3]
  try simp (disch := first | ((try simp (disch := first | ((try simp only [pn]) <;> omega) | fail) only [pn, pq]) <;> omega) | fail) only [pn, pq] at je5
  have jf6 := J0g_count (J1g_owners (J8g_leaves hJS3))
  have je8 : ((b0g_count (b3g_members (b2g_built (b8g_now S3))))).toInt = ((b0g_count (b3g_members (b2g_built (b8g_now S))))).toInt := congrArg (fun z => ((b0g_count (b3g_members (b2g_built z)))).toInt) hFS3.1
  refine sf_X8_at (by decide) (fun r4 hr4_0 => ?_)
  have rgr4 := pt_rg r4
  try simp (disch := first | ((try simp (disch := first | ((try simp only [pn]) <;> omega) | fail) only [pn, pq]) <;> omega) | fail) only [pn, pq] at hr4_0
  refine sf_X8_at (by decide) (fun r6 hr6_0 => ?_)
  have rgr6 := pt_rg r6
  try simp (disch := first | ((try simp (disch := first | ((try simp only [pn]) <;> omega) | fail) only [pn, pq]) <;> omega) | fail) only [pn, pq] at hr6_0
  refine sf_X6_make (S := ((b8g_tree S3), (b8g_leaves S3))) ⟨(J8g_tree hJS3), (J8g_leaves hJS3)⟩ (fun u9 hJu9 hfu9  => ?_)
  have je10 : ((b0g_count (b1g_owners u9.2))).toInt = ((b0g_count (b1g_owners (b8g_leaves S3)))).toInt := congrArg (fun z => ((b0g_count (b1g_owners z))).toInt) hfu9
  intro S10 eS10
  have hGS10 : F_X8_rebuild S S10 := by
    rw [eS10]
    exact ⟨hFS3.1, hFS3.2.1, hFS3.2.2.1, hFS3.2.2.2.1, hFS3.2.2.2.2.1, hFS3.2.2.2.2.2.1, hFS3.2.2.2.2.2.2.1, hFS3.2.2.2.2.2.2.2⟩
  have hJS10 : J8 S10 := by rw [eS10]; exact (J8s_leaves (J8s_tree hJS3 hJu9.1) hJu9.2)
  have hFS10 : F_X8_rebuild S S10 := hGS10
  have je11 : ((b0g_count (b1g_owners (b8g_leaves S10)))).toInt = ((b0g_count (b1g_owners u9.2))).toInt := by rw [eS10]
  try simp (disch := first | ((try simp (disch := first | ((try simp only [pn]) <;> omega) | fail) only [pn, pq]) <;> omega) | fail) only [pn, pq] at je11
  have jf12 := J0g_count (J1g_owners (J8g_leaves hJS10))
  have je14 : ((b0g_count (b3g_members (b2g_built (b8g_now S10))))).toInt = ((b0g_count (b3g_members (b2g_built (b8g_now S))))).toInt := congrArg (fun z => ((b0g_count (b3g_members (b2g_built z)))).toInt) hFS10.1
  exact hq _ hJS10 hFS10 (by (try simp (disch := first | ((try simp (disch := first | ((try simp only [pn]) <;> omega) | fail) only [pn, pq]) <;> omega) | fail) only [pn, pq]) <;> (intros; (try simp (disch := first | ((try simp (disch := first | ((try simp only [pn]) <;> omega) | fail) only [pn, pq]) <;> omega) | fail) only [pn, pq]) <;> omega))
def F_X8_feed (S u : bT8) : Prop := (b8g_now u) = (b8g_now S) ∧ (b8g_kept u) = (b8g_kept S) ∧ (b8g_isKept u) = (b8g_isKept S) ∧ (b8g_leaves u) = (b8g_leaves S) ∧ (b8g_tree u) = (b8g_tree S) ∧ (b8g_tuning u) = (b8g_tuning S) ∧ (b8g_trial u) = (b8g_trial S) ∧ (b8g_text u) = (b8g_text S) ∧ (b8g_chosenRow u) = (b8g_chosenRow S)
theorem sf_X8_feed {S : bT8} (hJ : J8 S) {a1 : Int32} {a2 : Int32} {a3 : Int32} {a4 : Int32} {a5 : Int32} {Q : Int32 → (bT8) → Prop} (hq : ∀ (r : Int32) (u : bT8), (J8 u) → F_X8_feed S u → (140 < (b4g_count (b8g_tape S)).toInt → r.toInt = -1 ∧ (b4g_count (b8g_tape u)).toInt = (b4g_count (b8g_tape S)).toInt) → ((b4g_count (b8g_tape S)).toInt ≤ 140 → r.toInt = (b4g_count (b8g_tape S)).toInt + 20 ∧ (b4g_count (b8g_tape u)).toInt = (b4g_count (b8g_tape S)).toInt + 20) → ((b4g_count (b8g_tape S)).toInt ≤ 140 → PF5 (b4g_octets (b8g_tape S)) (b4g_count (b8g_tape S)).toInt a1 a2 a3 a4 a5 (b4g_octets (b8g_tape u))) → (140 < (b4g_count (b8g_tape S)).toInt → b8g_tape u = b8g_tape S) → Q r u) : wp_X8_feed S a1 a2 a3 a4 a5 Q := by
  have jc := J4g_count (J8g_tape hJ)
  have e20 : ((b4g_count (b8g_tape S)) + (20 : Int32)).toInt = (b4g_count (b8g_tape S)).toInt + 20 := by
    have : (20 : Int32).toInt = 20 := rfl
    rw [pt_add (by omega) (by omega)]
    omega
  unfold wp_X8_feed
  refine ⟨fun c => ?_, fun c => ?_⟩
  rotate_left
  · simp only [pn] at c
    exact hq _ _ hJ ⟨rfl, rfl, rfl, rfl, rfl, rfl, rfl, rfl, rfl⟩ (fun _ => ⟨rfl, rfl⟩) (fun h => by exfalso; omega) (fun h => by exfalso; omega) (fun _ => rfl)
  simp only [pn] at c
  refine sf_X4_putFour (J8g_tape hJ) (fun u2 hJ2 hf2 n2 p2 => ?_)
  have n2' := n2 (by omega)
  intro S3 e3
  have t3 : b8g_tape S3 = u2 := by rw [e3]
  rw [t3]
  refine sf_X4_putFour hJ2 (fun u5 hJ5 hf5 n5 p5 => ?_)
  have n5' := n5 (by omega)
  intro S6 e6
  have t6 : b8g_tape S6 = u5 := by rw [e6]
  rw [t6]
  refine sf_X4_putFour hJ5 (fun u8 hJ8 hf8 n8 p8 => ?_)
  have n8' := n8 (by omega)
  intro S9 e9
  have t9 : b8g_tape S9 = u8 := by rw [e9]
  rw [t9]
  refine sf_X4_putFour hJ8 (fun u11 hJ11 hf11 n11 p11 => ?_)
  have n11' := n11 (by omega)
  intro S12 e12
  have t12 : b8g_tape S12 = u11 := by rw [e12]
  rw [t12]
  refine sf_X4_putFour hJ11 (fun u14 hJ14 hf14 n14 p14 => ?_)
  have n14' := n14 (by omega)
  intro S15 e15
  have t15 : b8g_tape S15 = u14 := by rw [e15]
  have q2 := p2 (by omega)
  have q5 := p5 (by omega)
  have q8 := p8 (by omega)
  have q11 := p11 (by omega)
  have q14 := p14 (by omega)
  rw [n2'] at q5
  rw [n5', n2', Int.add_assoc] at q8
  rw [n8', n5', n2', Int.add_assoc, Int.add_assoc] at q11
  rw [n11', n8', n5', n2', Int.add_assoc, Int.add_assoc, Int.add_assoc] at q14
  have cc : (b4g_count (b8g_tape S15)).toInt = (b4g_count (b8g_tape S)).toInt + 20 := by rw [t15]; omega
  refine hq _ _ ?_ ?_ (fun h => by exfalso; omega) (fun _ => ⟨cc, cc⟩) (fun _ => ?_) (fun h => by exfalso; omega)
  · rw [e15, e12, e9, e6, e3]
    exact J8s_tape (J8s_tape (J8s_tape (J8s_tape (J8s_tape hJ hJ2) hJ5) hJ8) hJ11) hJ14
  · rw [e15, e12, e9, e6, e3]
    exact ⟨rfl, rfl, rfl, rfl, rfl, rfl, rfl, rfl, rfl⟩
  · rw [t15]
    exact ⟨_, _, _, _, q2, q5, q8, q11, q14⟩
def F_X8_end (S u : bT8) : Prop := (b8g_now u) = (b8g_now S) ∧ (b8g_kept u) = (b8g_kept S) ∧ (b8g_isKept u) = (b8g_isKept S) ∧ (b8g_leaves u) = (b8g_leaves S) ∧ (b8g_tree u) = (b8g_tree S) ∧ (b8g_tuning u) = (b8g_tuning S) ∧ (b8g_trial u) = (b8g_trial S) ∧ (b4g_octets (b8g_tape u)) = (b4g_octets (b8g_tape S)) ∧ (b8g_text u) = (b8g_text S) ∧ (b8g_chosenRow u) = (b8g_chosenRow S)
theorem sf_X8_end {S : bT8} (hJ : J8 S) {a1 : Int32} {Q : Int32 → (bT8) → Prop} (hq : ∀ (r : Int32) (u : bT8), (J8 u) → F_X8_end S u → bf_bool r → ((r.toInt = 1 ∧ 0 ≤ a1.toInt ∧ a1.toInt ≤ (b4g_count (b8g_tape S)).toInt ∧ (b4g_count (b8g_tape u)).toInt = a1.toInt) ∨ (r.toInt = 0 ∧ (a1.toInt < 0 ∨ (b4g_count (b8g_tape S)).toInt < a1.toInt) ∧ (b4g_count (b8g_tape u)).toInt = (b4g_count (b8g_tape S)).toInt)) → (∀ T : Nat → Int32, TPE (b8g_tape S) T → TPE (b8g_tape u) T) → Q r u) : wp_X8_end S a1 Q := by
  have jc := J4g_count (J8g_tape hJ)
  unfold wp_X8_end
  refine ⟨fun c => ?_, fun c => ⟨fun d => ?_, fun d => ?_⟩⟩
  · simp only [pn] at c
    exact ⟨rfl, hq _ _ hJ ⟨rfl, rfl, rfl, rfl, rfl, rfl, rfl, rfl, rfl, rfl⟩ rfl (Or.inr ⟨rfl, Or.inl c, rfl⟩) (fun T h => h)⟩
  · simp only [pn] at c d
    intro S1 e1
    have ec : b4g_count (b8g_tape S1) = a1 := by rw [e1]
    have eo : b4g_octets (b8g_tape S1) = b4g_octets (b8g_tape S) := by rw [e1]
    refine ⟨rfl, hq _ _ ?_ ?_ rfl (Or.inl ⟨rfl, by omega, d, by rw [ec]⟩) (fun T h j hj => ?_)⟩
    · rw [e1]
      exact J8s_tape hJ (J4s_count (J8g_tape hJ) ⟨by omega, by omega⟩)
    · rw [e1]
      exact ⟨rfl, rfl, rfl, rfl, rfl, rfl, rfl, rfl, rfl, rfl⟩
    · rw [ec] at hj
      rw [eo]
      exact h j (by omega)
  · simp only [pn] at c d
    exact ⟨rfl, hq _ _ hJ ⟨rfl, rfl, rfl, rfl, rfl, rfl, rfl, rfl, rfl, rfl⟩ rfl (Or.inr ⟨rfl, Or.inr (by omega), rfl⟩) (fun T h => h)⟩
def F_X8_mode (S u : bT8) : Prop := (b3g_members (b2g_told (b8g_now u))) = (b3g_members (b2g_told (b8g_now S))) ∧ (b3g_values (b2g_told (b8g_now u))) = (b3g_values (b2g_told (b8g_now S))) ∧ (b2g_built (b8g_now u)) = (b2g_built (b8g_now S)) ∧ (b2g_questions (b8g_now u)) = (b2g_questions (b8g_now S)) ∧ (b2g_answers (b8g_now u)) = (b2g_answers (b8g_now S)) ∧ (b2g_draws (b8g_now u)) = (b2g_draws (b8g_now S)) ∧ (b8g_kept u) = (b8g_kept S) ∧ (b8g_isKept u) = (b8g_isKept S) ∧ (b8g_leaves u) = (b8g_leaves S) ∧ (b8g_tree u) = (b8g_tree S) ∧ (b8g_tuning u) = (b8g_tuning S) ∧ (b8g_trial u) = (b8g_trial S) ∧ (b4g_octets (b8g_tape u)) = (b4g_octets (b8g_tape S)) ∧ (b8g_text u) = (b8g_text S) ∧ (b8g_chosenRow u) = (b8g_chosenRow S)
theorem sf_X8_mode {S : bT8} (hJ : J8 S) {Q : Int32 → (bT8) → Prop} (hq : ∀ (r : Int32) (u : bT8), (J8 u) → F_X8_mode S u → ((b4g_count (b8g_tape u)).toInt = 0) → (MDE (b4g_octets (b8g_tape S)) (b4g_count (b8g_tape S)) r) → (∀ T : Nat → Int32, TPE (b8g_tape u) T) → Q r u) : wp_X8_mode S Q := by
  unfold wp_X8_mode
  intro r hr S1 e1
  have hJ1 : J8 S1 := by rw [e1]; exact J8s_tape hJ (J4s_count (J8g_tape hJ) ⟨by decide, by decide⟩)
  have sp : ∀ k : Nat, k < 4 → (bf_sp (0 + k) (b8g_tape S) ↔ SPL (b4g_octets (b8g_tape S)) (b4g_count (b8g_tape S)) (0 + k)) := by
    intro k hk
    have hs : sln (0 + k) < 7 := (nm_pos (0 + k) (by omega)).2.2.2.2
    have ei : (nI (bf_slen.getD (0 + k) 0)).toInt = (sln (0 + k) : Int) := nI_toInt (by unfold sln at hs; omega)
    refine ⟨fun h => ⟨by rw [h.1]; exact ei, fun j hj => h.2 j hj⟩, fun h => ⟨Int32.toInt_inj.mp (by rw [ei]; exact h.1), fun j hj => h.2 j hj⟩⟩
  have hE : MDE (b4g_octets (b8g_tape S)) (b4g_count (b8g_tape S)) r := by
    rcases hr with ⟨k, hk, e, h, _⟩ | ⟨e, h⟩
    · exact Or.inl ⟨k, hk, by rw [e]; exact nI_toInt (by omega), (sp k hk).mp h⟩
    · exact Or.inr ⟨by rw [e]; rfl, fun k hk hh => h k hk ((sp k hk).mpr hh)⟩
  have t1 : (b4g_count (b8g_tape S1)).toInt = 0 := by rw [e1]; first | done | rfl
  have z1 : ∀ T : Nat → Int32, TPE (b8g_tape S1) T := fun T j hj => by rw [t1] at hj; omega
  refine ⟨fun _ => hq _ _ hJ1 (by rw [e1]; exact ⟨rfl, rfl, rfl, rfl, rfl, rfl, rfl, rfl, rfl, rfl, rfl, rfl, rfl, rfl, rfl⟩) t1 hE z1, fun _ S2 e2 => hq _ _ ?_ (by rw [e2, e1]; exact ⟨rfl, rfl, rfl, rfl, rfl, rfl, rfl, rfl, rfl, rfl, rfl, rfl, rfl, rfl, rfl⟩) ?_ hE ?_⟩
  · rw [e2]
    exact J8s_now hJ1 (J2s_told (J8g_now hJ1) (J3s_mode (J2g_told (J8g_now hJ1))))
  · rw [e2]
    exact t1
  · rw [e2]
    exact z1
def F_X8_row (S u : bT8) : Prop := (b8g_now u) = (b8g_now S) ∧ (b8g_kept u) = (b8g_kept S) ∧ (b8g_isKept u) = (b8g_isKept S) ∧ (b8g_leaves u) = (b8g_leaves S) ∧ (b8g_tree u) = (b8g_tree S) ∧ (b8g_tuning u) = (b8g_tuning S) ∧ (b8g_trial u) = (b8g_trial S) ∧ (b4g_octets (b8g_tape u)) = (b4g_octets (b8g_tape S)) ∧ (b8g_text u) = (b8g_text S)
theorem sf_X8_row {S : bT8} (hJ : J8 S) {Q : Int32 → (bT8) → Prop} (hq : ∀ (r : Int32) (u : bT8), (J8 u) → F_X8_row S u → ((b4g_count (b8g_tape u)).toInt = 0) → (RWE (b4g_octets (b8g_tape S)) (b4g_count (b8g_tape S)) r) → (∀ T : Nat → Int32, TPE (b8g_tape u) T) → Q r u) : wp_X8_row S Q := by
  unfold wp_X8_row
  intro r hr S1 e1
  have hJ1 : J8 S1 := by rw [e1]; exact J8s_tape hJ (J4s_count (J8g_tape hJ) ⟨by decide, by decide⟩)
  have sp : ∀ k : Nat, k < 6 → (bf_sp (4 + k) (b8g_tape S) ↔ SPL (b4g_octets (b8g_tape S)) (b4g_count (b8g_tape S)) (4 + k)) := by
    intro k hk
    have hs : sln (4 + k) < 7 := (nm_pos (4 + k) (by omega)).2.2.2.2
    have ei : (nI (bf_slen.getD (4 + k) 0)).toInt = (sln (4 + k) : Int) := nI_toInt (by unfold sln at hs; omega)
    refine ⟨fun h => ⟨by rw [h.1]; exact ei, fun j hj => h.2 j hj⟩, fun h => ⟨Int32.toInt_inj.mp (by rw [ei]; exact h.1), fun j hj => h.2 j hj⟩⟩
  have hE : RWE (b4g_octets (b8g_tape S)) (b4g_count (b8g_tape S)) r := by
    rcases hr with ⟨k, hk, e, h, _⟩ | ⟨e, h⟩
    · exact Or.inl ⟨k, hk, by rw [e]; exact nI_toInt (by omega), (sp k hk).mp h⟩
    · exact Or.inr ⟨by rw [e]; rfl, fun k hk hh => h k hk ((sp k hk).mpr hh)⟩
  have t1 : (b4g_count (b8g_tape S1)).toInt = 0 := by rw [e1]; first | done | rfl
  have z1 : ∀ T : Nat → Int32, TPE (b8g_tape S1) T := fun T j hj => by rw [t1] at hj; omega
  refine ⟨fun _ => hq _ _ hJ1 (by rw [e1]; exact ⟨rfl, rfl, rfl, rfl, rfl, rfl, rfl, rfl, rfl⟩) t1 hE z1, fun _ S2 e2 => hq _ _ ?_ (by rw [e2, e1]; exact ⟨rfl, rfl, rfl, rfl, rfl, rfl, rfl, rfl, rfl⟩) ?_ hE ?_⟩
  · rw [e2]
    exact J8s_chosenRow hJ1
  · rw [e2]
    exact t1
  · rw [e2]
    exact z1
def F_X8_keys (S u : bT8) : Prop := (b3g_values (b2g_told (b8g_now u))) = (b3g_values (b2g_told (b8g_now S))) ∧ (b3g_mode (b2g_told (b8g_now u))) = (b3g_mode (b2g_told (b8g_now S))) ∧ (b2g_built (b8g_now u)) = (b2g_built (b8g_now S)) ∧ (b2g_questions (b8g_now u)) = (b2g_questions (b8g_now S)) ∧ (b2g_answers (b8g_now u)) = (b2g_answers (b8g_now S)) ∧ (b2g_draws (b8g_now u)) = (b2g_draws (b8g_now S)) ∧ (b8g_kept u) = (b8g_kept S) ∧ (b8g_isKept u) = (b8g_isKept S) ∧ (b8g_leaves u) = (b8g_leaves S) ∧ (b8g_tree u) = (b8g_tree S) ∧ (b8g_tuning u) = (b8g_tuning S) ∧ (b4g_octets (b8g_tape u)) = (b4g_octets (b8g_tape S)) ∧ (b8g_text u) = (b8g_text S) ∧ (b8g_chosenRow u) = (b8g_chosenRow S)
theorem sf_X8_keys {S : bT8} (hJ : J8 S) {Q : Int32 → (bT8) → Prop} (hq : ∀ (r : Int32) (u : bT8), (J8 u) → F_X8_keys S u → ((b4g_count (b8g_tape u)).toInt = 0) → (∀ T : Nat → Int32, TPE (b8g_tape u) T) → (SRT (b0g_bytes (b3g_members (b2g_told (b8g_now S)))) (b0g_lengths (b3g_members (b2g_told (b8g_now S)))) (b0g_count (b3g_members (b2g_told (b8g_now S)))).toInt → (∃ p : Nat, WFP (b4g_octets (b8g_tape S)) (b4g_count (b8g_tape S)).toInt p ∧ (b0g_count (b3g_members (b2g_told (b8g_now S)))).toInt + NWC (b0g_bytes (b3g_members (b2g_told (b8g_now S)))) (b0g_lengths (b3g_members (b2g_told (b8g_now S)))) (b0g_count (b3g_members (b2g_told (b8g_now S)))).toInt (TKY (b4g_octets (b8g_tape S))) (TNY (b4g_octets (b8g_tape S))) p ≤ 64 ∧ CHN (TKY (b4g_octets (b8g_tape S))) (TNY (b4g_octets (b8g_tape S))) p (b0g_bytes (b3g_members (b2g_told (b8g_now S)))) (b0g_lengths (b3g_members (b2g_told (b8g_now S)))) (b0g_count (b3g_members (b2g_told (b8g_now S)))).toInt (b0g_bytes (b3g_members (b2g_told (b8g_now u)))) (b0g_lengths (b3g_members (b2g_told (b8g_now u)))) (b0g_count (b3g_members (b2g_told (b8g_now u)))).toInt r.toInt) ∨ (r.toInt = -1 ∧ (∀ p : Nat, WFP (b4g_octets (b8g_tape S)) (b4g_count (b8g_tape S)).toInt p → 64 < (b0g_count (b3g_members (b2g_told (b8g_now S)))).toInt + NWC (b0g_bytes (b3g_members (b2g_told (b8g_now S)))) (b0g_lengths (b3g_members (b2g_told (b8g_now S)))) (b0g_count (b3g_members (b2g_told (b8g_now S)))).toInt (TKY (b4g_octets (b8g_tape S))) (TNY (b4g_octets (b8g_tape S))) p) ∧ (b3g_members (b2g_told (b8g_now u))) = (b3g_members (b2g_told (b8g_now S))))) → Q r u) : wp_X8_keys S Q := by
  have hm := J3g_members (J2g_told (J8g_now hJ))
  have jm := J0g_count hm
  obtain ⟨M, hM⟩ : ∃ M : bT0, b3g_members (b2g_told (b8g_now S)) = M := ⟨_, rfl⟩
  unfold wp_X8_keys
  rw [hM]
  rw [hM] at hq hm jm
  refine sf_X0_copyFrom (S := ((b8g_trial S), M)) ⟨J8g_trial hJ, hm⟩ (fun u2 hJ2 hf2 c2 q2 => ?_)
  have f2 : u2.2 = M := hf2
  intro S3 e3
  have hJ3 : J8 S3 := by
    rw [e3]
    have hT := J8s_trial hJ hJ2.1
    exact J8s_now hT (J2s_told (J8g_now hT) (J3s_members (J2g_told (J8g_now hT)) hJ2.2))
  have a1 : b8g_tape S3 = b8g_tape S := by rw [e3]
  have a2 : b8g_trial S3 = u2.1 := by rw [e3]
  have a3 : b3g_members (b2g_told (b8g_now S3)) = M := by
    have : b3g_members (b2g_told (b8g_now S3)) = u2.2 := by rw [e3]
    rw [this, f2]
  have hF3 : F_X8_keys S S3 := by rw [e3]; exact ⟨rfl, rfl, rfl, rfl, rfl, rfl, rfl, rfl, rfl, rfl, rfl, rfl, rfl, rfl⟩
  rw [a1, a2]
  refine sf_X4_readInto (S := ((b8g_tape S), u2.1)) ⟨J8g_tape hJ, hJ2.1⟩ (fun r4 u5 hJ5 hf5 hz4 hR => ?_)
  have f5 : u5.1 = b8g_tape S := hf5
  intro S6 e6 S7 e7
  have b1 : b8g_trial S7 = u5.2 := by rw [e7, e6]
  have b3 : b3g_members (b2g_told (b8g_now S7)) = M := by
    have : b3g_members (b2g_told (b8g_now S7)) = b3g_members (b2g_told (b8g_now S3)) := by rw [e7, e6]
    rw [this, a3]
  have hJ6 : J8 S6 := by rw [e6]; exact J8s_trial (J8s_tape hJ3 hJ5.1) hJ5.2
  have hJ7 : J8 S7 := by rw [e7]; exact J8s_tape hJ6 (J4s_count (J8g_tape hJ6) ⟨by decide, by decide⟩)
  have t7 : (b4g_count (b8g_tape S7)).toInt = 0 := by rw [e7]; first | done | rfl
  have z7 : ∀ T : Nat → Int32, TPE (b8g_tape S7) T := fun T j hj => by rw [t7] at hj; omega
  have hF7 : F_X8_keys S S7 := by
    have h := hF3
    unfold F_X8_keys at h ⊢
    rw [a1] at h
    rw [e7, e6, f5]
    exact h
  have agr : AGR (b0g_bytes u2.1) (b0g_bytes M) (b0g_lengths u2.1) (b0g_lengths M) (b0g_count M).toInt := fun j hj => q2.2 j (by omega)
  have cnt : (b0g_count u2.1).toInt = (b0g_count M).toInt := c2
  have hR' : SRT (b0g_bytes M) (b0g_lengths M) (b0g_count M).toInt → RDI (b4g_octets (b8g_tape S)) (b4g_count (b8g_tape S)).toInt (b0g_bytes u2.1) (b0g_lengths u2.1) (b0g_count M).toInt r4.toInt (b0g_bytes u5.2) (b0g_lengths u5.2) (b0g_count u5.2).toInt := by
    intro hs
    have hs2 : SRT (b0g_bytes u2.1) (b0g_lengths u2.1) (b0g_count M).toInt := SRT_agr (fun j hj => ⟨(agr j hj).1.symm, (agr j hj).2.symm⟩) hs
    have := hR (by rw [cnt]; exact hs2)
    rw [cnt] at this
    exact this
  have nw : ∀ p : Nat, NWC (b0g_bytes u2.1) (b0g_lengths u2.1) (b0g_count M).toInt (TKY (b4g_octets (b8g_tape S))) (TNY (b4g_octets (b8g_tape S))) p = NWC (b0g_bytes M) (b0g_lengths M) (b0g_count M).toInt (TKY (b4g_octets (b8g_tape S))) (TNY (b4g_octets (b8g_tape S))) p := NWC_agr agr
  refine ⟨fun d => ?_, fun d => ?_⟩
  · intro v8 e8
    rw [b1, b3] at e8 ⊢
    refine sf_X0_copyFrom (S := (M, u5.2)) ⟨hm, hJ5.2⟩ (fun u10 hJ10 hf10 c10 q10 => ?_)
    have f10 : u10.2 = u5.2 := hf10
    intro S11 e11
    have m11 : b3g_members (b2g_told (b8g_now S11)) = u10.1 := by rw [e11]
    have t11 : b8g_tape S11 = b8g_tape S7 := by rw [e11]
    have hJ11 : J8 S11 := by
      rw [e11]
      exact J8s_trial (J8s_now hJ7 (J2s_told (J8g_now hJ7) (J3s_members (J2g_told (J8g_now hJ7)) hJ10.1))) hJ10.2
    have hF11 : F_X8_keys S S11 := by rw [e11]; exact hF7
    have j5 := J0g_count hJ5.2
    have ev : v8.toInt = (b0g_count u5.2).toInt - (b0g_count M).toInt := by rw [e8]; exact pt_sub (by omega) (by omega)
    refine hq _ _ hJ11 hF11 (by rw [t11]; exact t7) (by rw [t11]; exact z7) (fun hs => ?_)
    rcases hR' hs with ⟨_, p, w, hp, hc, ch⟩ | ⟨h0, _⟩
    · obtain ⟨m1, m2, m3⟩ := CHN_new p hc ch
      rw [nw] at hc m1 m2
      refine Or.inl ⟨p, hp, hc, ?_⟩
      rw [m11]
      have ch2 : CHN (TKY (b4g_octets (b8g_tape S))) (TNY (b4g_octets (b8g_tape S))) p (b0g_bytes M) (b0g_lengths M) (b0g_count M).toInt (b0g_bytes u5.2) (b0g_lengths u5.2) (b0g_count u5.2).toInt w := CHN_start agr p ch
      have ew : v8.toInt = w := by omega
      rw [ew]
      exact CHN_end p ch2 c10 (fun j hj => q10.2 j (by omega))
    · exact absurd (Int32.toInt_inj.mp h0) d
  · refine hq _ _ hJ7 hF7 t7 z7 (fun hs => Or.inr ⟨rfl, fun p hp => ?_, by rw [b3]⟩)
    rcases hR' hs with ⟨h1, _⟩ | ⟨_, h2⟩
    · rw [d] at h1
      exact absurd h1 (by decide)
    · have := h2 p hp
      rw [nw] at this
      exact this
def F_X8_set (S u : bT8) : Prop := (b3g_members (b2g_told (b8g_now u))) = (b3g_members (b2g_told (b8g_now S))) ∧ (b3g_mode (b2g_told (b8g_now u))) = (b3g_mode (b2g_told (b8g_now S))) ∧ (b2g_built (b8g_now u)) = (b2g_built (b8g_now S)) ∧ (b2g_questions (b8g_now u)) = (b2g_questions (b8g_now S)) ∧ (b2g_answers (b8g_now u)) = (b2g_answers (b8g_now S)) ∧ (b2g_draws (b8g_now u)) = (b2g_draws (b8g_now S)) ∧ (b8g_kept u) = (b8g_kept S) ∧ (b8g_isKept u) = (b8g_isKept S) ∧ (b8g_leaves u) = (b8g_leaves S) ∧ (b8g_tree u) = (b8g_tree S) ∧ (b8g_tuning u) = (b8g_tuning S) ∧ (b8g_trial u) = (b8g_trial S) ∧ (b8g_tape u) = (b8g_tape S) ∧ (b8g_text u) = (b8g_text S) ∧ (b8g_chosenRow u) = (b8g_chosenRow S)
theorem sf_X8_set {S : bT8} (hJ : J8 S) {a1 : Int32} {a2 : Int32} {Q : Int32 → (bT8) → Prop} (hq : ∀ (r : Int32) (u : bT8), (J8 u) → F_X8_set S u → bf_bool r → ((r.toInt = 1 ∧ ((a1.toInt = 0 ∧ 0 ≤ a2.toInt ∧ a2.toInt ≤ 8) ∨ (a1.toInt = 1 ∧ 0 ≤ a2.toInt ∧ a2.toInt ≤ 8) ∨ (a1.toInt = 2 ∧ 0 ≤ a2.toInt ∧ a2.toInt ≤ 9) ∨ (a1.toInt = 3 ∧ 1 ≤ a2.toInt ∧ a2.toInt ≤ 64) ∨ (a1.toInt = 4 ∧ 1 ≤ a2.toInt ∧ a2.toInt ≤ 256) ∨ a1.toInt = 5)) ∨ (r.toInt = 0 ∧ ¬ ((a1.toInt = 0 ∧ 0 ≤ a2.toInt ∧ a2.toInt ≤ 8) ∨ (a1.toInt = 1 ∧ 0 ≤ a2.toInt ∧ a2.toInt ≤ 8) ∨ (a1.toInt = 2 ∧ 0 ≤ a2.toInt ∧ a2.toInt ≤ 9) ∨ (a1.toInt = 3 ∧ 1 ≤ a2.toInt ∧ a2.toInt ≤ 64) ∨ (a1.toInt = 4 ∧ 1 ≤ a2.toInt ∧ a2.toInt ≤ 256) ∨ a1.toInt = 5))) → (r.toInt = 1 → b3g_values (b2g_told (b8g_now u)) = upd (b3g_values (b2g_told (b8g_now S))) a1.toNatClampNeg a2) → (r.toInt = 0 → u = S) → Q r u) : wp_X8_set S a1 a2 Q := by
  unfold wp_X8_set
  have rg1 := pt_rg a1
  have rg2 := pt_rg a2
  have tab : ∀ k : Nat, k < 6 → a1.toInt = k → (bf_at6 bf_least a1).toInt = (bf_least.getD k 0).toInt ∧ (bf_at6 bf_most a1).toInt = (bf_most.getD k 0).toInt := by
    intro k hk e
    have c := pt_clamp (i := a1) (by omega)
    have ek : a1.toNatClampNeg = k := by omega
    have n1 : ¬ a1 < 0 := by rw [Int32.lt_iff_toInt_lt, pl_0]; omega
    have n2 : ¬ (6 : Int32) ≤ a1 := by rw [Int32.le_iff_toInt_le, pl_6]; omega
    unfold bf_at6
    rw [if_neg n1, if_neg n2, if_neg n1, if_neg n2, ek]
    exact ⟨rfl, rfl⟩
  have t0 := tab 0 (by decide)
  have t1 := tab 1 (by decide)
  have t2 := tab 2 (by decide)
  have t3 := tab 3 (by decide)
  have t4 := tab 4 (by decide)
  have t5 := tab 5 (by decide)
  have l0 : (bf_least.getD 0 0).toInt = 0 ∧ (bf_most.getD 0 0).toInt = 8 := ⟨rfl, rfl⟩
  have l1 : (bf_least.getD 1 0).toInt = 0 ∧ (bf_most.getD 1 0).toInt = 8 := ⟨rfl, rfl⟩
  have l2 : (bf_least.getD 2 0).toInt = 0 ∧ (bf_most.getD 2 0).toInt = 9 := ⟨rfl, rfl⟩
  have l3 : (bf_least.getD 3 0).toInt = 1 ∧ (bf_most.getD 3 0).toInt = 64 := ⟨rfl, rfl⟩
  have l4 : (bf_least.getD 4 0).toInt = 1 ∧ (bf_most.getD 4 0).toInt = 256 := ⟨rfl, rfl⟩
  have l5 : (bf_least.getD 5 0).toInt = -2147483648 ∧ (bf_most.getD 5 0).toInt = 2147483647 := ⟨rfl, rfl⟩
  refine ⟨fun c => ?_, fun c1 c2 c3 c4 => ⟨?_, fun S2 e2 => ?_⟩⟩
  · simp only [pn] at c
    refine hq _ _ hJ ⟨rfl, rfl, rfl, rfl, rfl, rfl, rfl, rfl, rfl, rfl, rfl, rfl, rfl, rfl, rfl⟩ rfl (Or.inr ⟨rfl, ?_⟩) (fun h => absurd h (by decide)) (fun _ => rfl)
    omega
  · simp only [pn] at c1 c2
    exact pt_in (by omega) (by omega)
  · simp only [pn] at c1 c2 c3 c4
    refine hq _ _ ?_ ?_ rfl (Or.inl ⟨rfl, ?_⟩) (fun _ => by rw [e2]) (fun h => absurd h (by decide))
    · rw [e2]
      exact J8s_now hJ (J2s_told (J8g_now hJ) (J3s_values (J2g_told (J8g_now hJ))))
    · rw [e2]
      exact ⟨rfl, rfl, rfl, rfl, rfl, rfl, rfl, rfl, rfl, rfl, rfl, rfl, rfl, rfl, rfl⟩
    · omega
def F_X8_state (S u : bT8) : Prop := (b2g_told (b8g_now u)) = (b2g_told (b8g_now S)) ∧ (b2g_built (b8g_now u)) = (b2g_built (b8g_now S)) ∧ (b2g_questions (b8g_now u)) = (b2g_questions (b8g_now S)) ∧ (b2g_answers (b8g_now u)) = (b2g_answers (b8g_now S)) ∧ (b8g_kept u) = (b8g_kept S) ∧ (b8g_isKept u) = (b8g_isKept S) ∧ (b8g_leaves u) = (b8g_leaves S) ∧ (b8g_tree u) = (b8g_tree S) ∧ (b8g_tuning u) = (b8g_tuning S) ∧ (b8g_trial u) = (b8g_trial S) ∧ (b8g_tape u) = (b8g_tape S) ∧ (b8g_text u) = (b8g_text S) ∧ (b8g_chosenRow u) = (b8g_chosenRow S)
set_option maxRecDepth 20000 in
set_option maxHeartbeats 8000000 in
theorem sf_X8_state {S : bT8} (hJ : J8 S) {a1 : Int32} {Q : Int32 → (bT8) → Prop} (hq : ∀ (r : Int32) (u : bT8), (J8 u) → F_X8_state S u → (r.toInt = (b2g_draws (b8g_now S)).toInt) → ((b2g_draws (b8g_now u)).toInt = a1.toInt) → Q r u) : wp_X8_state S a1 Q := by
  unfold wp_X8_state
  have hFS : F_X8_state S S := ⟨rfl, rfl, rfl, rfl, rfl, rfl, rfl, rfl, rfl, rfl, rfl, rfl, rfl⟩
  have rga1 := pt_rg a1
  intro S1 eS1
  have hJS1 : J8 S1 := by rw [eS1]; exact (J8s_now hJ (J2s_draws (J8g_now hJ)))
  have hFS1 : F_X8_state S S1 := by rw [eS1]; exact hFS
  have je1 : ((b2g_draws (b8g_now S1))).toInt = (a1).toInt := by rw [eS1]
  try simp (disch := first | ((try simp (disch := first | ((try simp only [pn]) <;> omega) | fail) only [pn, pq]) <;> omega) | fail) only [pn, pq] at je1
  exact hq _ _ hJS1 hFS1 (by (try simp (disch := first | ((try simp (disch := first | ((try simp only [pn]) <;> omega) | fail) only [pn, pq]) <;> omega) | fail) only [pn, pq]) <;> (intros; (try simp (disch := first | ((try simp (disch := first | ((try simp only [pn]) <;> omega) | fail) only [pn, pq]) <;> omega) | fail) only [pn, pq]) <;> omega)) (by (try simp (disch := first | ((try simp (disch := first | ((try simp only [pn]) <;> omega) | fail) only [pn, pq]) <;> omega) | fail) only [pn, pq]) <;> (intros; (try simp (disch := first | ((try simp (disch := first | ((try simp only [pn]) <;> omega) | fail) only [pn, pq]) <;> omega) | fail) only [pn, pq]) <;> omega))
theorem sf_X8_keyOf {a0 : Int32} {a1 : Int32} {a2 : Int32} {Q : Int64 → Prop} (hq : ∀ r : Int64, (1 ≤ a2.toInt → a2.toInt ≤ 8 → r = KEY a0 a1 a2) → Q r) : wp_X8_keyOf a0 a1 a2 Q := by
  unfold wp_X8_keyOf
  refine sf_X8_front (fun r1 h1 => hq _ (fun h2 h3 => ?_))
  rw [h1 h2 h3]
  exact key_eq h2 h3
def F_X8_add (S u : bT8) : Prop := (b3g_values (b2g_told (b8g_now u))) = (b3g_values (b2g_told (b8g_now S))) ∧ (b3g_mode (b2g_told (b8g_now u))) = (b3g_mode (b2g_told (b8g_now S))) ∧ (b2g_built (b8g_now u)) = (b2g_built (b8g_now S)) ∧ (b2g_questions (b8g_now u)) = (b2g_questions (b8g_now S)) ∧ (b2g_answers (b8g_now u)) = (b2g_answers (b8g_now S)) ∧ (b2g_draws (b8g_now u)) = (b2g_draws (b8g_now S)) ∧ (b8g_kept u) = (b8g_kept S) ∧ (b8g_isKept u) = (b8g_isKept S) ∧ (b8g_leaves u) = (b8g_leaves S) ∧ (b8g_tree u) = (b8g_tree S) ∧ (b8g_tuning u) = (b8g_tuning S) ∧ (b8g_trial u) = (b8g_trial S) ∧ (b8g_tape u) = (b8g_tape S) ∧ (b8g_text u) = (b8g_text S) ∧ (b8g_chosenRow u) = (b8g_chosenRow S)
theorem sf_X8_add {S : bT8} (hJ : J8 S) {a1 : Int32} {a2 : Int32} {a3 : Int32} {Q : Int32 → (bT8) → Prop} (hq : ∀ (r : Int32) (u : bT8), (J8 u) → F_X8_add S u → (SRT (b0g_bytes (b3g_members (b2g_told (b8g_now S)))) (b0g_lengths (b3g_members (b2g_told (b8g_now S)))) (b0g_count (b3g_members (b2g_told (b8g_now S)))).toInt → (1 ≤ a3.toInt ∧ a3.toInt ≤ 8 → INS (b0g_bytes (b3g_members (b2g_told (b8g_now S)))) (b0g_lengths (b3g_members (b2g_told (b8g_now S)))) (b0g_count (b3g_members (b2g_told (b8g_now S)))).toInt (KEY a1 a2 a3) a3 r.toInt (b0g_bytes (b3g_members (b2g_told (b8g_now u)))) (b0g_lengths (b3g_members (b2g_told (b8g_now u)))) (b0g_count (b3g_members (b2g_told (b8g_now u)))).toInt) ∧ (¬ (1 ≤ a3.toInt ∧ a3.toInt ≤ 8) → r.toInt = -1 ∧ u = S)) → Q r u) : wp_X8_add S a1 a2 a3 Q := by
  have hm := J3g_members (J2g_told (J8g_now hJ))
  unfold wp_X8_add
  refine sf_X8_isLength (fun r1 hz h1 => ⟨fun c => ?_, fun c => ?_⟩)
  · simp only [pn] at c
    have hn : 1 ≤ a3.toInt ∧ a3.toInt ≤ 8 := by omega
    refine sf_X8_keyOf (fun r3 h3 => ?_)
    have e3 := h3 hn.1 hn.2
    refine sf_X0_insert hm (fun r5 u6 hJ6 hf6 hI => ?_)
    intro S7 e7
    have em : b3g_members (b2g_told (b8g_now S7)) = u6 := by rw [e7]
    refine hq _ _ ?_ ?_ (fun hs => ⟨fun h => ?_, fun h => absurd hn h⟩)
    · rw [e7]
      exact J8s_now hJ (J2s_told (J8g_now hJ) (J3s_members (J2g_told (J8g_now hJ)) hJ6))
    · rw [e7]
      exact ⟨rfl, rfl, rfl, rfl, rfl, rfl, rfl, rfl, rfl, rfl, rfl, rfl, rfl, rfl, rfl⟩
    · rw [em, ← e3]
      exact hI hs h
  · simp only [pn] at c
    exact hq _ _ hJ ⟨rfl, rfl, rfl, rfl, rfl, rfl, rfl, rfl, rfl, rfl, rfl, rfl, rfl, rfl, rfl⟩ (fun _ => ⟨fun h => by omega, fun _ => ⟨rfl, rfl⟩⟩)
def F_X8_remove (S u : bT8) : Prop := (b3g_values (b2g_told (b8g_now u))) = (b3g_values (b2g_told (b8g_now S))) ∧ (b3g_mode (b2g_told (b8g_now u))) = (b3g_mode (b2g_told (b8g_now S))) ∧ (b2g_built (b8g_now u)) = (b2g_built (b8g_now S)) ∧ (b2g_questions (b8g_now u)) = (b2g_questions (b8g_now S)) ∧ (b2g_answers (b8g_now u)) = (b2g_answers (b8g_now S)) ∧ (b2g_draws (b8g_now u)) = (b2g_draws (b8g_now S)) ∧ (b8g_kept u) = (b8g_kept S) ∧ (b8g_isKept u) = (b8g_isKept S) ∧ (b8g_leaves u) = (b8g_leaves S) ∧ (b8g_tree u) = (b8g_tree S) ∧ (b8g_tuning u) = (b8g_tuning S) ∧ (b8g_trial u) = (b8g_trial S) ∧ (b8g_tape u) = (b8g_tape S) ∧ (b8g_text u) = (b8g_text S) ∧ (b8g_chosenRow u) = (b8g_chosenRow S)
theorem sf_X8_remove {S : bT8} (hJ : J8 S) {a1 : Int32} {a2 : Int32} {a3 : Int32} {Q : Int32 → (bT8) → Prop} (hq : ∀ (r : Int32) (u : bT8), (J8 u) → F_X8_remove S u → (SRT (b0g_bytes (b3g_members (b2g_told (b8g_now S)))) (b0g_lengths (b3g_members (b2g_told (b8g_now S)))) (b0g_count (b3g_members (b2g_told (b8g_now S)))).toInt → (1 ≤ a3.toInt ∧ a3.toInt ≤ 8 → NUM (b0g_bytes (b3g_members (b2g_told (b8g_now S)))) (b0g_lengths (b3g_members (b2g_told (b8g_now S)))) (b0g_count (b3g_members (b2g_told (b8g_now S)))).toInt (KEY a1 a2 a3) a3 r.toInt) ∧ (¬ (1 ≤ a3.toInt ∧ a3.toInt ≤ 8) → r.toInt = -1)) → (DRP (b0g_bytes (b3g_members (b2g_told (b8g_now S)))) (b0g_lengths (b3g_members (b2g_told (b8g_now S)))) (b0g_count (b3g_members (b2g_told (b8g_now S)))).toInt r.toInt (b0g_bytes (b3g_members (b2g_told (b8g_now u)))) (b0g_lengths (b3g_members (b2g_told (b8g_now u)))) (b0g_count (b3g_members (b2g_told (b8g_now u)))).toInt) → Q r u) : wp_X8_remove S a1 a2 a3 Q := by
  have hm := J3g_members (J2g_told (J8g_now hJ))
  unfold wp_X8_remove
  refine sf_X8_isLength (fun r1 hz h1 => ⟨fun c => ?_, fun c => ?_⟩)
  · simp only [pn] at c
    have hn : 1 ≤ a3.toInt ∧ a3.toInt ≤ 8 := by omega
    refine sf_X8_keyOf (fun r3 h3 => ?_)
    have e3 := h3 hn.1 hn.2
    refine fx_numberOf hm (fun r5 h5 h6 hN => ?_)
    refine sf_X0_drop hm (fun u8 hJ8 hf8 hD => ?_)
    intro S9 e9
    have em : b3g_members (b2g_told (b8g_now S9)) = u8 := by rw [e9]
    refine hq _ _ ?_ ?_ (fun hs => ⟨fun h => ?_, fun h => absurd hn h⟩) ?_
    · rw [e9]
      exact J8s_now hJ (J2s_told (J8g_now hJ) (J3s_members (J2g_told (J8g_now hJ)) hJ8))
    · rw [e9]
      exact ⟨rfl, rfl, rfl, rfl, rfl, rfl, rfl, rfl, rfl, rfl, rfl, rfl, rfl, rfl, rfl⟩
    · rw [← e3]
      exact hN hs h
    · rw [em]
      exact hD
  · simp only [pn] at c
    exact hq _ _ hJ ⟨rfl, rfl, rfl, rfl, rfl, rfl, rfl, rfl, rfl, rfl, rfl, rfl, rfl, rfl, rfl⟩ (fun _ => ⟨fun h => by omega, fun _ => rfl⟩) (Or.inl ⟨by rw [pl_m1]; omega, rfl, fun j hj => ⟨rfl, rfl⟩⟩)
def F_X8_fill (S u : bT8) : Prop := (b3g_values (b2g_told (b8g_now u))) = (b3g_values (b2g_told (b8g_now S))) ∧ (b3g_mode (b2g_told (b8g_now u))) = (b3g_mode (b2g_told (b8g_now S))) ∧ (b2g_built (b8g_now u)) = (b2g_built (b8g_now S)) ∧ (b2g_questions (b8g_now u)) = (b2g_questions (b8g_now S)) ∧ (b2g_answers (b8g_now u)) = (b2g_answers (b8g_now S)) ∧ (b8g_kept u) = (b8g_kept S) ∧ (b8g_isKept u) = (b8g_isKept S) ∧ (b8g_leaves u) = (b8g_leaves S) ∧ (b8g_tree u) = (b8g_tree S) ∧ (b8g_tuning u) = (b8g_tuning S) ∧ (b8g_trial u) = (b8g_trial S) ∧ (b8g_tape u) = (b8g_tape S) ∧ (b8g_text u) = (b8g_text S) ∧ (b8g_chosenRow u) = (b8g_chosenRow S)
theorem sf_X8_fill {S : bT8} (hJ : J8 S) {a1 : Int32} {a2 : Int32} {Q : Int32 → (bT8) → Prop} (hq : ∀ (r : Int32) (u : bT8), (J8 u) → F_X8_fill S u → (b2g_draws (b8g_now u) = filS a1 a2 64 (b2g_draws (b8g_now S))) → (SRT (b0g_bytes (b3g_members (b2g_told (b8g_now S)))) (b0g_lengths (b3g_members (b2g_told (b8g_now S)))) (b0g_count (b3g_members (b2g_told (b8g_now S)))).toInt → (1 ≤ a1.toInt ∧ a1.toInt ≤ 64 ∧ 1 ≤ a2.toInt ∧ a2.toInt ≤ 8 → CHN (KN (b3g_values (b2g_told (b8g_now S)) 4) a2 (b2g_draws (b8g_now S))) (NN a2 (b2g_draws (b8g_now S))) a1.toInt.toNat (b0g_bytes (b3g_members (b2g_told (b8g_now S)))) (b0g_lengths (b3g_members (b2g_told (b8g_now S)))) (b0g_count (b3g_members (b2g_told (b8g_now S)))).toInt (b0g_bytes (b3g_members (b2g_told (b8g_now u)))) (b0g_lengths (b3g_members (b2g_told (b8g_now u)))) (b0g_count (b3g_members (b2g_told (b8g_now u)))).toInt r.toInt) ∧ (¬ (1 ≤ a1.toInt ∧ a1.toInt ≤ 64 ∧ 1 ≤ a2.toInt ∧ a2.toInt ≤ 8) → r.toInt = -1 ∧ u = S)) → Q r u) : wp_X8_fill S a1 a2 Q := by
  unfold wp_X8_fill
  have bad : ¬ (1 ≤ a1.toInt ∧ a1.toInt ≤ 64 ∧ 1 ≤ a2.toInt ∧ a2.toInt ≤ 8) → Q (-1) S := by
    intro h
    exact hq _ _ hJ ⟨rfl, rfl, rfl, rfl, rfl, rfl, rfl, rfl, rfl, rfl, rfl, rfl, rfl, rfl⟩ (filS_0 h).symm (fun _ => ⟨fun g => absurd g h, fun _ => ⟨rfl, rfl⟩⟩)
  refine ⟨fun c => bad ?_, fun c => ⟨fun d => bad ?_, fun d => sf_X8_isLength (fun r1 hz h1 => ⟨fun g => ?_, fun g => bad ?_⟩)⟩⟩
  · simp only [pn] at c; omega
  · simp only [pn] at d; omega
  rotate_left
  · simp only [pn] at g; omega
  simp only [pn] at c d g
  have hok : 1 ≤ a1.toInt ∧ a1.toInt ≤ 64 ∧ 1 ≤ a2.toInt ∧ a2.toInt ≤ 8 := by omega
  unfold wp_X8_fill_25
  refine ⟨fun n x1 x2 x3 x4 V => x1 = a1 ∧ x2 = a2 ∧ 0 ≤ x4.toInt ∧ x4.toInt ≤ a1.toInt ∧ 0 ≤ x3.toInt ∧ x3.toInt ≤ x4.toInt ∧ J8 V ∧ F_X8_fill S V ∧ b2g_draws (b8g_now V) = stpN a2 x4.toInt.toNat (b2g_draws (b8g_now S)) ∧ (SRT (b0g_bytes (b3g_members (b2g_told (b8g_now S)))) (b0g_lengths (b3g_members (b2g_told (b8g_now S)))) (b0g_count (b3g_members (b2g_told (b8g_now S)))).toInt → CHN (KN (b3g_values (b2g_told (b8g_now S)) 4) a2 (b2g_draws (b8g_now S))) (NN a2 (b2g_draws (b8g_now S))) x4.toInt.toNat (b0g_bytes (b3g_members (b2g_told (b8g_now S)))) (b0g_lengths (b3g_members (b2g_told (b8g_now S)))) (b0g_count (b3g_members (b2g_told (b8g_now S)))).toInt (b0g_bytes (b3g_members (b2g_told (b8g_now V)))) (b0g_lengths (b3g_members (b2g_told (b8g_now V)))) (b0g_count (b3g_members (b2g_told (b8g_now V)))).toInt x3.toInt) ∧ n = (a1.toInt - x4.toInt).toNat, ⟨_, rfl, rfl, by decide, by rw [pl_0]; omega, by decide, by decide, hJ, ⟨rfl, rfl, rfl, rfl, rfl, rfl, rfl, rfl, rfl, rfl, rfl, rfl, rfl, rfl⟩, by rw [z0, stpN0], fun _ => by rw [z0]; exact ⟨rfl, fun j hj => ⟨rfl, rfl⟩, rfl⟩, rfl⟩, ?_⟩
  rintro n x1 x2 x3 x4 V ⟨e1, e2, h0, h1', w0, w1, hJV, hFV, hd, hC, hn⟩
  unfold wp_X8_fill_25b
  rw [e1, e2]
  refine ⟨fun c2 => ?_, fun c2 => ?_⟩
  · simp only [pn] at c2
    have ex : x4.toInt = a1.toInt := by omega
    rw [ex] at hd hC
    exact hq _ _ hJV hFV (hd.trans (filS_1 hok).symm) (fun hs => ⟨fun _ => hC hs, fun h => absurd hok h⟩)
  simp only [pn] at c2
  have x4' : (x4 + 1).toInt = x4.toInt + 1 := by rw [pt_add (by rw [pl_1]; omega) (by rw [pl_1]; omega), pl_1]
  have x3' : (x3 + 1).toInt = x3.toInt + 1 := by rw [pt_add (by rw [pl_1]; omega) (by rw [pl_1]; omega), pl_1]
  have hv : b3g_values (b2g_told (b8g_now V)) = b3g_values (b2g_told (b8g_now S)) := hFV.1
  refine sf_X2_draw (J8g_now hJV) (fun r1 u2 hJ2 hf2 d2 q2 => ?_)
  intro S3 e3
  have n3 : b8g_now S3 = u2 := by rw [e3]
  have hJ3 : J8 S3 := by rw [e3]; exact J8s_now hJV hJ2
  rw [n3]
  have er : r1 + 1 = NN a2 (b2g_draws (b8g_now S)) x4.toInt.toNat := by
    rw [q2, d2, hd, Int32.add_comm]
    rfl
  have rN := NN_rng (m := a2) (s := b2g_draws (b8g_now S)) (i := x4.toInt.toNat) (by omega) (by omega)
  refine sf_X2_drawBytes hJ2 (fun r4 u5 hJ5 hf5 d5 k5 => ?_)
  intro S6 e6
  have n6 : b8g_now S6 = u5 := by rw [e6]
  have t5 : b2g_told u5 = b2g_told (b8g_now V) := (hf5.1).trans (hf2.1)
  have t2 : b2g_told u2 = b2g_told (b8g_now V) := hf2.1
  have hJ6 : J8 S6 := by rw [e6]; exact J8s_now hJ3 hJ5
  have ek : r4 = KN (b3g_values (b2g_told (b8g_now S)) 4) a2 (b2g_draws (b8g_now S)) x4.toInt.toNat := by
    rw [k5 (by rw [er]; omega) (by rw [er]; omega), er, d2, hd, t2, hv]
    rfl
  have d5' : b2g_draws u5 = stpN a2 (x4 + 1).toInt.toNat (b2g_draws (b8g_now S)) := by
    rw [d5, d2, hd, stpN_s h0 (by omega), er]
    rfl
  rw [n6, t5]
  refine sf_X0_insert (J3g_members (J2g_told (J8g_now hJV))) (fun r7 u8 hJ8 hf8 hI => ?_)
  intro S9 e9
  have m9 : b3g_members (b2g_told (b8g_now S9)) = u8 := by rw [e9]
  have d9 : b2g_draws (b8g_now S9) = b2g_draws u5 := by rw [e9, ← n6]
  have hJ9' : J8 S9 := by
    rw [e9]
    exact J8s_now hJ6 (J2s_told hJ5 (J3s_members (J2g_told (J8g_now hJV)) hJ8))
  have hF9 : F_X8_fill S S9 := by
    have tb : b2g_built u5 = b2g_built (b8g_now V) := (hf5.2.1).trans (hf2.2.1)
    have tq : b2g_questions u5 = b2g_questions (b8g_now V) := (hf5.2.2.1).trans (hf2.2.2.1)
    have ta : b2g_answers u5 = b2g_answers (b8g_now V) := (hf5.2.2.2).trans (hf2.2.2.2)
    have h := hFV
    unfold F_X8_fill at h ⊢
    rw [← tb, ← tq, ← ta] at h
    rw [e9, e6, e3]
    exact h
  have next : ∀ y3 : Int32, y3.toInt = x3.toInt + (if r7.toInt = -1 then 0 else 1) → wp_X8_fill_78 S9 a1 a2 y3 x4 Q (fun x1 x2 x3 x4 S_1 => ∃ n2 : Nat, n2 < n ∧ x1 = a1 ∧ x2 = a2 ∧ 0 ≤ x4.toInt ∧ x4.toInt ≤ a1.toInt ∧ 0 ≤ x3.toInt ∧ x3.toInt ≤ x4.toInt ∧ J8 S_1 ∧ F_X8_fill S S_1 ∧ b2g_draws (b8g_now S_1) = stpN a2 x4.toInt.toNat (b2g_draws (b8g_now S)) ∧ (SRT (b0g_bytes (b3g_members (b2g_told (b8g_now S)))) (b0g_lengths (b3g_members (b2g_told (b8g_now S)))) (b0g_count (b3g_members (b2g_told (b8g_now S)))).toInt → CHN (KN (b3g_values (b2g_told (b8g_now S)) 4) a2 (b2g_draws (b8g_now S))) (NN a2 (b2g_draws (b8g_now S))) x4.toInt.toNat (b0g_bytes (b3g_members (b2g_told (b8g_now S)))) (b0g_lengths (b3g_members (b2g_told (b8g_now S)))) (b0g_count (b3g_members (b2g_told (b8g_now S)))).toInt (b0g_bytes (b3g_members (b2g_told (b8g_now S_1)))) (b0g_lengths (b3g_members (b2g_told (b8g_now S_1)))) (b0g_count (b3g_members (b2g_told (b8g_now S_1)))).toInt x3.toInt) ∧ n2 = (a1.toInt - x4.toInt).toNat) := by
    intro y3 hy
    unfold wp_X8_fill_78
    refine ⟨_, ?_, rfl, rfl, by omega, by omega, by split at hy <;> omega, by split at hy <;> omega, hJ9', hF9, by rw [d9]; exact d5', fun hs => ?_, rfl⟩
    · omega
    · rw [m9]
      refine CHN_step h0 (by omega) (hC hs) ?_ hy
      rw [← ek, ← er]
      have hsV := CHN_srt hs x4.toInt.toNat (fun q hq => NN_rng (by omega) (by omega)) (hC hs)
      exact hI hsV (by rw [er]; exact rN)
  refine ⟨fun g2 => next x3 ?_, fun g2 => next (x3 + 1) ?_⟩
  · rw [if_pos (by rw [g2]; rfl)]
    omega
  · rw [if_neg (fun h => g2 (Int32.toInt_inj.mp (h.trans pl_m1.symm)))]
    exact x3'
def F_X8_build (S u : bT8) : Prop := (b2g_told (b8g_now u)) = (b2g_told (b8g_now S)) ∧ (b2g_questions (b8g_now u)) = (b2g_questions (b8g_now S)) ∧ (b2g_answers (b8g_now u)) = (b2g_answers (b8g_now S)) ∧ (b2g_draws (b8g_now u)) = (b2g_draws (b8g_now S)) ∧ (b8g_kept u) = (b8g_kept S) ∧ (b8g_isKept u) = (b8g_isKept S) ∧ (b8g_tuning u) = (b8g_tuning S) ∧ (b8g_trial u) = (b8g_trial S) ∧ (b8g_tape u) = (b8g_tape S) ∧ (b8g_text u) = (b8g_text S) ∧ (b8g_chosenRow u) = (b8g_chosenRow S)
set_option maxRecDepth 20000 in
set_option maxHeartbeats 8000000 in
theorem sf_X8_build {S : bT8} (hJ : J8 S) {Q : Int32 → (bT8) → Prop} (hq : ∀ (r : Int32) (u : bT8), (J8 u) → F_X8_build S u → (r.toInt = (b0g_count (b3g_members (b2g_told (b8g_now S)))).toInt) → Q r u) : wp_X8_build S Q := by
  unfold wp_X8_build
  have hFS : F_X8_build S S := ⟨rfl, rfl, rfl, rfl, rfl, rfl, rfl, rfl, rfl, rfl, rfl⟩
  have jf1 := J0g_count (J3g_members (J2g_told (J8g_now hJ)))
  have jf2 := J0g_count (J3g_members (J2g_built (J8g_now hJ)))
  have jf3 := J0g_count (J1g_owners (J8g_leaves hJ))
  refine sf_X3_copyFrom (S := ((b2g_built (b8g_now S)), (b2g_told (b8g_now S)))) ⟨(J2g_built (J8g_now hJ)), (J2g_told (J8g_now hJ))⟩ (fun u2 hJu2 hfu2 hr1_0 hr1_1 => ?_)
  have je5 : ((b0g_count (b3g_members u2.2))).toInt = ((b0g_count (b3g_members (b2g_told (b8g_now S))))).toInt := congrArg (fun z => ((b0g_count (b3g_members z))).toInt) hfu2
  try simp (disch := first | ((try simp (disch := first | ((try simp only [pn]) <;> omega) | fail) only [pn, pq]) <;> omega) | fail) only [pn, pq] at hr1_0
  intro S3 eS3
  have hGS3 : F_X8_build S S3 := by
    rw [eS3]
    exact ⟨(congrArg (fun z => z) hfu2).trans hFS.1, hFS.2.1, hFS.2.2.1, hFS.2.2.2.1, hFS.2.2.2.2.1, hFS.2.2.2.2.2.1, hFS.2.2.2.2.2.2.1, hFS.2.2.2.2.2.2.2.1, hFS.2.2.2.2.2.2.2.2.1, hFS.2.2.2.2.2.2.2.2.2.1, hFS.2.2.2.2.2.2.2.2.2.2⟩
  have hJS3 : J8 S3 := by rw [eS3]; exact (J8s_now (J8s_now hJ (J2s_built (J8g_now hJ) hJu2.1)) (J2s_told (J8g_now (J8s_now hJ (J2s_built (J8g_now hJ) hJu2.1))) hJu2.2))
  have hFS3 : F_X8_build S S3 := hGS3
  have je7 : ((b0g_count (b3g_members (b2g_told (b8g_now S3))))).toInt = ((b0g_count (b3g_members (b2g_told (b8g_now S))))).toInt := congrArg (fun z => ((b0g_count (b3g_members z))).toInt) hFS3.1
  have je8 : ((b0g_count (b3g_members (b2g_built (b8g_now S3))))).toInt = ((b0g_count (b3g_members u2.1))).toInt := by rw [eS3]
  try simp (disch := first | ((try simp (disch := first | ((try simp only [pn]) <;> omega) | fail) only [pn, pq]) <;> omega) | fail) only [pn, pq] at je8
  have jf9 := J0g_count (J3g_members (J2g_built (J8g_now hJS3)))
  have je10 : ((b0g_count (b1g_owners (b8g_leaves S3)))).toInt = ((b0g_count (b1g_owners (b8g_leaves S)))).toInt := by rw [eS3]
  have jf11 := J0g_count (J1g_owners (J8g_leaves hJS3))
  refine sf_X8_rebuild hJS3 (fun u5 hJu5 hfu5 hr4_0 => ?_)
  have hFu5 : F_X8_build S u5 := ⟨(congrArg (fun z => (b2g_told z)) hfu5.1).trans hFS3.1, (congrArg (fun z => (b2g_questions z)) hfu5.1).trans hFS3.2.1, (congrArg (fun z => (b2g_answers z)) hfu5.1).trans hFS3.2.2.1, (congrArg (fun z => (b2g_draws z)) hfu5.1).trans hFS3.2.2.2.1, (congrArg (fun z => z) hfu5.2.1).trans hFS3.2.2.2.2.1, (congrArg (fun z => z) hfu5.2.2.1).trans hFS3.2.2.2.2.2.1, (congrArg (fun z => z) hfu5.2.2.2.1).trans hFS3.2.2.2.2.2.2.1, (congrArg (fun z => z) hfu5.2.2.2.2.1).trans hFS3.2.2.2.2.2.2.2.1, (congrArg (fun z => z) hfu5.2.2.2.2.2.1).trans hFS3.2.2.2.2.2.2.2.2.1, (congrArg (fun z => z) hfu5.2.2.2.2.2.2.1).trans hFS3.2.2.2.2.2.2.2.2.2.1, (congrArg (fun z => z) hfu5.2.2.2.2.2.2.2).trans hFS3.2.2.2.2.2.2.2.2.2.2⟩
  have je13 : ((b0g_count (b3g_members (b2g_told (b8g_now u5))))).toInt = ((b0g_count (b3g_members (b2g_told (b8g_now S))))).toInt := congrArg (fun z => ((b0g_count (b3g_members z))).toInt) hFu5.1
  have je14 : ((b0g_count (b3g_members (b2g_built (b8g_now u5))))).toInt = ((b0g_count (b3g_members (b2g_built (b8g_now S3))))).toInt := congrArg (fun z => ((b0g_count (b3g_members (b2g_built z)))).toInt) hfu5.1
  have jf15 := J0g_count (J3g_members (J2g_built (J8g_now hJu5)))
  have jf16 := J0g_count (J1g_owners (J8g_leaves hJu5))
  try simp (disch := first | ((try simp (disch := first | ((try simp only [pn]) <;> omega) | fail) only [pn, pq]) <;> omega) | fail) only [pn, pq] at hr4_0
  refine sf_X1_count (J8g_leaves hJu5) (fun r6 hr6_0 => ?_)
  have rgr6 := pt_rg r6
  try simp (disch := first | ((try simp (disch := first | ((try simp only [pn]) <;> omega) | fail) only [pn, pq]) <;> omega) | fail) only [pn, pq] at hr6_0
  exact hq _ _ hJu5 hFu5 (by (try simp (disch := first | ((try simp (disch := first | ((try simp only [pn]) <;> omega) | fail) only [pn, pq]) <;> omega) | fail) only [pn, pq]) <;> (intros; (try simp (disch := first | ((try simp (disch := first | ((try simp only [pn]) <;> omega) | fail) only [pn, pq]) <;> omega) | fail) only [pn, pq]) <;> omega))
theorem sf_X8_has {S : bT8} (hJ : J8 S) {a1 : Int32} {a2 : Int32} {a3 : Int32} {a4 : Int32} {Q : Int32 → Prop} (hq : ∀ r : Int32, (1 ≤ a3.toInt ∧ a3.toInt ≤ 8 → a4.toInt = 0 → SRT (b0g_bytes (b3g_members (b2g_told (b8g_now S)))) (b0g_lengths (b3g_members (b2g_told (b8g_now S)))) (b0g_count (b3g_members (b2g_told (b8g_now S)))).toInt → NUM (b0g_bytes (b3g_members (b2g_told (b8g_now S)))) (b0g_lengths (b3g_members (b2g_told (b8g_now S)))) (b0g_count (b3g_members (b2g_told (b8g_now S)))).toInt (KEY a1 a2 a3) a3 r.toInt) → (1 ≤ a3.toInt ∧ a3.toInt ≤ 8 → a4.toInt = 1 → SRT (b0g_bytes (b1g_owners (b8g_leaves S))) (b0g_lengths (b1g_owners (b8g_leaves S))) (b0g_count (b1g_owners (b8g_leaves S))).toInt → NUM (b0g_bytes (b1g_owners (b8g_leaves S))) (b0g_lengths (b1g_owners (b8g_leaves S))) (b0g_count (b1g_owners (b8g_leaves S))).toInt (KEY a1 a2 a3) a3 r.toInt) → (¬ ((1 ≤ a3.toInt ∧ a3.toInt ≤ 8) ∧ (a4.toInt = 0 ∨ a4.toInt = 1)) → r.toInt = -1) → Q r) : wp_X8_has S a1 a2 a3 a4 Q := by
  unfold wp_X8_has
  refine sf_X8_isLength (fun r1 hz h1 => ⟨fun c => ?_, fun c => ?_⟩)
  · simp only [pn] at c
    have hn : 1 ≤ a3.toInt ∧ a3.toInt ≤ 8 := by omega
    refine sf_X8_keyOf (fun r3 h3 => ?_)
    have e3 := h3 hn.1 hn.2
    refine ⟨fun d => ⟨fun e => ?_, fun e => ?_⟩, fun d => ?_⟩
    · simp only [pn] at d e
      exact hq _ (fun _ h => by omega) (fun _ h => by omega) (fun _ => rfl)
    · simp only [pn] at d e
      exact fx_numberOf (J1g_owners (J8g_leaves hJ)) (fun r5 g1 g2 hN => hq _ (fun _ h => by omega) (fun _ _ hs => by rw [← e3]; exact hN hs hn) (fun h => absurd ⟨hn, Or.inr e⟩ h))
    · simp only [pn] at d
      exact fx_numberOf (J3g_members (J2g_told (J8g_now hJ))) (fun r7 g1 g2 hN => hq _ (fun _ _ hs => by rw [← e3]; exact hN hs hn) (fun _ h => by omega) (fun h => absurd ⟨hn, Or.inl d⟩ h))
  · simp only [pn] at c
    exact hq _ (fun h _ => by omega) (fun h _ => by omega) (fun _ => rfl)
def F_X8_askKey (S u : bT8) : Prop := (b2g_told (b8g_now u)) = (b2g_told (b8g_now S)) ∧ (b2g_built (b8g_now u)) = (b2g_built (b8g_now S)) ∧ (b2g_questions (b8g_now u)) = (b2g_questions (b8g_now S)) ∧ (b2g_draws (b8g_now u)) = (b2g_draws (b8g_now S)) ∧ (b8g_kept u) = (b8g_kept S) ∧ (b8g_isKept u) = (b8g_isKept S) ∧ (b8g_leaves u) = (b8g_leaves S) ∧ (b8g_tree u) = (b8g_tree S) ∧ (b8g_tuning u) = (b8g_tuning S) ∧ (b8g_trial u) = (b8g_trial S) ∧ (b8g_tape u) = (b8g_tape S) ∧ (b8g_text u) = (b8g_text S) ∧ (b8g_chosenRow u) = (b8g_chosenRow S)
set_option maxRecDepth 20000 in
set_option maxHeartbeats 8000000 in
theorem sf_X8_askKey {S : bT8} (hJ : J8 S) {a1 : Int64} {a3 : Int32} {Q : Int32 → (bT8) → Prop} (hq : ∀ (r : Int32) (u : bT8), (J8 u) → F_X8_askKey S u → Q r u) : wp_X8_askKey S a1 a3 Q := by
  unfold wp_X8_askKey
  have hFS : F_X8_askKey S S := ⟨rfl, rfl, rfl, rfl, rfl, rfl, rfl, rfl, rfl, rfl, rfl, rfl, rfl⟩
  have rga3 := pt_rg a3
  refine sf_X1_verdictOf (J8g_leaves hJ) (fun r1  => ?_)
  have rgr1 := pt_rg r1
  refine sf_X2_note (J8g_now hJ) (by (try simp (disch := first | ((try simp (disch := first | ((try simp only [pn]) <;> omega) | fail) only [pn, pq]) <;> omega) | fail) only [pn, pq]) <;> (intros; (try simp (disch := first | ((try simp (disch := first | ((try simp only [pn]) <;> omega) | fail) only [pn, pq]) <;> omega) | fail) only [pn, pq]) <;> omega)) (by (try simp (disch := first | ((try simp (disch := first | ((try simp only [pn]) <;> omega) | fail) only [pn, pq]) <;> omega) | fail) only [pn, pq]) <;> (intros; (try simp (disch := first | ((try simp (disch := first | ((try simp only [pn]) <;> omega) | fail) only [pn, pq]) <;> omega) | fail) only [pn, pq]) <;> omega)) (fun u4 hJu4 hfu4  => ?_)
  intro S5 eS5
  have hGS5 : F_X8_askKey S S5 := by
    rw [eS5]
    exact ⟨(congrArg (fun z => z) hfu4.1).trans hFS.1, (congrArg (fun z => z) hfu4.2.1).trans hFS.2.1, (congrArg (fun z => z) hfu4.2.2.1).trans hFS.2.2.1, (congrArg (fun z => z) hfu4.2.2.2).trans hFS.2.2.2.1, hFS.2.2.2.2.1, hFS.2.2.2.2.2.1, hFS.2.2.2.2.2.2.1, hFS.2.2.2.2.2.2.2.1, hFS.2.2.2.2.2.2.2.2.1, hFS.2.2.2.2.2.2.2.2.2.1, hFS.2.2.2.2.2.2.2.2.2.2.1, hFS.2.2.2.2.2.2.2.2.2.2.2.1, hFS.2.2.2.2.2.2.2.2.2.2.2.2⟩
  have hJS5 : J8 S5 := by rw [eS5]; exact (J8s_now hJ hJu4)
  have hFS5 : F_X8_askKey S S5 := hGS5
  exact hq _ _ hJS5 hFS5 
def F_X8_may (S u : bT8) : Prop := (b2g_told (b8g_now u)) = (b2g_told (b8g_now S)) ∧ (b2g_built (b8g_now u)) = (b2g_built (b8g_now S)) ∧ (b2g_questions (b8g_now u)) = (b2g_questions (b8g_now S)) ∧ (b2g_draws (b8g_now u)) = (b2g_draws (b8g_now S)) ∧ (b8g_kept u) = (b8g_kept S) ∧ (b8g_isKept u) = (b8g_isKept S) ∧ (b8g_leaves u) = (b8g_leaves S) ∧ (b8g_tree u) = (b8g_tree S) ∧ (b8g_tuning u) = (b8g_tuning S) ∧ (b8g_trial u) = (b8g_trial S) ∧ (b8g_tape u) = (b8g_tape S) ∧ (b8g_text u) = (b8g_text S) ∧ (b8g_chosenRow u) = (b8g_chosenRow S)
set_option maxRecDepth 20000 in
set_option maxHeartbeats 8000000 in
theorem sf_X8_may {S : bT8} (hJ : J8 S) {a1 : Int32} {a2 : Int32} {a3 : Int32} {Q : Int32 → (bT8) → Prop} (hq : ∀ (r : Int32) (u : bT8), (J8 u) → F_X8_may S u → Q r u) : wp_X8_may S a1 a2 a3 Q := by
  unfold wp_X8_may
  have hFS : F_X8_may S S := ⟨rfl, rfl, rfl, rfl, rfl, rfl, rfl, rfl, rfl, rfl, rfl, rfl, rfl⟩
  have rga1 := pt_rg a1
  have rga2 := pt_rg a2
  have rga3 := pt_rg a3
  refine sf_X8_isLength  (fun r1 hzr1 hr1_0 => ?_)
  try simp (disch := first | ((try simp (disch := first | ((try simp only [pn]) <;> omega) | fail) only [pn, pq]) <;> omega) | fail) only [pn, pq] at hr1_0
  refine ⟨fun c3 => ?_, fun c3 => ?_⟩
  · try simp (disch := first | ((try simp (disch := first | ((try simp only [pn]) <;> omega) | fail) only [pn, pq]) <;> omega) | fail) only [pn, pq] at c3
    refine sf_X8_keyOf  (fun r4 hr4_0 => ?_)
    refine sf_X8_askKey hJ (fun r6 u7 hJu7 hfu7  => ?_)
    have hFu7 : F_X8_may S u7 := ⟨(congrArg (fun z => z) hfu7.1).trans hFS.1, (congrArg (fun z => z) hfu7.2.1).trans hFS.2.1, (congrArg (fun z => z) hfu7.2.2.1).trans hFS.2.2.1, (congrArg (fun z => z) hfu7.2.2.2.1).trans hFS.2.2.2.1, (congrArg (fun z => z) hfu7.2.2.2.2.1).trans hFS.2.2.2.2.1, (congrArg (fun z => z) hfu7.2.2.2.2.2.1).trans hFS.2.2.2.2.2.1, (congrArg (fun z => z) hfu7.2.2.2.2.2.2.1).trans hFS.2.2.2.2.2.2.1, (congrArg (fun z => z) hfu7.2.2.2.2.2.2.2.1).trans hFS.2.2.2.2.2.2.2.1, (congrArg (fun z => z) hfu7.2.2.2.2.2.2.2.2.1).trans hFS.2.2.2.2.2.2.2.2.1, (congrArg (fun z => z) hfu7.2.2.2.2.2.2.2.2.2.1).trans hFS.2.2.2.2.2.2.2.2.2.1, (congrArg (fun z => z) hfu7.2.2.2.2.2.2.2.2.2.2.1).trans hFS.2.2.2.2.2.2.2.2.2.2.1, (congrArg (fun z => z) hfu7.2.2.2.2.2.2.2.2.2.2.2.1).trans hFS.2.2.2.2.2.2.2.2.2.2.2.1, (congrArg (fun z => z) hfu7.2.2.2.2.2.2.2.2.2.2.2.2).trans hFS.2.2.2.2.2.2.2.2.2.2.2.2⟩
    have rgr6 := pt_rg r6
    refine ⟨fun c8 => ?_, fun c8 => ?_⟩
    · try simp (disch := first | ((try simp (disch := first | ((try simp only [pn]) <;> omega) | fail) only [pn, pq]) <;> omega) | fail) only [pn, pq] at c8
      exact hq _ _ hJu7 hFu7 
    · try simp (disch := first | ((try simp (disch := first | ((try simp only [pn]) <;> omega) | fail) only [pn, pq]) <;> omega) | fail) only [pn, pq] at c8
      exact hq _ _ hJu7 hFu7 
  · try simp (disch := first | ((try simp (disch := first | ((try simp only [pn]) <;> omega) | fail) only [pn, pq]) <;> omega) | fail) only [pn, pq] at c3
    exact hq _ _ hJ hFS 
set_option maxRecDepth 20000 in
set_option maxHeartbeats 8000000 in
theorem sf_X8_leafOf {S : bT8} (hJ : J8 S) {a1 : Int32} {a2 : Int32} {a3 : Int32} {Q : Int32 → Prop} (hq : ∀ r : Int32, Q r) : wp_X8_leafOf S a1 a2 a3 Q := by
  unfold wp_X8_leafOf
  have rga1 := pt_rg a1
  have rga2 := pt_rg a2
  have rga3 := pt_rg a3
  refine sf_X8_isLength  (fun r1 hzr1 hr1_0 => ?_)
  try simp (disch := first | ((try simp (disch := first | ((try simp only [pn]) <;> omega) | fail) only [pn, pq]) <;> omega) | fail) only [pn, pq] at hr1_0
  refine ⟨fun c3 => ?_, fun c3 => ?_⟩
  · try simp (disch := first | ((try simp (disch := first | ((try simp only [pn]) <;> omega) | fail) only [pn, pq]) <;> omega) | fail) only [pn, pq] at c3
    exact hq _ 
  · try simp (disch := first | ((try simp (disch := first | ((try simp only [pn]) <;> omega) | fail) only [pn, pq]) <;> omega) | fail) only [pn, pq] at c3
    refine sf_X8_keyOf  (fun r4 hr4_0 => ?_)
    refine sf_X1_possibleAt (J8g_leaves hJ) (fun r6  => ?_)
    have rgr6 := pt_rg r6
    exact hq _ 
def F_X8_askRange (S u : bT8) : Prop := (b2g_told (b8g_now u)) = (b2g_told (b8g_now S)) ∧ (b2g_built (b8g_now u)) = (b2g_built (b8g_now S)) ∧ (b2g_questions (b8g_now u)) = (b2g_questions (b8g_now S)) ∧ (b2g_draws (b8g_now u)) = (b2g_draws (b8g_now S)) ∧ (b8g_kept u) = (b8g_kept S) ∧ (b8g_isKept u) = (b8g_isKept S) ∧ (b8g_leaves u) = (b8g_leaves S) ∧ (b8g_tree u) = (b8g_tree S) ∧ (b8g_tuning u) = (b8g_tuning S) ∧ (b8g_trial u) = (b8g_trial S) ∧ (b8g_tape u) = (b8g_tape S) ∧ (b8g_text u) = (b8g_text S) ∧ (b8g_chosenRow u) = (b8g_chosenRow S)
set_option maxRecDepth 20000 in
set_option maxHeartbeats 8000000 in
theorem sf_X8_askRange {S : bT8} (hJ : J8 S) {a1 : Int64} {a3 : Int32} {a4 : Int64} {a6 : Int32} {Q : Int32 → (bT8) → Prop} (hq : ∀ (r : Int32) (u : bT8), (J8 u) → F_X8_askRange S u → Q r u) : wp_X8_askRange S a1 a3 a4 a6 Q := by
  unfold wp_X8_askRange
  have hFS : F_X8_askRange S S := ⟨rfl, rfl, rfl, rfl, rfl, rfl, rfl, rfl, rfl, rfl, rfl, rfl, rfl⟩
  have rga3 := pt_rg a3
  have rga6 := pt_rg a6
  refine sf_X1_met (J8g_leaves hJ) (fun r1  => ?_)
  have rgr1 := pt_rg r1
  refine ⟨fun c3 => ?_, fun c3 => ?_⟩
  · try simp (disch := first | ((try simp (disch := first | ((try simp only [pn]) <;> omega) | fail) only [pn, pq]) <;> omega) | fail) only [pn, pq] at c3
    unfold wp_X8_askRange_67
    refine sf_X2_note (J8g_now hJ) (by (try simp (disch := first | ((try simp (disch := first | ((try simp only [pn]) <;> omega) | fail) only [pn, pq]) <;> omega) | fail) only [pn, pq]) <;> (intros; (try simp (disch := first | ((try simp (disch := first | ((try simp only [pn]) <;> omega) | fail) only [pn, pq]) <;> omega) | fail) only [pn, pq]) <;> omega)) (by (try simp (disch := first | ((try simp (disch := first | ((try simp only [pn]) <;> omega) | fail) only [pn, pq]) <;> omega) | fail) only [pn, pq]) <;> (intros; (try simp (disch := first | ((try simp (disch := first | ((try simp only [pn]) <;> omega) | fail) only [pn, pq]) <;> omega) | fail) only [pn, pq]) <;> omega)) (fun u5 hJu5 hfu5  => ?_)
    intro S6 eS6
    have hGS6 : F_X8_askRange S S6 := by
      rw [eS6]
      exact ⟨(congrArg (fun z => z) hfu5.1).trans hFS.1, (congrArg (fun z => z) hfu5.2.1).trans hFS.2.1, (congrArg (fun z => z) hfu5.2.2.1).trans hFS.2.2.1, (congrArg (fun z => z) hfu5.2.2.2).trans hFS.2.2.2.1, hFS.2.2.2.2.1, hFS.2.2.2.2.2.1, hFS.2.2.2.2.2.2.1, hFS.2.2.2.2.2.2.2.1, hFS.2.2.2.2.2.2.2.2.1, hFS.2.2.2.2.2.2.2.2.2.1, hFS.2.2.2.2.2.2.2.2.2.2.1, hFS.2.2.2.2.2.2.2.2.2.2.2.1, hFS.2.2.2.2.2.2.2.2.2.2.2.2⟩
    have hJS6 : J8 S6 := by rw [eS6]; exact (J8s_now hJ hJu5)
    have hFS6 : F_X8_askRange S S6 := hGS6
    exact hq _ _ hJS6 hFS6 
  · try simp (disch := first | ((try simp (disch := first | ((try simp only [pn]) <;> omega) | fail) only [pn, pq]) <;> omega) | fail) only [pn, pq] at c3
    refine sf_X0_upTo (J1g_owners (J8g_leaves hJ)) (fun r7 hr7_0 hr7_1 => ?_)
    have rgr7 := pt_rg r7
    try simp (disch := first | ((try simp (disch := first | ((try simp only [pn]) <;> omega) | fail) only [pn, pq]) <;> omega) | fail) only [pn, pq] at hr7_0
    try simp (disch := first | ((try simp (disch := first | ((try simp only [pn]) <;> omega) | fail) only [pn, pq]) <;> omega) | fail) only [pn, pq] at hr7_1
    refine sf_X0_ahead (J1g_owners (J8g_leaves hJ)) (fun r9 hr9_0 hr9_1 => ?_)
    have rgr9 := pt_rg r9
    try simp (disch := first | ((try simp (disch := first | ((try simp only [pn]) <;> omega) | fail) only [pn, pq]) <;> omega) | fail) only [pn, pq] at hr9_0
    try simp (disch := first | ((try simp (disch := first | ((try simp only [pn]) <;> omega) | fail) only [pn, pq]) <;> omega) | fail) only [pn, pq] at hr9_1
    refine ⟨fun c11 => ?_, fun c11 => ?_⟩
    · try simp (disch := first | ((try simp (disch := first | ((try simp only [pn]) <;> omega) | fail) only [pn, pq]) <;> omega) | fail) only [pn, pq] at c11
      unfold wp_X8_askRange_53
      refine ⟨fun c12 => ?_, fun c12 => ?_⟩
      · skip
        unfold wp_X8_askRange_65
        unfold wp_X8_askRange_67
        refine sf_X2_note (J8g_now hJ) (by (try simp (disch := first | ((try simp (disch := first | ((try simp only [pn]) <;> omega) | fail) only [pn, pq]) <;> omega) | fail) only [pn, pq]) <;> (intros; (try simp (disch := first | ((try simp (disch := first | ((try simp only [pn]) <;> omega) | fail) only [pn, pq]) <;> omega) | fail) only [pn, pq]) <;> omega)) (by (try simp (disch := first | ((try simp (disch := first | ((try simp only [pn]) <;> omega) | fail) only [pn, pq]) <;> omega) | fail) only [pn, pq]) <;> (intros; (try simp (disch := first | ((try simp (disch := first | ((try simp only [pn]) <;> omega) | fail) only [pn, pq]) <;> omega) | fail) only [pn, pq]) <;> omega)) (fun u14 hJu14 hfu14  => ?_)
        intro S15 eS15
        have hGS15 : F_X8_askRange S S15 := by
          rw [eS15]
          exact ⟨(congrArg (fun z => z) hfu14.1).trans hFS.1, (congrArg (fun z => z) hfu14.2.1).trans hFS.2.1, (congrArg (fun z => z) hfu14.2.2.1).trans hFS.2.2.1, (congrArg (fun z => z) hfu14.2.2.2).trans hFS.2.2.2.1, hFS.2.2.2.2.1, hFS.2.2.2.2.2.1, hFS.2.2.2.2.2.2.1, hFS.2.2.2.2.2.2.2.1, hFS.2.2.2.2.2.2.2.2.1, hFS.2.2.2.2.2.2.2.2.2.1, hFS.2.2.2.2.2.2.2.2.2.2.1, hFS.2.2.2.2.2.2.2.2.2.2.2.1, hFS.2.2.2.2.2.2.2.2.2.2.2.2⟩
        have hJS15 : J8 S15 := by rw [eS15]; exact (J8s_now hJ hJu14)
        have hFS15 : F_X8_askRange S S15 := hGS15
        exact hq _ _ hJS15 hFS15 
      · exact absurd c12 (by decide)
    · try simp (disch := first | ((try simp (disch := first | ((try simp only [pn]) <;> omega) | fail) only [pn, pq]) <;> omega) | fail) only [pn, pq] at c11
      unfold wp_X8_askRange_53
      refine ⟨fun c16 => ?_, fun c16 => ?_⟩
      · exact absurd c16 (by decide)
      · skip
        unfold wp_X8_askRange_65
        unfold wp_X8_askRange_67
        refine sf_X2_note (J8g_now hJ) (by (try simp (disch := first | ((try simp (disch := first | ((try simp only [pn]) <;> omega) | fail) only [pn, pq]) <;> omega) | fail) only [pn, pq]) <;> (intros; (try simp (disch := first | ((try simp (disch := first | ((try simp only [pn]) <;> omega) | fail) only [pn, pq]) <;> omega) | fail) only [pn, pq]) <;> omega)) (by (try simp (disch := first | ((try simp (disch := first | ((try simp only [pn]) <;> omega) | fail) only [pn, pq]) <;> omega) | fail) only [pn, pq]) <;> (intros; (try simp (disch := first | ((try simp (disch := first | ((try simp only [pn]) <;> omega) | fail) only [pn, pq]) <;> omega) | fail) only [pn, pq]) <;> omega)) (fun u18 hJu18 hfu18  => ?_)
        intro S19 eS19
        have hGS19 : F_X8_askRange S S19 := by
          rw [eS19]
          exact ⟨(congrArg (fun z => z) hfu18.1).trans hFS.1, (congrArg (fun z => z) hfu18.2.1).trans hFS.2.1, (congrArg (fun z => z) hfu18.2.2.1).trans hFS.2.2.1, (congrArg (fun z => z) hfu18.2.2.2).trans hFS.2.2.2.1, hFS.2.2.2.2.1, hFS.2.2.2.2.2.1, hFS.2.2.2.2.2.2.1, hFS.2.2.2.2.2.2.2.1, hFS.2.2.2.2.2.2.2.2.1, hFS.2.2.2.2.2.2.2.2.2.1, hFS.2.2.2.2.2.2.2.2.2.2.1, hFS.2.2.2.2.2.2.2.2.2.2.2.1, hFS.2.2.2.2.2.2.2.2.2.2.2.2⟩
        have hJS19 : J8 S19 := by rw [eS19]; exact (J8s_now hJ hJu18)
        have hFS19 : F_X8_askRange S S19 := hGS19
        exact hq _ _ hJS19 hFS19 
set_option maxRecDepth 20000 in
set_option maxHeartbeats 8000000 in
theorem sf_X8_isRange {a0 : Int32} {a1 : Int32} {a2 : Int32} {a3 : Int32} {a4 : Int32} {a5 : Int32} {Q : Int32 → Prop} (hq : ∀ r : Int32, bf_bool r → Q r) : wp_X8_isRange a0 a1 a2 a3 a4 a5 Q := by
  unfold wp_X8_isRange
  have rga0 := pt_rg a0
  have rga1 := pt_rg a1
  have rga2 := pt_rg a2
  have rga3 := pt_rg a3
  have rga4 := pt_rg a4
  have rga5 := pt_rg a5
  refine sf_X8_isLength  (fun r1 hzr1 hr1_0 => ?_)
  try simp (disch := first | ((try simp (disch := first | ((try simp only [pn]) <;> omega) | fail) only [pn, pq]) <;> omega) | fail) only [pn, pq] at hr1_0
  refine ⟨fun c3 => ?_, fun c3 => ?_⟩
  · try simp (disch := first | ((try simp (disch := first | ((try simp only [pn]) <;> omega) | fail) only [pn, pq]) <;> omega) | fail) only [pn, pq] at c3
    exact ⟨by first | rfl | assumption, hq _ (by first | rfl | assumption) ⟩
  · try simp (disch := first | ((try simp (disch := first | ((try simp only [pn]) <;> omega) | fail) only [pn, pq]) <;> omega) | fail) only [pn, pq] at c3
    refine sf_X8_isLength  (fun r4 hzr4 hr4_0 => ?_)
    try simp (disch := first | ((try simp (disch := first | ((try simp only [pn]) <;> omega) | fail) only [pn, pq]) <;> omega) | fail) only [pn, pq] at hr4_0
    refine ⟨fun c6 => ?_, fun c6 => ?_⟩
    · try simp (disch := first | ((try simp (disch := first | ((try simp only [pn]) <;> omega) | fail) only [pn, pq]) <;> omega) | fail) only [pn, pq] at c6
      exact ⟨by first | rfl | assumption, hq _ (by first | rfl | assumption) ⟩
    · try simp (disch := first | ((try simp (disch := first | ((try simp only [pn]) <;> omega) | fail) only [pn, pq]) <;> omega) | fail) only [pn, pq] at c6
      refine sf_X8_keyOf  (fun r7 hr7_0 => ?_)
      refine sf_X8_keyOf  (fun r9 hr9_0 => ?_)
      refine sf_X8_order  (fun r11  => ?_)
      have rgr11 := pt_rg r11
      refine ⟨fun c13 => ?_, fun c13 => ?_⟩
      · try simp (disch := first | ((try simp (disch := first | ((try simp only [pn]) <;> omega) | fail) only [pn, pq]) <;> omega) | fail) only [pn, pq] at c13
        exact ⟨by first | rfl | assumption, hq _ (by first | rfl | assumption) ⟩
      · try simp (disch := first | ((try simp (disch := first | ((try simp only [pn]) <;> omega) | fail) only [pn, pq]) <;> omega) | fail) only [pn, pq] at c13
        exact ⟨by first | rfl | assumption, hq _ (by first | rfl | assumption) ⟩
def F_X8_range (S u : bT8) : Prop := (b2g_told (b8g_now u)) = (b2g_told (b8g_now S)) ∧ (b2g_built (b8g_now u)) = (b2g_built (b8g_now S)) ∧ (b2g_questions (b8g_now u)) = (b2g_questions (b8g_now S)) ∧ (b2g_draws (b8g_now u)) = (b2g_draws (b8g_now S)) ∧ (b8g_kept u) = (b8g_kept S) ∧ (b8g_isKept u) = (b8g_isKept S) ∧ (b8g_leaves u) = (b8g_leaves S) ∧ (b8g_tree u) = (b8g_tree S) ∧ (b8g_tuning u) = (b8g_tuning S) ∧ (b8g_trial u) = (b8g_trial S) ∧ (b8g_tape u) = (b8g_tape S) ∧ (b8g_text u) = (b8g_text S) ∧ (b8g_chosenRow u) = (b8g_chosenRow S)
set_option maxRecDepth 20000 in
set_option maxHeartbeats 8000000 in
theorem sf_X8_range {S : bT8} (hJ : J8 S) {a1 : Int32} {a2 : Int32} {a3 : Int32} {a4 : Int32} {a5 : Int32} {a6 : Int32} {Q : Int32 → (bT8) → Prop} (hq : ∀ (r : Int32) (u : bT8), (J8 u) → F_X8_range S u → Q r u) : wp_X8_range S a1 a2 a3 a4 a5 a6 Q := by
  unfold wp_X8_range
  have hFS : F_X8_range S S := ⟨rfl, rfl, rfl, rfl, rfl, rfl, rfl, rfl, rfl, rfl, rfl, rfl, rfl⟩
  have rga1 := pt_rg a1
  have rga2 := pt_rg a2
  have rga3 := pt_rg a3
  have rga4 := pt_rg a4
  have rga5 := pt_rg a5
  have rga6 := pt_rg a6
  refine sf_X8_isRange  (fun r1 hzr1  => ?_)
  refine ⟨fun c3 => ?_, fun c3 => ?_⟩
  · try simp (disch := first | ((try simp (disch := first | ((try simp only [pn]) <;> omega) | fail) only [pn, pq]) <;> omega) | fail) only [pn, pq] at c3
    refine sf_X8_keyOf  (fun r4 hr4_0 => ?_)
    refine sf_X8_keyOf  (fun r6 hr6_0 => ?_)
    refine sf_X8_askRange hJ (fun r8 u9 hJu9 hfu9  => ?_)
    have hFu9 : F_X8_range S u9 := ⟨(congrArg (fun z => z) hfu9.1).trans hFS.1, (congrArg (fun z => z) hfu9.2.1).trans hFS.2.1, (congrArg (fun z => z) hfu9.2.2.1).trans hFS.2.2.1, (congrArg (fun z => z) hfu9.2.2.2.1).trans hFS.2.2.2.1, (congrArg (fun z => z) hfu9.2.2.2.2.1).trans hFS.2.2.2.2.1, (congrArg (fun z => z) hfu9.2.2.2.2.2.1).trans hFS.2.2.2.2.2.1, (congrArg (fun z => z) hfu9.2.2.2.2.2.2.1).trans hFS.2.2.2.2.2.2.1, (congrArg (fun z => z) hfu9.2.2.2.2.2.2.2.1).trans hFS.2.2.2.2.2.2.2.1, (congrArg (fun z => z) hfu9.2.2.2.2.2.2.2.2.1).trans hFS.2.2.2.2.2.2.2.2.1, (congrArg (fun z => z) hfu9.2.2.2.2.2.2.2.2.2.1).trans hFS.2.2.2.2.2.2.2.2.2.1, (congrArg (fun z => z) hfu9.2.2.2.2.2.2.2.2.2.2.1).trans hFS.2.2.2.2.2.2.2.2.2.2.1, (congrArg (fun z => z) hfu9.2.2.2.2.2.2.2.2.2.2.2.1).trans hFS.2.2.2.2.2.2.2.2.2.2.2.1, (congrArg (fun z => z) hfu9.2.2.2.2.2.2.2.2.2.2.2.2).trans hFS.2.2.2.2.2.2.2.2.2.2.2.2⟩
    have rgr8 := pt_rg r8
    refine ⟨fun c10 => ?_, fun c10 => ?_⟩
    · try simp (disch := first | ((try simp (disch := first | ((try simp only [pn]) <;> omega) | fail) only [pn, pq]) <;> omega) | fail) only [pn, pq] at c10
      exact hq _ _ hJu9 hFu9 
    · try simp (disch := first | ((try simp (disch := first | ((try simp only [pn]) <;> omega) | fail) only [pn, pq]) <;> omega) | fail) only [pn, pq] at c10
      exact hq _ _ hJu9 hFu9 
  · try simp (disch := first | ((try simp (disch := first | ((try simp only [pn]) <;> omega) | fail) only [pn, pq]) <;> omega) | fail) only [pn, pq] at c3
    exact hq _ _ hJ hFS 
set_option maxRecDepth 20000 in
set_option maxHeartbeats 8000000 in
theorem sf_X8_meets {S : bT8} (hJ : J8 S) {a1 : Int32} {a2 : Int32} {a3 : Int32} {a4 : Int32} {a5 : Int32} {a6 : Int32} {Q : Int32 → Prop} (hq : ∀ r : Int32, Q r) : wp_X8_meets S a1 a2 a3 a4 a5 a6 Q := by
  unfold wp_X8_meets
  have rga1 := pt_rg a1
  have rga2 := pt_rg a2
  have rga3 := pt_rg a3
  have rga4 := pt_rg a4
  have rga5 := pt_rg a5
  have rga6 := pt_rg a6
  refine sf_X8_isRange  (fun r1 hzr1  => ?_)
  refine ⟨fun c3 => ?_, fun c3 => ?_⟩
  · try simp (disch := first | ((try simp (disch := first | ((try simp only [pn]) <;> omega) | fail) only [pn, pq]) <;> omega) | fail) only [pn, pq] at c3
    refine sf_X8_keyOf  (fun r4 hr4_0 => ?_)
    refine sf_X8_keyOf  (fun r6 hr6_0 => ?_)
    refine sf_X1_met (J8g_leaves hJ) (fun r8  => ?_)
    have rgr8 := pt_rg r8
    exact hq _ 
  · try simp (disch := first | ((try simp (disch := first | ((try simp only [pn]) <;> omega) | fail) only [pn, pq]) <;> omega) | fail) only [pn, pq] at c3
    exact hq _ 
set_option maxRecDepth 20000 in
set_option maxHeartbeats 8000000 in
theorem sf_X8_holds {S : bT8} (hJ : J8 S) {a1 : Int32} {a2 : Int32} {a3 : Int32} {a4 : Int32} {a5 : Int32} {a6 : Int32} {Q : Int32 → Prop} (hq : ∀ r : Int32, Q r) : wp_X8_holds S a1 a2 a3 a4 a5 a6 Q := by
  unfold wp_X8_holds
  have rga1 := pt_rg a1
  have rga2 := pt_rg a2
  have rga3 := pt_rg a3
  have rga4 := pt_rg a4
  have rga5 := pt_rg a5
  have rga6 := pt_rg a6
  refine sf_X8_isRange  (fun r1 hzr1  => ?_)
  refine ⟨fun c3 => ?_, fun c3 => ?_⟩
  · try simp (disch := first | ((try simp (disch := first | ((try simp only [pn]) <;> omega) | fail) only [pn, pq]) <;> omega) | fail) only [pn, pq] at c3
    refine sf_X8_keyOf  (fun r4 hr4_0 => ?_)
    refine sf_X8_keyOf  (fun r6 hr6_0 => ?_)
    refine sf_X1_held (J8g_leaves hJ) (fun r8  => ?_)
    have rgr8 := pt_rg r8
    exact hq _ 
  · try simp (disch := first | ((try simp (disch := first | ((try simp only [pn]) <;> omega) | fail) only [pn, pq]) <;> omega) | fail) only [pn, pq] at c3
    exact hq _ 
set_option maxRecDepth 20000 in
set_option maxHeartbeats 8000000 in
theorem sf_X8_seek {S : bT8} (hJ : J8 S) {a1 : Int32} {a2 : Int32} {a3 : Int32} {Q : Int32 → Prop} (hq : ∀ r : Int32, Q r) : wp_X8_seek S a1 a2 a3 Q := by
  unfold wp_X8_seek
  have rga1 := pt_rg a1
  have rga2 := pt_rg a2
  have rga3 := pt_rg a3
  refine sf_X8_isLength  (fun r1 hzr1 hr1_0 => ?_)
  try simp (disch := first | ((try simp (disch := first | ((try simp only [pn]) <;> omega) | fail) only [pn, pq]) <;> omega) | fail) only [pn, pq] at hr1_0
  refine ⟨fun c3 => ?_, fun c3 => ?_⟩
  · try simp (disch := first | ((try simp (disch := first | ((try simp only [pn]) <;> omega) | fail) only [pn, pq]) <;> omega) | fail) only [pn, pq] at c3
    refine sf_X8_keyOf  (fun r4 hr4_0 => ?_)
    refine sf_X0_ahead (J1g_highs (J8g_leaves hJ)) (fun r6 hr6_0 hr6_1 => ?_)
    have rgr6 := pt_rg r6
    try simp (disch := first | ((try simp (disch := first | ((try simp only [pn]) <;> omega) | fail) only [pn, pq]) <;> omega) | fail) only [pn, pq] at hr6_0
    try simp (disch := first | ((try simp (disch := first | ((try simp only [pn]) <;> omega) | fail) only [pn, pq]) <;> omega) | fail) only [pn, pq] at hr6_1
    refine sf_X1_count (J8g_leaves hJ) (fun r8 hr8_0 => ?_)
    have rgr8 := pt_rg r8
    try simp (disch := first | ((try simp (disch := first | ((try simp only [pn]) <;> omega) | fail) only [pn, pq]) <;> omega) | fail) only [pn, pq] at hr8_0
    refine ⟨fun c10 => ?_, fun c10 => ?_⟩
    · try simp (disch := first | ((try simp (disch := first | ((try simp only [pn]) <;> omega) | fail) only [pn, pq]) <;> omega) | fail) only [pn, pq] at c10
      exact hq _ 
    · try simp (disch := first | ((try simp (disch := first | ((try simp only [pn]) <;> omega) | fail) only [pn, pq]) <;> omega) | fail) only [pn, pq] at c10
      exact hq _ 
  · try simp (disch := first | ((try simp (disch := first | ((try simp only [pn]) <;> omega) | fail) only [pn, pq]) <;> omega) | fail) only [pn, pq] at c3
    exact hq _ 
set_option maxRecDepth 20000 in
set_option maxHeartbeats 8000000 in
theorem sf_X8_seekBack {S : bT8} (hJ : J8 S) {a1 : Int32} {a2 : Int32} {a3 : Int32} {Q : Int32 → Prop} (hq : ∀ r : Int32, Q r) : wp_X8_seekBack S a1 a2 a3 Q := by
  unfold wp_X8_seekBack
  have rga1 := pt_rg a1
  have rga2 := pt_rg a2
  have rga3 := pt_rg a3
  refine sf_X8_isLength  (fun r1 hzr1 hr1_0 => ?_)
  try simp (disch := first | ((try simp (disch := first | ((try simp only [pn]) <;> omega) | fail) only [pn, pq]) <;> omega) | fail) only [pn, pq] at hr1_0
  refine ⟨fun c3 => ?_, fun c3 => ?_⟩
  · try simp (disch := first | ((try simp (disch := first | ((try simp only [pn]) <;> omega) | fail) only [pn, pq]) <;> omega) | fail) only [pn, pq] at c3
    exact hq _ 
  · try simp (disch := first | ((try simp (disch := first | ((try simp only [pn]) <;> omega) | fail) only [pn, pq]) <;> omega) | fail) only [pn, pq] at c3
    refine sf_X8_keyOf  (fun r4 hr4_0 => ?_)
    refine sf_X0_upTo (J1g_lows (J8g_leaves hJ)) (fun r6 hr6_0 hr6_1 => ?_)
    have rgr6 := pt_rg r6
    try simp (disch := first | ((try simp (disch := first | ((try simp only [pn]) <;> omega) | fail) only [pn, pq]) <;> omega) | fail) only [pn, pq] at hr6_0
    try simp (disch := first | ((try simp (disch := first | ((try simp only [pn]) <;> omega) | fail) only [pn, pq]) <;> omega) | fail) only [pn, pq] at hr6_1
    exact hq _ 
set_option maxRecDepth 20000 in
set_option maxHeartbeats 8000000 in
theorem sf_X8_leaf {S : bT8} (hJ : J8 S) {a1 : Int32} {a2 : Int32} {Q : Int32 → Prop} (hq : ∀ r : Int32, Q r) : wp_X8_leaf S a1 a2 Q := by
  unfold wp_X8_leaf
  have rga1 := pt_rg a1
  have rga2 := pt_rg a2
  refine ⟨fun c1 => ?_, fun c1 => ?_⟩
  · try simp (disch := first | ((try simp (disch := first | ((try simp only [pn]) <;> omega) | fail) only [pn, pq]) <;> omega) | fail) only [pn, pq] at c1
    exact hq _ 
  · try simp (disch := first | ((try simp (disch := first | ((try simp only [pn]) <;> omega) | fail) only [pn, pq]) <;> omega) | fail) only [pn, pq] at c1
    refine sf_X1_count (J8g_leaves hJ) (fun r2 hr2_0 => ?_)
    have rgr2 := pt_rg r2
    try simp (disch := first | ((try simp (disch := first | ((try simp only [pn]) <;> omega) | fail) only [pn, pq]) <;> omega) | fail) only [pn, pq] at hr2_0
    refine ⟨fun c4 => ?_, fun c4 => ?_⟩
    · try simp (disch := first | ((try simp (disch := first | ((try simp only [pn]) <;> omega) | fail) only [pn, pq]) <;> omega) | fail) only [pn, pq] at c4
      refine ⟨fun c => ?_, fun c => ?_, fun c => ?_, fun c => ?_, fun c => ?_, fun c => ?_, fun c => ?_, fun c => ?_⟩
      · skip
        refine ⟨fun c5 => ?_, fun c5 => ?_⟩
        · try simp (disch := first | ((try simp (disch := first | ((try simp only [pn]) <;> omega) | fail) only [pn, pq]) <;> omega) | fail) only [pn, pq] at c5
          exact hq _ 
        · try simp (disch := first | ((try simp (disch := first | ((try simp only [pn]) <;> omega) | fail) only [pn, pq]) <;> omega) | fail) only [pn, pq] at c5
          refine sf_X1_lengthAt (J8g_leaves hJ) (fun r6 hr6_0 => ?_)
          have rgr6 := pt_rg r6
          try simp (disch := first | ((try simp (disch := first | ((try simp only [pn]) <;> omega) | fail) only [pn, pq]) <;> omega) | fail) only [pn, pq] at hr6_0
          refine ⟨fun c8 => ?_, fun c8 => ?_⟩
          · try simp (disch := first | ((try simp (disch := first | ((try simp only [pn]) <;> omega) | fail) only [pn, pq]) <;> omega) | fail) only [pn, pq] at c8
            refine sf_X0_bytesAt (J1g_owners (J8g_leaves hJ)) (fun r9  => ?_)
            refine sf_X8_octetAt  (fun r11  => ?_)
            have rgr11 := pt_rg r11
            exact hq _ 
          · try simp (disch := first | ((try simp (disch := first | ((try simp only [pn]) <;> omega) | fail) only [pn, pq]) <;> omega) | fail) only [pn, pq] at c8
            exact hq _ 
      · skip
        refine sf_X1_lengthAt (J8g_leaves hJ) (fun r13 hr13_0 => ?_)
        have rgr13 := pt_rg r13
        try simp (disch := first | ((try simp (disch := first | ((try simp only [pn]) <;> omega) | fail) only [pn, pq]) <;> omega) | fail) only [pn, pq] at hr13_0
        exact hq _ 
      · skip
        refine sf_X1_isEnded (J8g_leaves hJ) (fun r15 hzr15  => ?_)
        refine ⟨fun c17 => ?_, fun c17 => ?_⟩
        · try simp (disch := first | ((try simp (disch := first | ((try simp only [pn]) <;> omega) | fail) only [pn, pq]) <;> omega) | fail) only [pn, pq] at c17
          exact hq _ 
        · try simp (disch := first | ((try simp (disch := first | ((try simp only [pn]) <;> omega) | fail) only [pn, pq]) <;> omega) | fail) only [pn, pq] at c17
          exact hq _ 
      · skip
        refine sf_X1_hashAt (J8g_leaves hJ) (fun r18  => ?_)
        have rgr18 := pt_rg r18
        exact hq _ 
      · skip
        refine sf_X1_nextAt (J8g_leaves hJ) (fun r20  => ?_)
        have rgr20 := pt_rg r20
        exact hq _ 
      · skip
        refine sf_X8_at (by decide) (fun r22 hr22_0 => ?_)
        have rgr22 := pt_rg r22
        try simp (disch := first | ((try simp (disch := first | ((try simp only [pn]) <;> omega) | fail) only [pn, pq]) <;> omega) | fail) only [pn, pq] at hr22_0
        exact hq _ 
      · skip
        refine sf_X8_at (by decide) (fun r24 hr24_0 => ?_)
        have rgr24 := pt_rg r24
        try simp (disch := first | ((try simp (disch := first | ((try simp only [pn]) <;> omega) | fail) only [pn, pq]) <;> omega) | fail) only [pn, pq] at hr24_0
        exact hq _ 
      · skip
        refine sf_X8_at (by decide) (fun r26 hr26_0 => ?_)
        have rgr26 := pt_rg r26
        try simp (disch := first | ((try simp (disch := first | ((try simp only [pn]) <;> omega) | fail) only [pn, pq]) <;> omega) | fail) only [pn, pq] at hr26_0
        exact hq _ 
    · try simp (disch := first | ((try simp (disch := first | ((try simp only [pn]) <;> omega) | fail) only [pn, pq]) <;> omega) | fail) only [pn, pq] at c4
      exact hq _ 
set_option maxRecDepth 20000 in
set_option maxHeartbeats 8000000 in
theorem sf_X8_leafAt {S : bT8} (hJ : J8 S) {a1 : Int32} {Q : Int32 → Prop} (hq : ∀ r : Int32, Q r) : wp_X8_leafAt S a1 Q := by
  unfold wp_X8_leafAt
  have rga1 := pt_rg a1
  refine ⟨fun c1 => ?_, fun c1 => ?_⟩
  · try simp (disch := first | ((try simp (disch := first | ((try simp only [pn]) <;> omega) | fail) only [pn, pq]) <;> omega) | fail) only [pn, pq] at c1
    exact hq _ 
  · try simp (disch := first | ((try simp (disch := first | ((try simp only [pn]) <;> omega) | fail) only [pn, pq]) <;> omega) | fail) only [pn, pq] at c1
    refine sf_X1_count (J8g_leaves hJ) (fun r2 hr2_0 => ?_)
    have rgr2 := pt_rg r2
    try simp (disch := first | ((try simp (disch := first | ((try simp only [pn]) <;> omega) | fail) only [pn, pq]) <;> omega) | fail) only [pn, pq] at hr2_0
    refine ⟨fun c4 => ?_, fun c4 => ?_⟩
    · try simp (disch := first | ((try simp (disch := first | ((try simp only [pn]) <;> omega) | fail) only [pn, pq]) <;> omega) | fail) only [pn, pq] at c4
      exact hq _ 
    · try simp (disch := first | ((try simp (disch := first | ((try simp only [pn]) <;> omega) | fail) only [pn, pq]) <;> omega) | fail) only [pn, pq] at c4
      refine sf_X8_at (by decide) (fun r5 hr5_0 => ?_)
      have rgr5 := pt_rg r5
      try simp (disch := first | ((try simp (disch := first | ((try simp only [pn]) <;> omega) | fail) only [pn, pq]) <;> omega) | fail) only [pn, pq] at hr5_0
      exact hq _ 
set_option maxRecDepth 20000 in
set_option maxHeartbeats 8000000 in
theorem sf_X8_node {S : bT8} (hJ : J8 S) {a1 : Int32} {a2 : Int32} {Q : Int32 → Prop} (hq : ∀ r : Int32, Q r) : wp_X8_node S a1 a2 Q := by
  unfold wp_X8_node
  have jf1 := J6g_nodes (J8g_tree hJ)
  have rga1 := pt_rg a1
  have rga2 := pt_rg a2
  refine ⟨fun c1 => ?_, fun c1 => ?_⟩
  · try simp (disch := first | ((try simp (disch := first | ((try simp only [pn]) <;> omega) | fail) only [pn, pq]) <;> omega) | fail) only [pn, pq] at c1
    exact hq _ 
  · try simp (disch := first | ((try simp (disch := first | ((try simp only [pn]) <;> omega) | fail) only [pn, pq]) <;> omega) | fail) only [pn, pq] at c1
    refine ⟨fun c2 => ?_, fun c2 => ?_⟩
    · try simp (disch := first | ((try simp (disch := first | ((try simp only [pn]) <;> omega) | fail) only [pn, pq]) <;> omega) | fail) only [pn, pq] at c2
      refine ⟨fun c => ?_, fun c => ?_, fun c => ?_, fun c => ?_, fun c => ?_, fun c => ?_, fun c => ?_, fun c => ?_⟩
      · skip
        exact hq _ 
      · skip
        refine sf_X8_at (by decide) (fun r3 hr3_0 => ?_)
        have rgr3 := pt_rg r3
        try simp (disch := first | ((try simp (disch := first | ((try simp only [pn]) <;> omega) | fail) only [pn, pq]) <;> omega) | fail) only [pn, pq] at hr3_0
        exact hq _ 
      · skip
        refine sf_X6_branches (J8g_tree hJ) (fun r5  => ?_)
        have rgr5 := pt_rg r5
        exact hq _ 
      · skip
        refine sf_X6_childrenOf (J8g_tree hJ) (fun r7  => ?_)
        have rgr7 := pt_rg r7
        exact hq _ 
      · skip
        refine sf_X6_endsAmong (J8g_tree hJ) (fun r9  => ?_)
        have rgr9 := pt_rg r9
        exact hq _ 
      · skip
        refine ⟨fun c11 => ?_, fun c11 => ?_⟩
        · try simp (disch := first | ((try simp (disch := first | ((try simp only [pn]) <;> omega) | fail) only [pn, pq]) <;> omega) | fail) only [pn, pq] at c11
          exact hq _ 
        · try simp (disch := first | ((try simp (disch := first | ((try simp only [pn]) <;> omega) | fail) only [pn, pq]) <;> omega) | fail) only [pn, pq] at c11
          exact hq _ 
      · skip
        refine sf_X8_at (by decide) (fun r12 hr12_0 => ?_)
        have rgr12 := pt_rg r12
        try simp (disch := first | ((try simp (disch := first | ((try simp only [pn]) <;> omega) | fail) only [pn, pq]) <;> omega) | fail) only [pn, pq] at hr12_0
        exact hq _ 
      · skip
        refine sf_X8_at (by decide) (fun r14 hr14_0 => ?_)
        have rgr14 := pt_rg r14
        try simp (disch := first | ((try simp (disch := first | ((try simp only [pn]) <;> omega) | fail) only [pn, pq]) <;> omega) | fail) only [pn, pq] at hr14_0
        exact hq _ 
    · try simp (disch := first | ((try simp (disch := first | ((try simp only [pn]) <;> omega) | fail) only [pn, pq]) <;> omega) | fail) only [pn, pq] at c2
      exact hq _ 
set_option maxRecDepth 20000 in
set_option maxHeartbeats 8000000 in
theorem sf_X8_child {S : bT8} (hJ : J8 S) {a1 : Int32} {a2 : Int32} {Q : Int32 → Prop} (hq : ∀ r : Int32, Q r) : wp_X8_child S a1 a2 Q := by
  unfold wp_X8_child
  have jf1 := J6g_nodes (J8g_tree hJ)
  have rga1 := pt_rg a1
  have rga2 := pt_rg a2
  refine ⟨fun c1 => ?_, fun c1 => ?_⟩
  · try simp (disch := first | ((try simp (disch := first | ((try simp only [pn]) <;> omega) | fail) only [pn, pq]) <;> omega) | fail) only [pn, pq] at c1
    exact hq _ 
  · try simp (disch := first | ((try simp (disch := first | ((try simp only [pn]) <;> omega) | fail) only [pn, pq]) <;> omega) | fail) only [pn, pq] at c1
    refine ⟨fun c2 => ?_, fun c2 => ?_⟩
    · try simp (disch := first | ((try simp (disch := first | ((try simp only [pn]) <;> omega) | fail) only [pn, pq]) <;> omega) | fail) only [pn, pq] at c2
      exact hq _ 
    · try simp (disch := first | ((try simp (disch := first | ((try simp only [pn]) <;> omega) | fail) only [pn, pq]) <;> omega) | fail) only [pn, pq] at c2
      refine ⟨fun c3 => ?_, fun c3 => ?_⟩
      · try simp (disch := first | ((try simp (disch := first | ((try simp only [pn]) <;> omega) | fail) only [pn, pq]) <;> omega) | fail) only [pn, pq] at c3
        exact hq _ 
      · try simp (disch := first | ((try simp (disch := first | ((try simp only [pn]) <;> omega) | fail) only [pn, pq]) <;> omega) | fail) only [pn, pq] at c3
        refine ⟨fun c4 => ?_, fun c4 => ?_⟩
        · try simp (disch := first | ((try simp (disch := first | ((try simp only [pn]) <;> omega) | fail) only [pn, pq]) <;> omega) | fail) only [pn, pq] at c4
          refine sf_X6_goneAlong (J8g_tree hJ) (fun r5  => ?_)
          have rgr5 := pt_rg r5
          exact hq _ 
        · try simp (disch := first | ((try simp (disch := first | ((try simp only [pn]) <;> omega) | fail) only [pn, pq]) <;> omega) | fail) only [pn, pq] at c4
          exact hq _ 
set_option maxRecDepth 20000 in
set_option maxHeartbeats 8000000 in
theorem sf_X8_level {S : bT8} (hJ : J8 S) {a1 : Int32} {a2 : Int32} {Q : Int32 → Prop} (hq : ∀ r : Int32, Q r) : wp_X8_level S a1 a2 Q := by
  unfold wp_X8_level
  have jf1 := J6g_levels (J8g_tree hJ)
  have rga1 := pt_rg a1
  have rga2 := pt_rg a2
  refine ⟨fun c1 => ?_, fun c1 => ?_⟩
  · try simp (disch := first | ((try simp (disch := first | ((try simp only [pn]) <;> omega) | fail) only [pn, pq]) <;> omega) | fail) only [pn, pq] at c1
    exact hq _ 
  · try simp (disch := first | ((try simp (disch := first | ((try simp only [pn]) <;> omega) | fail) only [pn, pq]) <;> omega) | fail) only [pn, pq] at c1
    refine ⟨fun c2 => ?_, fun c2 => ?_⟩
    · try simp (disch := first | ((try simp (disch := first | ((try simp only [pn]) <;> omega) | fail) only [pn, pq]) <;> omega) | fail) only [pn, pq] at c2
      refine sf_X8_at (by decide) (fun r3 hr3_0 => ?_)
      have rgr3 := pt_rg r3
      try simp (disch := first | ((try simp (disch := first | ((try simp only [pn]) <;> omega) | fail) only [pn, pq]) <;> omega) | fail) only [pn, pq] at hr3_0
      refine sf_X8_at (by decide) (fun r5 hr5_0 => ?_)
      have rgr5 := pt_rg r5
      try simp (disch := first | ((try simp (disch := first | ((try simp only [pn]) <;> omega) | fail) only [pn, pq]) <;> omega) | fail) only [pn, pq] at hr5_0
      refine ⟨fun c => ?_, fun c => ?_, fun c => ?_, fun c => ?_, fun c => ?_, fun c => ?_⟩
      · skip
        exact hq _ 
      · skip
        exact hq _ 
      · skip
        refine sf_X6_branches (J8g_tree hJ) (fun r7  => ?_)
        have rgr7 := pt_rg r7
        exact hq _ 
      · skip
        refine sf_X1_ofLevel (J8g_leaves hJ) (fun r9  => ?_)
        have rgr9 := pt_rg r9
        exact hq _ 
      · skip
        refine ⟨fun c11 => ?_, fun c11 => ?_⟩
        · try simp (disch := first | ((try simp (disch := first | ((try simp only [pn]) <;> omega) | fail) only [pn, pq]) <;> omega) | fail) only [pn, pq] at c11
          exact hq _ 
        · try simp (disch := first | ((try simp (disch := first | ((try simp only [pn]) <;> omega) | fail) only [pn, pq]) <;> omega) | fail) only [pn, pq] at c11
          exact hq _ 
      · skip
        refine ⟨fun c12 => ?_, fun c12 => ?_⟩
        · try simp (disch := first | ((try simp (disch := first | ((try simp only [pn]) <;> omega) | fail) only [pn, pq]) <;> omega) | fail) only [pn, pq] at c12
          refine sf_X6_edgesAmong (J8g_tree hJ) (fun r13  => ?_)
          have rgr13 := pt_rg r13
          exact hq _ 
        · try simp (disch := first | ((try simp (disch := first | ((try simp only [pn]) <;> omega) | fail) only [pn, pq]) <;> omega) | fail) only [pn, pq] at c12
          exact hq _ 
    · try simp (disch := first | ((try simp (disch := first | ((try simp only [pn]) <;> omega) | fail) only [pn, pq]) <;> omega) | fail) only [pn, pq] at c2
      exact hq _ 
set_option maxRecDepth 20000 in
set_option maxHeartbeats 8000000 in
theorem sf_X8_item {S : bT8} (hJ : J8 S) {a1 : Int32} {a2 : Int32} {Q : Int32 → Prop} (hq : ∀ r : Int32, Q r) : wp_X8_item S a1 a2 Q := by
  unfold wp_X8_item
  have jf1 := J6g_itemStart (J8g_tree hJ)
  have rga1 := pt_rg a1
  have rga2 := pt_rg a2
  refine ⟨fun c1 => ?_, fun c1 => ?_⟩
  · try simp (disch := first | ((try simp (disch := first | ((try simp only [pn]) <;> omega) | fail) only [pn, pq]) <;> omega) | fail) only [pn, pq] at c1
    exact hq _ 
  · try simp (disch := first | ((try simp (disch := first | ((try simp only [pn]) <;> omega) | fail) only [pn, pq]) <;> omega) | fail) only [pn, pq] at c1
    refine sf_X6_items (J8g_tree hJ) (fun r2  => ?_)
    have rgr2 := pt_rg r2
    refine ⟨fun c4 => ?_, fun c4 => ?_⟩
    · try simp (disch := first | ((try simp (disch := first | ((try simp only [pn]) <;> omega) | fail) only [pn, pq]) <;> omega) | fail) only [pn, pq] at c4
      refine ⟨fun c => ?_, fun c => ?_, fun c => ?_, fun c => ?_, fun c => ?_⟩
      · skip
        exact hq _ 
      · skip
        refine sf_X8_at (by decide) (fun r5 hr5_0 => ?_)
        have rgr5 := pt_rg r5
        try simp (disch := first | ((try simp (disch := first | ((try simp only [pn]) <;> omega) | fail) only [pn, pq]) <;> omega) | fail) only [pn, pq] at hr5_0
        exact hq _ 
      · skip
        refine sf_X6_isEnd (J8g_tree hJ) (fun r7 hzr7  => ?_)
        refine ⟨fun c9 => ?_, fun c9 => ?_⟩
        · try simp (disch := first | ((try simp (disch := first | ((try simp only [pn]) <;> omega) | fail) only [pn, pq]) <;> omega) | fail) only [pn, pq] at c9
          exact hq _ 
        · try simp (disch := first | ((try simp (disch := first | ((try simp only [pn]) <;> omega) | fail) only [pn, pq]) <;> omega) | fail) only [pn, pq] at c9
          exact hq _ 
      · skip
        refine sf_X6_hasChild (J8g_tree hJ) (fun r10 hzr10  => ?_)
        refine ⟨fun c12 => ?_, fun c12 => ?_⟩
        · try simp (disch := first | ((try simp (disch := first | ((try simp only [pn]) <;> omega) | fail) only [pn, pq]) <;> omega) | fail) only [pn, pq] at c12
          exact hq _ 
        · try simp (disch := first | ((try simp (disch := first | ((try simp only [pn]) <;> omega) | fail) only [pn, pq]) <;> omega) | fail) only [pn, pq] at c12
          exact hq _ 
      · skip
        refine sf_X8_at (by decide) (fun r13 hr13_0 => ?_)
        have rgr13 := pt_rg r13
        try simp (disch := first | ((try simp (disch := first | ((try simp only [pn]) <;> omega) | fail) only [pn, pq]) <;> omega) | fail) only [pn, pq] at hr13_0
        exact hq _ 
    · try simp (disch := first | ((try simp (disch := first | ((try simp only [pn]) <;> omega) | fail) only [pn, pq]) <;> omega) | fail) only [pn, pq] at c4
      exact hq _ 
set_option maxRecDepth 20000 in
set_option maxHeartbeats 8000000 in
theorem sf_X8_bit {S : bT8} (hJ : J8 S) {a1 : Int32} {Q : Int32 → Prop} (hq : ∀ r : Int32, Q r) : wp_X8_bit S a1 Q := by
  unfold wp_X8_bit
  have rga1 := pt_rg a1
  refine ⟨fun c1 => ?_, fun c1 => ?_⟩
  · try simp (disch := first | ((try simp (disch := first | ((try simp only [pn]) <;> omega) | fail) only [pn, pq]) <;> omega) | fail) only [pn, pq] at c1
    exact hq _ 
  · try simp (disch := first | ((try simp (disch := first | ((try simp only [pn]) <;> omega) | fail) only [pn, pq]) <;> omega) | fail) only [pn, pq] at c1
    refine sf_X6_rowLength (J8g_tree hJ) (fun r2  => ?_)
    have rgr2 := pt_rg r2
    refine ⟨fun c4 => ?_, fun c4 => ?_⟩
    · try simp (disch := first | ((try simp (disch := first | ((try simp only [pn]) <;> omega) | fail) only [pn, pq]) <;> omega) | fail) only [pn, pq] at c4
      refine sf_X6_onesAhead (J8g_tree hJ) (fun r5  => ?_)
      have rgr5 := pt_rg r5
      refine sf_X6_onesAhead (J8g_tree hJ) (fun r7  => ?_)
      have rgr7 := pt_rg r7
      exact hq _ 
    · try simp (disch := first | ((try simp (disch := first | ((try simp only [pn]) <;> omega) | fail) only [pn, pq]) <;> omega) | fail) only [pn, pq] at c4
      exact hq _ 
set_option maxRecDepth 20000 in
set_option maxHeartbeats 8000000 in
theorem sf_X8_rank {S : bT8} (hJ : J8 S) {a1 : Int32} {Q : Int32 → Prop} (hq : ∀ r : Int32, Q r) : wp_X8_rank S a1 Q := by
  unfold wp_X8_rank
  have rga1 := pt_rg a1
  refine ⟨fun c1 => ?_, fun c1 => ?_⟩
  · try simp (disch := first | ((try simp (disch := first | ((try simp only [pn]) <;> omega) | fail) only [pn, pq]) <;> omega) | fail) only [pn, pq] at c1
    exact hq _ 
  · try simp (disch := first | ((try simp (disch := first | ((try simp only [pn]) <;> omega) | fail) only [pn, pq]) <;> omega) | fail) only [pn, pq] at c1
    refine sf_X6_rowLength (J8g_tree hJ) (fun r2  => ?_)
    have rgr2 := pt_rg r2
    refine ⟨fun c4 => ?_, fun c4 => ?_⟩
    · try simp (disch := first | ((try simp (disch := first | ((try simp only [pn]) <;> omega) | fail) only [pn, pq]) <;> omega) | fail) only [pn, pq] at c4
      refine sf_X6_onesAhead (J8g_tree hJ) (fun r5  => ?_)
      have rgr5 := pt_rg r5
      exact hq _ 
    · try simp (disch := first | ((try simp (disch := first | ((try simp only [pn]) <;> omega) | fail) only [pn, pq]) <;> omega) | fail) only [pn, pq] at c4
      exact hq _ 
set_option maxRecDepth 20000 in
set_option maxHeartbeats 8000000 in
theorem sf_X8_select {S : bT8} (hJ : J8 S) {a1 : Int32} {Q : Int32 → Prop} (hq : ∀ r : Int32, Q r) : wp_X8_select S a1 Q := by
  unfold wp_X8_select
  have rga1 := pt_rg a1
  refine sf_X6_placeOfOne (J8g_tree hJ) (fun r1  => ?_)
  have rgr1 := pt_rg r1
  exact hq _ 
set_option maxRecDepth 20000 in
set_option maxHeartbeats 8000000 in
theorem sf_X8_bits {S : bT8} (hJ : J8 S) {a1 : Int32} {Q : Int32 → Prop} (hq : ∀ r : Int32, Q r) : wp_X8_bits S a1 Q := by
  unfold wp_X8_bits
  have rga1 := pt_rg a1
  intro v1 ev1
  have nv1 := congrArg Int32.toInt ev1
  try simp (disch := first | ((try simp (disch := first | ((try simp only [pn]) <;> omega) | fail) only [pn, pq]) <;> omega) | fail) only [pn, pq] at nv1
  refine sf_X6_bitsBy (J8g_tree hJ) (fun r2  => ?_)
  have rgr2 := pt_rg r2
  refine ⟨fun c => ?_, fun c => ?_, fun c => ?_, fun c => ?_, fun c => ?_, fun c => ?_, fun c => ?_, fun c => ?_⟩
  · skip
    exact hq _ 
  · skip
    exact hq _ 
  · skip
    exact hq _ 
  · skip
    refine sf_X1_tailBits (J8g_leaves hJ) (fun r4  => ?_)
    have rgr4 := pt_rg r4
    exact hq _ 
  · skip
    refine sf_X1_tailBits (J8g_leaves hJ) (fun r6  => ?_)
    have rgr6 := pt_rg r6
    exact hq _ 
  · skip
    refine sf_X0_allBytes (J1g_owners (J8g_leaves hJ)) (fun r8  => ?_)
    have rgr8 := pt_rg r8
    exact hq _ 
  · skip
    refine sf_X6_rowLength (J8g_tree hJ) (fun r10  => ?_)
    have rgr10 := pt_rg r10
    exact hq _ 
  · skip
    refine sf_X6_rowLength (J8g_tree hJ) (fun r12  => ?_)
    have rgr12 := pt_rg r12
    refine sf_X6_onesAhead (J8g_tree hJ) (fun r14  => ?_)
    have rgr14 := pt_rg r14
    exact hq _ 
set_option maxRecDepth 20000 in
set_option maxHeartbeats 8000000 in
theorem sf_X8_least {S : bT8} (hJ : J8 S) {a1 : Int32} {Q : Int32 → Prop} (hq : ∀ r : Int32, Q r) : wp_X8_least S a1 Q := by
  unfold wp_X8_least
  have jf1 := J6g_levels (J8g_tree hJ)
  have rga1 := pt_rg a1
  refine ⟨fun n x1q1 x2q1 x3q1 => (x1q1 = a1) ∧ (0 ≤ (x3q1).toInt) ∧ n = (((b6g_levels (b8g_tree S))).toInt + 1 - (x3q1).toInt).toNat, ⟨_, rfl, (by (try simp (disch := first | ((try simp (disch := first | ((try simp only [pn]) <;> omega) | fail) only [pn, pq]) <;> omega) | fail) only [pn, pq]) <;> (intros; (try simp (disch := first | ((try simp (disch := first | ((try simp only [pn]) <;> omega) | fail) only [pn, pq]) <;> omega) | fail) only [pn, pq]) <;> omega)), rfl⟩, ?_⟩
  rintro n2 x1q1 x2q1 x3q1 ⟨hkq1_0, hiq1_0, hn2⟩
  subst hkq1_0
  have rgx1q1 := pt_rg x1q1
  have rgx2q1 := pt_rg x2q1
  have rgx3q1 := pt_rg x3q1
  unfold wp_X8_least_4b
  refine ⟨fun c3 => ?_, fun c3 => ?_⟩
  · try simp (disch := first | ((try simp (disch := first | ((try simp only [pn]) <;> omega) | fail) only [pn, pq]) <;> omega) | fail) only [pn, pq] at c3
    refine ⟨fun c4 => ?_, fun c4 => ?_⟩
    · try simp (disch := first | ((try simp (disch := first | ((try simp only [pn]) <;> omega) | fail) only [pn, pq]) <;> omega) | fail) only [pn, pq] at c4
      refine ⟨fun c5 => ?_, fun c5 => ?_⟩
      · try simp (disch := first | ((try simp (disch := first | ((try simp only [pn]) <;> omega) | fail) only [pn, pq]) <;> omega) | fail) only [pn, pq] at c5
        exact hq _ 
      · try simp (disch := first | ((try simp (disch := first | ((try simp only [pn]) <;> omega) | fail) only [pn, pq]) <;> omega) | fail) only [pn, pq] at c5
        refine sf_X6_bitsBy (J8g_tree hJ) (fun r6  => ?_)
        have rgr6 := pt_rg r6
        refine sf_X1_tailBits (J8g_leaves hJ) (fun r8  => ?_)
        have rgr8 := pt_rg r8
        exact hq _ 
    · try simp (disch := first | ((try simp (disch := first | ((try simp only [pn]) <;> omega) | fail) only [pn, pq]) <;> omega) | fail) only [pn, pq] at c4
      exact hq _ 
  · try simp (disch := first | ((try simp (disch := first | ((try simp only [pn]) <;> omega) | fail) only [pn, pq]) <;> omega) | fail) only [pn, pq] at c3
    refine sf_X6_bitsBy (J8g_tree hJ) (fun r10  => ?_)
    have rgr10 := pt_rg r10
    refine sf_X6_bitsBy (J8g_tree hJ) (fun r12  => ?_)
    have rgr12 := pt_rg r12
    refine ⟨fun c14 => ?_, fun c14 => ?_⟩
    · try simp (disch := first | ((try simp (disch := first | ((try simp only [pn]) <;> omega) | fail) only [pn, pq]) <;> omega) | fail) only [pn, pq] at c14
      unfold wp_X8_least_36
      refine ⟨_, ?_, ?_, ?_, rfl⟩
      · (try simp (disch := first | ((try simp (disch := first | ((try simp only [pn]) <;> omega) | fail) only [pn, pq]) <;> omega) | fail) only [pn, pq]) <;> (intros; (try simp (disch := first | ((try simp (disch := first | ((try simp only [pn]) <;> omega) | fail) only [pn, pq]) <;> omega) | fail) only [pn, pq]) <;> omega)
      · first | rfl | assumption
      · (try simp (disch := first | ((try simp (disch := first | ((try simp only [pn]) <;> omega) | fail) only [pn, pq]) <;> omega) | fail) only [pn, pq]) <;> (intros; (try simp (disch := first | ((try simp (disch := first | ((try simp only [pn]) <;> omega) | fail) only [pn, pq]) <;> omega) | fail) only [pn, pq]) <;> omega)
    · try simp (disch := first | ((try simp (disch := first | ((try simp only [pn]) <;> omega) | fail) only [pn, pq]) <;> omega) | fail) only [pn, pq] at c14
      unfold wp_X8_least_36
      refine ⟨_, ?_, ?_, ?_, rfl⟩
      · (try simp (disch := first | ((try simp (disch := first | ((try simp only [pn]) <;> omega) | fail) only [pn, pq]) <;> omega) | fail) only [pn, pq]) <;> (intros; (try simp (disch := first | ((try simp (disch := first | ((try simp only [pn]) <;> omega) | fail) only [pn, pq]) <;> omega) | fail) only [pn, pq]) <;> omega)
      · first | rfl | assumption
      · (try simp (disch := first | ((try simp (disch := first | ((try simp only [pn]) <;> omega) | fail) only [pn, pq]) <;> omega) | fail) only [pn, pq]) <;> (intros; (try simp (disch := first | ((try simp (disch := first | ((try simp only [pn]) <;> omega) | fail) only [pn, pq]) <;> omega) | fail) only [pn, pq]) <;> omega)
set_option maxRecDepth 20000 in
set_option maxHeartbeats 8000000 in
theorem sf_X8_isCounted {a0 : Int32} {Q : Int32 → Prop} (hq : ∀ r : Int32, bf_bool r → (r.toInt = 0 ∨ (1 ≤ a0.toInt ∧ a0.toInt ≤ 7)) → Q r) : wp_X8_isCounted a0 Q := by
  unfold wp_X8_isCounted
  have rga0 := pt_rg a0
  refine ⟨fun c1 => ?_, fun c1 => ?_⟩
  · try simp (disch := first | ((try simp (disch := first | ((try simp only [pn]) <;> omega) | fail) only [pn, pq]) <;> omega) | fail) only [pn, pq] at c1
    exact ⟨by first | rfl | assumption, hq _ (by first | rfl | assumption) (by (try simp (disch := first | ((try simp (disch := first | ((try simp only [pn]) <;> omega) | fail) only [pn, pq]) <;> omega) | fail) only [pn, pq]) <;> (intros; (try simp (disch := first | ((try simp (disch := first | ((try simp only [pn]) <;> omega) | fail) only [pn, pq]) <;> omega) | fail) only [pn, pq]) <;> omega))⟩
  · try simp (disch := first | ((try simp (disch := first | ((try simp only [pn]) <;> omega) | fail) only [pn, pq]) <;> omega) | fail) only [pn, pq] at c1
    refine ⟨fun c2 => ?_, fun c2 => ?_⟩
    · try simp (disch := first | ((try simp (disch := first | ((try simp only [pn]) <;> omega) | fail) only [pn, pq]) <;> omega) | fail) only [pn, pq] at c2
      exact ⟨by first | rfl | assumption, hq _ (by first | rfl | assumption) (by (try simp (disch := first | ((try simp (disch := first | ((try simp only [pn]) <;> omega) | fail) only [pn, pq]) <;> omega) | fail) only [pn, pq]) <;> (intros; (try simp (disch := first | ((try simp (disch := first | ((try simp only [pn]) <;> omega) | fail) only [pn, pq]) <;> omega) | fail) only [pn, pq]) <;> omega))⟩
    · try simp (disch := first | ((try simp (disch := first | ((try simp only [pn]) <;> omega) | fail) only [pn, pq]) <;> omega) | fail) only [pn, pq] at c2
      exact ⟨by first | rfl | assumption, hq _ (by first | rfl | assumption) (by (try simp (disch := first | ((try simp (disch := first | ((try simp only [pn]) <;> omega) | fail) only [pn, pq]) <;> omega) | fail) only [pn, pq]) <;> (intros; (try simp (disch := first | ((try simp (disch := first | ((try simp only [pn]) <;> omega) | fail) only [pn, pq]) <;> omega) | fail) only [pn, pq]) <;> omega))⟩
set_option maxRecDepth 20000 in
set_option maxHeartbeats 8000000 in
theorem sf_X8_cover {S : bT8} (hJ : J8 S) {a1 : Int32} {Q : Int64 → Prop} (hq : ∀ r : Int64, Q r) : wp_X8_cover S a1 Q := by
  unfold wp_X8_cover
  have rga1 := pt_rg a1
  refine sf_X8_isCounted  (fun r1 hzr1 hr1_0 => ?_)
  try simp (disch := first | ((try simp (disch := first | ((try simp only [pn]) <;> omega) | fail) only [pn, pq]) <;> omega) | fail) only [pn, pq] at hr1_0
  refine ⟨fun c3 => ?_, fun c3 => ?_⟩
  · try simp (disch := first | ((try simp (disch := first | ((try simp only [pn]) <;> omega) | fail) only [pn, pq]) <;> omega) | fail) only [pn, pq] at c3
    exact hq _ 
  · try simp (disch := first | ((try simp (disch := first | ((try simp only [pn]) <;> omega) | fail) only [pn, pq]) <;> omega) | fail) only [pn, pq] at c3
    refine sf_X1_covered (J8g_leaves hJ) (fun r4  => ?_)
    exact hq _ 
set_option maxRecDepth 20000 in
set_option maxHeartbeats 8000000 in
theorem sf_X8_loose {S : bT8} (hJ : J8 S) {a1 : Int32} {Q : Int64 → Prop} (hq : ∀ r : Int64, Q r) : wp_X8_loose S a1 Q := by
  unfold wp_X8_loose
  have rga1 := pt_rg a1
  refine sf_X8_isCounted  (fun r1 hzr1 hr1_0 => ?_)
  try simp (disch := first | ((try simp (disch := first | ((try simp only [pn]) <;> omega) | fail) only [pn, pq]) <;> omega) | fail) only [pn, pq] at hr1_0
  refine ⟨fun c3 => ?_, fun c3 => ?_⟩
  · try simp (disch := first | ((try simp (disch := first | ((try simp only [pn]) <;> omega) | fail) only [pn, pq]) <;> omega) | fail) only [pn, pq] at c3
    exact hq _ 
  · try simp (disch := first | ((try simp (disch := first | ((try simp only [pn]) <;> omega) | fail) only [pn, pq]) <;> omega) | fail) only [pn, pq] at c3
    refine sf_X1_covered (J8g_leaves hJ) (fun r4  => ?_)
    refine sf_X0_ofLength (J1g_owners (J8g_leaves hJ)) (fun r6  => ?_)
    have rgr6 := pt_rg r6
    exact hq _ 
set_option maxRecDepth 20000 in
set_option maxHeartbeats 8000000 in
theorem sf_X8_free {S : bT8} (hJ : J8 S) {a1 : Int32} {a2 : Int32} {Q : Int64 → Prop} (hq : ∀ r : Int64, Q r) : wp_X8_free S a1 a2 Q := by
  unfold wp_X8_free
  have rga1 := pt_rg a1
  have rga2 := pt_rg a2
  refine ⟨fun c1 => ?_, fun c1 => ?_⟩
  · try simp (disch := first | ((try simp (disch := first | ((try simp only [pn]) <;> omega) | fail) only [pn, pq]) <;> omega) | fail) only [pn, pq] at c1
    exact hq _ 
  · try simp (disch := first | ((try simp (disch := first | ((try simp only [pn]) <;> omega) | fail) only [pn, pq]) <;> omega) | fail) only [pn, pq] at c1
    refine sf_X1_count (J8g_leaves hJ) (fun r2 hr2_0 => ?_)
    have rgr2 := pt_rg r2
    try simp (disch := first | ((try simp (disch := first | ((try simp only [pn]) <;> omega) | fail) only [pn, pq]) <;> omega) | fail) only [pn, pq] at hr2_0
    refine ⟨fun c4 => ?_, fun c4 => ?_⟩
    · try simp (disch := first | ((try simp (disch := first | ((try simp only [pn]) <;> omega) | fail) only [pn, pq]) <;> omega) | fail) only [pn, pq] at c4
      exact hq _ 
    · try simp (disch := first | ((try simp (disch := first | ((try simp only [pn]) <;> omega) | fail) only [pn, pq]) <;> omega) | fail) only [pn, pq] at c4
      refine sf_X8_isCounted  (fun r5 hzr5 hr5_0 => ?_)
      try simp (disch := first | ((try simp (disch := first | ((try simp only [pn]) <;> omega) | fail) only [pn, pq]) <;> omega) | fail) only [pn, pq] at hr5_0
      refine ⟨fun c7 => ?_, fun c7 => ?_⟩
      · try simp (disch := first | ((try simp (disch := first | ((try simp only [pn]) <;> omega) | fail) only [pn, pq]) <;> omega) | fail) only [pn, pq] at c7
        refine ⟨fun c8 => ?_, fun c8 => ?_⟩
        · try simp (disch := first | ((try simp (disch := first | ((try simp only [pn]) <;> omega) | fail) only [pn, pq]) <;> omega) | fail) only [pn, pq] at c8
          refine sf_X0_bytesAt (J1g_highs (J8g_leaves hJ)) (fun r9  => ?_)
          refine sf_X0_lengthAt (J1g_highs (J8g_leaves hJ)) (fun r11  => ?_)
          have rgr11 := pt_rg r11
          refine sf_X8_countUpTo  (fun r13  => ?_)
          unfold wp_X8_free_64
          refine sf_X1_count (J8g_leaves hJ) (fun r15 hr15_0 => ?_)
          have rgr15 := pt_rg r15
          try simp (disch := first | ((try simp (disch := first | ((try simp only [pn]) <;> omega) | fail) only [pn, pq]) <;> omega) | fail) only [pn, pq] at hr15_0
          refine ⟨fun c17 => ?_, fun c17 => ?_⟩
          · try simp (disch := first | ((try simp (disch := first | ((try simp only [pn]) <;> omega) | fail) only [pn, pq]) <;> omega) | fail) only [pn, pq] at c17
            refine sf_X0_bytesAt (J1g_lows (J8g_leaves hJ)) (fun r18  => ?_)
            refine sf_X0_lengthAt (J1g_lows (J8g_leaves hJ)) (fun r20  => ?_)
            have rgr20 := pt_rg r20
            refine sf_X8_countAhead  (fun r22  => ?_)
            exact hq _ 
          · try simp (disch := first | ((try simp (disch := first | ((try simp only [pn]) <;> omega) | fail) only [pn, pq]) <;> omega) | fail) only [pn, pq] at c17
            exact hq _ 
        · try simp (disch := first | ((try simp (disch := first | ((try simp only [pn]) <;> omega) | fail) only [pn, pq]) <;> omega) | fail) only [pn, pq] at c8
          unfold wp_X8_free_64
          refine sf_X1_count (J8g_leaves hJ) (fun r24 hr24_0 => ?_)
          have rgr24 := pt_rg r24
          try simp (disch := first | ((try simp (disch := first | ((try simp only [pn]) <;> omega) | fail) only [pn, pq]) <;> omega) | fail) only [pn, pq] at hr24_0
          refine ⟨fun c26 => ?_, fun c26 => ?_⟩
          · try simp (disch := first | ((try simp (disch := first | ((try simp only [pn]) <;> omega) | fail) only [pn, pq]) <;> omega) | fail) only [pn, pq] at c26
            refine sf_X0_bytesAt (J1g_lows (J8g_leaves hJ)) (fun r27  => ?_)
            refine sf_X0_lengthAt (J1g_lows (J8g_leaves hJ)) (fun r29  => ?_)
            have rgr29 := pt_rg r29
            refine sf_X8_countAhead  (fun r31  => ?_)
            exact hq _ 
          · try simp (disch := first | ((try simp (disch := first | ((try simp only [pn]) <;> omega) | fail) only [pn, pq]) <;> omega) | fail) only [pn, pq] at c26
            exact hq _ 
      · try simp (disch := first | ((try simp (disch := first | ((try simp only [pn]) <;> omega) | fail) only [pn, pq]) <;> omega) | fail) only [pn, pq] at c7
        exact hq _ 
set_option maxRecDepth 20000 in
set_option maxHeartbeats 8000000 in
theorem sf_X8_spread {S : bT8} (hJ : J8 S) {a1 : Int32} {a2 : Int32} {a3 : Int32} {a4 : Int32} {Q : Int32 → Prop} (hq : ∀ r : Int32, Q r) : wp_X8_spread S a1 a2 a3 a4 Q := by
  unfold wp_X8_spread
  have rga1 := pt_rg a1
  have rga2 := pt_rg a2
  have rga3 := pt_rg a3
  have rga4 := pt_rg a4
  refine sf_X8_isCounted  (fun r1 hzr1 hr1_0 => ?_)
  try simp (disch := first | ((try simp (disch := first | ((try simp only [pn]) <;> omega) | fail) only [pn, pq]) <;> omega) | fail) only [pn, pq] at hr1_0
  refine ⟨fun c3 => ?_, fun c3 => ?_⟩
  · try simp (disch := first | ((try simp (disch := first | ((try simp only [pn]) <;> omega) | fail) only [pn, pq]) <;> omega) | fail) only [pn, pq] at c3
    exact hq _ 
  · try simp (disch := first | ((try simp (disch := first | ((try simp only [pn]) <;> omega) | fail) only [pn, pq]) <;> omega) | fail) only [pn, pq] at c3
    refine ⟨fun c4 => ?_, fun c4 => ?_⟩
    · try simp (disch := first | ((try simp (disch := first | ((try simp only [pn]) <;> omega) | fail) only [pn, pq]) <;> omega) | fail) only [pn, pq] at c4
      exact hq _ 
    · try simp (disch := first | ((try simp (disch := first | ((try simp only [pn]) <;> omega) | fail) only [pn, pq]) <;> omega) | fail) only [pn, pq] at c4
      refine ⟨fun c5 => ?_, fun c5 => ?_⟩
      · try simp (disch := first | ((try simp (disch := first | ((try simp only [pn]) <;> omega) | fail) only [pn, pq]) <;> omega) | fail) only [pn, pq] at c5
        refine sf_X8_keyOf  (fun r6 hr6_0 => ?_)
        refine ⟨fun n x3q8 x4q8 x5q8 x7q8 x8q8 x9q8 x10q8 => (x3q8 = a3) ∧ (x4q8 = a4) ∧ (x5q8 = r6) ∧ (0 ≤ (x10q8).toInt) ∧ n = (256 + 1 - (x10q8).toInt).toNat, ⟨_, rfl, rfl, rfl, (by (try simp (disch := first | ((try simp (disch := first | ((try simp only [pn]) <;> omega) | fail) only [pn, pq]) <;> omega) | fail) only [pn, pq]) <;> (intros; (try simp (disch := first | ((try simp (disch := first | ((try simp only [pn]) <;> omega) | fail) only [pn, pq]) <;> omega) | fail) only [pn, pq]) <;> omega)), rfl⟩, ?_⟩
        rintro n9 x3q8 x4q8 x5q8 x7q8 x8q8 x9q8 x10q8 ⟨hkq8_0, hkq8_1, hkq8_2, hiq8_0, hn9⟩
        subst hkq8_0
        subst hkq8_1
        subst hkq8_2
        have rgx3q8 := pt_rg x3q8
        have rgx4q8 := pt_rg x4q8
        have rgx7q8 := pt_rg x7q8
        have rgx8q8 := pt_rg x8q8
        have rgx9q8 := pt_rg x9q8
        have rgx10q8 := pt_rg x10q8
        unfold wp_X8_spread_40b
        refine ⟨fun c10 => ?_, fun c10 => ?_⟩
        · try simp (disch := first | ((try simp (disch := first | ((try simp only [pn]) <;> omega) | fail) only [pn, pq]) <;> omega) | fail) only [pn, pq] at c10
          refine ⟨fun c11 => ?_, fun c11 => ?_⟩
          · try simp (disch := first | ((try simp (disch := first | ((try simp only [pn]) <;> omega) | fail) only [pn, pq]) <;> omega) | fail) only [pn, pq] at c11
            refine ⟨fun c12 => ?_, fun c12 => ?_⟩
            · try simp (disch := first | ((try simp (disch := first | ((try simp only [pn]) <;> omega) | fail) only [pn, pq]) <;> omega) | fail) only [pn, pq] at c12
              exact hq _ 
            · try simp (disch := first | ((try simp (disch := first | ((try simp only [pn]) <;> omega) | fail) only [pn, pq]) <;> omega) | fail) only [pn, pq] at c12
              exact hq _ 
          · try simp (disch := first | ((try simp (disch := first | ((try simp only [pn]) <;> omega) | fail) only [pn, pq]) <;> omega) | fail) only [pn, pq] at c11
            exact hq _ 
        · try simp (disch := first | ((try simp (disch := first | ((try simp only [pn]) <;> omega) | fail) only [pn, pq]) <;> omega) | fail) only [pn, pq] at c10
          refine sf_X8_octetTo  (fun r13 hr13_0 => ?_)
          refine sf_X1_verdictOf (J8g_leaves hJ) (fun r15  => ?_)
          have rgr15 := pt_rg r15
          refine ⟨fun c17 => ?_, fun c17 => ?_⟩
          · try simp (disch := first | ((try simp (disch := first | ((try simp only [pn]) <;> omega) | fail) only [pn, pq]) <;> omega) | fail) only [pn, pq] at c17
            unfold wp_X8_spread_92
            refine ⟨fun c18 => ?_, fun c18 => ?_⟩
            · try simp (disch := first | ((try simp (disch := first | ((try simp only [pn]) <;> omega) | fail) only [pn, pq]) <;> omega) | fail) only [pn, pq] at c18
              unfold wp_X8_spread_101
              refine ⟨_, ?_, ?_, ?_, ?_, ?_, rfl⟩
              · (try simp (disch := first | ((try simp (disch := first | ((try simp only [pn]) <;> omega) | fail) only [pn, pq]) <;> omega) | fail) only [pn, pq]) <;> (intros; (try simp (disch := first | ((try simp (disch := first | ((try simp only [pn]) <;> omega) | fail) only [pn, pq]) <;> omega) | fail) only [pn, pq]) <;> omega)
              · first | rfl | assumption
              · first | rfl | assumption
              · first | rfl | assumption
              · (try simp (disch := first | ((try simp (disch := first | ((try simp only [pn]) <;> omega) | fail) only [pn, pq]) <;> omega) | fail) only [pn, pq]) <;> (intros; (try simp (disch := first | ((try simp (disch := first | ((try simp only [pn]) <;> omega) | fail) only [pn, pq]) <;> omega) | fail) only [pn, pq]) <;> omega)
            · try simp (disch := first | ((try simp (disch := first | ((try simp only [pn]) <;> omega) | fail) only [pn, pq]) <;> omega) | fail) only [pn, pq] at c18
              unfold wp_X8_spread_101
              refine ⟨_, ?_, ?_, ?_, ?_, ?_, rfl⟩
              · (try simp (disch := first | ((try simp (disch := first | ((try simp only [pn]) <;> omega) | fail) only [pn, pq]) <;> omega) | fail) only [pn, pq]) <;> (intros; (try simp (disch := first | ((try simp (disch := first | ((try simp only [pn]) <;> omega) | fail) only [pn, pq]) <;> omega) | fail) only [pn, pq]) <;> omega)
              · first | rfl | assumption
              · first | rfl | assumption
              · first | rfl | assumption
              · (try simp (disch := first | ((try simp (disch := first | ((try simp only [pn]) <;> omega) | fail) only [pn, pq]) <;> omega) | fail) only [pn, pq]) <;> (intros; (try simp (disch := first | ((try simp (disch := first | ((try simp only [pn]) <;> omega) | fail) only [pn, pq]) <;> omega) | fail) only [pn, pq]) <;> omega)
          · try simp (disch := first | ((try simp (disch := first | ((try simp only [pn]) <;> omega) | fail) only [pn, pq]) <;> omega) | fail) only [pn, pq] at c17
            refine ⟨fun c19 => ?_, fun c19 => ?_⟩
            · try simp (disch := first | ((try simp (disch := first | ((try simp only [pn]) <;> omega) | fail) only [pn, pq]) <;> omega) | fail) only [pn, pq] at c19
              unfold wp_X8_spread_90
              unfold wp_X8_spread_92
              refine ⟨fun c20 => ?_, fun c20 => ?_⟩
              · try simp (disch := first | ((try simp (disch := first | ((try simp only [pn]) <;> omega) | fail) only [pn, pq]) <;> omega) | fail) only [pn, pq] at c20
                unfold wp_X8_spread_101
                refine ⟨_, ?_, ?_, ?_, ?_, ?_, rfl⟩
                · (try simp (disch := first | ((try simp (disch := first | ((try simp only [pn]) <;> omega) | fail) only [pn, pq]) <;> omega) | fail) only [pn, pq]) <;> (intros; (try simp (disch := first | ((try simp (disch := first | ((try simp only [pn]) <;> omega) | fail) only [pn, pq]) <;> omega) | fail) only [pn, pq]) <;> omega)
                · first | rfl | assumption
                · first | rfl | assumption
                · first | rfl | assumption
                · (try simp (disch := first | ((try simp (disch := first | ((try simp only [pn]) <;> omega) | fail) only [pn, pq]) <;> omega) | fail) only [pn, pq]) <;> (intros; (try simp (disch := first | ((try simp (disch := first | ((try simp only [pn]) <;> omega) | fail) only [pn, pq]) <;> omega) | fail) only [pn, pq]) <;> omega)
              · try simp (disch := first | ((try simp (disch := first | ((try simp only [pn]) <;> omega) | fail) only [pn, pq]) <;> omega) | fail) only [pn, pq] at c20
                unfold wp_X8_spread_101
                refine ⟨_, ?_, ?_, ?_, ?_, ?_, rfl⟩
                · (try simp (disch := first | ((try simp (disch := first | ((try simp only [pn]) <;> omega) | fail) only [pn, pq]) <;> omega) | fail) only [pn, pq]) <;> (intros; (try simp (disch := first | ((try simp (disch := first | ((try simp only [pn]) <;> omega) | fail) only [pn, pq]) <;> omega) | fail) only [pn, pq]) <;> omega)
                · first | rfl | assumption
                · first | rfl | assumption
                · first | rfl | assumption
                · (try simp (disch := first | ((try simp (disch := first | ((try simp only [pn]) <;> omega) | fail) only [pn, pq]) <;> omega) | fail) only [pn, pq]) <;> (intros; (try simp (disch := first | ((try simp (disch := first | ((try simp only [pn]) <;> omega) | fail) only [pn, pq]) <;> omega) | fail) only [pn, pq]) <;> omega)
            · try simp (disch := first | ((try simp (disch := first | ((try simp only [pn]) <;> omega) | fail) only [pn, pq]) <;> omega) | fail) only [pn, pq] at c19
              unfold wp_X8_spread_90
              unfold wp_X8_spread_92
              refine ⟨fun c21 => ?_, fun c21 => ?_⟩
              · try simp (disch := first | ((try simp (disch := first | ((try simp only [pn]) <;> omega) | fail) only [pn, pq]) <;> omega) | fail) only [pn, pq] at c21
                unfold wp_X8_spread_101
                refine ⟨_, ?_, ?_, ?_, ?_, ?_, rfl⟩
                · (try simp (disch := first | ((try simp (disch := first | ((try simp only [pn]) <;> omega) | fail) only [pn, pq]) <;> omega) | fail) only [pn, pq]) <;> (intros; (try simp (disch := first | ((try simp (disch := first | ((try simp only [pn]) <;> omega) | fail) only [pn, pq]) <;> omega) | fail) only [pn, pq]) <;> omega)
                · first | rfl | assumption
                · first | rfl | assumption
                · first | rfl | assumption
                · (try simp (disch := first | ((try simp (disch := first | ((try simp only [pn]) <;> omega) | fail) only [pn, pq]) <;> omega) | fail) only [pn, pq]) <;> (intros; (try simp (disch := first | ((try simp (disch := first | ((try simp only [pn]) <;> omega) | fail) only [pn, pq]) <;> omega) | fail) only [pn, pq]) <;> omega)
              · try simp (disch := first | ((try simp (disch := first | ((try simp only [pn]) <;> omega) | fail) only [pn, pq]) <;> omega) | fail) only [pn, pq] at c21
                unfold wp_X8_spread_101
                refine ⟨_, ?_, ?_, ?_, ?_, ?_, rfl⟩
                · (try simp (disch := first | ((try simp (disch := first | ((try simp only [pn]) <;> omega) | fail) only [pn, pq]) <;> omega) | fail) only [pn, pq]) <;> (intros; (try simp (disch := first | ((try simp (disch := first | ((try simp only [pn]) <;> omega) | fail) only [pn, pq]) <;> omega) | fail) only [pn, pq]) <;> omega)
                · first | rfl | assumption
                · first | rfl | assumption
                · first | rfl | assumption
                · (try simp (disch := first | ((try simp (disch := first | ((try simp only [pn]) <;> omega) | fail) only [pn, pq]) <;> omega) | fail) only [pn, pq]) <;> (intros; (try simp (disch := first | ((try simp (disch := first | ((try simp only [pn]) <;> omega) | fail) only [pn, pq]) <;> omega) | fail) only [pn, pq]) <;> omega)
      · try simp (disch := first | ((try simp (disch := first | ((try simp only [pn]) <;> omega) | fail) only [pn, pq]) <;> omega) | fail) only [pn, pq] at c5
        exact hq _ 
def F_X8_question (S u : bT8) : Prop := (b2g_told (b8g_now u)) = (b2g_told (b8g_now S)) ∧ (b2g_built (b8g_now u)) = (b2g_built (b8g_now S)) ∧ (b2g_answers (b8g_now u)) = (b2g_answers (b8g_now S)) ∧ (b2g_draws (b8g_now u)) = (b2g_draws (b8g_now S)) ∧ (b8g_kept u) = (b8g_kept S) ∧ (b8g_isKept u) = (b8g_isKept S) ∧ (b8g_leaves u) = (b8g_leaves S) ∧ (b8g_tree u) = (b8g_tree S) ∧ (b8g_tuning u) = (b8g_tuning S) ∧ (b8g_trial u) = (b8g_trial S) ∧ (b8g_tape u) = (b8g_tape S) ∧ (b8g_text u) = (b8g_text S) ∧ (b8g_chosenRow u) = (b8g_chosenRow S)
set_option maxRecDepth 20000 in
set_option maxHeartbeats 8000000 in
theorem sf_X8_question {S : bT8} (hJ : J8 S) {a1 : Int32} {a2 : Int32} {a3 : Int32} {Q : Int32 → (bT8) → Prop} (hq : ∀ (r : Int32) (u : bT8), (J8 u) → F_X8_question S u → ((r.toInt = -1 ∧ (b0g_count (b2g_questions (b8g_now u))).toInt = (b0g_count (b2g_questions (b8g_now S))).toInt ∧ (a3.toInt < 1 ∨ 8 < a3.toInt ∨ 16 ≤ (b0g_count (b2g_questions (b8g_now S))).toInt)) ∨ (1 ≤ a3.toInt ∧ a3.toInt ≤ 8 ∧ (b0g_count (b2g_questions (b8g_now S))).toInt < 16 ∧ r.toInt = (b0g_count (b2g_questions (b8g_now S))).toInt + 1 ∧ (b0g_count (b2g_questions (b8g_now u))).toInt = (b0g_count (b2g_questions (b8g_now S))).toInt + 1)) → Q r u) : wp_X8_question S a1 a2 a3 Q := by
  unfold wp_X8_question
  have hFS : F_X8_question S S := ⟨rfl, rfl, rfl, rfl, rfl, rfl, rfl, rfl, rfl, rfl, rfl, rfl, rfl⟩
  have jf1 := J0g_count (J2g_questions (J8g_now hJ))
  have rga1 := pt_rg a1
  have rga2 := pt_rg a2
  have rga3 := pt_rg a3
  refine sf_X8_isLength  (fun r1 hzr1 hr1_0 => ?_)
  try simp (disch := first | ((try simp (disch := first | ((try simp only [pn]) <;> omega) | fail) only [pn, pq]) <;> omega) | fail) only [pn, pq] at hr1_0
  refine ⟨fun c3 => ?_, fun c3 => ?_⟩
  · try simp (disch := first | ((try simp (disch := first | ((try simp only [pn]) <;> omega) | fail) only [pn, pq]) <;> omega) | fail) only [pn, pq] at c3
    exact hq _ _ hJ hFS (by (try simp (disch := first | ((try simp (disch := first | ((try simp only [pn]) <;> omega) | fail) only [pn, pq]) <;> omega) | fail) only [pn, pq]) <;> (intros; (try simp (disch := first | ((try simp (disch := first | ((try simp only [pn]) <;> omega) | fail) only [pn, pq]) <;> omega) | fail) only [pn, pq]) <;> omega))
  · try simp (disch := first | ((try simp (disch := first | ((try simp only [pn]) <;> omega) | fail) only [pn, pq]) <;> omega) | fail) only [pn, pq] at c3
    refine ⟨fun c4 => ?_, fun c4 => ?_⟩
    · try simp (disch := first | ((try simp (disch := first | ((try simp only [pn]) <;> omega) | fail) only [pn, pq]) <;> omega) | fail) only [pn, pq] at c4
      refine sf_X8_keyOf  (fun r5 hr5_0 => ?_)
      refine sf_X0_append (J2g_questions (J8g_now hJ)) (fun u8 hJu8 hfu8 hr7_0 => ?_)
      try simp (disch := first | ((try simp (disch := first | ((try simp only [pn]) <;> omega) | fail) only [pn, pq]) <;> omega) | fail) only [pn, pq] at hr7_0
      intro S9 eS9
      have hGS9 : F_X8_question S S9 := by
        rw [eS9]
        exact ⟨hFS.1, hFS.2.1, hFS.2.2.1, hFS.2.2.2.1, hFS.2.2.2.2.1, hFS.2.2.2.2.2.1, hFS.2.2.2.2.2.2.1, hFS.2.2.2.2.2.2.2.1, hFS.2.2.2.2.2.2.2.2.1, hFS.2.2.2.2.2.2.2.2.2.1, hFS.2.2.2.2.2.2.2.2.2.2.1, hFS.2.2.2.2.2.2.2.2.2.2.2.1, hFS.2.2.2.2.2.2.2.2.2.2.2.2⟩
      have hJS9 : J8 S9 := by rw [eS9]; exact (J8s_now hJ (J2s_questions (J8g_now hJ) hJu8))
      have hFS9 : F_X8_question S S9 := hGS9
      have je2 : ((b0g_count (b2g_questions (b8g_now S9)))).toInt = ((b0g_count u8)).toInt := by rw [eS9]
      try simp (disch := first | ((try simp (disch := first | ((try simp only [pn]) <;> omega) | fail) only [pn, pq]) <;> omega) | fail) only [pn, pq] at je2
      have jf3 := J0g_count (J2g_questions (J8g_now hJS9))
      exact hq _ _ hJS9 hFS9 (by (try simp (disch := first | ((try simp (disch := first | ((try simp only [pn]) <;> omega) | fail) only [pn, pq]) <;> omega) | fail) only [pn, pq]) <;> (intros; (try simp (disch := first | ((try simp (disch := first | ((try simp only [pn]) <;> omega) | fail) only [pn, pq]) <;> omega) | fail) only [pn, pq]) <;> omega))
    · try simp (disch := first | ((try simp (disch := first | ((try simp only [pn]) <;> omega) | fail) only [pn, pq]) <;> omega) | fail) only [pn, pq] at c4
      exact hq _ _ hJ hFS (by (try simp (disch := first | ((try simp (disch := first | ((try simp only [pn]) <;> omega) | fail) only [pn, pq]) <;> omega) | fail) only [pn, pq]) <;> (intros; (try simp (disch := first | ((try simp (disch := first | ((try simp only [pn]) <;> omega) | fail) only [pn, pq]) <;> omega) | fail) only [pn, pq]) <;> omega))
