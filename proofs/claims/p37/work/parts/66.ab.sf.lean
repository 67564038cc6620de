set_option maxRecDepth 20000 in
set_option maxHeartbeats 1000000 in
theorem sf_X1_verdictOf {S : bT1} (hJ : J1 S) {a1 : Int64} {a3 : Int32} {Q : Int32 → Prop} (hq : ∀ r : Int32, Q r) : wp_X1_verdictOf S a1 a3 Q := by
  unfold wp_X1_verdictOf
  have rga3 := pt_rg a3
  refine sf_X1_possibleAt hJ (fun r1  => ?_)
  have rgr1 := pt_rg r1
  refine ⟨fun c3 => ?_, fun c3 => ?_⟩
  · try simp (disch := first | ((try simp (disch := first | ((try simp only [pn]) <;> omega) | fail) only [pn, pq]) <;> omega) | fail) only [pn, pq] at c3
    exact hq _ 
  · try simp (disch := first | ((try simp (disch := first | ((try simp only [pn]) <;> omega) | fail) only [pn, pq]) <;> omega) | fail) only [pn, pq] at c3
    refine sf_X8_mixed  (fun r4  => ?_)
    have rgr4 := pt_rg r4
    refine sf_X8_lowest  (fun r6  => ?_)
    have rgr6 := pt_rg r6
    refine sf_X1_hashAt hJ (fun r8  => ?_)
    have rgr8 := pt_rg r8
    refine ⟨fun c10 => ?_, fun c10 => ?_⟩
    · try simp (disch := first | ((try simp (disch := first | ((try simp only [pn]) <;> omega) | fail) only [pn, pq]) <;> omega) | fail) only [pn, pq] at c10
      refine sf_X0_bytesAt (J1g_owners hJ) (fun r11  => ?_)
      refine ⟨fun c13 => ?_, fun c13 => ?_⟩
      · try simp (disch := first | ((try simp (disch := first | ((try simp only [pn]) <;> omega) | fail) only [pn, pq]) <;> omega) | fail) only [pn, pq] at c13
        exact hq _ 
      · try simp (disch := first | ((try simp (disch := first | ((try simp only [pn]) <;> omega) | fail) only [pn, pq]) <;> omega) | fail) only [pn, pq] at c13
        refine sf_X0_lengthAt (J1g_owners hJ) (fun r14  => ?_)
        have rgr14 := pt_rg r14
        refine ⟨fun c16 => ?_, fun c16 => ?_⟩
        · try simp (disch := first | ((try simp (disch := first | ((try simp only [pn]) <;> omega) | fail) only [pn, pq]) <;> omega) | fail) only [pn, pq] at c16
          exact hq _ 
        · try simp (disch := first | ((try simp (disch := first | ((try simp only [pn]) <;> omega) | fail) only [pn, pq]) <;> omega) | fail) only [pn, pq] at c16
          exact hq _ 
    · try simp (disch := first | ((try simp (disch := first | ((try simp only [pn]) <;> omega) | fail) only [pn, pq]) <;> omega) | fail) only [pn, pq] at c10
      exact hq _ 
set_option maxRecDepth 20000 in
set_option maxHeartbeats 1000000 in
theorem sf_X1_met {S : bT1} (hJ : J1 S) {a1 : Int64} {a3 : Int32} {a4 : Int64} {a6 : Int32} {Q : Int32 → Prop} (hq : ∀ r : Int32, Q r) : wp_X1_met S a1 a3 a4 a6 Q := by
  unfold wp_X1_met
  have rga3 := pt_rg a3
  have rga6 := pt_rg a6
  refine sf_X0_upTo (J1g_lows hJ) (fun r1 hr1_0 hr1_1 => ?_)
  have rgr1 := pt_rg r1
  try simp (disch := first | ((try simp (disch := first | ((try simp only [pn]) <;> omega) | fail) only [pn, pq]) <;> omega) | fail) only [pn, pq] at hr1_0
  try simp (disch := first | ((try simp (disch := first | ((try simp only [pn]) <;> omega) | fail) only [pn, pq]) <;> omega) | fail) only [pn, pq] at hr1_1
  refine sf_X0_ahead (J1g_highs hJ) (fun r3 hr3_0 hr3_1 => ?_)
  have rgr3 := pt_rg r3
  try simp (disch := first | ((try simp (disch := first | ((try simp only [pn]) <;> omega) | fail) only [pn, pq]) <;> omega) | fail) only [pn, pq] at hr3_0
  try simp (disch := first | ((try simp (disch := first | ((try simp only [pn]) <;> omega) | fail) only [pn, pq]) <;> omega) | fail) only [pn, pq] at hr3_1
  exact hq _ 
set_option maxRecDepth 20000 in
set_option maxHeartbeats 1000000 in
theorem sf_X1_held {S : bT1} (hJ : J1 S) {a1 : Int64} {a3 : Int32} {a4 : Int64} {a6 : Int32} {Q : Int32 → Prop} (hq : ∀ r : Int32, Q r) : wp_X1_held S a1 a3 a4 a6 Q := by
  unfold wp_X1_held
  have rga3 := pt_rg a3
  have rga6 := pt_rg a6
  refine sf_X0_upTo (J1g_highs hJ) (fun r1 hr1_0 hr1_1 => ?_)
  have rgr1 := pt_rg r1
  try simp (disch := first | ((try simp (disch := first | ((try simp only [pn]) <;> omega) | fail) only [pn, pq]) <;> omega) | fail) only [pn, pq] at hr1_0
  try simp (disch := first | ((try simp (disch := first | ((try simp only [pn]) <;> omega) | fail) only [pn, pq]) <;> omega) | fail) only [pn, pq] at hr1_1
  refine sf_X0_ahead (J1g_lows hJ) (fun r3 hr3_0 hr3_1 => ?_)
  have rgr3 := pt_rg r3
  try simp (disch := first | ((try simp (disch := first | ((try simp only [pn]) <;> omega) | fail) only [pn, pq]) <;> omega) | fail) only [pn, pq] at hr3_0
  try simp (disch := first | ((try simp (disch := first | ((try simp only [pn]) <;> omega) | fail) only [pn, pq]) <;> omega) | fail) only [pn, pq] at hr3_1
  exact hq _ 
set_option maxRecDepth 20000 in
set_option maxHeartbeats 1000000 in
theorem sf_X8_countAhead {a0 : Int64} {a2 : Int32} {a3 : Int32} {Q : Int64 → Prop} (hq : ∀ r : Int64, Q r) : wp_X8_countAhead a0 a2 a3 Q := by
  unfold wp_X8_countAhead
  have rga2 := pt_rg a2
  have rga3 := pt_rg a3
  refine ⟨fun c1 => ?_, fun c1 => ?_⟩
  · try simp (disch := first | ((try simp (disch := first | ((try simp only [pn]) <;> omega) | fail) only [pn, pq]) <;> omega) | fail) only [pn, pq] at c1
    exact hq _ 
  · try simp (disch := first | ((try simp (disch := first | ((try simp only [pn]) <;> omega) | fail) only [pn, pq]) <;> omega) | fail) only [pn, pq] at c1
    exact hq _ 
set_option maxRecDepth 20000 in
set_option maxHeartbeats 1000000 in
theorem sf_X8_countUpTo {a0 : Int64} {a2 : Int32} {a3 : Int32} {Q : Int64 → Prop} (hq : ∀ r : Int64, Q r) : wp_X8_countUpTo a0 a2 a3 Q := by
  unfold wp_X8_countUpTo
  have rga2 := pt_rg a2
  have rga3 := pt_rg a3
  refine ⟨fun c1 => ?_, fun c1 => ?_⟩
  · try simp (disch := first | ((try simp (disch := first | ((try simp only [pn]) <;> omega) | fail) only [pn, pq]) <;> omega) | fail) only [pn, pq] at c1
    exact hq _ 
  · try simp (disch := first | ((try simp (disch := first | ((try simp only [pn]) <;> omega) | fail) only [pn, pq]) <;> omega) | fail) only [pn, pq] at c1
    exact hq _ 
set_option maxRecDepth 20000 in
set_option maxHeartbeats 1000000 in
theorem sf_X1_covered {S : bT1} (hJ : J1 S) {a1 : Int32} {Q : Int64 → Prop} (hq : ∀ r : Int64, Q r) : wp_X1_covered S a1 Q := by
  unfold wp_X1_covered
  have jf1 := J0g_count (J1g_owners hJ)
  have rga1 := pt_rg a1
  refine ⟨fun n x1q1 x2q1 x4q1 => (x1q1 = a1) ∧ (0 ≤ (x4q1).toInt) ∧ n = (((b0g_count (b1g_owners S))).toInt + 1 - (x4q1).toInt).toNat, ⟨_, rfl, (by (try simp (disch := first | ((try simp (disch := first | ((try simp only [pn]) <;> omega) | fail) only [pn, pq]) <;> omega) | fail) only [pn, pq]) <;> (intros; (try simp (disch := first | ((try simp (disch := first | ((try simp only [pn]) <;> omega) | fail) only [pn, pq]) <;> omega) | fail) only [pn, pq]) <;> omega)), rfl⟩, ?_⟩
  rintro n2 x1q1 x2q1 x4q1 ⟨hkq1_0, hiq1_0, hn2⟩
  subst hkq1_0
  have rgx1q1 := pt_rg x1q1
  have rgx4q1 := pt_rg x4q1
  unfold wp_X1_covered_5b
  refine ⟨fun c3 => ?_, fun c3 => ?_⟩
  · try simp (disch := first | ((try simp (disch := first | ((try simp only [pn]) <;> omega) | fail) only [pn, pq]) <;> omega) | fail) only [pn, pq] at c3
    exact hq _ 
  · try simp (disch := first | ((try simp (disch := first | ((try simp only [pn]) <;> omega) | fail) only [pn, pq]) <;> omega) | fail) only [pn, pq] at c3
    refine sf_X0_bytesAt (J1g_highs hJ) (fun r4  => ?_)
    refine sf_X0_lengthAt (J1g_highs hJ) (fun r6  => ?_)
    have rgr6 := pt_rg r6
    refine sf_X8_countUpTo  (fun r8  => ?_)
    refine sf_X0_bytesAt (J1g_lows hJ) (fun r10  => ?_)
    refine sf_X0_lengthAt (J1g_lows hJ) (fun r12  => ?_)
    have rgr12 := pt_rg r12
    refine sf_X8_countAhead  (fun r14  => ?_)
    refine ⟨_, ?_, ?_, ?_, rfl⟩
    · (try simp (disch := first | ((try simp (disch := first | ((try simp only [pn]) <;> omega) | fail) only [pn, pq]) <;> omega) | fail) only [pn, pq]) <;> (intros; (try simp (disch := first | ((try simp (disch := first | ((try simp only [pn]) <;> omega) | fail) only [pn, pq]) <;> omega) | fail) only [pn, pq]) <;> omega)
    · first | rfl | assumption
    · (try simp (disch := first | ((try simp (disch := first | ((try simp only [pn]) <;> omega) | fail) only [pn, pq]) <;> omega) | fail) only [pn, pq]) <;> (intros; (try simp (disch := first | ((try simp (disch := first | ((try simp only [pn]) <;> omega) | fail) only [pn, pq]) <;> omega) | fail) only [pn, pq]) <;> omega)
set_option maxRecDepth 20000 in
set_option maxHeartbeats 1000000 in
theorem sf_X1_beginningOf {S : bT1} (hJ : J1 S) {a1 : Int64} {a3 : Int32} {Q : Int32 → Prop} (hq : ∀ r : Int32, Q r) : wp_X1_beginningOf S a1 a3 Q := by
  unfold wp_X1_beginningOf
  have jf1 := J0g_count (J1g_owners hJ)
  have rga3 := pt_rg a3
  refine ⟨fun n x1q1 x3q1 x4q1 => (x1q1 = a1) ∧ (x3q1 = a3) ∧ (0 ≤ (x4q1).toInt) ∧ n = (((b0g_count (b1g_owners S))).toInt + 1 - (x4q1).toInt).toNat, ⟨_, rfl, rfl, (by (try simp (disch := first | ((try simp (disch := first | ((try simp only [pn]) <;> omega) | fail) only [pn, pq]) <;> omega) | fail) only [pn, pq]) <;> (intros; (try simp (disch := first | ((try simp (disch := first | ((try simp only [pn]) <;> omega) | fail) only [pn, pq]) <;> omega) | fail) only [pn, pq]) <;> omega)), rfl⟩, ?_⟩
  rintro n2 x1q1 x3q1 x4q1 ⟨hkq1_0, hkq1_1, hiq1_0, hn2⟩
  subst hkq1_0
  subst hkq1_1
  have rgx3q1 := pt_rg x3q1
  have rgx4q1 := pt_rg x4q1
  unfold wp_X1_beginningOf_3b
  refine ⟨fun c3 => ?_, fun c3 => ?_⟩
  · try simp (disch := first | ((try simp (disch := first | ((try simp only [pn]) <;> omega) | fail) only [pn, pq]) <;> omega) | fail) only [pn, pq] at c3
    exact hq _ 
  · try simp (disch := first | ((try simp (disch := first | ((try simp only [pn]) <;> omega) | fail) only [pn, pq]) <;> omega) | fail) only [pn, pq] at c3
    refine sf_X1_lengthAt hJ (fun r4 hr4_0 => ?_)
    have rgr4 := pt_rg r4
    try simp (disch := first | ((try simp (disch := first | ((try simp only [pn]) <;> omega) | fail) only [pn, pq]) <;> omega) | fail) only [pn, pq] at hr4_0
    refine ⟨fun c6 => ?_, fun c6 => ?_⟩
    · try simp (disch := first | ((try simp (disch := first | ((try simp only [pn]) <;> omega) | fail) only [pn, pq]) <;> omega) | fail) only [pn, pq] at c6
      unfold wp_X1_beginningOf_55
      unfold wp_X1_beginningOf_56
      refine ⟨fun c7 => ?_, fun c7 => ?_⟩
      · skip
        unfold wp_X1_beginningOf_75
        refine ⟨_, ?_, ?_, ?_, ?_, rfl⟩
        · (try simp (disch := first | ((try simp (disch := first | ((try simp only [pn]) <;> omega) | fail) only [pn, pq]) <;> omega) | fail) only [pn, pq]) <;> (intros; (try simp (disch := first | ((try simp (disch := first | ((try simp only [pn]) <;> omega) | fail) only [pn, pq]) <;> omega) | fail) only [pn, pq]) <;> omega)
        · first | rfl | assumption
        · first | rfl | assumption
        · (try simp (disch := first | ((try simp (disch := first | ((try simp only [pn]) <;> omega) | fail) only [pn, pq]) <;> omega) | fail) only [pn, pq]) <;> (intros; (try simp (disch := first | ((try simp (disch := first | ((try simp only [pn]) <;> omega) | fail) only [pn, pq]) <;> omega) | fail) only [pn, pq]) <;> omega)
      · exact absurd c7 (by decide)
    · try simp (disch := first | ((try simp (disch := first | ((try simp only [pn]) <;> omega) | fail) only [pn, pq]) <;> omega) | fail) only [pn, pq] at c6
      refine sf_X0_bytesAt (J1g_owners hJ) (fun r8  => ?_)
      refine sf_X1_lengthAt hJ (fun r10 hr10_0 => ?_)
      have rgr10 := pt_rg r10
      try simp (disch := first | ((try simp (disch := first | ((try simp only [pn]) <;> omega) | fail) only [pn, pq]) <;> omega) | fail) only [pn, pq] at hr10_0
      refine sf_X8_front  (fun r12 hr12_0 => ?_)
      refine ⟨fun c14 => ?_, fun c14 => ?_⟩
      · try simp (disch := first | ((try simp (disch := first | ((try simp only [pn]) <;> omega) | fail) only [pn, pq]) <;> omega) | fail) only [pn, pq] at c14
        unfold wp_X1_beginningOf_55
        unfold wp_X1_beginningOf_56
        refine ⟨fun c15 => ?_, fun c15 => ?_⟩
        · skip
          unfold wp_X1_beginningOf_75
          refine ⟨_, ?_, ?_, ?_, ?_, rfl⟩
          · (try simp (disch := first | ((try simp (disch := first | ((try simp only [pn]) <;> omega) | fail) only [pn, pq]) <;> omega) | fail) only [pn, pq]) <;> (intros; (try simp (disch := first | ((try simp (disch := first | ((try simp only [pn]) <;> omega) | fail) only [pn, pq]) <;> omega) | fail) only [pn, pq]) <;> omega)
          · first | rfl | assumption
          · first | rfl | assumption
          · (try simp (disch := first | ((try simp (disch := first | ((try simp only [pn]) <;> omega) | fail) only [pn, pq]) <;> omega) | fail) only [pn, pq]) <;> (intros; (try simp (disch := first | ((try simp (disch := first | ((try simp only [pn]) <;> omega) | fail) only [pn, pq]) <;> omega) | fail) only [pn, pq]) <;> omega)
        · exact absurd c15 (by decide)
      · try simp (disch := first | ((try simp (disch := first | ((try simp only [pn]) <;> omega) | fail) only [pn, pq]) <;> omega) | fail) only [pn, pq] at c14
        unfold wp_X1_beginningOf_56
        refine ⟨fun c16 => ?_, fun c16 => ?_⟩
        · exact absurd c16 (by decide)
        · skip
          refine sf_X1_isEnded hJ (fun r17 hzr17  => ?_)
          refine ⟨fun c19 => ?_, fun c19 => ?_⟩
          · try simp (disch := first | ((try simp (disch := first | ((try simp only [pn]) <;> omega) | fail) only [pn, pq]) <;> omega) | fail) only [pn, pq] at c19
            unfold wp_X1_beginningOf_75
            refine ⟨_, ?_, ?_, ?_, ?_, rfl⟩
            · (try simp (disch := first | ((try simp (disch := first | ((try simp only [pn]) <;> omega) | fail) only [pn, pq]) <;> omega) | fail) only [pn, pq]) <;> (intros; (try simp (disch := first | ((try simp (disch := first | ((try simp only [pn]) <;> omega) | fail) only [pn, pq]) <;> omega) | fail) only [pn, pq]) <;> omega)
            · first | rfl | assumption
            · first | rfl | assumption
            · (try simp (disch := first | ((try simp (disch := first | ((try simp only [pn]) <;> omega) | fail) only [pn, pq]) <;> omega) | fail) only [pn, pq]) <;> (intros; (try simp (disch := first | ((try simp (disch := first | ((try simp only [pn]) <;> omega) | fail) only [pn, pq]) <;> omega) | fail) only [pn, pq]) <;> omega)
          · try simp (disch := first | ((try simp (disch := first | ((try simp only [pn]) <;> omega) | fail) only [pn, pq]) <;> omega) | fail) only [pn, pq] at c19
            exact hq _ 
set_option maxRecDepth 20000 in
set_option maxHeartbeats 1000000 in
theorem sf_X1_ofLevel {S : bT1} (hJ : J1 S) {a1 : Int32} {Q : Int32 → Prop} (hq : ∀ r : Int32, Q r) : wp_X1_ofLevel S a1 Q := by
  unfold wp_X1_ofLevel
  have jf1 := J0g_count (J1g_owners hJ)
  have rga1 := pt_rg a1
  refine ⟨fun n x1q1 x2q1 x3q1 => (x1q1 = a1) ∧ (0 ≤ (x3q1).toInt) ∧ n = (((b0g_count (b1g_owners S))).toInt + 1 - (x3q1).toInt).toNat, ⟨_, rfl, (by (try simp (disch := first | ((try simp (disch := first | ((try simp only [pn]) <;> omega) | fail) only [pn, pq]) <;> omega) | fail) only [pn, pq]) <;> (intros; (try simp (disch := first | ((try simp (disch := first | ((try simp only [pn]) <;> omega) | fail) only [pn, pq]) <;> omega) | fail) only [pn, pq]) <;> omega)), rfl⟩, ?_⟩
  rintro n2 x1q1 x2q1 x3q1 ⟨hkq1_0, hiq1_0, hn2⟩
  subst hkq1_0
  have rgx1q1 := pt_rg x1q1
  have rgx2q1 := pt_rg x2q1
  have rgx3q1 := pt_rg x3q1
  unfold wp_X1_ofLevel_4b
  refine ⟨fun c3 => ?_, fun c3 => ?_⟩
  · try simp (disch := first | ((try simp (disch := first | ((try simp only [pn]) <;> omega) | fail) only [pn, pq]) <;> omega) | fail) only [pn, pq] at c3
    exact hq _ 
  · try simp (disch := first | ((try simp (disch := first | ((try simp only [pn]) <;> omega) | fail) only [pn, pq]) <;> omega) | fail) only [pn, pq] at c3
    refine sf_X1_lengthAt hJ (fun r4 hr4_0 => ?_)
    have rgr4 := pt_rg r4
    try simp (disch := first | ((try simp (disch := first | ((try simp only [pn]) <;> omega) | fail) only [pn, pq]) <;> omega) | fail) only [pn, pq] at hr4_0
    refine ⟨fun c6 => ?_, fun c6 => ?_⟩
    · try simp (disch := first | ((try simp (disch := first | ((try simp only [pn]) <;> omega) | fail) only [pn, pq]) <;> omega) | fail) only [pn, pq] at c6
      unfold wp_X1_ofLevel_43
      unfold wp_X1_ofLevel_46
      refine ⟨_, ?_, ?_, ?_, rfl⟩
      · (try simp (disch := first | ((try simp (disch := first | ((try simp only [pn]) <;> omega) | fail) only [pn, pq]) <;> omega) | fail) only [pn, pq]) <;> (intros; (try simp (disch := first | ((try simp (disch := first | ((try simp only [pn]) <;> omega) | fail) only [pn, pq]) <;> omega) | fail) only [pn, pq]) <;> omega)
      · first | rfl | assumption
      · (try simp (disch := first | ((try simp (disch := first | ((try simp only [pn]) <;> omega) | fail) only [pn, pq]) <;> omega) | fail) only [pn, pq]) <;> (intros; (try simp (disch := first | ((try simp (disch := first | ((try simp only [pn]) <;> omega) | fail) only [pn, pq]) <;> omega) | fail) only [pn, pq]) <;> omega)
    · try simp (disch := first | ((try simp (disch := first | ((try simp only [pn]) <;> omega) | fail) only [pn, pq]) <;> omega) | fail) only [pn, pq] at c6
      refine sf_X1_isEnded hJ (fun r7 hzr7  => ?_)
      refine ⟨fun c9 => ?_, fun c9 => ?_⟩
      · try simp (disch := first | ((try simp (disch := first | ((try simp only [pn]) <;> omega) | fail) only [pn, pq]) <;> omega) | fail) only [pn, pq] at c9
        unfold wp_X1_ofLevel_46
        refine ⟨_, ?_, ?_, ?_, rfl⟩
        · (try simp (disch := first | ((try simp (disch := first | ((try simp only [pn]) <;> omega) | fail) only [pn, pq]) <;> omega) | fail) only [pn, pq]) <;> (intros; (try simp (disch := first | ((try simp (disch := first | ((try simp only [pn]) <;> omega) | fail) only [pn, pq]) <;> omega) | fail) only [pn, pq]) <;> omega)
        · first | rfl | assumption
        · (try simp (disch := first | ((try simp (disch := first | ((try simp only [pn]) <;> omega) | fail) only [pn, pq]) <;> omega) | fail) only [pn, pq]) <;> (intros; (try simp (disch := first | ((try simp (disch := first | ((try simp only [pn]) <;> omega) | fail) only [pn, pq]) <;> omega) | fail) only [pn, pq]) <;> omega)
      · try simp (disch := first | ((try simp (disch := first | ((try simp only [pn]) <;> omega) | fail) only [pn, pq]) <;> omega) | fail) only [pn, pq] at c9
        refine sf_X1_lengthAt hJ (fun r10 hr10_0 => ?_)
        have rgr10 := pt_rg r10
        try simp (disch := first | ((try simp (disch := first | ((try simp only [pn]) <;> omega) | fail) only [pn, pq]) <;> omega) | fail) only [pn, pq] at hr10_0
        refine ⟨fun c12 => ?_, fun c12 => ?_⟩
        · try simp (disch := first | ((try simp (disch := first | ((try simp only [pn]) <;> omega) | fail) only [pn, pq]) <;> omega) | fail) only [pn, pq] at c12
          unfold wp_X1_ofLevel_46
          refine ⟨_, ?_, ?_, ?_, rfl⟩
          · (try simp (disch := first | ((try simp (disch := first | ((try simp only [pn]) <;> omega) | fail) only [pn, pq]) <;> omega) | fail) only [pn, pq]) <;> (intros; (try simp (disch := first | ((try simp (disch := first | ((try simp only [pn]) <;> omega) | fail) only [pn, pq]) <;> omega) | fail) only [pn, pq]) <;> omega)
          · first | rfl | assumption
          · (try simp (disch := first | ((try simp (disch := first | ((try simp only [pn]) <;> omega) | fail) only [pn, pq]) <;> omega) | fail) only [pn, pq]) <;> (intros; (try simp (disch := first | ((try simp (disch := first | ((try simp only [pn]) <;> omega) | fail) only [pn, pq]) <;> omega) | fail) only [pn, pq]) <;> omega)
        · try simp (disch := first | ((try simp (disch := first | ((try simp only [pn]) <;> omega) | fail) only [pn, pq]) <;> omega) | fail) only [pn, pq] at c12
          unfold wp_X1_ofLevel_43
          unfold wp_X1_ofLevel_46
          refine ⟨_, ?_, ?_, ?_, rfl⟩
          · (try simp (disch := first | ((try simp (disch := first | ((try simp only [pn]) <;> omega) | fail) only [pn, pq]) <;> omega) | fail) only [pn, pq]) <;> (intros; (try simp (disch := first | ((try simp (disch := first | ((try simp only [pn]) <;> omega) | fail) only [pn, pq]) <;> omega) | fail) only [pn, pq]) <;> omega)
          · first | rfl | assumption
          · (try simp (disch := first | ((try simp (disch := first | ((try simp only [pn]) <;> omega) | fail) only [pn, pq]) <;> omega) | fail) only [pn, pq]) <;> (intros; (try simp (disch := first | ((try simp (disch := first | ((try simp only [pn]) <;> omega) | fail) only [pn, pq]) <;> omega) | fail) only [pn, pq]) <;> omega)
set_option maxRecDepth 20000 in
set_option maxHeartbeats 1000000 in
theorem sf_X1_allEnded {S : bT1} (hJ : J1 S) {Q : Int32 → Prop} (hq : ∀ r : Int32, Q r) : wp_X1_allEnded S Q := by
  unfold wp_X1_allEnded
  have jf1 := J0g_count (J1g_owners hJ)
  refine ⟨fun n x1q1 x2q1 => (0 ≤ (x2q1).toInt) ∧ n = (((b0g_count (b1g_owners S))).toInt + 1 - (x2q1).toInt).toNat, ⟨_, (by (try simp (disch := first | ((try simp (disch := first | ((try simp only [pn]) <;> omega) | fail) only [pn, pq]) <;> omega) | fail) only [pn, pq]) <;> (intros; (try simp (disch := first | ((try simp (disch := first | ((try simp only [pn]) <;> omega) | fail) only [pn, pq]) <;> omega) | fail) only [pn, pq]) <;> omega)), rfl⟩, ?_⟩
  rintro n2 x1q1 x2q1 ⟨hiq1_0, hn2⟩
  have rgx1q1 := pt_rg x1q1
  have rgx2q1 := pt_rg x2q1
  unfold wp_X1_allEnded_4b
  refine ⟨fun c3 => ?_, fun c3 => ?_⟩
  · try simp (disch := first | ((try simp (disch := first | ((try simp only [pn]) <;> omega) | fail) only [pn, pq]) <;> omega) | fail) only [pn, pq] at c3
    exact hq _ 
  · try simp (disch := first | ((try simp (disch := first | ((try simp only [pn]) <;> omega) | fail) only [pn, pq]) <;> omega) | fail) only [pn, pq] at c3
    refine sf_X1_isEnded hJ (fun r4 hzr4  => ?_)
    refine ⟨fun c6 => ?_, fun c6 => ?_⟩
    · try simp (disch := first | ((try simp (disch := first | ((try simp only [pn]) <;> omega) | fail) only [pn, pq]) <;> omega) | fail) only [pn, pq] at c6
      unfold wp_X1_allEnded_29
      refine ⟨_, ?_, ?_, rfl⟩
      · (try simp (disch := first | ((try simp (disch := first | ((try simp only [pn]) <;> omega) | fail) only [pn, pq]) <;> omega) | fail) only [pn, pq]) <;> (intros; (try simp (disch := first | ((try simp (disch := first | ((try simp only [pn]) <;> omega) | fail) only [pn, pq]) <;> omega) | fail) only [pn, pq]) <;> omega)
      · (try simp (disch := first | ((try simp (disch := first | ((try simp only [pn]) <;> omega) | fail) only [pn, pq]) <;> omega) | fail) only [pn, pq]) <;> (intros; (try simp (disch := first | ((try simp (disch := first | ((try simp only [pn]) <;> omega) | fail) only [pn, pq]) <;> omega) | fail) only [pn, pq]) <;> omega)
    · try simp (disch := first | ((try simp (disch := first | ((try simp only [pn]) <;> omega) | fail) only [pn, pq]) <;> omega) | fail) only [pn, pq] at c6
      unfold wp_X1_allEnded_29
      refine ⟨_, ?_, ?_, rfl⟩
      · (try simp (disch := first | ((try simp (disch := first | ((try simp only [pn]) <;> omega) | fail) only [pn, pq]) <;> omega) | fail) only [pn, pq]) <;> (intros; (try simp (disch := first | ((try simp (disch := first | ((try simp only [pn]) <;> omega) | fail) only [pn, pq]) <;> omega) | fail) only [pn, pq]) <;> omega)
      · (try simp (disch := first | ((try simp (disch := first | ((try simp only [pn]) <;> omega) | fail) only [pn, pq]) <;> omega) | fail) only [pn, pq]) <;> (intros; (try simp (disch := first | ((try simp (disch := first | ((try simp only [pn]) <;> omega) | fail) only [pn, pq]) <;> omega) | fail) only [pn, pq]) <;> omega)
set_option maxRecDepth 20000 in
set_option maxHeartbeats 1000000 in
theorem sf_X1_allBytes {S : bT1} (hJ : J1 S) {Q : Int32 → Prop} (hq : ∀ r : Int32, Q r) : wp_X1_allBytes S Q := by
  unfold wp_X1_allBytes
  have jf1 := J0g_count (J1g_owners hJ)
  refine ⟨fun n x1q1 x2q1 => (0 ≤ (x2q1).toInt) ∧ n = (((b0g_count (b1g_owners S))).toInt + 1 - (x2q1).toInt).toNat, ⟨_, (by (try simp (disch := first | ((try simp (disch := first | ((try simp only [pn]) <;> omega) | fail) only [pn, pq]) <;> omega) | fail) only [pn, pq]) <;> (intros; (try simp (disch := first | ((try simp (disch := first | ((try simp only [pn]) <;> omega) | fail) only [pn, pq]) <;> omega) | fail) only [pn, pq]) <;> omega)), rfl⟩, ?_⟩
  rintro n2 x1q1 x2q1 ⟨hiq1_0, hn2⟩
  have rgx1q1 := pt_rg x1q1
  have rgx2q1 := pt_rg x2q1
  unfold wp_X1_allBytes_4b
  refine ⟨fun c3 => ?_, fun c3 => ?_⟩
  · try simp (disch := first | ((try simp (disch := first | ((try simp only [pn]) <;> omega) | fail) only [pn, pq]) <;> omega) | fail) only [pn, pq] at c3
    exact hq _ 
  · try simp (disch := first | ((try simp (disch := first | ((try simp only [pn]) <;> omega) | fail) only [pn, pq]) <;> omega) | fail) only [pn, pq] at c3
    refine sf_X1_lengthAt hJ (fun r4 hr4_0 => ?_)
    have rgr4 := pt_rg r4
    try simp (disch := first | ((try simp (disch := first | ((try simp only [pn]) <;> omega) | fail) only [pn, pq]) <;> omega) | fail) only [pn, pq] at hr4_0
    refine ⟨_, ?_, ?_, rfl⟩
    · (try simp (disch := first | ((try simp (disch := first | ((try simp only [pn]) <;> omega) | fail) only [pn, pq]) <;> omega) | fail) only [pn, pq]) <;> (intros; (try simp (disch := first | ((try simp (disch := first | ((try simp only [pn]) <;> omega) | fail) only [pn, pq]) <;> omega) | fail) only [pn, pq]) <;> omega)
    · (try simp (disch := first | ((try simp (disch := first | ((try simp only [pn]) <;> omega) | fail) only [pn, pq]) <;> omega) | fail) only [pn, pq]) <;> (intros; (try simp (disch := first | ((try simp (disch := first | ((try simp only [pn]) <;> omega) | fail) only [pn, pq]) <;> omega) | fail) only [pn, pq]) <;> omega)
set_option maxRecDepth 20000 in
set_option maxHeartbeats 1000000 in
theorem sf_X1_tailBits {S : bT1} (hJ : J1 S) {Q : Int32 → Prop} (hq : ∀ r : Int32, Q r) : wp_X1_tailBits S Q := by
  unfold wp_X1_tailBits
  have jf1 := J0g_count (J1g_owners hJ)
  exact hq _ 
def F_X3_copyFrom (S u : bT3 × bT3) : Prop := u.2 = S.2
set_option maxRecDepth 20000 in
set_option maxHeartbeats 1000000 in
theorem sf_X3_copyFrom {S : bT3 × bT3} (hJ : J3 S.1 ∧ J3 S.2) {Q : (bT3 × bT3) → Prop} (hq : ∀ u : bT3 × bT3, (J3 u.1 ∧ J3 u.2) → F_X3_copyFrom S u → Q u) : wp_X3_copyFrom S Q := by
  unfold wp_X3_copyFrom
  have hFS : F_X3_copyFrom S S := rfl
  refine sf_X0_copyFrom (S := ((b3g_members S.1), (b3g_members S.2))) ⟨(J3g_members hJ.1), (J3g_members hJ.2)⟩ (fun u2 hJu2 hfu2 hr1_0 => ?_)
  try simp (disch := first | ((try simp (disch := first | ((try simp only [pn]) <;> omega) | fail) only [pn, pq]) <;> omega) | fail) only [pn, pq] at hr1_0
  intro S3 eS3
  have hGS3 : F_X3_copyFrom S S3 := by
    rw [eS3]
    rw [hfu2]
    exact hFS
  have hJS3 : J3 S3.1 ∧ J3 S3.2 := by rw [eS3]; exact ⟨(J3s_members hJ.1 hJu2.1), (J3s_members hJ.2 hJu2.2)⟩
  have hFS3 : F_X3_copyFrom S S3 := hGS3
  have je2 : ((b3g_mode S3.2)).toInt = ((b3g_mode S.2)).toInt := congrArg (fun z => ((b3g_mode z)).toInt) hFS3
  intro S4 eS4
  have hJS4 : J3 S4.1 ∧ J3 S4.2 := by rw [eS4]; exact ⟨(J3s_values hJS3.1), hJS3.2⟩
  have hFS4 : F_X3_copyFrom S S4 := by rw [eS4]; exact hFS3
  have je4 : ((b3g_mode S4.2)).toInt = ((b3g_mode S.2)).toInt := congrArg (fun z => ((b3g_mode z)).toInt) hFS4
  intro S5 eS5
  have hJS5 : J3 S5.1 ∧ J3 S5.2 := by rw [eS5]; exact ⟨(J3s_mode hJS4.1), hJS4.2⟩
  have hFS5 : F_X3_copyFrom S S5 := by rw [eS5]; exact hFS4
  have je6 : ((b3g_mode S5.2)).toInt = ((b3g_mode S.2)).toInt := congrArg (fun z => ((b3g_mode z)).toInt) hFS5
  exact hq _ hJS5 hFS5 
def F_X2_copyFrom (S u : bT2 × bT2) : Prop := u.2 = S.2
set_option maxRecDepth 20000 in
set_option maxHeartbeats 1000000 in
theorem sf_X2_copyFrom {S : bT2 × bT2} (hJ : J2 S.1 ∧ J2 S.2) {Q : (bT2 × bT2) → Prop} (hq : ∀ u : bT2 × bT2, (J2 u.1 ∧ J2 u.2) → F_X2_copyFrom S u → ((b0g_count (b2g_questions u.1)).toInt = (b0g_count (b2g_questions S.2)).toInt) → ((b2g_draws u.1).toInt = (b2g_draws S.2).toInt) → Q u) : wp_X2_copyFrom S Q := by
  unfold wp_X2_copyFrom
  have hFS : F_X2_copyFrom S S := rfl
  have jf1 := J0g_count (J2g_questions hJ.1)
  have jf2 := J0g_count (J2g_questions hJ.2)
  refine sf_X3_copyFrom (S := ((b2g_told S.1), (b2g_told S.2))) ⟨(J2g_told hJ.1), (J2g_told hJ.2)⟩ (fun u2 hJu2 hfu2  => ?_)
  intro S3 eS3
  have hGS3 : F_X2_copyFrom S S3 := by
    rw [eS3]
    rw [hfu2]
    exact hFS
  have hJS3 : J2 S3.1 ∧ J2 S3.2 := by rw [eS3]; exact ⟨(J2s_told hJ.1 hJu2.1), (J2s_told hJ.2 hJu2.2)⟩
  have hFS3 : F_X2_copyFrom S S3 := hGS3
  have je4 : ((b2g_draws S3.2)).toInt = ((b2g_draws S.2)).toInt := congrArg (fun z => ((b2g_draws z)).toInt) hFS3
  have je5 : ((b0g_count (b2g_questions S3.1))).toInt = ((b0g_count (b2g_questions S.1))).toInt := by rw [eS3]
  have jf6 := J0g_count (J2g_questions hJS3.1)
  have je8 : ((b0g_count (b2g_questions S3.2))).toInt = ((b0g_count (b2g_questions S.2))).toInt := congrArg (fun z => ((b0g_count (b2g_questions z))).toInt) hFS3
  have je9 : ((b2g_draws S3.1)).toInt = ((b2g_draws S.1)).toInt := by rw [eS3]
  refine sf_X3_copyFrom (S := ((b2g_built S3.1), (b2g_built S3.2))) ⟨(J2g_built hJS3.1), (J2g_built hJS3.2)⟩ (fun u5 hJu5 hfu5  => ?_)
  intro S6 eS6
  have hGS6 : F_X2_copyFrom S S6 := by
    rw [eS6]
    rw [hfu5]
    exact hFS3
  have hJS6 : J2 S6.1 ∧ J2 S6.2 := by rw [eS6]; exact ⟨(J2s_built hJS3.1 hJu5.1), (J2s_built hJS3.2 hJu5.2)⟩
  have hFS6 : F_X2_copyFrom S S6 := hGS6
  have je11 : ((b2g_draws S6.2)).toInt = ((b2g_draws S.2)).toInt := congrArg (fun z => ((b2g_draws z)).toInt) hFS6
  have je12 : ((b0g_count (b2g_questions S6.1))).toInt = ((b0g_count (b2g_questions S3.1))).toInt := by rw [eS6]
  have jf13 := J0g_count (J2g_questions hJS6.1)
  have je15 : ((b0g_count (b2g_questions S6.2))).toInt = ((b0g_count (b2g_questions S.2))).toInt := congrArg (fun z => ((b0g_count (b2g_questions z))).toInt) hFS6
  have je16 : ((b2g_draws S6.1)).toInt = ((b2g_draws S3.1)).toInt := by rw [eS6]
  refine sf_X0_copyFrom (S := ((b2g_questions S6.1), (b2g_questions S6.2))) ⟨(J2g_questions hJS6.1), (J2g_questions hJS6.2)⟩ (fun u8 hJu8 hfu8 hr7_0 => ?_)
  have je18 : ((b0g_count u8.2)).toInt = ((b0g_count (b2g_questions S6.2))).toInt := congrArg (fun z => ((b0g_count z)).toInt) hfu8
  try simp (disch := first | ((try simp (disch := first | ((try simp only [pn]) <;> omega) | fail) only [pn, pq]) <;> omega) | fail) only [pn, pq] at hr7_0
  intro S9 eS9
  have hGS9 : F_X2_copyFrom S S9 := by
    rw [eS9]
    rw [hfu8]
    exact hFS6
  have hJS9 : J2 S9.1 ∧ J2 S9.2 := by rw [eS9]; exact ⟨(J2s_questions hJS6.1 hJu8.1), (J2s_questions hJS6.2 hJu8.2)⟩
  have hFS9 : F_X2_copyFrom S S9 := hGS9
  have je20 : ((b2g_draws S9.2)).toInt = ((b2g_draws S.2)).toInt := congrArg (fun z => ((b2g_draws z)).toInt) hFS9
  have je21 : ((b0g_count (b2g_questions S9.1))).toInt = ((b0g_count u8.1)).toInt := by rw [eS9]
  try simp (disch := first | ((try simp (disch := first | ((try simp only [pn]) <;> omega) | fail) only [pn, pq]) <;> omega) | fail) only [pn, pq] at je21
  have jf22 := J0g_count (J2g_questions hJS9.1)
  have je24 : ((b0g_count (b2g_questions S9.2))).toInt = ((b0g_count (b2g_questions S.2))).toInt := congrArg (fun z => ((b0g_count (b2g_questions z))).toInt) hFS9
  have je25 : ((b2g_draws S9.1)).toInt = ((b2g_draws S6.1)).toInt := by rw [eS9]
  intro S10 eS10
  have hJS10 : J2 S10.1 ∧ J2 S10.2 := by rw [eS10]; exact ⟨(J2s_answers hJS9.1), hJS9.2⟩
  have hFS10 : F_X2_copyFrom S S10 := by rw [eS10]; exact hFS9
  have je27 : ((b2g_draws S10.2)).toInt = ((b2g_draws S.2)).toInt := congrArg (fun z => ((b2g_draws z)).toInt) hFS10
  have je28 : ((b0g_count (b2g_questions S10.1))).toInt = ((b0g_count (b2g_questions S9.1))).toInt := by rw [eS10]
  have jf29 := J0g_count (J2g_questions hJS10.1)
  have je31 : ((b0g_count (b2g_questions S10.2))).toInt = ((b0g_count (b2g_questions S.2))).toInt := congrArg (fun z => ((b0g_count (b2g_questions z))).toInt) hFS10
  have je32 : ((b2g_draws S10.1)).toInt = ((b2g_draws S9.1)).toInt := by rw [eS10]
  intro S11 eS11
  have hJS11 : J2 S11.1 ∧ J2 S11.2 := by rw [eS11]; exact ⟨(J2s_draws hJS10.1), hJS10.2⟩
  have hFS11 : F_X2_copyFrom S S11 := by rw [eS11]; exact hFS10
  have je34 : ((b2g_draws S11.2)).toInt = ((b2g_draws S.2)).toInt := congrArg (fun z => ((b2g_draws z)).toInt) hFS11
  have je35 : ((b0g_count (b2g_questions S11.1))).toInt = ((b0g_count (b2g_questions S10.1))).toInt := by rw [eS11]
  have jf36 := J0g_count (J2g_questions hJS11.1)
  have je38 : ((b0g_count (b2g_questions S11.2))).toInt = ((b0g_count (b2g_questions S.2))).toInt := congrArg (fun z => ((b0g_count (b2g_questions z))).toInt) hFS11
  have je39 : ((b2g_draws S11.1)).toInt = ((b2g_draws S10.2)).toInt := by rw [eS11]
  try simp (disch := first | ((try simp (disch := first | ((try simp only [pn]) <;> omega) | fail) only [pn, pq]) <;> omega) | fail) only [pn, pq] at je39
  exact hq _ hJS11 hFS11 (by (try simp (disch := first | ((try simp (disch := first | ((try simp only [pn]) <;> omega) | fail) only [pn, pq]) <;> omega) | fail) only [pn, pq]) <;> (intros; (try simp (disch := first | ((try simp (disch := first | ((try simp only [pn]) <;> omega) | fail) only [pn, pq]) <;> omega) | fail) only [pn, pq]) <;> omega)) (by (try simp (disch := first | ((try simp (disch := first | ((try simp only [pn]) <;> omega) | fail) only [pn, pq]) <;> omega) | fail) only [pn, pq]) <;> (intros; (try simp (disch := first | ((try simp (disch := first | ((try simp only [pn]) <;> omega) | fail) only [pn, pq]) <;> omega) | fail) only [pn, pq]) <;> omega))
def F_X2_draw (S u : bT2) : Prop := (b2g_told u) = (b2g_told S) ∧ (b2g_built u) = (b2g_built S) ∧ (b2g_questions u) = (b2g_questions S) ∧ (b2g_answers u) = (b2g_answers S)
set_option maxRecDepth 20000 in
set_option maxHeartbeats 1000000 in
theorem sf_X2_draw {S : bT2} (hJ : J2 S) {a1 : Int32} {Q : Int32 → (bT2) → Prop} (hq : ∀ (r : Int32) (u : bT2), (J2 u) → F_X2_draw S u → (b2g_draws u = lcg (b2g_draws S)) → (r = drw (b2g_draws u) a1) → Q r u) : wp_X2_draw S a1 Q := by
  unfold wp_X2_draw
  have hFS : F_X2_draw S S := ⟨rfl, rfl, rfl, rfl⟩
  have rga1 := pt_rg a1
  intro v1 ev1
  have nv1 := congrArg Int32.toInt ev1
  try simp (disch := first | ((try simp (disch := first | ((try simp only [pn]) <;> omega) | fail) only [pn, pq]) <;> omega) | fail) only [pn, pq] at nv1
  intro S2 eS2
  have hJS2 : J2 S2 := by rw [eS2]; exact (J2s_draws hJ)
  have hFS2 : F_X2_draw S S2 := by rw [eS2]; exact hFS
  have je1 : ((b2g_draws S2)).toInt = (v1).toInt := by rw [eS2]
  have jE1 := Int32.toInt_inj.mp je1
  try simp (disch := first | ((try simp (disch := first | ((try simp only [pn]) <;> omega) | fail) only [pn, pq]) <;> omega) | fail) only [pn, pq] at je1
  refine ⟨fun c3 => ?_, fun c3 => ?_⟩
  · try simp (disch := first | ((try simp (disch := first | ((try simp only [pn]) <;> omega) | fail) only [pn, pq]) <;> omega) | fail) only [pn, pq] at c3
    exact hq _ _ hJS2 hFS2 (by ((try simp only [ev1, jE1]) <;> (unfold lcg; rfl))) (by (first | exact (drw_0 (by omega)).symm | exact (drw_1 (by omega)).symm))
  · try simp (disch := first | ((try simp (disch := first | ((try simp only [pn]) <;> omega) | fail) only [pn, pq]) <;> omega) | fail) only [pn, pq] at c3
    refine ⟨(by (try simp (disch := first | ((try simp (disch := first | ((try simp only [pn]) <;> omega) | fail) only [pn, pq]) <;> omega) | fail) only [pn, pq]) <;> (intros; (try simp (disch := first | ((try simp (disch := first | ((try simp only [pn]) <;> omega) | fail) only [pn, pq]) <;> omega) | fail) only [pn, pq]) <;> omega)), ?_⟩
    exact hq _ _ hJS2 hFS2 (by ((try simp only [ev1, jE1]) <;> (unfold lcg; rfl))) (by (first | exact (drw_0 (by omega)).symm | exact (drw_1 (by omega)).symm))
def F_X2_drawBytes (S u : bT2) : Prop := (b2g_told u) = (b2g_told S) ∧ (b2g_built u) = (b2g_built S) ∧ (b2g_questions u) = (b2g_questions S) ∧ (b2g_answers u) = (b2g_answers S)
set_option maxRecDepth 20000 in
set_option maxHeartbeats 1000000 in
theorem sf_X2_drawBytes {S : bT2} (hJ : J2 S) {a1 : Int32} {Q : Int64 → (bT2) → Prop} (hq : ∀ (r : Int64) (u : bT2), (J2 u) → F_X2_drawBytes S u → (b2g_draws u = lcgN a1.toInt.toNat (b2g_draws S)) → Q r u) : wp_X2_drawBytes S a1 Q := by
  unfold wp_X2_drawBytes
  have hFS : F_X2_drawBytes S S := ⟨rfl, rfl, rfl, rfl⟩
  have rga1 := pt_rg a1
  refine ⟨fun n x1q1 x2q1 x4q1 Sq1 => (J2 Sq1) ∧ (F_X2_drawBytes S Sq1) ∧ (x1q1 = a1) ∧ (0 ≤ (x4q1).toInt) ∧ ((x4q1).toInt = 0 ∨ (x4q1).toInt ≤ (x1q1).toInt) ∧ (b2g_draws Sq1 = lcgN (x4q1).toInt.toNat (b2g_draws S)) ∧ n = ((x1q1).toInt + 1 - (x4q1).toInt).toNat, ⟨_, hJ, hFS, rfl, (by (try simp (disch := first | ((try simp (disch := first | ((try simp only [pn]) <;> omega) | fail) only [pn, pq]) <;> omega) | fail) only [pn, pq]) <;> (intros; (try simp (disch := first | ((try simp (disch := first | ((try simp only [pn]) <;> omega) | fail) only [pn, pq]) <;> omega) | fail) only [pn, pq]) <;> omega)), (by (try simp (disch := first | ((try simp (disch := first | ((try simp only [pn]) <;> omega) | fail) only [pn, pq]) <;> omega) | fail) only [pn, pq]) <;> (intros; (try simp (disch := first | ((try simp (disch := first | ((try simp only [pn]) <;> omega) | fail) only [pn, pq]) <;> omega) | fail) only [pn, pq]) <;> omega)), (by ((try simp only [z0, z0, lcgN0]) <;> (first | (rw [lcgN_s] <;> omega) | exact congrArg (fun k => lcgN k _) (by omega)))), rfl⟩, ?_⟩
  rintro n2 x1q1 x2q1 x4q1 Sq1 ⟨hJSq1, hFSq1, hkq1_0, hiq1_0, hiq1_1, hiq1_2, hn2⟩
  subst hkq1_0
  have rgx1q1 := pt_rg x1q1
  have rgx4q1 := pt_rg x4q1
  unfold wp_X2_drawBytes_5b
  refine ⟨fun c3 => ?_, fun c3 => ?_⟩
  · try simp (disch := first | ((try simp (disch := first | ((try simp only [pn]) <;> omega) | fail) only [pn, pq]) <;> omega) | fail) only [pn, pq] at c3
    exact hq _ _ hJSq1 hFSq1 (by ((try simp only [hiq1_2, z0, lcgN0]) <;> (first | (rw [lcgN_s] <;> omega) | exact congrArg (fun k => lcgN k _) (by omega))))
  · try simp (disch := first | ((try simp (disch := first | ((try simp only [pn]) <;> omega) | fail) only [pn, pq]) <;> omega) | fail) only [pn, pq] at c3
    refine sf_X8_at (by decide) (fun r4 hr4_0 => ?_)
    have rgr4 := pt_rg r4
    try simp (disch := first | ((try simp (disch := first | ((try simp only [pn]) <;> omega) | fail) only [pn, pq]) <;> omega) | fail) only [pn, pq] at hr4_0
    refine sf_X2_draw hJSq1 (fun r6 u7 hJu7 hfu7 hr6_0 hr6_1 => ?_)
    have hFu7 : F_X2_drawBytes S u7 := ⟨(congrArg (fun z => z) hfu7.1).trans hFSq1.1, (congrArg (fun z => z) hfu7.2.1).trans hFSq1.2.1, (congrArg (fun z => z) hfu7.2.2.1).trans hFSq1.2.2.1, (congrArg (fun z => z) hfu7.2.2.2).trans hFSq1.2.2.2⟩
    have rgr6 := pt_rg r6
    refine sf_X8_octetTo  (fun r8  => ?_)
    refine ⟨_, ?_, ?_, ?_, ?_, ?_, ?_, ?_, rfl⟩
    · (try simp (disch := first | ((try simp (disch := first | ((try simp only [pn]) <;> omega) | fail) only [pn, pq]) <;> omega) | fail) only [pn, pq]) <;> (intros; (try simp (disch := first | ((try simp (disch := first | ((try simp only [pn]) <;> omega) | fail) only [pn, pq]) <;> omega) | fail) only [pn, pq]) <;> omega)
    · exact hJu7
    · exact hFu7
    · first | rfl | assumption
    · (try simp (disch := first | ((try simp (disch := first | ((try simp only [pn]) <;> omega) | fail) only [pn, pq]) <;> omega) | fail) only [pn, pq]) <;> (intros; (try simp (disch := first | ((try simp (disch := first | ((try simp only [pn]) <;> omega) | fail) only [pn, pq]) <;> omega) | fail) only [pn, pq]) <;> omega)
    · (try simp (disch := first | ((try simp (disch := first | ((try simp only [pn]) <;> omega) | fail) only [pn, pq]) <;> omega) | fail) only [pn, pq]) <;> (intros; (try simp (disch := first | ((try simp (disch := first | ((try simp only [pn]) <;> omega) | fail) only [pn, pq]) <;> omega) | fail) only [pn, pq]) <;> omega)
    · ((try simp only [hiq1_2, hr6_0, hr6_1, z0, lcgN0]) <;> (first | (rw [lcgN_s] <;> omega) | exact congrArg (fun k => lcgN k _) (by omega)))
def F_X2_note (S u : bT2) : Prop := (b2g_told u) = (b2g_told S) ∧ (b2g_built u) = (b2g_built S) ∧ (b2g_questions u) = (b2g_questions S) ∧ (b2g_draws u) = (b2g_draws S)
set_option maxRecDepth 20000 in
set_option maxHeartbeats 1000000 in
theorem sf_X2_note {S : bT2} (hJ : J2 S) {a1 : Int32} {a2 : Int32} {Q : (bT2) → Prop} (hp0 : 0 ≤ a1.toInt) (hp1 : a1.toInt ≤ 3) (hq : ∀ u : bT2, (J2 u) → F_X2_note S u → Q u) : wp_X2_note S a1 a2 Q := by
  unfold wp_X2_note
  have hFS : F_X2_note S S := ⟨rfl, rfl, rfl, rfl⟩
  have rga1 := pt_rg a1
  have rga2 := pt_rg a2
  refine ⟨fun c1 => ?_, fun c1 => ?_⟩
  · try simp (disch := first | ((try simp (disch := first | ((try simp only [pn]) <;> omega) | fail) only [pn, pq]) <;> omega) | fail) only [pn, pq] at c1
    exact hq _ hJ hFS 
  · try simp (disch := first | ((try simp (disch := first | ((try simp only [pn]) <;> omega) | fail) only [pn, pq]) <;> omega) | fail) only [pn, pq] at c1
    refine ⟨fun c2 => ?_, fun c2 => ?_⟩
    · try simp (disch := first | ((try simp (disch := first | ((try simp only [pn]) <;> omega) | fail) only [pn, pq]) <;> omega) | fail) only [pn, pq] at c2
      exact hq _ hJ hFS 
    · try simp (disch := first | ((try simp (disch := first | ((try simp only [pn]) <;> omega) | fail) only [pn, pq]) <;> omega) | fail) only [pn, pq] at c2
      refine ⟨pt_in (by (try simp (disch := first | ((try simp (disch := first | ((try simp only [pn]) <;> omega) | fail) only [pn, pq]) <;> omega) | fail) only [pn, pq]) <;> (intros; (try simp (disch := first | ((try simp (disch := first | ((try simp only [pn]) <;> omega) | fail) only [pn, pq]) <;> omega) | fail) only [pn, pq]) <;> omega)) (by (try simp (disch := first | ((try simp (disch := first | ((try simp only [pn]) <;> omega) | fail) only [pn, pq]) <;> omega) | fail) only [pn, pq]) <;> (intros; (try simp (disch := first | ((try simp (disch := first | ((try simp only [pn]) <;> omega) | fail) only [pn, pq]) <;> omega) | fail) only [pn, pq]) <;> omega)), ?_⟩
      refine ⟨pt_in (by (try simp (disch := first | ((try simp (disch := first | ((try simp only [pn]) <;> omega) | fail) only [pn, pq]) <;> omega) | fail) only [pn, pq]) <;> (intros; (try simp (disch := first | ((try simp (disch := first | ((try simp only [pn]) <;> omega) | fail) only [pn, pq]) <;> omega) | fail) only [pn, pq]) <;> omega)) (by (try simp (disch := first | ((try simp (disch := first | ((try simp only [pn]) <;> omega) | fail) only [pn, pq]) <;> omega) | fail) only [pn, pq]) <;> (intros; (try simp (disch := first | ((try simp (disch := first | ((try simp only [pn]) <;> omega) | fail) only [pn, pq]) <;> omega) | fail) only [pn, pq]) <;> omega)), ?_⟩
      intro S3 eS3
      have hJS3 : J2 S3 := by rw [eS3]; exact (J2s_answers hJ)
      have hFS3 : F_X2_note S S3 := by rw [eS3]; exact hFS
      have ja2 : ((b2g_answers S3) (a1).toNatClampNeg).toInt = ((((b2g_answers S) (a1).toNatClampNeg) + (1 : Int32))).toInt := by rw [eS3]; exact pt_upds
      try simp (disch := first | ((try simp (disch := first | ((try simp only [pn]) <;> omega) | fail) only [pn, pq]) <;> omega) | fail) only [pn, pq] at ja2
      refine ⟨pt_in (by (try simp (disch := first | ((try simp (disch := first | ((try simp only [pn]) <;> omega) | fail) only [pn, pq]) <;> omega) | fail) only [pn, pq]) <;> (intros; (try simp (disch := first | ((try simp (disch := first | ((try simp only [pn]) <;> omega) | fail) only [pn, pq]) <;> omega) | fail) only [pn, pq]) <;> omega)) (by (try simp (disch := first | ((try simp (disch := first | ((try simp only [pn]) <;> omega) | fail) only [pn, pq]) <;> omega) | fail) only [pn, pq]) <;> (intros; (try simp (disch := first | ((try simp (disch := first | ((try simp only [pn]) <;> omega) | fail) only [pn, pq]) <;> omega) | fail) only [pn, pq]) <;> omega)), ?_⟩
      refine ⟨fun c4 => ?_, fun c4 => ?_⟩
      · try simp (disch := first | ((try simp (disch := first | ((try simp only [pn]) <;> omega) | fail) only [pn, pq]) <;> omega) | fail) only [pn, pq] at c4
        unfold wp_X2_note_40
        refine ⟨pt_in (by (try simp (disch := first | ((try simp (disch := first | ((try simp only [pn]) <;> omega) | fail) only [pn, pq]) <;> omega) | fail) only [pn, pq]) <;> (intros; (try simp (disch := first | ((try simp (disch := first | ((try simp only [pn]) <;> omega) | fail) only [pn, pq]) <;> omega) | fail) only [pn, pq]) <;> omega)) (by (try simp (disch := first | ((try simp (disch := first | ((try simp only [pn]) <;> omega) | fail) only [pn, pq]) <;> omega) | fail) only [pn, pq]) <;> (intros; (try simp (disch := first | ((try simp (disch := first | ((try simp only [pn]) <;> omega) | fail) only [pn, pq]) <;> omega) | fail) only [pn, pq]) <;> omega)), ?_⟩
        intro S5 eS5
        have hJS5 : J2 S5 := by rw [eS5]; exact (J2s_answers hJS3)
        have hFS5 : F_X2_note S S5 := by rw [eS5]; exact hFS3
        have ja4 : ((b2g_answers S5) ((a1 + (1 : Int32))).toNatClampNeg).toInt = ((((b2g_answers S3) ((a1 + (1 : Int32))).toNatClampNeg) + (1 : Int32))).toInt := by rw [eS5]; exact pt_upds
        try simp (disch := first | ((try simp (disch := first | ((try simp only [pn]) <;> omega) | fail) only [pn, pq]) <;> omega) | fail) only [pn, pq] at ja4
        refine ⟨pt_in (by (try simp (disch := first | ((try simp (disch := first | ((try simp only [pn]) <;> omega) | fail) only [pn, pq]) <;> omega) | fail) only [pn, pq]) <;> (intros; (try simp (disch := first | ((try simp (disch := first | ((try simp only [pn]) <;> omega) | fail) only [pn, pq]) <;> omega) | fail) only [pn, pq]) <;> omega)) (by (try simp (disch := first | ((try simp (disch := first | ((try simp only [pn]) <;> omega) | fail) only [pn, pq]) <;> omega) | fail) only [pn, pq]) <;> (intros; (try simp (disch := first | ((try simp (disch := first | ((try simp only [pn]) <;> omega) | fail) only [pn, pq]) <;> omega) | fail) only [pn, pq]) <;> omega)), ?_⟩
        refine ⟨fun c6 => ?_, fun c6 => ?_⟩
        · try simp (disch := first | ((try simp (disch := first | ((try simp only [pn]) <;> omega) | fail) only [pn, pq]) <;> omega) | fail) only [pn, pq] at c6
          intro v7 ev7
          have nv7 := congrArg Int32.toInt ev7
          try simp (disch := first | ((try simp (disch := first | ((try simp only [pn]) <;> omega) | fail) only [pn, pq]) <;> omega) | fail) only [pn, pq] at nv7
          refine ⟨pt_in (by (try simp (disch := first | ((try simp (disch := first | ((try simp only [pn]) <;> omega) | fail) only [pn, pq]) <;> omega) | fail) only [pn, pq]) <;> (intros; (try simp (disch := first | ((try simp (disch := first | ((try simp only [pn]) <;> omega) | fail) only [pn, pq]) <;> omega) | fail) only [pn, pq]) <;> omega)) (by (try simp (disch := first | ((try simp (disch := first | ((try simp only [pn]) <;> omega) | fail) only [pn, pq]) <;> omega) | fail) only [pn, pq]) <;> (intros; (try simp (disch := first | ((try simp (disch := first | ((try simp only [pn]) <;> omega) | fail) only [pn, pq]) <;> omega) | fail) only [pn, pq]) <;> omega)), ?_⟩
          intro S8 eS8
          have hJS8 : J2 S8 := by rw [eS8]; exact (J2s_answers hJS5)
          have hFS8 : F_X2_note S S8 := by rw [eS8]; exact hFS5
          have ja6 : ((b2g_answers S8) ((a1 + (2 : Int32))).toNatClampNeg).toInt = (v7).toInt := by rw [eS8]; exact pt_upds
          try simp (disch := first | ((try simp (disch := first | ((try simp only [pn]) <;> omega) | fail) only [pn, pq]) <;> omega) | fail) only [pn, pq] at ja6
          exact hq _ hJS8 hFS8 
        · try simp (disch := first | ((try simp (disch := first | ((try simp only [pn]) <;> omega) | fail) only [pn, pq]) <;> omega) | fail) only [pn, pq] at c6
          intro v9 ev9
          have nv9 := congrArg Int32.toInt ev9
          try simp (disch := first | ((try simp (disch := first | ((try simp only [pn]) <;> omega) | fail) only [pn, pq]) <;> omega) | fail) only [pn, pq] at nv9
          refine ⟨pt_in (by (try simp (disch := first | ((try simp (disch := first | ((try simp only [pn]) <;> omega) | fail) only [pn, pq]) <;> omega) | fail) only [pn, pq]) <;> (intros; (try simp (disch := first | ((try simp (disch := first | ((try simp only [pn]) <;> omega) | fail) only [pn, pq]) <;> omega) | fail) only [pn, pq]) <;> omega)) (by (try simp (disch := first | ((try simp (disch := first | ((try simp only [pn]) <;> omega) | fail) only [pn, pq]) <;> omega) | fail) only [pn, pq]) <;> (intros; (try simp (disch := first | ((try simp (disch := first | ((try simp only [pn]) <;> omega) | fail) only [pn, pq]) <;> omega) | fail) only [pn, pq]) <;> omega)), ?_⟩
          intro S10 eS10
          have hJS10 : J2 S10 := by rw [eS10]; exact (J2s_answers hJS5)
          have hFS10 : F_X2_note S S10 := by rw [eS10]; exact hFS5
          have ja7 : ((b2g_answers S10) ((a1 + (2 : Int32))).toNatClampNeg).toInt = (v9).toInt := by rw [eS10]; exact pt_upds
          try simp (disch := first | ((try simp (disch := first | ((try simp only [pn]) <;> omega) | fail) only [pn, pq]) <;> omega) | fail) only [pn, pq] at ja7
          exact hq _ hJS10 hFS10 
      · try simp (disch := first | ((try simp (disch := first | ((try simp only [pn]) <;> omega) | fail) only [pn, pq]) <;> omega) | fail) only [pn, pq] at c4
        unfold wp_X2_note_40
        refine ⟨pt_in (by (try simp (disch := first | ((try simp (disch := first | ((try simp only [pn]) <;> omega) | fail) only [pn, pq]) <;> omega) | fail) only [pn, pq]) <;> (intros; (try simp (disch := first | ((try simp (disch := first | ((try simp only [pn]) <;> omega) | fail) only [pn, pq]) <;> omega) | fail) only [pn, pq]) <;> omega)) (by (try simp (disch := first | ((try simp (disch := first | ((try simp only [pn]) <;> omega) | fail) only [pn, pq]) <;> omega) | fail) only [pn, pq]) <;> (intros; (try simp (disch := first | ((try simp (disch := first | ((try simp only [pn]) <;> omega) | fail) only [pn, pq]) <;> omega) | fail) only [pn, pq]) <;> omega)), ?_⟩
        intro S11 eS11
        have hJS11 : J2 S11 := by rw [eS11]; exact (J2s_answers hJS3)
        have hFS11 : F_X2_note S S11 := by rw [eS11]; exact hFS3
        have ja8 : ((b2g_answers S11) ((a1 + (1 : Int32))).toNatClampNeg).toInt = ((((b2g_answers S3) ((a1 + (1 : Int32))).toNatClampNeg) + (0 : Int32))).toInt := by rw [eS11]; exact pt_upds
        try simp (disch := first | ((try simp (disch := first | ((try simp only [pn]) <;> omega) | fail) only [pn, pq]) <;> omega) | fail) only [pn, pq] at ja8
        refine ⟨pt_in (by (try simp (disch := first | ((try simp (disch := first | ((try simp only [pn]) <;> omega) | fail) only [pn, pq]) <;> omega) | fail) only [pn, pq]) <;> (intros; (try simp (disch := first | ((try simp (disch := first | ((try simp only [pn]) <;> omega) | fail) only [pn, pq]) <;> omega) | fail) only [pn, pq]) <;> omega)) (by (try simp (disch := first | ((try simp (disch := first | ((try simp only [pn]) <;> omega) | fail) only [pn, pq]) <;> omega) | fail) only [pn, pq]) <;> (intros; (try simp (disch := first | ((try simp (disch := first | ((try simp only [pn]) <;> omega) | fail) only [pn, pq]) <;> omega) | fail) only [pn, pq]) <;> omega)), ?_⟩
        refine ⟨fun c12 => ?_, fun c12 => ?_⟩
        · try simp (disch := first | ((try simp (disch := first | ((try simp only [pn]) <;> omega) | fail) only [pn, pq]) <;> omega) | fail) only [pn, pq] at c12
          intro v13 ev13
          have nv13 := congrArg Int32.toInt ev13
          try simp (disch := first | ((try simp (disch := first | ((try simp only [pn]) <;> omega) | fail) only [pn, pq]) <;> omega) | fail) only [pn, pq] at nv13
          refine ⟨pt_in (by (try simp (disch := first | ((try simp (disch := first | ((try simp only [pn]) <;> omega) | fail) only [pn, pq]) <;> omega) | fail) only [pn, pq]) <;> (intros; (try simp (disch := first | ((try simp (disch := first | ((try simp only [pn]) <;> omega) | fail) only [pn, pq]) <;> omega) | fail) only [pn, pq]) <;> omega)) (by (try simp (disch := first | ((try simp (disch := first | ((try simp only [pn]) <;> omega) | fail) only [pn, pq]) <;> omega) | fail) only [pn, pq]) <;> (intros; (try simp (disch := first | ((try simp (disch := first | ((try simp only [pn]) <;> omega) | fail) only [pn, pq]) <;> omega) | fail) only [pn, pq]) <;> omega)), ?_⟩
          intro S14 eS14
          have hJS14 : J2 S14 := by rw [eS14]; exact (J2s_answers hJS11)
          have hFS14 : F_X2_note S S14 := by rw [eS14]; exact hFS11
          have ja10 : ((b2g_answers S14) ((a1 + (2 : Int32))).toNatClampNeg).toInt = (v13).toInt := by rw [eS14]; exact pt_upds
          try simp (disch := first | ((try simp (disch := first | ((try simp only [pn]) <;> omega) | fail) only [pn, pq]) <;> omega) | fail) only [pn, pq] at ja10
          exact hq _ hJS14 hFS14 
        · try simp (disch := first | ((try simp (disch := first | ((try simp only [pn]) <;> omega) | fail) only [pn, pq]) <;> omega) | fail) only [pn, pq] at c12
          intro v15 ev15
          have nv15 := congrArg Int32.toInt ev15
          try simp (disch := first | ((try simp (disch := first | ((try simp only [pn]) <;> omega) | fail) only [pn, pq]) <;> omega) | fail) only [pn, pq] at nv15
          refine ⟨pt_in (by (try simp (disch := first | ((try simp (disch := first | ((try simp only [pn]) <;> omega) | fail) only [pn, pq]) <;> omega) | fail) only [pn, pq]) <;> (intros; (try simp (disch := first | ((try simp (disch := first | ((try simp only [pn]) <;> omega) | fail) only [pn, pq]) <;> omega) | fail) only [pn, pq]) <;> omega)) (by (try simp (disch := first | ((try simp (disch := first | ((try simp only [pn]) <;> omega) | fail) only [pn, pq]) <;> omega) | fail) only [pn, pq]) <;> (intros; (try simp (disch := first | ((try simp (disch := first | ((try simp only [pn]) <;> omega) | fail) only [pn, pq]) <;> omega) | fail) only [pn, pq]) <;> omega)), ?_⟩
          intro S16 eS16
          have hJS16 : J2 S16 := by rw [eS16]; exact (J2s_answers hJS11)
          have hFS16 : F_X2_note S S16 := by rw [eS16]; exact hFS11
          have ja11 : ((b2g_answers S16) ((a1 + (2 : Int32))).toNatClampNeg).toInt = (v15).toInt := by rw [eS16]; exact pt_upds
          try simp (disch := first | ((try simp (disch := first | ((try simp only [pn]) <;> omega) | fail) only [pn, pq]) <;> omega) | fail) only [pn, pq] at ja11
          exact hq _ hJS16 hFS16 
def F_X4_putFour (S u : bT4) : Prop := True
theorem sf_X4_putFour {S : bT4} (hJ : J4 S) {a1 : Int32} {Q : (bT4) → Prop} (hq : ∀ u : bT4, (J4 u) → F_X4_putFour S u → ((b4g_count S).toInt ≤ 156 → (b4g_count u).toInt = (b4g_count S).toInt + 4) → ((b4g_count S).toInt ≤ 156 → PF (b4g_octets S) (b4g_count S).toInt a1 4 (b4g_octets u)) → Q u) : wp_X4_putFour S a1 Q := by
  have jc := J4g_count hJ
  unfold wp_X4_putFour wp_X4_putFour_3
  refine ⟨fun n x1 x2 V => x1 = a1 ∧ J4 V ∧ ∃ i : Nat, i ≤ 4 ∧ x2.toInt = 24 - 8 * (i : Int) ∧ n = 4 - i ∧ ((b4g_count S).toInt ≤ 156 → (b4g_count V).toInt = (b4g_count S).toInt + i ∧ PF (b4g_octets S) (b4g_count S).toInt a1 i (b4g_octets V)), ⟨_, rfl, hJ, 0, by decide, rfl, rfl, fun _ => ⟨by omega, PF_0⟩⟩, ?_⟩
  rintro n x1 x2 V ⟨ex, hJV, i, hi, h2, hn, hP⟩
  have jV := J4g_count hJV
  unfold wp_X4_putFour_3b
  rw [ex]
  refine ⟨fun c => ?_, fun c => ?_⟩
  · simp only [pn] at c
    have i4 : i = 4 := by omega
    subst i4
    exact hq _ hJV trivial (fun h => (hP h).1) (fun h => (hP h).2)
  simp only [pn] at c
  have x8 : (x2 + (-8 : Int32)).toInt = x2.toInt - 8 := by
    have : (-8 : Int32).toInt = -8 := rfl
    rw [pt_add (by omega) (by omega)]
    omega
  obtain ⟨y, hy⟩ : ∃ y : Int32, x2 + (-8 : Int32) = y := ⟨_, rfl⟩
  rw [hy] at x8
  refine ⟨fun d => ?_, fun d => ?_⟩
  · simp only [pn] at d
    unfold wp_X4_putFour_43
    rw [hy]
    refine ⟨_, ?_, rfl, hJV, i + 1, by omega, by omega, rfl, fun h => ?_⟩
    · omega
    · have := (hP h).1
      exfalso
      omega
  simp only [pn] at d
  intro v1 e1
  refine ⟨pt_in (by omega) (by omega), fun S2 e2 S3 e3 => ?_⟩
  unfold wp_X4_putFour_43
  rw [hy]
  have c1 : (b4g_count V + 1).toInt = (b4g_count V).toInt + 1 := by rw [pt_add (by rw [pl_1]; omega) (by rw [pl_1]; omega), pl_1]
  have ec : (b4g_count S3).toInt = (b4g_count V).toInt + 1 := by rw [e3, e2]; exact c1
  have eo : b4g_octets S3 = upd (b4g_octets V) (b4g_count V).toNatClampNeg v1 := by rw [e3, e2]
  refine ⟨_, ?_, rfl, ?_, i + 1, by omega, by omega, rfl, fun h => ?_⟩
  · omega
  · exact ⟨by rw [ec]; omega, by rw [ec]; omega⟩
  · have p := hP h
    have x2' : x2 = nI (24 - 8 * i) := Int32.toInt_inj.mp (by rw [nI_toInt (by omega)]; omega)
    refine ⟨by rw [ec]; omega, ?_⟩
    rw [eo]
    exact PF_s p.2 p.1 jc.1 (by rw [e1, x2']; rfl)
set_option maxRecDepth 20000 in
set_option maxHeartbeats 1000000 in
theorem sf_X4_keyAt {S : bT4} (hJ : J4 S) {a1 : Int32} {a2 : Int32} {Q : Int64 → Prop} (hq : ∀ r : Int64, Q r) : wp_X4_keyAt S a1 a2 Q := by
  unfold wp_X4_keyAt
  have rga1 := pt_rg a1
  have rga2 := pt_rg a2
  refine ⟨fun n x1q1 x2q1 x3q1 x5q1 => (x1q1 = a1) ∧ (x2q1 = a2) ∧ (0 ≤ (x5q1).toInt) ∧ n = ((x2q1).toInt + 1 - (x5q1).toInt).toNat, ⟨_, rfl, rfl, (by (try simp (disch := first | ((try simp (disch := first | ((try simp only [pn]) <;> omega) | fail) only [pn, pq]) <;> omega) | fail) only [pn, pq]) <;> (intros; (try simp (disch := first | ((try simp (disch := first | ((try simp only [pn]) <;> omega) | fail) only [pn, pq]) <;> omega) | fail) only [pn, pq]) <;> omega)), rfl⟩, ?_⟩
  rintro n2 x1q1 x2q1 x3q1 x5q1 ⟨hkq1_0, hkq1_1, hiq1_0, hn2⟩
  subst hkq1_0
  subst hkq1_1
  have rgx1q1 := pt_rg x1q1
  have rgx2q1 := pt_rg x2q1
  have rgx5q1 := pt_rg x5q1
  unfold wp_X4_keyAt_5b
  refine ⟨fun c3 => ?_, fun c3 => ?_⟩
  · try simp (disch := first | ((try simp (disch := first | ((try simp only [pn]) <;> omega) | fail) only [pn, pq]) <;> omega) | fail) only [pn, pq] at c3
    exact hq _ 
  · try simp (disch := first | ((try simp (disch := first | ((try simp only [pn]) <;> omega) | fail) only [pn, pq]) <;> omega) | fail) only [pn, pq] at c3
    refine sf_X8_at (by decide) (fun r4 hr4_0 => ?_)
    have rgr4 := pt_rg r4
    try simp (disch := first | ((try simp (disch := first | ((try simp only [pn]) <;> omega) | fail) only [pn, pq]) <;> omega) | fail) only [pn, pq] at hr4_0
    refine sf_X8_octetTo  (fun r6  => ?_)
    refine ⟨_, ?_, ?_, ?_, ?_, rfl⟩
    · (try simp (disch := first | ((try simp (disch := first | ((try simp only [pn]) <;> omega) | fail) only [pn, pq]) <;> omega) | fail) only [pn, pq]) <;> (intros; (try simp (disch := first | ((try simp (disch := first | ((try simp only [pn]) <;> omega) | fail) only [pn, pq]) <;> omega) | fail) only [pn, pq]) <;> omega)
    · first | rfl | assumption
    · first | rfl | assumption
    · (try simp (disch := first | ((try simp (disch := first | ((try simp only [pn]) <;> omega) | fail) only [pn, pq]) <;> omega) | fail) only [pn, pq]) <;> (intros; (try simp (disch := first | ((try simp (disch := first | ((try simp only [pn]) <;> omega) | fail) only [pn, pq]) <;> omega) | fail) only [pn, pq]) <;> omega)
set_option maxRecDepth 20000 in
set_option maxHeartbeats 1000000 in
theorem sf_X8_isLength {a0 : Int32} {Q : Int32 → Prop} (hq : ∀ r : Int32, bf_bool r → ((r.toInt = 1 ∧ 1 ≤ a0.toInt ∧ a0.toInt ≤ 8) ∨ (r.toInt = 0 ∧ (a0.toInt < 1 ∨ 8 < a0.toInt))) → Q r) : wp_X8_isLength a0 Q := by
  unfold wp_X8_isLength
  have rga0 := pt_rg a0
  refine ⟨fun c1 => ?_, fun c1 => ?_⟩
  · try simp (disch := first | ((try simp (disch := first | ((try simp only [pn]) <;> omega) | fail) only [pn, pq]) <;> omega) | fail) only [pn, pq] at c1
    exact ⟨by first | rfl | assumption, hq _ (by first | rfl | assumption) (by (try simp (disch := first | ((try simp (disch := first | ((try simp only [pn]) <;> omega) | fail) only [pn, pq]) <;> omega) | fail) only [pn, pq]) <;> (intros; (try simp (disch := first | ((try simp (disch := first | ((try simp only [pn]) <;> omega) | fail) only [pn, pq]) <;> omega) | fail) only [pn, pq]) <;> omega))⟩
  · try simp (disch := first | ((try simp (disch := first | ((try simp only [pn]) <;> omega) | fail) only [pn, pq]) <;> omega) | fail) only [pn, pq] at c1
    refine ⟨fun c2 => ?_, fun c2 => ?_⟩
    · try simp (disch := first | ((try simp (disch := first | ((try simp only [pn]) <;> omega) | fail) only [pn, pq]) <;> omega) | fail) only [pn, pq] at c2
      exact ⟨by first | rfl | assumption, hq _ (by first | rfl | assumption) (by (try simp (disch := first | ((try simp (disch := first | ((try simp only [pn]) <;> omega) | fail) only [pn, pq]) <;> omega) | fail) only [pn, pq]) <;> (intros; (try simp (disch := first | ((try simp (disch := first | ((try simp only [pn]) <;> omega) | fail) only [pn, pq]) <;> omega) | fail) only [pn, pq]) <;> omega))⟩
    · try simp (disch := first | ((try simp (disch := first | ((try simp only [pn]) <;> omega) | fail) only [pn, pq]) <;> omega) | fail) only [pn, pq] at c2
      exact ⟨by first | rfl | assumption, hq _ (by first | rfl | assumption) (by (try simp (disch := first | ((try simp (disch := first | ((try simp only [pn]) <;> omega) | fail) only [pn, pq]) <;> omega) | fail) only [pn, pq]) <;> (intros; (try simp (disch := first | ((try simp (disch := first | ((try simp only [pn]) <;> omega) | fail) only [pn, pq]) <;> omega) | fail) only [pn, pq]) <;> omega))⟩
def F_X4_readInto (S u : bT4 × bT0) : Prop := u.1 = S.1
set_option maxRecDepth 20000 in
set_option maxHeartbeats 1000000 in
theorem sf_X4_readInto {S : bT4 × bT0} (hJ : J4 S.1 ∧ J0 S.2) {Q : Int32 → (bT4 × bT0) → Prop} (hq : ∀ (r : Int32) (u : bT4 × bT0), (J4 u.1 ∧ J0 u.2) → F_X4_readInto S u → bf_bool r → Q r u) : wp_X4_readInto S Q := by
  unfold wp_X4_readInto
  have hFS : F_X4_readInto S S := rfl
  have jf1 := J4g_count hJ.1
  refine ⟨fun n x2q1 Sq1 => (J4 Sq1.1 ∧ J0 Sq1.2) ∧ (F_X4_readInto S Sq1) ∧ (0 ≤ (x2q1).toInt) ∧ n = (((b4g_count Sq1.1)).toInt + 1 - (x2q1).toInt).toNat, ⟨_, hJ, hFS, (by (try simp (disch := first | ((try simp (disch := first | ((try simp only [pn]) <;> omega) | fail) only [pn, pq]) <;> omega) | fail) only [pn, pq]) <;> (intros; (try simp (disch := first | ((try simp (disch := first | ((try simp only [pn]) <;> omega) | fail) only [pn, pq]) <;> omega) | fail) only [pn, pq]) <;> omega)), rfl⟩, ?_⟩
  rintro n2 x2q1 Sq1 ⟨hJSq1, hFSq1, hiq1_0, hn2⟩
  have rgx2q1 := pt_rg x2q1
  unfold wp_X4_readInto_2b
  have je3 : ((b4g_count Sq1.1)).toInt = ((b4g_count S.1)).toInt := congrArg (fun z => ((b4g_count z)).toInt) hFSq1
  refine ⟨fun c3 => ?_, fun c3 => ?_⟩
  · try simp (disch := first | ((try simp (disch := first | ((try simp only [pn]) <;> omega) | fail) only [pn, pq]) <;> omega) | fail) only [pn, pq] at c3
    exact ⟨by first | rfl | assumption, hq _ _ hJSq1 hFSq1 (by first | rfl | assumption) ⟩
  · try simp (disch := first | ((try simp (disch := first | ((try simp only [pn]) <;> omega) | fail) only [pn, pq]) <;> omega) | fail) only [pn, pq] at c3
    refine sf_X8_at (by decide) (fun r4 hr4_0 => ?_)
    have rgr4 := pt_rg r4
    try simp (disch := first | ((try simp (disch := first | ((try simp only [pn]) <;> omega) | fail) only [pn, pq]) <;> omega) | fail) only [pn, pq] at hr4_0
    refine sf_X8_isLength  (fun r6 hzr6 hr6_0 => ?_)
    try simp (disch := first | ((try simp (disch := first | ((try simp only [pn]) <;> omega) | fail) only [pn, pq]) <;> omega) | fail) only [pn, pq] at hr6_0
    refine ⟨fun c8 => ?_, fun c8 => ?_⟩
    · try simp (disch := first | ((try simp (disch := first | ((try simp only [pn]) <;> omega) | fail) only [pn, pq]) <;> omega) | fail) only [pn, pq] at c8
      exact ⟨by first | rfl | assumption, hq _ _ hJSq1 hFSq1 (by first | rfl | assumption) ⟩
    · try simp (disch := first | ((try simp (disch := first | ((try simp only [pn]) <;> omega) | fail) only [pn, pq]) <;> omega) | fail) only [pn, pq] at c8
      refine ⟨fun c9 => ?_, fun c9 => ?_⟩
      · try simp (disch := first | ((try simp (disch := first | ((try simp only [pn]) <;> omega) | fail) only [pn, pq]) <;> omega) | fail) only [pn, pq] at c9
        refine sf_X4_keyAt hJSq1.1 (fun r10  => ?_)
        refine sf_X0_numberOf hJSq1.2 (fun r12 hr12_0 hr12_1 => ?_)
        have rgr12 := pt_rg r12
        try simp (disch := first | ((try simp (disch := first | ((try simp only [pn]) <;> omega) | fail) only [pn, pq]) <;> omega) | fail) only [pn, pq] at hr12_0
        try simp (disch := first | ((try simp (disch := first | ((try simp only [pn]) <;> omega) | fail) only [pn, pq]) <;> omega) | fail) only [pn, pq] at hr12_1
        refine ⟨fun c14 => ?_, fun c14 => ?_⟩
        · try simp (disch := first | ((try simp (disch := first | ((try simp only [pn]) <;> omega) | fail) only [pn, pq]) <;> omega) | fail) only [pn, pq] at c14
          unfold wp_X4_readInto_72
          refine ⟨_, ?_, ?_, ?_, ?_, rfl⟩
          · (try simp (disch := first | ((try simp (disch := first | ((try simp only [pn]) <;> omega) | fail) only [pn, pq]) <;> omega) | fail) only [pn, pq]) <;> (intros; (try simp (disch := first | ((try simp (disch := first | ((try simp only [pn]) <;> omega) | fail) only [pn, pq]) <;> omega) | fail) only [pn, pq]) <;> omega)
          · exact hJSq1
          · exact hFSq1
          · (try simp (disch := first | ((try simp (disch := first | ((try simp only [pn]) <;> omega) | fail) only [pn, pq]) <;> omega) | fail) only [pn, pq]) <;> (intros; (try simp (disch := first | ((try simp (disch := first | ((try simp only [pn]) <;> omega) | fail) only [pn, pq]) <;> omega) | fail) only [pn, pq]) <;> omega)
        · try simp (disch := first | ((try simp (disch := first | ((try simp only [pn]) <;> omega) | fail) only [pn, pq]) <;> omega) | fail) only [pn, pq] at c14
          refine sf_X0_insert hJSq1.2 (fun r15 u16 hJu16 hfu16 hr15_0 => ?_)
          have rgr15 := pt_rg r15
          intro S17 eS17
          have hGS17 : F_X4_readInto S S17 := by
            rw [eS17]
            exact hFSq1
          have hJS17 : J4 S17.1 ∧ J0 S17.2 := by rw [eS17]; exact ⟨hJSq1.1, hJu16⟩
          have hFS17 : F_X4_readInto S S17 := hGS17
          have je5 : ((b4g_count S17.1)).toInt = ((b4g_count S.1)).toInt := congrArg (fun z => ((b4g_count z)).toInt) hFS17
          refine ⟨fun c18 => ?_, fun c18 => ?_⟩
          · try simp (disch := first | ((try simp (disch := first | ((try simp only [pn]) <;> omega) | fail) only [pn, pq]) <;> omega) | fail) only [pn, pq] at c18
            unfold wp_X4_readInto_72
            refine ⟨_, ?_, ?_, ?_, ?_, rfl⟩
            · (try simp (disch := first | ((try simp (disch := first | ((try simp only [pn]) <;> omega) | fail) only [pn, pq]) <;> omega) | fail) only [pn, pq]) <;> (intros; (try simp (disch := first | ((try simp (disch := first | ((try simp only [pn]) <;> omega) | fail) only [pn, pq]) <;> omega) | fail) only [pn, pq]) <;> omega)
            · exact hJS17
            · exact hFS17
            · (try simp (disch := first | ((try simp (disch := first | ((try simp only [pn]) <;> omega) | fail) only [pn, pq]) <;> omega) | fail) only [pn, pq]) <;> (intros; (try simp (disch := first | ((try simp (disch := first | ((try simp only [pn]) <;> omega) | fail) only [pn, pq]) <;> omega) | fail) only [pn, pq]) <;> omega)
          · try simp (disch := first | ((try simp (disch := first | ((try simp only [pn]) <;> omega) | fail) only [pn, pq]) <;> omega) | fail) only [pn, pq] at c18
            exact ⟨by first | rfl | assumption, hq _ _ hJS17 hFS17 (by first | rfl | assumption) ⟩
      · try simp (disch := first | ((try simp (disch := first | ((try simp only [pn]) <;> omega) | fail) only [pn, pq]) <;> omega) | fail) only [pn, pq] at c9
        exact ⟨by first | rfl | assumption, hq _ _ hJSq1 hFSq1 (by first | rfl | assumption) ⟩
def F_X5_put (S u : bT5) : Prop := True
set_option maxRecDepth 20000 in
set_option maxHeartbeats 1000000 in
theorem sf_X5_put {S : bT5} (hJ : J5 S) {a1 : Int32} {Q : (bT5) → Prop} (hq : ∀ u : bT5, (J5 u) → F_X5_put S u → Q u) : wp_X5_put S a1 Q := by
  unfold wp_X5_put
  have hFS : F_X5_put S S := trivial
  have jf1 := J5g_length hJ
  have rga1 := pt_rg a1
  refine ⟨fun c1 => ?_, fun c1 => ?_⟩
  · try simp (disch := first | ((try simp (disch := first | ((try simp only [pn]) <;> omega) | fail) only [pn, pq]) <;> omega) | fail) only [pn, pq] at c1
    exact hq _ hJ hFS 
  · try simp (disch := first | ((try simp (disch := first | ((try simp only [pn]) <;> omega) | fail) only [pn, pq]) <;> omega) | fail) only [pn, pq] at c1
    refine ⟨pt_in (by (try simp (disch := first | ((try simp (disch := first | ((try simp only [pn]) <;> omega) | fail) only [pn, pq]) <;> omega) | fail) only [pn, pq]) <;> (intros; (try simp (disch := first | ((try simp (disch := first | ((try simp only [pn]) <;> omega) | fail) only [pn, pq]) <;> omega) | fail) only [pn, pq]) <;> omega)) (by (try simp (disch := first | ((try simp (disch := first | ((try simp only [pn]) <;> omega) | fail) only [pn, pq]) <;> omega) | fail) only [pn, pq]) <;> (intros; (try simp (disch := first | ((try simp (disch := first | ((try simp only [pn]) <;> omega) | fail) only [pn, pq]) <;> omega) | fail) only [pn, pq]) <;> omega)), ?_⟩
    intro S2 eS2
    have hJS2 : J5 S2 := by rw [eS2]; exact (J5s_signs hJ)
    have hFS2 : F_X5_put S S2 := by rw [eS2]; exact hFS
    have je2 : ((b5g_length S2)).toInt = ((b5g_length S)).toInt := by rw [eS2]
    have jf3 := J5g_length hJS2
    intro S3 eS3
    have hJS3 : J5 S3 := by rw [eS3]; exact (J5s_length hJS2 ⟨(by (try simp (disch := first | ((try simp (disch := first | ((try simp only [pn]) <;> omega) | fail) only [pn, pq]) <;> omega) | fail) only [pn, pq]) <;> (intros; (try simp (disch := first | ((try simp (disch := first | ((try simp only [pn]) <;> omega) | fail) only [pn, pq]) <;> omega) | fail) only [pn, pq]) <;> omega)), (by (try simp (disch := first | ((try simp (disch := first | ((try simp only [pn]) <;> omega) | fail) only [pn, pq]) <;> omega) | fail) only [pn, pq]) <;> (intros; (try simp (disch := first | ((try simp (disch := first | ((try simp only [pn]) <;> omega) | fail) only [pn, pq]) <;> omega) | fail) only [pn, pq]) <;> omega))⟩)
    have hFS3 : F_X5_put S S3 := by rw [eS3]; exact hFS2
    have je4 : ((b5g_length S3)).toInt = (((b5g_length S2) + (1 : Int32))).toInt := by rw [eS3]
    try simp (disch := first | ((try simp (disch := first | ((try simp only [pn]) <;> omega) | fail) only [pn, pq]) <;> omega) | fail) only [pn, pq] at je4
    have jf5 := J5g_length hJS3
    exact hq _ hJS3 hFS3 
def F_X5_putNumber (S u : bT5) : Prop := True
set_option maxRecDepth 20000 in
set_option maxHeartbeats 1000000 in
theorem sf_X5_putNumber {S : bT5} (hJ : J5 S) {a1 : Int32} {Q : (bT5) → Prop} (hq : ∀ u : bT5, (J5 u) → F_X5_putNumber S u → Q u) : wp_X5_putNumber S a1 Q := by
  unfold wp_X5_putNumber
  have hFS : F_X5_putNumber S S := trivial
  have rga1 := pt_rg a1
  intro v1 ev1
  have nv1 := congrArg Int32.toInt ev1
  try simp (disch := first | ((try simp (disch := first | ((try simp only [pn]) <;> omega) | fail) only [pn, pq]) <;> omega) | fail) only [pn, pq] at nv1
  refine ⟨fun n x1q2 x2q2 Sq2 => (J5 Sq2) ∧ (F_X5_putNumber S Sq2) ∧ (x1q2 = a1) ∧ (0 ≤ (x2q2).toInt) ∧ n = (x2q2).toInt.toNat, ⟨_, hJ, hFS, rfl, (by (try simp (disch := first | ((try simp (disch := first | ((try simp only [pn]) <;> omega) | fail) only [pn, pq]) <;> omega) | fail) only [pn, pq]) <;> (intros; (try simp (disch := first | ((try simp (disch := first | ((try simp only [pn]) <;> omega) | fail) only [pn, pq]) <;> omega) | fail) only [pn, pq]) <;> omega)), rfl⟩, ?_⟩
  rintro n3 x1q2 x2q2 Sq2 ⟨hJSq2, hFSq2, hkq2_0, hiq2_0, hn3⟩
  subst hkq2_0
  have rgx1q2 := pt_rg x1q2
  have rgx2q2 := pt_rg x2q2
  unfold wp_X5_putNumber_3b
  refine ⟨fun c4 => ?_, fun c4 => ?_⟩
  · try simp (disch := first | ((try simp (disch := first | ((try simp only [pn]) <;> omega) | fail) only [pn, pq]) <;> omega) | fail) only [pn, pq] at c4
    exact hq _ hJSq2 hFSq2 
  · try simp (disch := first | ((try simp (disch := first | ((try simp only [pn]) <;> omega) | fail) only [pn, pq]) <;> omega) | fail) only [pn, pq] at c4
    refine ⟨fun c5 => ?_, fun c5 => ?_⟩
    · try simp (disch := first | ((try simp (disch := first | ((try simp only [pn]) <;> omega) | fail) only [pn, pq]) <;> omega) | fail) only [pn, pq] at c5
      unfold wp_X5_putNumber_17
      refine ⟨(by (try simp (disch := first | ((try simp (disch := first | ((try simp only [pn]) <;> omega) | fail) only [pn, pq]) <;> omega) | fail) only [pn, pq]) <;> (intros; (try simp (disch := first | ((try simp (disch := first | ((try simp only [pn]) <;> omega) | fail) only [pn, pq]) <;> omega) | fail) only [pn, pq]) <;> omega)), ?_⟩
      refine ⟨(by (try simp (disch := first | ((try simp (disch := first | ((try simp only [pn]) <;> omega) | fail) only [pn, pq]) <;> omega) | fail) only [pn, pq]) <;> (intros; (try simp (disch := first | ((try simp (disch := first | ((try simp only [pn]) <;> omega) | fail) only [pn, pq]) <;> omega) | fail) only [pn, pq]) <;> omega)), ?_⟩
      refine sf_X5_put hJSq2 (fun u7 hJu7 hfu7  => ?_)
      have hFu7 : F_X5_putNumber S u7 := trivial
      unfold wp_X5_putNumber_31
      refine ⟨(by (try simp (disch := first | ((try simp (disch := first | ((try simp only [pn]) <;> omega) | fail) only [pn, pq]) <;> omega) | fail) only [pn, pq]) <;> (intros; (try simp (disch := first | ((try simp (disch := first | ((try simp only [pn]) <;> omega) | fail) only [pn, pq]) <;> omega) | fail) only [pn, pq]) <;> omega)), ?_⟩
      refine ⟨_, ?_, ?_, ?_, ?_, ?_, rfl⟩
      · (try simp (disch := first | ((try simp (disch := first | ((try simp only [pn]) <;> omega) | fail) only [pn, pq]) <;> omega) | fail) only [pn, pq]) <;> (intros; (try simp (disch := first | ((try simp (disch := first | ((try simp only [pn]) <;> omega) | fail) only [pn, pq]) <;> omega) | fail) only [pn, pq]) <;> omega)
      · exact hJu7
      · exact hFu7
      · first | rfl | assumption
      · (try simp (disch := first | ((try simp (disch := first | ((try simp only [pn]) <;> omega) | fail) only [pn, pq]) <;> omega) | fail) only [pn, pq]) <;> (intros; (try simp (disch := first | ((try simp (disch := first | ((try simp only [pn]) <;> omega) | fail) only [pn, pq]) <;> omega) | fail) only [pn, pq]) <;> omega)
    · try simp (disch := first | ((try simp (disch := first | ((try simp only [pn]) <;> omega) | fail) only [pn, pq]) <;> omega) | fail) only [pn, pq] at c5
      refine ⟨fun c8 => ?_, fun c8 => ?_⟩
      · try simp (disch := first | ((try simp (disch := first | ((try simp only [pn]) <;> omega) | fail) only [pn, pq]) <;> omega) | fail) only [pn, pq] at c8
        unfold wp_X5_putNumber_31
        refine ⟨(by (try simp (disch := first | ((try simp (disch := first | ((try simp only [pn]) <;> omega) | fail) only [pn, pq]) <;> omega) | fail) only [pn, pq]) <;> (intros; (try simp (disch := first | ((try simp (disch := first | ((try simp only [pn]) <;> omega) | fail) only [pn, pq]) <;> omega) | fail) only [pn, pq]) <;> omega)), ?_⟩
        refine ⟨_, ?_, ?_, ?_, ?_, ?_, rfl⟩
        · (try simp (disch := first | ((try simp (disch := first | ((try simp only [pn]) <;> omega) | fail) only [pn, pq]) <;> omega) | fail) only [pn, pq]) <;> (intros; (try simp (disch := first | ((try simp (disch := first | ((try simp only [pn]) <;> omega) | fail) only [pn, pq]) <;> omega) | fail) only [pn, pq]) <;> omega)
        · exact hJSq2
        · exact hFSq2
        · first | rfl | assumption
        · (try simp (disch := first | ((try simp (disch := first | ((try simp only [pn]) <;> omega) | fail) only [pn, pq]) <;> omega) | fail) only [pn, pq]) <;> (intros; (try simp (disch := first | ((try simp (disch := first | ((try simp only [pn]) <;> omega) | fail) only [pn, pq]) <;> omega) | fail) only [pn, pq]) <;> omega)
      · try simp (disch := first | ((try simp (disch := first | ((try simp only [pn]) <;> omega) | fail) only [pn, pq]) <;> omega) | fail) only [pn, pq] at c8
        unfold wp_X5_putNumber_17
        refine ⟨(by (try simp (disch := first | ((try simp (disch := first | ((try simp only [pn]) <;> omega) | fail) only [pn, pq]) <;> omega) | fail) only [pn, pq]) <;> (intros; (try simp (disch := first | ((try simp (disch := first | ((try simp only [pn]) <;> omega) | fail) only [pn, pq]) <;> omega) | fail) only [pn, pq]) <;> omega)), ?_⟩
        refine ⟨(by (try simp (disch := first | ((try simp (disch := first | ((try simp only [pn]) <;> omega) | fail) only [pn, pq]) <;> omega) | fail) only [pn, pq]) <;> (intros; (try simp (disch := first | ((try simp (disch := first | ((try simp only [pn]) <;> omega) | fail) only [pn, pq]) <;> omega) | fail) only [pn, pq]) <;> omega)), ?_⟩
        refine sf_X5_put hJSq2 (fun u10 hJu10 hfu10  => ?_)
        have hFu10 : F_X5_putNumber S u10 := trivial
        unfold wp_X5_putNumber_31
        refine ⟨(by (try simp (disch := first | ((try simp (disch := first | ((try simp only [pn]) <;> omega) | fail) only [pn, pq]) <;> omega) | fail) only [pn, pq]) <;> (intros; (try simp (disch := first | ((try simp (disch := first | ((try simp only [pn]) <;> omega) | fail) only [pn, pq]) <;> omega) | fail) only [pn, pq]) <;> omega)), ?_⟩
        refine ⟨_, ?_, ?_, ?_, ?_, ?_, rfl⟩
        · (try simp (disch := first | ((try simp (disch := first | ((try simp only [pn]) <;> omega) | fail) only [pn, pq]) <;> omega) | fail) only [pn, pq]) <;> (intros; (try simp (disch := first | ((try simp (disch := first | ((try simp only [pn]) <;> omega) | fail) only [pn, pq]) <;> omega) | fail) only [pn, pq]) <;> omega)
        · exact hJu10
        · exact hFu10
        · first | rfl | assumption
        · (try simp (disch := first | ((try simp (disch := first | ((try simp only [pn]) <;> omega) | fail) only [pn, pq]) <;> omega) | fail) only [pn, pq]) <;> (intros; (try simp (disch := first | ((try simp (disch := first | ((try simp only [pn]) <;> omega) | fail) only [pn, pq]) <;> omega) | fail) only [pn, pq]) <;> omega)
def F_X5_putHalf (S u : bT5) : Prop := True
set_option maxRecDepth 20000 in
set_option maxHeartbeats 1000000 in
theorem sf_X5_putHalf {S : bT5} (hJ : J5 S) {a1 : Int32} {Q : (bT5) → Prop} (hq : ∀ u : bT5, (J5 u) → F_X5_putHalf S u → Q u) : wp_X5_putHalf S a1 Q := by
  unfold wp_X5_putHalf
  have hFS : F_X5_putHalf S S := trivial
  have rga1 := pt_rg a1
  refine ⟨fun c1 => ?_, fun c1 => ?_⟩
  · try simp (disch := first | ((try simp (disch := first | ((try simp only [pn]) <;> omega) | fail) only [pn, pq]) <;> omega) | fail) only [pn, pq] at c1
    unfold wp_X5_putHalf_21
    refine sf_X5_put hJ (fun u3 hJu3 hfu3  => ?_)
    have hFu3 : F_X5_putHalf S u3 := trivial
    exact hq _ hJu3 hFu3 
  · try simp (disch := first | ((try simp (disch := first | ((try simp only [pn]) <;> omega) | fail) only [pn, pq]) <;> omega) | fail) only [pn, pq] at c1
    unfold wp_X5_putHalf_21
    refine sf_X5_put hJ (fun u5 hJu5 hfu5  => ?_)
    have hFu5 : F_X5_putHalf S u5 := trivial
    exact hq _ hJu5 hFu5 
def F_X5_putOctet (S u : bT5) : Prop := True
set_option maxRecDepth 20000 in
set_option maxHeartbeats 1000000 in
theorem sf_X5_putOctet {S : bT5} (hJ : J5 S) {a1 : Int32} {Q : (bT5) → Prop} (hq : ∀ u : bT5, (J5 u) → F_X5_putOctet S u → Q u) : wp_X5_putOctet S a1 Q := by
  unfold wp_X5_putOctet
  have hFS : F_X5_putOctet S S := trivial
  have rga1 := pt_rg a1
  refine sf_X5_putHalf hJ (fun u2 hJu2 hfu2  => ?_)
  have hFu2 : F_X5_putOctet S u2 := trivial
  refine sf_X5_putHalf hJu2 (fun u4 hJu4 hfu4  => ?_)
  have hFu4 : F_X5_putOctet S u4 := trivial
  exact hq _ hJu4 hFu4 
set_option maxRecDepth 20000 in
set_option maxHeartbeats 1000000 in
theorem sf_X5_signAt {S : bT5} (hJ : J5 S) {a1 : Int32} {Q : Int32 → Prop} (hq : ∀ r : Int32, Q r) : wp_X5_signAt S a1 Q := by
  unfold wp_X5_signAt
  have jf1 := J5g_length hJ
  have rga1 := pt_rg a1
  refine ⟨fun c1 => ?_, fun c1 => ?_⟩
  · try simp (disch := first | ((try simp (disch := first | ((try simp only [pn]) <;> omega) | fail) only [pn, pq]) <;> omega) | fail) only [pn, pq] at c1
    exact hq _ 
  · try simp (disch := first | ((try simp (disch := first | ((try simp only [pn]) <;> omega) | fail) only [pn, pq]) <;> omega) | fail) only [pn, pq] at c1
    refine ⟨fun c2 => ?_, fun c2 => ?_⟩
    · try simp (disch := first | ((try simp (disch := first | ((try simp only [pn]) <;> omega) | fail) only [pn, pq]) <;> omega) | fail) only [pn, pq] at c2
      exact hq _ 
    · try simp (disch := first | ((try simp (disch := first | ((try simp only [pn]) <;> omega) | fail) only [pn, pq]) <;> omega) | fail) only [pn, pq] at c2
      refine ⟨pt_in (by (try simp (disch := first | ((try simp (disch := first | ((try simp only [pn]) <;> omega) | fail) only [pn, pq]) <;> omega) | fail) only [pn, pq]) <;> (intros; (try simp (disch := first | ((try simp (disch := first | ((try simp only [pn]) <;> omega) | fail) only [pn, pq]) <;> omega) | fail) only [pn, pq]) <;> omega)) (by (try simp (disch := first | ((try simp (disch := first | ((try simp only [pn]) <;> omega) | fail) only [pn, pq]) <;> omega) | fail) only [pn, pq]) <;> (intros; (try simp (disch := first | ((try simp (disch := first | ((try simp only [pn]) <;> omega) | fail) only [pn, pq]) <;> omega) | fail) only [pn, pq]) <;> omega)), ?_⟩
      exact hq _ 
def F_X6_addEdge (S u : bT6) : Prop := (b6g_nodeLevels u) = (b6g_nodeLevels S) ∧ (b6g_firstLeaves u) = (b6g_firstLeaves S) ∧ (b6g_leafCounts u) = (b6g_leafCounts S) ∧ (b6g_edgeStarts u) = (b6g_edgeStarts S) ∧ (b6g_levelStarts u) = (b6g_levelStarts S) ∧ (b6g_places u) = (b6g_places S) ∧ (b6g_leavesByPlace u) = (b6g_leavesByPlace S) ∧ (b6g_leafNodes u) = (b6g_leafNodes S) ∧ (b6g_nodes u) = (b6g_nodes S) ∧ (b6g_levels u) = (b6g_levels S) ∧ (b6g_upper u) = (b6g_upper S) ∧ (b6g_upperNodes u) = (b6g_upperNodes S) ∧ (b6g_itemStart u) = (b6g_itemStart S)
set_option maxRecDepth 20000 in
set_option maxHeartbeats 1000000 in
theorem sf_X6_addEdge {S : bT6} (hJ : J6 S) {a1 : Int32} {a2 : Int32} {a3 : Int32} {Q : (bT6) → Prop} (hq : ∀ u : bT6, (J6 u) → F_X6_addEdge S u → Q u) : wp_X6_addEdge S a1 a2 a3 Q := by
  unfold wp_X6_addEdge
  have hFS : F_X6_addEdge S S := ⟨rfl, rfl, rfl, rfl, rfl, rfl, rfl, rfl, rfl, rfl, rfl, rfl, rfl⟩
  have jf1 := J6g_edges hJ
  have rga1 := pt_rg a1
  have rga2 := pt_rg a2
  have rga3 := pt_rg a3
  refine ⟨fun c1 => ?_, fun c1 => ?_⟩
  · try simp (disch := first | ((try simp (disch := first | ((try simp only [pn]) <;> omega) | fail) only [pn, pq]) <;> omega) | fail) only [pn, pq] at c1
    exact hq _ hJ hFS 
  · try simp (disch := first | ((try simp (disch := first | ((try simp only [pn]) <;> omega) | fail) only [pn, pq]) <;> omega) | fail) only [pn, pq] at c1
    refine ⟨fun c2 => ?_, fun c2 => ?_⟩
    · try simp (disch := first | ((try simp (disch := first | ((try simp only [pn]) <;> omega) | fail) only [pn, pq]) <;> omega) | fail) only [pn, pq] at c2
      unfold wp_X6_addEdge_25
      intro S3 eS3
      have hJS3 : J6 S3 := by rw [eS3]; exact (J6s_children hJ)
      have hFS3 : F_X6_addEdge S S3 := by rw [eS3]; exact hFS
      have je2 : ((b6g_children S3)).toInt = (((b6g_children S) + (0 : Int32))).toInt := by rw [eS3]
      try simp (disch := first | ((try simp (disch := first | ((try simp only [pn]) <;> omega) | fail) only [pn, pq]) <;> omega) | fail) only [pn, pq] at je2
      have je3 : ((b6g_edges S3)).toInt = ((b6g_edges S)).toInt := by rw [eS3]
      have jf4 := J6g_edges hJS3
      refine ⟨pt_in (by (try simp (disch := first | ((try simp (disch := first | ((try simp only [pn]) <;> omega) | fail) only [pn, pq]) <;> omega) | fail) only [pn, pq]) <;> (intros; (try simp (disch := first | ((try simp (disch := first | ((try simp only [pn]) <;> omega) | fail) only [pn, pq]) <;> omega) | fail) only [pn, pq]) <;> omega)) (by (try simp (disch := first | ((try simp (disch := first | ((try simp only [pn]) <;> omega) | fail) only [pn, pq]) <;> omega) | fail) only [pn, pq]) <;> (intros; (try simp (disch := first | ((try simp (disch := first | ((try simp only [pn]) <;> omega) | fail) only [pn, pq]) <;> omega) | fail) only [pn, pq]) <;> omega)), ?_⟩
      intro S4 eS4
      have hJS4 : J6 S4 := by rw [eS4]; exact (J6s_edgeNodes hJS3)
      have hFS4 : F_X6_addEdge S S4 := by rw [eS4]; exact hFS3
      have je5 : ((b6g_children S4)).toInt = ((b6g_children S3)).toInt := by rw [eS4]
      have je6 : ((b6g_edges S4)).toInt = ((b6g_edges S3)).toInt := by rw [eS4]
      have jf7 := J6g_edges hJS4
      refine ⟨pt_in (by (try simp (disch := first | ((try simp (disch := first | ((try simp only [pn]) <;> omega) | fail) only [pn, pq]) <;> omega) | fail) only [pn, pq]) <;> (intros; (try simp (disch := first | ((try simp (disch := first | ((try simp only [pn]) <;> omega) | fail) only [pn, pq]) <;> omega) | fail) only [pn, pq]) <;> omega)) (by (try simp (disch := first | ((try simp (disch := first | ((try simp only [pn]) <;> omega) | fail) only [pn, pq]) <;> omega) | fail) only [pn, pq]) <;> (intros; (try simp (disch := first | ((try simp (disch := first | ((try simp only [pn]) <;> omega) | fail) only [pn, pq]) <;> omega) | fail) only [pn, pq]) <;> omega)), ?_⟩
      intro S5 eS5
      have hJS5 : J6 S5 := by rw [eS5]; exact (J6s_edgeOctets hJS4)
      have hFS5 : F_X6_addEdge S S5 := by rw [eS5]; exact hFS4
      have je8 : ((b6g_children S5)).toInt = ((b6g_children S4)).toInt := by rw [eS5]
      have je9 : ((b6g_edges S5)).toInt = ((b6g_edges S4)).toInt := by rw [eS5]
      have jf10 := J6g_edges hJS5
      refine ⟨pt_in (by (try simp (disch := first | ((try simp (disch := first | ((try simp only [pn]) <;> omega) | fail) only [pn, pq]) <;> omega) | fail) only [pn, pq]) <;> (intros; (try simp (disch := first | ((try simp (disch := first | ((try simp only [pn]) <;> omega) | fail) only [pn, pq]) <;> omega) | fail) only [pn, pq]) <;> omega)) (by (try simp (disch := first | ((try simp (disch := first | ((try simp only [pn]) <;> omega) | fail) only [pn, pq]) <;> omega) | fail) only [pn, pq]) <;> (intros; (try simp (disch := first | ((try simp (disch := first | ((try simp only [pn]) <;> omega) | fail) only [pn, pq]) <;> omega) | fail) only [pn, pq]) <;> omega)), ?_⟩
      intro S6 eS6
      have hJS6 : J6 S6 := by rw [eS6]; exact (J6s_edgeLeaves hJS5)
      have hFS6 : F_X6_addEdge S S6 := by rw [eS6]; exact hFS5
      have je11 : ((b6g_children S6)).toInt = ((b6g_children S5)).toInt := by rw [eS6]
      have je12 : ((b6g_edges S6)).toInt = ((b6g_edges S5)).toInt := by rw [eS6]
      have jf13 := J6g_edges hJS6
      refine ⟨fun c7 => ?_, fun c7 => ?_⟩
      · try simp (disch := first | ((try simp (disch := first | ((try simp only [pn]) <;> omega) | fail) only [pn, pq]) <;> omega) | fail) only [pn, pq] at c7
        unfold wp_X6_addEdge_80
        refine ⟨pt_in (by (try simp (disch := first | ((try simp (disch := first | ((try simp only [pn]) <;> omega) | fail) only [pn, pq]) <;> omega) | fail) only [pn, pq]) <;> (intros; (try simp (disch := first | ((try simp (disch := first | ((try simp only [pn]) <;> omega) | fail) only [pn, pq]) <;> omega) | fail) only [pn, pq]) <;> omega)) (by (try simp (disch := first | ((try simp (disch := first | ((try simp only [pn]) <;> omega) | fail) only [pn, pq]) <;> omega) | fail) only [pn, pq]) <;> (intros; (try simp (disch := first | ((try simp (disch := first | ((try simp only [pn]) <;> omega) | fail) only [pn, pq]) <;> omega) | fail) only [pn, pq]) <;> omega)), ?_⟩
        intro S8 eS8
        have hJS8 : J6 S8 := by rw [eS8]; exact (J6s_edgeChildren hJS6)
        have hFS8 : F_X6_addEdge S S8 := by rw [eS8]; exact hFS6
        have je14 : ((b6g_children S8)).toInt = ((b6g_children S6)).toInt := by rw [eS8]
        have je15 : ((b6g_edges S8)).toInt = ((b6g_edges S6)).toInt := by rw [eS8]
        have jf16 := J6g_edges hJS8
        intro S9 eS9
        have hJS9 : J6 S9 := by rw [eS9]; exact (J6s_edges hJS8 ⟨(by (try simp (disch := first | ((try simp (disch := first | ((try simp only [pn]) <;> omega) | fail) only [pn, pq]) <;> omega) | fail) only [pn, pq]) <;> (intros; (try simp (disch := first | ((try simp (disch := first | ((try simp only [pn]) <;> omega) | fail) only [pn, pq]) <;> omega) | fail) only [pn, pq]) <;> omega)), (by (try simp (disch := first | ((try simp (disch := first | ((try simp only [pn]) <;> omega) | fail) only [pn, pq]) <;> omega) | fail) only [pn, pq]) <;> (intros; (try simp (disch := first | ((try simp (disch := first | ((try simp only [pn]) <;> omega) | fail) only [pn, pq]) <;> omega) | fail) only [pn, pq]) <;> omega))⟩)
        have hFS9 : F_X6_addEdge S S9 := by rw [eS9]; exact hFS8
        have je17 : ((b6g_children S9)).toInt = ((b6g_children S8)).toInt := by rw [eS9]
        have je18 : ((b6g_edges S9)).toInt = (((b6g_edges S8) + (1 : Int32))).toInt := by rw [eS9]
        try simp (disch := first | ((try simp (disch := first | ((try simp only [pn]) <;> omega) | fail) only [pn, pq]) <;> omega) | fail) only [pn, pq] at je18
        have jf19 := J6g_edges hJS9
        exact hq _ hJS9 hFS9 
      · try simp (disch := first | ((try simp (disch := first | ((try simp only [pn]) <;> omega) | fail) only [pn, pq]) <;> omega) | fail) only [pn, pq] at c7
        unfold wp_X6_addEdge_80
        refine ⟨pt_in (by (try simp (disch := first | ((try simp (disch := first | ((try simp only [pn]) <;> omega) | fail) only [pn, pq]) <;> omega) | fail) only [pn, pq]) <;> (intros; (try simp (disch := first | ((try simp (disch := first | ((try simp only [pn]) <;> omega) | fail) only [pn, pq]) <;> omega) | fail) only [pn, pq]) <;> omega)) (by (try simp (disch := first | ((try simp (disch := first | ((try simp only [pn]) <;> omega) | fail) only [pn, pq]) <;> omega) | fail) only [pn, pq]) <;> (intros; (try simp (disch := first | ((try simp (disch := first | ((try simp only [pn]) <;> omega) | fail) only [pn, pq]) <;> omega) | fail) only [pn, pq]) <;> omega)), ?_⟩
        intro S10 eS10
        have hJS10 : J6 S10 := by rw [eS10]; exact (J6s_edgeChildren hJS6)
        have hFS10 : F_X6_addEdge S S10 := by rw [eS10]; exact hFS6
        have je20 : ((b6g_children S10)).toInt = ((b6g_children S6)).toInt := by rw [eS10]
        have je21 : ((b6g_edges S10)).toInt = ((b6g_edges S6)).toInt := by rw [eS10]
        have jf22 := J6g_edges hJS10
        intro S11 eS11
        have hJS11 : J6 S11 := by rw [eS11]; exact (J6s_edges hJS10 ⟨(by (try simp (disch := first | ((try simp (disch := first | ((try simp only [pn]) <;> omega) | fail) only [pn, pq]) <;> omega) | fail) only [pn, pq]) <;> (intros; (try simp (disch := first | ((try simp (disch := first | ((try simp only [pn]) <;> omega) | fail) only [pn, pq]) <;> omega) | fail) only [pn, pq]) <;> omega)), (by (try simp (disch := first | ((try simp (disch := first | ((try simp only [pn]) <;> omega) | fail) only [pn, pq]) <;> omega) | fail) only [pn, pq]) <;> (intros; (try simp (disch := first | ((try simp (disch := first | ((try simp only [pn]) <;> omega) | fail) only [pn, pq]) <;> omega) | fail) only [pn, pq]) <;> omega))⟩)
        have hFS11 : F_X6_addEdge S S11 := by rw [eS11]; exact hFS10
        have je23 : ((b6g_children S11)).toInt = ((b6g_children S10)).toInt := by rw [eS11]
        have je24 : ((b6g_edges S11)).toInt = (((b6g_edges S10) + (1 : Int32))).toInt := by rw [eS11]
        try simp (disch := first | ((try simp (disch := first | ((try simp only [pn]) <;> omega) | fail) only [pn, pq]) <;> omega) | fail) only [pn, pq] at je24
        have jf25 := J6g_edges hJS11
        exact hq _ hJS11 hFS11 
    · try simp (disch := first | ((try simp (disch := first | ((try simp only [pn]) <;> omega) | fail) only [pn, pq]) <;> omega) | fail) only [pn, pq] at c2
      unfold wp_X6_addEdge_25
      intro S12 eS12
      have hJS12 : J6 S12 := by rw [eS12]; exact (J6s_children hJ)
      have hFS12 : F_X6_addEdge S S12 := by rw [eS12]; exact hFS
      have je26 : ((b6g_children S12)).toInt = (((b6g_children S) + (1 : Int32))).toInt := by rw [eS12]
      try simp (disch := first | ((try simp (disch := first | ((try simp only [pn]) <;> omega) | fail) only [pn, pq]) <;> omega) | fail) only [pn, pq] at je26
      have je27 : ((b6g_edges S12)).toInt = ((b6g_edges S)).toInt := by rw [eS12]
      have jf28 := J6g_edges hJS12
      refine ⟨pt_in (by (try simp (disch := first | ((try simp (disch := first | ((try simp only [pn]) <;> omega) | fail) only [pn, pq]) <;> omega) | fail) only [pn, pq]) <;> (intros; (try simp (disch := first | ((try simp (disch := first | ((try simp only [pn]) <;> omega) | fail) only [pn, pq]) <;> omega) | fail) only [pn, pq]) <;> omega)) (by (try simp (disch := first | ((try simp (disch := first | ((try simp only [pn]) <;> omega) | fail) only [pn, pq]) <;> omega) | fail) only [pn, pq]) <;> (intros; (try simp (disch := first | ((try simp (disch := first | ((try simp only [pn]) <;> omega) | fail) only [pn, pq]) <;> omega) | fail) only [pn, pq]) <;> omega)), ?_⟩
      intro S13 eS13
      have hJS13 : J6 S13 := by rw [eS13]; exact (J6s_edgeNodes hJS12)
      have hFS13 : F_X6_addEdge S S13 := by rw [eS13]; exact hFS12
      have je29 : ((b6g_children S13)).toInt = ((b6g_children S12)).toInt := by rw [eS13]
      have je30 : ((b6g_edges S13)).toInt = ((b6g_edges S12)).toInt := by rw [eS13]
      have jf31 := J6g_edges hJS13
      refine ⟨pt_in (by (try simp (disch := first | ((try simp (disch := first | ((try simp only [pn]) <;> omega) | fail) only [pn, pq]) <;> omega) | fail) only [pn, pq]) <;> (intros; (try simp (disch := first | ((try simp (disch := first | ((try simp only [pn]) <;> omega) | fail) only [pn, pq]) <;> omega) | fail) only [pn, pq]) <;> omega)) (by (try simp (disch := first | ((try simp (disch := first | ((try simp only [pn]) <;> omega) | fail) only [pn, pq]) <;> omega) | fail) only [pn, pq]) <;> (intros; (try simp (disch := first | ((try simp (disch := first | ((try simp only [pn]) <;> omega) | fail) only [pn, pq]) <;> omega) | fail) only [pn, pq]) <;> omega)), ?_⟩
      intro S14 eS14
      have hJS14 : J6 S14 := by rw [eS14]; exact (J6s_edgeOctets hJS13)
      have hFS14 : F_X6_addEdge S S14 := by rw [eS14]; exact hFS13
      have je32 : ((b6g_children S14)).toInt = ((b6g_children S13)).toInt := by rw [eS14]
      have je33 : ((b6g_edges S14)).toInt = ((b6g_edges S13)).toInt := by rw [eS14]
      have jf34 := J6g_edges hJS14
      refine ⟨pt_in (by (try simp (disch := first | ((try simp (disch := first | ((try simp only [pn]) <;> omega) | fail) only [pn, pq]) <;> omega) | fail) only [pn, pq]) <;> (intros; (try simp (disch := first | ((try simp (disch := first | ((try simp only [pn]) <;> omega) | fail) only [pn, pq]) <;> omega) | fail) only [pn, pq]) <;> omega)) (by (try simp (disch := first | ((try simp (disch := first | ((try simp only [pn]) <;> omega) | fail) only [pn, pq]) <;> omega) | fail) only [pn, pq]) <;> (intros; (try simp (disch := first | ((try simp (disch := first | ((try simp only [pn]) <;> omega) | fail) only [pn, pq]) <;> omega) | fail) only [pn, pq]) <;> omega)), ?_⟩
      intro S15 eS15
      have hJS15 : J6 S15 := by rw [eS15]; exact (J6s_edgeLeaves hJS14)
      have hFS15 : F_X6_addEdge S S15 := by rw [eS15]; exact hFS14
      have je35 : ((b6g_children S15)).toInt = ((b6g_children S14)).toInt := by rw [eS15]
      have je36 : ((b6g_edges S15)).toInt = ((b6g_edges S14)).toInt := by rw [eS15]
      have jf37 := J6g_edges hJS15
      refine ⟨fun c16 => ?_, fun c16 => ?_⟩
      · try simp (disch := first | ((try simp (disch := first | ((try simp only [pn]) <;> omega) | fail) only [pn, pq]) <;> omega) | fail) only [pn, pq] at c16
        unfold wp_X6_addEdge_80
        refine ⟨pt_in (by (try simp (disch := first | ((try simp (disch := first | ((try simp only [pn]) <;> omega) | fail) only [pn, pq]) <;> omega) | fail) only [pn, pq]) <;> (intros; (try simp (disch := first | ((try simp (disch := first | ((try simp only [pn]) <;> omega) | fail) only [pn, pq]) <;> omega) | fail) only [pn, pq]) <;> omega)) (by (try simp (disch := first | ((try simp (disch := first | ((try simp only [pn]) <;> omega) | fail) only [pn, pq]) <;> omega) | fail) only [pn, pq]) <;> (intros; (try simp (disch := first | ((try simp (disch := first | ((try simp only [pn]) <;> omega) | fail) only [pn, pq]) <;> omega) | fail) only [pn, pq]) <;> omega)), ?_⟩
        intro S17 eS17
        have hJS17 : J6 S17 := by rw [eS17]; exact (J6s_edgeChildren hJS15)
        have hFS17 : F_X6_addEdge S S17 := by rw [eS17]; exact hFS15
        have je38 : ((b6g_children S17)).toInt = ((b6g_children S15)).toInt := by rw [eS17]
        have je39 : ((b6g_edges S17)).toInt = ((b6g_edges S15)).toInt := by rw [eS17]
        have jf40 := J6g_edges hJS17
        intro S18 eS18
        have hJS18 : J6 S18 := by rw [eS18]; exact (J6s_edges hJS17 ⟨(by (try simp (disch := first | ((try simp (disch := first | ((try simp only [pn]) <;> omega) | fail) only [pn, pq]) <;> omega) | fail) only [pn, pq]) <;> (intros; (try simp (disch := first | ((try simp (disch := first | ((try simp only [pn]) <;> omega) | fail) only [pn, pq]) <;> omega) | fail) only [pn, pq]) <;> omega)), (by (try simp (disch := first | ((try simp (disch := first | ((try simp only [pn]) <;> omega) | fail) only [pn, pq]) <;> omega) | fail) only [pn, pq]) <;> (intros; (try simp (disch := first | ((try simp (disch := first | ((try simp only [pn]) <;> omega) | fail) only [pn, pq]) <;> omega) | fail) only [pn, pq]) <;> omega))⟩)
        have hFS18 : F_X6_addEdge S S18 := by rw [eS18]; exact hFS17
        have je41 : ((b6g_children S18)).toInt = ((b6g_children S17)).toInt := by rw [eS18]
        have je42 : ((b6g_edges S18)).toInt = (((b6g_edges S17) + (1 : Int32))).toInt := by rw [eS18]
        try simp (disch := first | ((try simp (disch := first | ((try simp only [pn]) <;> omega) | fail) only [pn, pq]) <;> omega) | fail) only [pn, pq] at je42
        have jf43 := J6g_edges hJS18
        exact hq _ hJS18 hFS18 
      · try simp (disch := first | ((try simp (disch := first | ((try simp only [pn]) <;> omega) | fail) only [pn, pq]) <;> omega) | fail) only [pn, pq] at c16
        unfold wp_X6_addEdge_80
        refine ⟨pt_in (by (try simp (disch := first | ((try simp (disch := first | ((try simp only [pn]) <;> omega) | fail) only [pn, pq]) <;> omega) | fail) only [pn, pq]) <;> (intros; (try simp (disch := first | ((try simp (disch := first | ((try simp only [pn]) <;> omega) | fail) only [pn, pq]) <;> omega) | fail) only [pn, pq]) <;> omega)) (by (try simp (disch := first | ((try simp (disch := first | ((try simp only [pn]) <;> omega) | fail) only [pn, pq]) <;> omega) | fail) only [pn, pq]) <;> (intros; (try simp (disch := first | ((try simp (disch := first | ((try simp only [pn]) <;> omega) | fail) only [pn, pq]) <;> omega) | fail) only [pn, pq]) <;> omega)), ?_⟩
        intro S19 eS19
        have hJS19 : J6 S19 := by rw [eS19]; exact (J6s_edgeChildren hJS15)
        have hFS19 : F_X6_addEdge S S19 := by rw [eS19]; exact hFS15
        have je44 : ((b6g_children S19)).toInt = ((b6g_children S15)).toInt := by rw [eS19]
        have je45 : ((b6g_edges S19)).toInt = ((b6g_edges S15)).toInt := by rw [eS19]
        have jf46 := J6g_edges hJS19
        intro S20 eS20
        have hJS20 : J6 S20 := by rw [eS20]; exact (J6s_edges hJS19 ⟨(by (try simp (disch := first | ((try simp (disch := first | ((try simp only [pn]) <;> omega) | fail) only [pn, pq]) <;> omega) | fail) only [pn, pq]) <;> (intros; (try simp (disch := first | ((try simp (disch := first | ((try simp only [pn]) <;> omega) | fail) only [pn, pq]) <;> omega) | fail) only [pn, pq]) <;> omega)), (by (try simp (disch := first | ((try simp (disch := first | ((try simp only [pn]) <;> omega) | fail) only [pn, pq]) <;> omega) | fail) only [pn, pq]) <;> (intros; (try simp (disch := first | ((try simp (disch := first | ((try simp only [pn]) <;> omega) | fail) only [pn, pq]) <;> omega) | fail) only [pn, pq]) <;> omega))⟩)
        have hFS20 : F_X6_addEdge S S20 := by rw [eS20]; exact hFS19
        have je47 : ((b6g_children S20)).toInt = ((b6g_children S19)).toInt := by rw [eS20]
        have je48 : ((b6g_edges S20)).toInt = (((b6g_edges S19) + (1 : Int32))).toInt := by rw [eS20]
        try simp (disch := first | ((try simp (disch := first | ((try simp only [pn]) <;> omega) | fail) only [pn, pq]) <;> omega) | fail) only [pn, pq] at je48
        have jf49 := J6g_edges hJS20
        exact hq _ hJS20 hFS20 
def F_X6_findEdgesOf (S u : bT6 × bT1) : Prop := (b6g_nodeLevels u.1) = (b6g_nodeLevels S.1) ∧ (b6g_firstLeaves u.1) = (b6g_firstLeaves S.1) ∧ (b6g_leafCounts u.1) = (b6g_leafCounts S.1) ∧ (b6g_edgeStarts u.1) = (b6g_edgeStarts S.1) ∧ (b6g_levelStarts u.1) = (b6g_levelStarts S.1) ∧ (b6g_places u.1) = (b6g_places S.1) ∧ (b6g_leavesByPlace u.1) = (b6g_leavesByPlace S.1) ∧ (b6g_leafNodes u.1) = (b6g_leafNodes S.1) ∧ (b6g_nodes u.1) = (b6g_nodes S.1) ∧ (b6g_levels u.1) = (b6g_levels S.1) ∧ (b6g_upper u.1) = (b6g_upper S.1) ∧ (b6g_upperNodes u.1) = (b6g_upperNodes S.1) ∧ (b6g_itemStart u.1) = (b6g_itemStart S.1) ∧ u.2 = S.2
set_option maxRecDepth 20000 in
set_option maxHeartbeats 1000000 in
theorem sf_X6_findEdgesOf {S : bT6 × bT1} (hJ : J6 S.1 ∧ J1 S.2) {a1 : Int32} {Q : (bT6 × bT1) → Prop} (hq : ∀ u : bT6 × bT1, (J6 u.1 ∧ J1 u.2) → F_X6_findEdgesOf S u → Q u) : wp_X6_findEdgesOf S a1 Q := by
  unfold wp_X6_findEdgesOf
  have hFS : F_X6_findEdgesOf S S := ⟨rfl, rfl, rfl, rfl, rfl, rfl, rfl, rfl, rfl, rfl, rfl, rfl, rfl, rfl⟩
  have rga1 := pt_rg a1
  refine sf_X8_at (by decide) (fun r1 hr1_0 => ?_)
  have rgr1 := pt_rg r1
  try simp (disch := first | ((try simp (disch := first | ((try simp only [pn]) <;> omega) | fail) only [pn, pq]) <;> omega) | fail) only [pn, pq] at hr1_0
  refine sf_X8_at (by decide) (fun r3 hr3_0 => ?_)
  have rgr3 := pt_rg r3
  try simp (disch := first | ((try simp (disch := first | ((try simp only [pn]) <;> omega) | fail) only [pn, pq]) <;> omega) | fail) only [pn, pq] at hr3_0
  refine sf_X8_at (by decide) (fun r5 hr5_0 => ?_)
  have rgr5 := pt_rg r5
  try simp (disch := first | ((try simp (disch := first | ((try simp only [pn]) <;> omega) | fail) only [pn, pq]) <;> omega) | fail) only [pn, pq] at hr5_0
  refine ⟨fun n x1q7 x3q7 x5q7 x6q7 x7q7 Sq7 => (J6 Sq7.1 ∧ J1 Sq7.2) ∧ (F_X6_findEdgesOf S Sq7) ∧ (x1q7 = a1) ∧ (x3q7 = r1) ∧ (x5q7 = (r3 + r5)) ∧ n = ((x5q7).toInt - (x7q7).toInt).toNat, ⟨_, hJ, hFS, rfl, rfl, rfl, rfl⟩, ?_⟩
  rintro n8 x1q7 x3q7 x5q7 x6q7 x7q7 Sq7 ⟨hJSq7, hFSq7, hkq7_0, hkq7_1, hkq7_2, hn8⟩
  subst hkq7_0
  subst hkq7_1
  have hcq7_2 := congrArg Int32.toInt hkq7_2
  try simp (disch := first | ((try simp (disch := first | ((try simp only [pn]) <;> omega) | fail) only [pn, pq]) <;> omega) | fail) only [pn, pq] at hcq7_2
  have rgx1q7 := pt_rg x1q7
  have rgx3q7 := pt_rg x3q7
  have rgx5q7 := pt_rg x5q7
  have rgx6q7 := pt_rg x6q7
  have rgx7q7 := pt_rg x7q7
  unfold wp_X6_findEdgesOf_39b
  refine ⟨fun c9 => ?_, fun c9 => ?_⟩
  · try simp (disch := first | ((try simp (disch := first | ((try simp only [pn]) <;> omega) | fail) only [pn, pq]) <;> omega) | fail) only [pn, pq] at c9
    exact hq _ hJSq7 hFSq7 
  · try simp (disch := first | ((try simp (disch := first | ((try simp only [pn]) <;> omega) | fail) only [pn, pq]) <;> omega) | fail) only [pn, pq] at c9
    refine sf_X1_lengthAt hJSq7.2 (fun r10 hr10_0 => ?_)
    have rgr10 := pt_rg r10
    try simp (disch := first | ((try simp (disch := first | ((try simp only [pn]) <;> omega) | fail) only [pn, pq]) <;> omega) | fail) only [pn, pq] at hr10_0
    refine ⟨fun c12 => ?_, fun c12 => ?_⟩
    · try simp (disch := first | ((try simp (disch := first | ((try simp only [pn]) <;> omega) | fail) only [pn, pq]) <;> omega) | fail) only [pn, pq] at c12
      refine sf_X0_bytesAt (J1g_owners hJSq7.2) (fun r13  => ?_)
      refine sf_X8_octetAt  (fun r15  => ?_)
      have rgr15 := pt_rg r15
      refine ⟨fun c17 => ?_, fun c17 => ?_⟩
      · try simp (disch := first | ((try simp (disch := first | ((try simp only [pn]) <;> omega) | fail) only [pn, pq]) <;> omega) | fail) only [pn, pq] at c17
        unfold wp_X6_findEdgesOf_135
        unfold wp_X6_findEdgesOf_139
        refine ⟨_, ?_, ?_, ?_, ?_, ?_, ?_, rfl⟩
        · (try simp (disch := first | ((try simp (disch := first | ((try simp only [pn]) <;> omega) | fail) only [pn, pq]) <;> omega) | fail) only [pn, pq]) <;> (intros; (try simp (disch := first | ((try simp (disch := first | ((try simp only [pn]) <;> omega) | fail) only [pn, pq]) <;> omega) | fail) only [pn, pq]) <;> omega)
        · exact hJSq7
        · exact hFSq7
        · first | rfl | assumption
        · first | rfl | assumption
        · first | rfl | assumption
      · try simp (disch := first | ((try simp (disch := first | ((try simp only [pn]) <;> omega) | fail) only [pn, pq]) <;> omega) | fail) only [pn, pq] at c17
        refine sf_X1_lengthAt hJSq7.2 (fun r18 hr18_0 => ?_)
        have rgr18 := pt_rg r18
        try simp (disch := first | ((try simp (disch := first | ((try simp only [pn]) <;> omega) | fail) only [pn, pq]) <;> omega) | fail) only [pn, pq] at hr18_0
        refine ⟨fun c20 => ?_, fun c20 => ?_⟩
        · try simp (disch := first | ((try simp (disch := first | ((try simp only [pn]) <;> omega) | fail) only [pn, pq]) <;> omega) | fail) only [pn, pq] at c20
          unfold wp_X6_findEdgesOf_114
          unfold wp_X6_findEdgesOf_115
          refine ⟨fun c21 => ?_, fun c21 => ?_⟩
          · skip
            unfold wp_X6_findEdgesOf_132
            refine sf_X6_addEdge hJSq7.1 (fun u23 hJu23 hfu23  => ?_)
            intro S24 eS24
            have hGS24 : F_X6_findEdgesOf S S24 := by
              rw [eS24]
              exact ⟨(congrArg (fun z => z) hfu23.1).trans hFSq7.1, (congrArg (fun z => z) hfu23.2.1).trans hFSq7.2.1, (congrArg (fun z => z) hfu23.2.2.1).trans hFSq7.2.2.1, (congrArg (fun z => z) hfu23.2.2.2.1).trans hFSq7.2.2.2.1, (congrArg (fun z => z) hfu23.2.2.2.2.1).trans hFSq7.2.2.2.2.1, (congrArg (fun z => z) hfu23.2.2.2.2.2.1).trans hFSq7.2.2.2.2.2.1, (congrArg (fun z => z) hfu23.2.2.2.2.2.2.1).trans hFSq7.2.2.2.2.2.2.1, (congrArg (fun z => z) hfu23.2.2.2.2.2.2.2.1).trans hFSq7.2.2.2.2.2.2.2.1, (congrArg (fun z => z) hfu23.2.2.2.2.2.2.2.2.1).trans hFSq7.2.2.2.2.2.2.2.2.1, (congrArg (fun z => z) hfu23.2.2.2.2.2.2.2.2.2.1).trans hFSq7.2.2.2.2.2.2.2.2.2.1, (congrArg (fun z => z) hfu23.2.2.2.2.2.2.2.2.2.2.1).trans hFSq7.2.2.2.2.2.2.2.2.2.2.1, (congrArg (fun z => z) hfu23.2.2.2.2.2.2.2.2.2.2.2.1).trans hFSq7.2.2.2.2.2.2.2.2.2.2.2.1, (congrArg (fun z => z) hfu23.2.2.2.2.2.2.2.2.2.2.2.2).trans hFSq7.2.2.2.2.2.2.2.2.2.2.2.2.1, hFSq7.2.2.2.2.2.2.2.2.2.2.2.2.2⟩
            have hJS24 : J6 S24.1 ∧ J1 S24.2 := by rw [eS24]; exact ⟨hJu23, hJSq7.2⟩
            have hFS24 : F_X6_findEdgesOf S S24 := hGS24
            unfold wp_X6_findEdgesOf_135
            unfold wp_X6_findEdgesOf_139
            refine ⟨_, ?_, ?_, ?_, ?_, ?_, ?_, rfl⟩
            · (try simp (disch := first | ((try simp (disch := first | ((try simp only [pn]) <;> omega) | fail) only [pn, pq]) <;> omega) | fail) only [pn, pq]) <;> (intros; (try simp (disch := first | ((try simp (disch := first | ((try simp only [pn]) <;> omega) | fail) only [pn, pq]) <;> omega) | fail) only [pn, pq]) <;> omega)
            · exact hJS24
            · exact hFS24
            · first | rfl | assumption
            · first | rfl | assumption
            · first | rfl | assumption
          · exact absurd c21 (by decide)
        · try simp (disch := first | ((try simp (disch := first | ((try simp only [pn]) <;> omega) | fail) only [pn, pq]) <;> omega) | fail) only [pn, pq] at c20
          refine sf_X1_isEnded hJSq7.2 (fun r25 hzr25  => ?_)
          refine ⟨fun c27 => ?_, fun c27 => ?_⟩
          · try simp (disch := first | ((try simp (disch := first | ((try simp only [pn]) <;> omega) | fail) only [pn, pq]) <;> omega) | fail) only [pn, pq] at c27
            unfold wp_X6_findEdgesOf_114
            unfold wp_X6_findEdgesOf_115
            refine ⟨fun c28 => ?_, fun c28 => ?_⟩
            · skip
              unfold wp_X6_findEdgesOf_132
              refine sf_X6_addEdge hJSq7.1 (fun u30 hJu30 hfu30  => ?_)
              intro S31 eS31
              have hGS31 : F_X6_findEdgesOf S S31 := by
                rw [eS31]
                exact ⟨(congrArg (fun z => z) hfu30.1).trans hFSq7.1, (congrArg (fun z => z) hfu30.2.1).trans hFSq7.2.1, (congrArg (fun z => z) hfu30.2.2.1).trans hFSq7.2.2.1, (congrArg (fun z => z) hfu30.2.2.2.1).trans hFSq7.2.2.2.1, (congrArg (fun z => z) hfu30.2.2.2.2.1).trans hFSq7.2.2.2.2.1, (congrArg (fun z => z) hfu30.2.2.2.2.2.1).trans hFSq7.2.2.2.2.2.1, (congrArg (fun z => z) hfu30.2.2.2.2.2.2.1).trans hFSq7.2.2.2.2.2.2.1, (congrArg (fun z => z) hfu30.2.2.2.2.2.2.2.1).trans hFSq7.2.2.2.2.2.2.2.1, (congrArg (fun z => z) hfu30.2.2.2.2.2.2.2.2.1).trans hFSq7.2.2.2.2.2.2.2.2.1, (congrArg (fun z => z) hfu30.2.2.2.2.2.2.2.2.2.1).trans hFSq7.2.2.2.2.2.2.2.2.2.1, (congrArg (fun z => z) hfu30.2.2.2.2.2.2.2.2.2.2.1).trans hFSq7.2.2.2.2.2.2.2.2.2.2.1, (congrArg (fun z => z) hfu30.2.2.2.2.2.2.2.2.2.2.2.1).trans hFSq7.2.2.2.2.2.2.2.2.2.2.2.1, (congrArg (fun z => z) hfu30.2.2.2.2.2.2.2.2.2.2.2.2).trans hFSq7.2.2.2.2.2.2.2.2.2.2.2.2.1, hFSq7.2.2.2.2.2.2.2.2.2.2.2.2.2⟩
              have hJS31 : J6 S31.1 ∧ J1 S31.2 := by rw [eS31]; exact ⟨hJu30, hJSq7.2⟩
              have hFS31 : F_X6_findEdgesOf S S31 := hGS31
              unfold wp_X6_findEdgesOf_135
              unfold wp_X6_findEdgesOf_139
              refine ⟨_, ?_, ?_, ?_, ?_, ?_, ?_, rfl⟩
              · (try simp (disch := first | ((try simp (disch := first | ((try simp only [pn]) <;> omega) | fail) only [pn, pq]) <;> omega) | fail) only [pn, pq]) <;> (intros; (try simp (disch := first | ((try simp (disch := first | ((try simp only [pn]) <;> omega) | fail) only [pn, pq]) <;> omega) | fail) only [pn, pq]) <;> omega)
              · exact hJS31
              · exact hFS31
              · first | rfl | assumption
              · first | rfl | assumption
              · first | rfl | assumption
            · exact absurd c28 (by decide)
          · try simp (disch := first | ((try simp (disch := first | ((try simp only [pn]) <;> omega) | fail) only [pn, pq]) <;> omega) | fail) only [pn, pq] at c27
            unfold wp_X6_findEdgesOf_115
            refine ⟨fun c32 => ?_, fun c32 => ?_⟩
            · exact absurd c32 (by decide)
            · skip
              unfold wp_X6_findEdgesOf_132
              refine sf_X6_addEdge hJSq7.1 (fun u34 hJu34 hfu34  => ?_)
              intro S35 eS35
              have hGS35 : F_X6_findEdgesOf S S35 := by
                rw [eS35]
                exact ⟨(congrArg (fun z => z) hfu34.1).trans hFSq7.1, (congrArg (fun z => z) hfu34.2.1).trans hFSq7.2.1, (congrArg (fun z => z) hfu34.2.2.1).trans hFSq7.2.2.1, (congrArg (fun z => z) hfu34.2.2.2.1).trans hFSq7.2.2.2.1, (congrArg (fun z => z) hfu34.2.2.2.2.1).trans hFSq7.2.2.2.2.1, (congrArg (fun z => z) hfu34.2.2.2.2.2.1).trans hFSq7.2.2.2.2.2.1, (congrArg (fun z => z) hfu34.2.2.2.2.2.2.1).trans hFSq7.2.2.2.2.2.2.1, (congrArg (fun z => z) hfu34.2.2.2.2.2.2.2.1).trans hFSq7.2.2.2.2.2.2.2.1, (congrArg (fun z => z) hfu34.2.2.2.2.2.2.2.2.1).trans hFSq7.2.2.2.2.2.2.2.2.1, (congrArg (fun z => z) hfu34.2.2.2.2.2.2.2.2.2.1).trans hFSq7.2.2.2.2.2.2.2.2.2.1, (congrArg (fun z => z) hfu34.2.2.2.2.2.2.2.2.2.2.1).trans hFSq7.2.2.2.2.2.2.2.2.2.2.1, (congrArg (fun z => z) hfu34.2.2.2.2.2.2.2.2.2.2.2.1).trans hFSq7.2.2.2.2.2.2.2.2.2.2.2.1, (congrArg (fun z => z) hfu34.2.2.2.2.2.2.2.2.2.2.2.2).trans hFSq7.2.2.2.2.2.2.2.2.2.2.2.2.1, hFSq7.2.2.2.2.2.2.2.2.2.2.2.2.2⟩
              have hJS35 : J6 S35.1 ∧ J1 S35.2 := by rw [eS35]; exact ⟨hJu34, hJSq7.2⟩
              have hFS35 : F_X6_findEdgesOf S S35 := hGS35
              unfold wp_X6_findEdgesOf_135
              unfold wp_X6_findEdgesOf_139
              refine ⟨_, ?_, ?_, ?_, ?_, ?_, ?_, rfl⟩
              · (try simp (disch := first | ((try simp (disch := first | ((try simp only [pn]) <;> omega) | fail) only [pn, pq]) <;> omega) | fail) only [pn, pq]) <;> (intros; (try simp (disch := first | ((try simp (disch := first | ((try simp only [pn]) <;> omega) | fail) only [pn, pq]) <;> omega) | fail) only [pn, pq]) <;> omega)
              · exact hJS35
              · exact hFS35
              · first | rfl | assumption
              · first | rfl | assumption
              · first | rfl | assumption
    · try simp (disch := first | ((try simp (disch := first | ((try simp only [pn]) <;> omega) | fail) only [pn, pq]) <;> omega) | fail) only [pn, pq] at c12
      refine sf_X6_addEdge hJSq7.1 (fun u37 hJu37 hfu37  => ?_)
      intro S38 eS38
      have hGS38 : F_X6_findEdgesOf S S38 := by
        rw [eS38]
        exact ⟨(congrArg (fun z => z) hfu37.1).trans hFSq7.1, (congrArg (fun z => z) hfu37.2.1).trans hFSq7.2.1, (congrArg (fun z => z) hfu37.2.2.1).trans hFSq7.2.2.1, (congrArg (fun z => z) hfu37.2.2.2.1).trans hFSq7.2.2.2.1, (congrArg (fun z => z) hfu37.2.2.2.2.1).trans hFSq7.2.2.2.2.1, (congrArg (fun z => z) hfu37.2.2.2.2.2.1).trans hFSq7.2.2.2.2.2.1, (congrArg (fun z => z) hfu37.2.2.2.2.2.2.1).trans hFSq7.2.2.2.2.2.2.1, (congrArg (fun z => z) hfu37.2.2.2.2.2.2.2.1).trans hFSq7.2.2.2.2.2.2.2.1, (congrArg (fun z => z) hfu37.2.2.2.2.2.2.2.2.1).trans hFSq7.2.2.2.2.2.2.2.2.1, (congrArg (fun z => z) hfu37.2.2.2.2.2.2.2.2.2.1).trans hFSq7.2.2.2.2.2.2.2.2.2.1, (congrArg (fun z => z) hfu37.2.2.2.2.2.2.2.2.2.2.1).trans hFSq7.2.2.2.2.2.2.2.2.2.2.1, (congrArg (fun z => z) hfu37.2.2.2.2.2.2.2.2.2.2.2.1).trans hFSq7.2.2.2.2.2.2.2.2.2.2.2.1, (congrArg (fun z => z) hfu37.2.2.2.2.2.2.2.2.2.2.2.2).trans hFSq7.2.2.2.2.2.2.2.2.2.2.2.2.1, hFSq7.2.2.2.2.2.2.2.2.2.2.2.2.2⟩
      have hJS38 : J6 S38.1 ∧ J1 S38.2 := by rw [eS38]; exact ⟨hJu37, hJSq7.2⟩
      have hFS38 : F_X6_findEdgesOf S S38 := hGS38
      unfold wp_X6_findEdgesOf_139
      refine ⟨_, ?_, ?_, ?_, ?_, ?_, ?_, rfl⟩
      · (try simp (disch := first | ((try simp (disch := first | ((try simp only [pn]) <;> omega) | fail) only [pn, pq]) <;> omega) | fail) only [pn, pq]) <;> (intros; (try simp (disch := first | ((try simp (disch := first | ((try simp only [pn]) <;> omega) | fail) only [pn, pq]) <;> omega) | fail) only [pn, pq]) <;> omega)
      · exact hJS38
      · exact hFS38
      · first | rfl | assumption
      · first | rfl | assumption
      · first | rfl | assumption
def F_X6_findEdges (S u : bT6 × bT1) : Prop := (b6g_nodeLevels u.1) = (b6g_nodeLevels S.1) ∧ (b6g_firstLeaves u.1) = (b6g_firstLeaves S.1) ∧ (b6g_leafCounts u.1) = (b6g_leafCounts S.1) ∧ (b6g_levelStarts u.1) = (b6g_levelStarts S.1) ∧ (b6g_places u.1) = (b6g_places S.1) ∧ (b6g_leavesByPlace u.1) = (b6g_leavesByPlace S.1) ∧ (b6g_leafNodes u.1) = (b6g_leafNodes S.1) ∧ (b6g_nodes u.1) = (b6g_nodes S.1) ∧ (b6g_levels u.1) = (b6g_levels S.1) ∧ (b6g_upper u.1) = (b6g_upper S.1) ∧ (b6g_upperNodes u.1) = (b6g_upperNodes S.1) ∧ (b6g_itemStart u.1) = (b6g_itemStart S.1) ∧ u.2 = S.2
set_option maxRecDepth 20000 in
set_option maxHeartbeats 1000000 in
theorem sf_X6_findEdges {S : bT6 × bT1} (hJ : J6 S.1 ∧ J1 S.2) {Q : (bT6 × bT1) → Prop} (hq : ∀ u : bT6 × bT1, (J6 u.1 ∧ J1 u.2) → F_X6_findEdges S u → Q u) : wp_X6_findEdges S Q := by
  unfold wp_X6_findEdges
  have hFS : F_X6_findEdges S S := ⟨rfl, rfl, rfl, rfl, rfl, rfl, rfl, rfl, rfl, rfl, rfl, rfl, rfl⟩
  have jf1 := J6g_edges hJ.1
  have jf2 := J6g_nodes hJ.1
  intro S1 eS1
  have hJS1 : J6 S1.1 ∧ J1 S1.2 := by rw [eS1]; exact ⟨(J6s_edges hJ.1 ⟨(by (try simp (disch := first | ((try simp (disch := first | ((try simp only [pn]) <;> omega) | fail) only [pn, pq]) <;> omega) | fail) only [pn, pq]) <;> (intros; (try simp (disch := first | ((try simp (disch := first | ((try simp only [pn]) <;> omega) | fail) only [pn, pq]) <;> omega) | fail) only [pn, pq]) <;> omega)), (by (try simp (disch := first | ((try simp (disch := first | ((try simp only [pn]) <;> omega) | fail) only [pn, pq]) <;> omega) | fail) only [pn, pq]) <;> (intros; (try simp (disch := first | ((try simp (disch := first | ((try simp only [pn]) <;> omega) | fail) only [pn, pq]) <;> omega) | fail) only [pn, pq]) <;> omega))⟩), hJ.2⟩
  have hFS1 : F_X6_findEdges S S1 := by rw [eS1]; exact hFS
  have je3 : ((b6g_edges S1.1)).toInt = ((0 : Int32)).toInt := by rw [eS1]
  try simp (disch := first | ((try simp (disch := first | ((try simp only [pn]) <;> omega) | fail) only [pn, pq]) <;> omega) | fail) only [pn, pq] at je3
  have jf4 := J6g_edges hJS1.1
  have je6 : ((b6g_nodes S1.1)).toInt = ((b6g_nodes S.1)).toInt := congrArg (fun z => (z).toInt) hFS1.2.2.2.2.2.2.2.1
  intro S2 eS2
  have hJS2 : J6 S2.1 ∧ J1 S2.2 := by rw [eS2]; exact ⟨(J6s_children hJS1.1), hJS1.2⟩
  have hFS2 : F_X6_findEdges S S2 := by rw [eS2]; exact hFS1
  have je7 : ((b6g_edges S2.1)).toInt = ((b6g_edges S1.1)).toInt := by rw [eS2]
  have jf8 := J6g_edges hJS2.1
  have je10 : ((b6g_nodes S2.1)).toInt = ((b6g_nodes S.1)).toInt := congrArg (fun z => (z).toInt) hFS2.2.2.2.2.2.2.2.1
  refine ⟨fun n x2q3 Sq3 => (J6 Sq3.1 ∧ J1 Sq3.2) ∧ (F_X6_findEdges S Sq3) ∧ (0 ≤ (x2q3).toInt) ∧ n = (((b6g_nodes Sq3.1)).toInt + 1 - (x2q3).toInt).toNat, ⟨_, hJS2, hFS2, (by (try simp (disch := first | ((try simp (disch := first | ((try simp only [pn]) <;> omega) | fail) only [pn, pq]) <;> omega) | fail) only [pn, pq]) <;> (intros; (try simp (disch := first | ((try simp (disch := first | ((try simp only [pn]) <;> omega) | fail) only [pn, pq]) <;> omega) | fail) only [pn, pq]) <;> omega)), rfl⟩, ?_⟩
  rintro n4 x2q3 Sq3 ⟨hJSq3, hFSq3, hiq3_0, hn4⟩
  have rgx2q3 := pt_rg x2q3
  unfold wp_X6_findEdges_12b
  have jf11 := J6g_edges hJSq3.1
  have je13 : ((b6g_nodes Sq3.1)).toInt = ((b6g_nodes S.1)).toInt := congrArg (fun z => (z).toInt) hFSq3.2.2.2.2.2.2.2.1
  refine ⟨fun c5 => ?_, fun c5 => ?_⟩
  · try simp (disch := first | ((try simp (disch := first | ((try simp only [pn]) <;> omega) | fail) only [pn, pq]) <;> omega) | fail) only [pn, pq] at c5
    refine ⟨pt_in (by (try simp (disch := first | ((try simp (disch := first | ((try simp only [pn]) <;> omega) | fail) only [pn, pq]) <;> omega) | fail) only [pn, pq]) <;> (intros; (try simp (disch := first | ((try simp (disch := first | ((try simp only [pn]) <;> omega) | fail) only [pn, pq]) <;> omega) | fail) only [pn, pq]) <;> omega)) (by (try simp (disch := first | ((try simp (disch := first | ((try simp only [pn]) <;> omega) | fail) only [pn, pq]) <;> omega) | fail) only [pn, pq]) <;> (intros; (try simp (disch := first | ((try simp (disch := first | ((try simp only [pn]) <;> omega) | fail) only [pn, pq]) <;> omega) | fail) only [pn, pq]) <;> omega)), ?_⟩
    intro S6 eS6
    have hJS6 : J6 S6.1 ∧ J1 S6.2 := by rw [eS6]; exact ⟨(J6s_edgeStarts hJSq3.1 (pt_updr (J6g_edgeStarts hJSq3.1) ⟨(by (try simp (disch := first | ((try simp (disch := first | ((try simp only [pn]) <;> omega) | fail) only [pn, pq]) <;> omega) | fail) only [pn, pq]) <;> (intros; (try simp (disch := first | ((try simp (disch := first | ((try simp only [pn]) <;> omega) | fail) only [pn, pq]) <;> omega) | fail) only [pn, pq]) <;> omega)), (by (try simp (disch := first | ((try simp (disch := first | ((try simp only [pn]) <;> omega) | fail) only [pn, pq]) <;> omega) | fail) only [pn, pq]) <;> (intros; (try simp (disch := first | ((try simp (disch := first | ((try simp only [pn]) <;> omega) | fail) only [pn, pq]) <;> omega) | fail) only [pn, pq]) <;> omega))⟩)), hJSq3.2⟩
    have hFS6 : F_X6_findEdges S S6 := by rw [eS6]; exact hFSq3
    have je14 : ((b6g_edges S6.1)).toInt = ((b6g_edges Sq3.1)).toInt := by rw [eS6]
    have jf15 := J6g_edges hJS6.1
    have je17 : ((b6g_nodes S6.1)).toInt = ((b6g_nodes S.1)).toInt := congrArg (fun z => (z).toInt) hFS6.2.2.2.2.2.2.2.1
    exact hq _ hJS6 hFS6 
  · try simp (disch := first | ((try simp (disch := first | ((try simp only [pn]) <;> omega) | fail) only [pn, pq]) <;> omega) | fail) only [pn, pq] at c5
    refine ⟨pt_in (by (try simp (disch := first | ((try simp (disch := first | ((try simp only [pn]) <;> omega) | fail) only [pn, pq]) <;> omega) | fail) only [pn, pq]) <;> (intros; (try simp (disch := first | ((try simp (disch := first | ((try simp only [pn]) <;> omega) | fail) only [pn, pq]) <;> omega) | fail) only [pn, pq]) <;> omega)) (by (try simp (disch := first | ((try simp (disch := first | ((try simp only [pn]) <;> omega) | fail) only [pn, pq]) <;> omega) | fail) only [pn, pq]) <;> (intros; (try simp (disch := first | ((try simp (disch := first | ((try simp only [pn]) <;> omega) | fail) only [pn, pq]) <;> omega) | fail) only [pn, pq]) <;> omega)), ?_⟩
    intro S7 eS7
    have hJS7 : J6 S7.1 ∧ J1 S7.2 := by rw [eS7]; exact ⟨(J6s_edgeStarts hJSq3.1 (pt_updr (J6g_edgeStarts hJSq3.1) ⟨(by (try simp (disch := first | ((try simp (disch := first | ((try simp only [pn]) <;> omega) | fail) only [pn, pq]) <;> omega) | fail) only [pn, pq]) <;> (intros; (try simp (disch := first | ((try simp (disch := first | ((try simp only [pn]) <;> omega) | fail) only [pn, pq]) <;> omega) | fail) only [pn, pq]) <;> omega)), (by (try simp (disch := first | ((try simp (disch := first | ((try simp only [pn]) <;> omega) | fail) only [pn, pq]) <;> omega) | fail) only [pn, pq]) <;> (intros; (try simp (disch := first | ((try simp (disch := first | ((try simp only [pn]) <;> omega) | fail) only [pn, pq]) <;> omega) | fail) only [pn, pq]) <;> omega))⟩)), hJSq3.2⟩
    have hFS7 : F_X6_findEdges S S7 := by rw [eS7]; exact hFSq3
    have je18 : ((b6g_edges S7.1)).toInt = ((b6g_edges Sq3.1)).toInt := by rw [eS7]
    have jf19 := J6g_edges hJS7.1
    have je21 : ((b6g_nodes S7.1)).toInt = ((b6g_nodes S.1)).toInt := congrArg (fun z => (z).toInt) hFS7.2.2.2.2.2.2.2.1
    refine sf_X6_findEdgesOf (S := S7) ⟨hJS7.1, hJS7.2⟩ (fun u9 hJu9 hfu9  => ?_)
    have hFu9 : F_X6_findEdges S u9 := ⟨(congrArg (fun z => z) hfu9.1).trans hFS7.1, (congrArg (fun z => z) hfu9.2.1).trans hFS7.2.1, (congrArg (fun z => z) hfu9.2.2.1).trans hFS7.2.2.1, (congrArg (fun z => z) hfu9.2.2.2.2.1).trans hFS7.2.2.2.1, (congrArg (fun z => z) hfu9.2.2.2.2.2.1).trans hFS7.2.2.2.2.1, (congrArg (fun z => z) hfu9.2.2.2.2.2.2.1).trans hFS7.2.2.2.2.2.1, (congrArg (fun z => z) hfu9.2.2.2.2.2.2.2.1).trans hFS7.2.2.2.2.2.2.1, (congrArg (fun z => z) hfu9.2.2.2.2.2.2.2.2.1).trans hFS7.2.2.2.2.2.2.2.1, (congrArg (fun z => z) hfu9.2.2.2.2.2.2.2.2.2.1).trans hFS7.2.2.2.2.2.2.2.2.1, (congrArg (fun z => z) hfu9.2.2.2.2.2.2.2.2.2.2.1).trans hFS7.2.2.2.2.2.2.2.2.2.1, (congrArg (fun z => z) hfu9.2.2.2.2.2.2.2.2.2.2.2.1).trans hFS7.2.2.2.2.2.2.2.2.2.2.1, (congrArg (fun z => z) hfu9.2.2.2.2.2.2.2.2.2.2.2.2.1).trans hFS7.2.2.2.2.2.2.2.2.2.2.2.1, (congrArg (fun z => z) hfu9.2.2.2.2.2.2.2.2.2.2.2.2.2).trans hFS7.2.2.2.2.2.2.2.2.2.2.2.2⟩
    have jf22 := J6g_edges hJu9.1
    have je24 : ((b6g_nodes u9.1)).toInt = ((b6g_nodes S.1)).toInt := congrArg (fun z => (z).toInt) hFu9.2.2.2.2.2.2.2.1
    refine ⟨_, ?_, ?_, ?_, ?_, rfl⟩
    · (try simp (disch := first | ((try simp (disch := first | ((try simp only [pn]) <;> omega) | fail) only [pn, pq]) <;> omega) | fail) only [pn, pq]) <;> (intros; (try simp (disch := first | ((try simp (disch := first | ((try simp only [pn]) <;> omega) | fail) only [pn, pq]) <;> omega) | fail) only [pn, pq]) <;> omega)
    · exact hJu9
    · exact hFu9
    · (try simp (disch := first | ((try simp (disch := first | ((try simp only [pn]) <;> omega) | fail) only [pn, pq]) <;> omega) | fail) only [pn, pq]) <;> (intros; (try simp (disch := first | ((try simp (disch := first | ((try simp only [pn]) <;> omega) | fail) only [pn, pq]) <;> omega) | fail) only [pn, pq]) <;> omega)
def F_X6_addNode (S u : bT6) : Prop := (b6g_edgeStarts u) = (b6g_edgeStarts S) ∧ (b6g_edgeNodes u) = (b6g_edgeNodes S) ∧ (b6g_edgeOctets u) = (b6g_edgeOctets S) ∧ (b6g_edgeLeaves u) = (b6g_edgeLeaves S) ∧ (b6g_edgeChildren u) = (b6g_edgeChildren S) ∧ (b6g_levelStarts u) = (b6g_levelStarts S) ∧ (b6g_places u) = (b6g_places S) ∧ (b6g_leavesByPlace u) = (b6g_leavesByPlace S) ∧ (b6g_leafNodes u) = (b6g_leafNodes S) ∧ (b6g_edges u) = (b6g_edges S) ∧ (b6g_children u) = (b6g_children S) ∧ (b6g_levels u) = (b6g_levels S) ∧ (b6g_upper u) = (b6g_upper S) ∧ (b6g_upperNodes u) = (b6g_upperNodes S) ∧ (b6g_itemStart u) = (b6g_itemStart S)
set_option maxRecDepth 20000 in
set_option maxHeartbeats 1000000 in
theorem sf_X6_addNode {S : bT6} (hJ : J6 S) {a1 : Int32} {a2 : Int32} {Q : (bT6) → Prop} (hq : ∀ u : bT6, (J6 u) → F_X6_addNode S u → Q u) : wp_X6_addNode S a1 a2 Q := by
  unfold wp_X6_addNode
  have hFS : F_X6_addNode S S := ⟨rfl, rfl, rfl, rfl, rfl, rfl, rfl, rfl, rfl, rfl, rfl, rfl, rfl, rfl, rfl⟩
  have jf1 := J6g_nodes hJ
  have rga1 := pt_rg a1
  have rga2 := pt_rg a2
  refine ⟨fun c1 => ?_, fun c1 => ?_⟩
  · try simp (disch := first | ((try simp (disch := first | ((try simp only [pn]) <;> omega) | fail) only [pn, pq]) <;> omega) | fail) only [pn, pq] at c1
    exact hq _ hJ hFS 
  · try simp (disch := first | ((try simp (disch := first | ((try simp only [pn]) <;> omega) | fail) only [pn, pq]) <;> omega) | fail) only [pn, pq] at c1
    refine ⟨pt_in (by (try simp (disch := first | ((try simp (disch := first | ((try simp only [pn]) <;> omega) | fail) only [pn, pq]) <;> omega) | fail) only [pn, pq]) <;> (intros; (try simp (disch := first | ((try simp (disch := first | ((try simp only [pn]) <;> omega) | fail) only [pn, pq]) <;> omega) | fail) only [pn, pq]) <;> omega)) (by (try simp (disch := first | ((try simp (disch := first | ((try simp only [pn]) <;> omega) | fail) only [pn, pq]) <;> omega) | fail) only [pn, pq]) <;> (intros; (try simp (disch := first | ((try simp (disch := first | ((try simp only [pn]) <;> omega) | fail) only [pn, pq]) <;> omega) | fail) only [pn, pq]) <;> omega)), ?_⟩
    intro S2 eS2
    have hJS2 : J6 S2 := by rw [eS2]; exact (J6s_nodeLevels hJ)
    have hFS2 : F_X6_addNode S S2 := by rw [eS2]; exact hFS
    have je2 : ((b6g_nodes S2)).toInt = ((b6g_nodes S)).toInt := by rw [eS2]
    have jf3 := J6g_nodes hJS2
    refine ⟨pt_in (by (try simp (disch := first | ((try simp (disch := first | ((try simp only [pn]) <;> omega) | fail) only [pn, pq]) <;> omega) | fail) only [pn, pq]) <;> (intros; (try simp (disch := first | ((try simp (disch := first | ((try simp only [pn]) <;> omega) | fail) only [pn, pq]) <;> omega) | fail) only [pn, pq]) <;> omega)) (by (try simp (disch := first | ((try simp (disch := first | ((try simp only [pn]) <;> omega) | fail) only [pn, pq]) <;> omega) | fail) only [pn, pq]) <;> (intros; (try simp (disch := first | ((try simp (disch := first | ((try simp only [pn]) <;> omega) | fail) only [pn, pq]) <;> omega) | fail) only [pn, pq]) <;> omega)), ?_⟩
    intro S3 eS3
    have hJS3 : J6 S3 := by rw [eS3]; exact (J6s_firstLeaves hJS2)
    have hFS3 : F_X6_addNode S S3 := by rw [eS3]; exact hFS2
    have je4 : ((b6g_nodes S3)).toInt = ((b6g_nodes S2)).toInt := by rw [eS3]
    have jf5 := J6g_nodes hJS3
    refine ⟨pt_in (by (try simp (disch := first | ((try simp (disch := first | ((try simp only [pn]) <;> omega) | fail) only [pn, pq]) <;> omega) | fail) only [pn, pq]) <;> (intros; (try simp (disch := first | ((try simp (disch := first | ((try simp only [pn]) <;> omega) | fail) only [pn, pq]) <;> omega) | fail) only [pn, pq]) <;> omega)) (by (try simp (disch := first | ((try simp (disch := first | ((try simp only [pn]) <;> omega) | fail) only [pn, pq]) <;> omega) | fail) only [pn, pq]) <;> (intros; (try simp (disch := first | ((try simp (disch := first | ((try simp only [pn]) <;> omega) | fail) only [pn, pq]) <;> omega) | fail) only [pn, pq]) <;> omega)), ?_⟩
    intro S4 eS4
    have hJS4 : J6 S4 := by rw [eS4]; exact (J6s_leafCounts hJS3)
    have hFS4 : F_X6_addNode S S4 := by rw [eS4]; exact hFS3
    have je6 : ((b6g_nodes S4)).toInt = ((b6g_nodes S3)).toInt := by rw [eS4]
    have jf7 := J6g_nodes hJS4
    intro S5 eS5
    have hJS5 : J6 S5 := by rw [eS5]; exact (J6s_nodes hJS4 ⟨(by (try simp (disch := first | ((try simp (disch := first | ((try simp only [pn]) <;> omega) | fail) only [pn, pq]) <;> omega) | fail) only [pn, pq]) <;> (intros; (try simp (disch := first | ((try simp (disch := first | ((try simp only [pn]) <;> omega) | fail) only [pn, pq]) <;> omega) | fail) only [pn, pq]) <;> omega)), (by (try simp (disch := first | ((try simp (disch := first | ((try simp only [pn]) <;> omega) | fail) only [pn, pq]) <;> omega) | fail) only [pn, pq]) <;> (intros; (try simp (disch := first | ((try simp (disch := first | ((try simp only [pn]) <;> omega) | fail) only [pn, pq]) <;> omega) | fail) only [pn, pq]) <;> omega))⟩)
    have hFS5 : F_X6_addNode S S5 := by rw [eS5]; exact hFS4
    have je8 : ((b6g_nodes S5)).toInt = (((b6g_nodes S4) + (1 : Int32))).toInt := by rw [eS5]
    try simp (disch := first | ((try simp (disch := first | ((try simp only [pn]) <;> omega) | fail) only [pn, pq]) <;> omega) | fail) only [pn, pq] at je8
    have jf9 := J6g_nodes hJS5
    exact hq _ hJS5 hFS5 
def F_X6_findNodesOf (S u : bT6 × bT1) : Prop := (b6g_edgeStarts u.1) = (b6g_edgeStarts S.1) ∧ (b6g_edgeNodes u.1) = (b6g_edgeNodes S.1) ∧ (b6g_edgeOctets u.1) = (b6g_edgeOctets S.1) ∧ (b6g_edgeLeaves u.1) = (b6g_edgeLeaves S.1) ∧ (b6g_edgeChildren u.1) = (b6g_edgeChildren S.1) ∧ (b6g_levelStarts u.1) = (b6g_levelStarts S.1) ∧ (b6g_places u.1) = (b6g_places S.1) ∧ (b6g_leavesByPlace u.1) = (b6g_leavesByPlace S.1) ∧ (b6g_leafNodes u.1) = (b6g_leafNodes S.1) ∧ (b6g_edges u.1) = (b6g_edges S.1) ∧ (b6g_children u.1) = (b6g_children S.1) ∧ (b6g_levels u.1) = (b6g_levels S.1) ∧ (b6g_upper u.1) = (b6g_upper S.1) ∧ (b6g_upperNodes u.1) = (b6g_upperNodes S.1) ∧ (b6g_itemStart u.1) = (b6g_itemStart S.1) ∧ u.2 = S.2
set_option maxRecDepth 20000 in
set_option maxHeartbeats 1000000 in
theorem sf_X6_findNodesOf {S : bT6 × bT1} (hJ : J6 S.1 ∧ J1 S.2) {a1 : Int32} {Q : (bT6 × bT1) → Prop} (hq : ∀ u : bT6 × bT1, (J6 u.1 ∧ J1 u.2) → F_X6_findNodesOf S u → Q u) : wp_X6_findNodesOf S a1 Q := by
  unfold wp_X6_findNodesOf
  have hFS : F_X6_findNodesOf S S := ⟨rfl, rfl, rfl, rfl, rfl, rfl, rfl, rfl, rfl, rfl, rfl, rfl, rfl, rfl, rfl, rfl⟩
  have jf1 := J6g_nodes hJ.1
  have jf2 := J0g_count (J1g_owners hJ.2)
  have rga1 := pt_rg a1
  refine ⟨fun n x1q1 x3q1 x4q1 Sq1 => (J6 Sq1.1 ∧ J1 Sq1.2) ∧ (F_X6_findNodesOf S Sq1) ∧ (x1q1 = a1) ∧ (0 ≤ (x4q1).toInt) ∧ n = ((b0g_count (b1g_owners Sq1.2)).toInt + 1 - (x4q1).toInt).toNat, ⟨_, hJ, hFS, rfl, (by (try simp (disch := first | ((try simp (disch := first | ((try simp only [pn]) <;> omega) | fail) only [pn, pq]) <;> omega) | fail) only [pn, pq]) <;> (intros; (try simp (disch := first | ((try simp (disch := first | ((try simp only [pn]) <;> omega) | fail) only [pn, pq]) <;> omega) | fail) only [pn, pq]) <;> omega)), rfl⟩, ?_⟩
  rintro n2 x1q1 x3q1 x4q1 Sq1 ⟨hJSq1, hFSq1, hkq1_0, hiq1_0, hn2⟩
  subst hkq1_0
  have rgx1q1 := pt_rg x1q1
  have rgx3q1 := pt_rg x3q1
  have rgx4q1 := pt_rg x4q1
  unfold wp_X6_findNodesOf_5b
  have jf3 := J6g_nodes hJSq1.1
  have je5 : ((b0g_count (b1g_owners Sq1.2))).toInt = ((b0g_count (b1g_owners S.2))).toInt := congrArg (fun z => ((b0g_count (b1g_owners z))).toInt) hFSq1.2.2.2.2.2.2.2.2.2.2.2.2.2.2.2
  refine sf_X1_count hJSq1.2 (fun r3 hr3_0 => ?_)
  have rgr3 := pt_rg r3
  try simp (disch := first | ((try simp (disch := first | ((try simp only [pn]) <;> omega) | fail) only [pn, pq]) <;> omega) | fail) only [pn, pq] at hr3_0
  refine ⟨fun c5 => ?_, fun c5 => ?_⟩
  · try simp (disch := first | ((try simp (disch := first | ((try simp only [pn]) <;> omega) | fail) only [pn, pq]) <;> omega) | fail) only [pn, pq] at c5
    exact hq _ hJSq1 hFSq1 
  · try simp (disch := first | ((try simp (disch := first | ((try simp only [pn]) <;> omega) | fail) only [pn, pq]) <;> omega) | fail) only [pn, pq] at c5
    refine sf_X1_lengthAt hJSq1.2 (fun r6 hr6_0 => ?_)
    have rgr6 := pt_rg r6
    try simp (disch := first | ((try simp (disch := first | ((try simp only [pn]) <;> omega) | fail) only [pn, pq]) <;> omega) | fail) only [pn, pq] at hr6_0
    refine ⟨fun c8 => ?_, fun c8 => ?_⟩
    · try simp (disch := first | ((try simp (disch := first | ((try simp only [pn]) <;> omega) | fail) only [pn, pq]) <;> omega) | fail) only [pn, pq] at c8
      unfold wp_X6_findNodesOf_43
      unfold wp_X6_findNodesOf_48
      refine ⟨fun c9 => ?_, fun c9 => ?_⟩
      · exact absurd c9 (by decide)
      · skip
        refine sf_X0_bytesAt (J1g_owners hJSq1.2) (fun r10  => ?_)
        refine sf_X0_bytesAt (J1g_owners hJSq1.2) (fun r12  => ?_)
        refine ⟨fun c14 => ?_, fun c14 => ?_⟩
        · try simp (disch := first | ((try simp (disch := first | ((try simp only [pn]) <;> omega) | fail) only [pn, pq]) <;> omega) | fail) only [pn, pq] at c14
          unfold wp_X6_findNodesOf_92
          refine sf_X6_addNode hJSq1.1 (fun u16 hJu16 hfu16  => ?_)
          intro S17 eS17
          have hGS17 : F_X6_findNodesOf S S17 := by
            rw [eS17]
            exact ⟨(congrArg (fun z => z) hfu16.1).trans hFSq1.1, (congrArg (fun z => z) hfu16.2.1).trans hFSq1.2.1, (congrArg (fun z => z) hfu16.2.2.1).trans hFSq1.2.2.1, (congrArg (fun z => z) hfu16.2.2.2.1).trans hFSq1.2.2.2.1, (congrArg (fun z => z) hfu16.2.2.2.2.1).trans hFSq1.2.2.2.2.1, (congrArg (fun z => z) hfu16.2.2.2.2.2.1).trans hFSq1.2.2.2.2.2.1, (congrArg (fun z => z) hfu16.2.2.2.2.2.2.1).trans hFSq1.2.2.2.2.2.2.1, (congrArg (fun z => z) hfu16.2.2.2.2.2.2.2.1).trans hFSq1.2.2.2.2.2.2.2.1, (congrArg (fun z => z) hfu16.2.2.2.2.2.2.2.2.1).trans hFSq1.2.2.2.2.2.2.2.2.1, (congrArg (fun z => z) hfu16.2.2.2.2.2.2.2.2.2.1).trans hFSq1.2.2.2.2.2.2.2.2.2.1, (congrArg (fun z => z) hfu16.2.2.2.2.2.2.2.2.2.2.1).trans hFSq1.2.2.2.2.2.2.2.2.2.2.1, (congrArg (fun z => z) hfu16.2.2.2.2.2.2.2.2.2.2.2.1).trans hFSq1.2.2.2.2.2.2.2.2.2.2.2.1, (congrArg (fun z => z) hfu16.2.2.2.2.2.2.2.2.2.2.2.2.1).trans hFSq1.2.2.2.2.2.2.2.2.2.2.2.2.1, (congrArg (fun z => z) hfu16.2.2.2.2.2.2.2.2.2.2.2.2.2.1).trans hFSq1.2.2.2.2.2.2.2.2.2.2.2.2.2.1, (congrArg (fun z => z) hfu16.2.2.2.2.2.2.2.2.2.2.2.2.2.2).trans hFSq1.2.2.2.2.2.2.2.2.2.2.2.2.2.2.1, hFSq1.2.2.2.2.2.2.2.2.2.2.2.2.2.2.2⟩
          have hJS17 : J6 S17.1 ∧ J1 S17.2 := by rw [eS17]; exact ⟨hJu16, hJSq1.2⟩
          have hFS17 : F_X6_findNodesOf S S17 := hGS17
          have je6 : ((b6g_nodes S17.1)).toInt = ((b6g_nodes u16)).toInt := by rw [eS17]
          try simp (disch := first | ((try simp (disch := first | ((try simp only [pn]) <;> omega) | fail) only [pn, pq]) <;> omega) | fail) only [pn, pq] at je6
          have jf7 := J6g_nodes hJS17.1
          have je9 : ((b0g_count (b1g_owners S17.2))).toInt = ((b0g_count (b1g_owners S.2))).toInt := congrArg (fun z => ((b0g_count (b1g_owners z))).toInt) hFS17.2.2.2.2.2.2.2.2.2.2.2.2.2.2.2
          unfold wp_X6_findNodesOf_99
          refine ⟨fun c18 => ?_, fun c18 => ?_⟩
          · try simp (disch := first | ((try simp (disch := first | ((try simp only [pn]) <;> omega) | fail) only [pn, pq]) <;> omega) | fail) only [pn, pq] at c18
            unfold wp_X6_findNodesOf_131
            unfold wp_X6_findNodesOf_134
            refine ⟨_, ?_, ?_, ?_, ?_, ?_, rfl⟩
            · (try simp (disch := first | ((try simp (disch := first | ((try simp only [pn]) <;> omega) | fail) only [pn, pq]) <;> omega) | fail) only [pn, pq]) <;> (intros; (try simp (disch := first | ((try simp (disch := first | ((try simp only [pn]) <;> omega) | fail) only [pn, pq]) <;> omega) | fail) only [pn, pq]) <;> omega)
            · exact hJS17
            · exact hFS17
            · first | rfl | assumption
            · (try simp (disch := first | ((try simp (disch := first | ((try simp only [pn]) <;> omega) | fail) only [pn, pq]) <;> omega) | fail) only [pn, pq]) <;> (intros; (try simp (disch := first | ((try simp (disch := first | ((try simp only [pn]) <;> omega) | fail) only [pn, pq]) <;> omega) | fail) only [pn, pq]) <;> omega)
          · try simp (disch := first | ((try simp (disch := first | ((try simp only [pn]) <;> omega) | fail) only [pn, pq]) <;> omega) | fail) only [pn, pq] at c18
            refine ⟨fun c19 => ?_, fun c19 => ?_⟩
            · try simp (disch := first | ((try simp (disch := first | ((try simp only [pn]) <;> omega) | fail) only [pn, pq]) <;> omega) | fail) only [pn, pq] at c19
              unfold wp_X6_findNodesOf_131
              unfold wp_X6_findNodesOf_134
              refine ⟨_, ?_, ?_, ?_, ?_, ?_, rfl⟩
              · (try simp (disch := first | ((try simp (disch := first | ((try simp only [pn]) <;> omega) | fail) only [pn, pq]) <;> omega) | fail) only [pn, pq]) <;> (intros; (try simp (disch := first | ((try simp (disch := first | ((try simp only [pn]) <;> omega) | fail) only [pn, pq]) <;> omega) | fail) only [pn, pq]) <;> omega)
              · exact hJS17
              · exact hFS17
              · first | rfl | assumption
              · (try simp (disch := first | ((try simp (disch := first | ((try simp only [pn]) <;> omega) | fail) only [pn, pq]) <;> omega) | fail) only [pn, pq]) <;> (intros; (try simp (disch := first | ((try simp (disch := first | ((try simp only [pn]) <;> omega) | fail) only [pn, pq]) <;> omega) | fail) only [pn, pq]) <;> omega)
            · try simp (disch := first | ((try simp (disch := first | ((try simp only [pn]) <;> omega) | fail) only [pn, pq]) <;> omega) | fail) only [pn, pq] at c19
              refine ⟨pt_in (by (try simp (disch := first | ((try simp (disch := first | ((try simp only [pn]) <;> omega) | fail) only [pn, pq]) <;> omega) | fail) only [pn, pq]) <;> (intros; (try simp (disch := first | ((try simp (disch := first | ((try simp only [pn]) <;> omega) | fail) only [pn, pq]) <;> omega) | fail) only [pn, pq]) <;> omega)) (by (try simp (disch := first | ((try simp (disch := first | ((try simp only [pn]) <;> omega) | fail) only [pn, pq]) <;> omega) | fail) only [pn, pq]) <;> (intros; (try simp (disch := first | ((try simp (disch := first | ((try simp only [pn]) <;> omega) | fail) only [pn, pq]) <;> omega) | fail) only [pn, pq]) <;> omega)), ?_⟩
              intro v20 ev20
              have nv20 := congrArg Int32.toInt ev20
              try simp (disch := first | ((try simp (disch := first | ((try simp only [pn]) <;> omega) | fail) only [pn, pq]) <;> omega) | fail) only [pn, pq] at nv20
              refine ⟨pt_in (by (try simp (disch := first | ((try simp (disch := first | ((try simp only [pn]) <;> omega) | fail) only [pn, pq]) <;> omega) | fail) only [pn, pq]) <;> (intros; (try simp (disch := first | ((try simp (disch := first | ((try simp only [pn]) <;> omega) | fail) only [pn, pq]) <;> omega) | fail) only [pn, pq]) <;> omega)) (by (try simp (disch := first | ((try simp (disch := first | ((try simp only [pn]) <;> omega) | fail) only [pn, pq]) <;> omega) | fail) only [pn, pq]) <;> (intros; (try simp (disch := first | ((try simp (disch := first | ((try simp only [pn]) <;> omega) | fail) only [pn, pq]) <;> omega) | fail) only [pn, pq]) <;> omega)), ?_⟩
              intro S21 eS21
              have hJS21 : J6 S21.1 ∧ J1 S21.2 := by rw [eS21]; exact ⟨(J6s_leafCounts hJS17.1), hJS17.2⟩
              have hFS21 : F_X6_findNodesOf S S21 := by rw [eS21]; exact hFS17
              have je11 : ((b6g_nodes S21.1)).toInt = ((b6g_nodes S17.1)).toInt := by rw [eS21]
              have jf12 := J6g_nodes hJS21.1
              have je14 : ((b0g_count (b1g_owners S21.2))).toInt = ((b0g_count (b1g_owners S.2))).toInt := congrArg (fun z => ((b0g_count (b1g_owners z))).toInt) hFS21.2.2.2.2.2.2.2.2.2.2.2.2.2.2.2
              have ja15 : ((b6g_leafCounts S21.1) (((b6g_nodes S17.1) - (1 : Int32))).toNatClampNeg).toInt = (v20).toInt := by rw [eS21]; exact pt_upds
              try simp (disch := first | ((try simp (disch := first | ((try simp only [pn]) <;> omega) | fail) only [pn, pq]) <;> omega) | fail) only [pn, pq] at ja15
              unfold wp_X6_findNodesOf_131
              unfold wp_X6_findNodesOf_134
              refine ⟨_, ?_, ?_, ?_, ?_, ?_, rfl⟩
              · (try simp (disch := first | ((try simp (disch := first | ((try simp only [pn]) <;> omega) | fail) only [pn, pq]) <;> omega) | fail) only [pn, pq]) <;> (intros; (try simp (disch := first | ((try simp (disch := first | ((try simp only [pn]) <;> omega) | fail) only [pn, pq]) <;> omega) | fail) only [pn, pq]) <;> omega)
              · exact hJS21
              · exact hFS21
              · first | rfl | assumption
              · (try simp (disch := first | ((try simp (disch := first | ((try simp only [pn]) <;> omega) | fail) only [pn, pq]) <;> omega) | fail) only [pn, pq]) <;> (intros; (try simp (disch := first | ((try simp (disch := first | ((try simp only [pn]) <;> omega) | fail) only [pn, pq]) <;> omega) | fail) only [pn, pq]) <;> omega)
        · try simp (disch := first | ((try simp (disch := first | ((try simp only [pn]) <;> omega) | fail) only [pn, pq]) <;> omega) | fail) only [pn, pq] at c14
          refine sf_X8_front  (fun r22 hr22_0 => ?_)
          refine ⟨fun c24 => ?_, fun c24 => ?_⟩
          · try simp (disch := first | ((try simp (disch := first | ((try simp only [pn]) <;> omega) | fail) only [pn, pq]) <;> omega) | fail) only [pn, pq] at c24
            unfold wp_X6_findNodesOf_99
            refine ⟨fun c25 => ?_, fun c25 => ?_⟩
            · try simp (disch := first | ((try simp (disch := first | ((try simp only [pn]) <;> omega) | fail) only [pn, pq]) <;> omega) | fail) only [pn, pq] at c25
              unfold wp_X6_findNodesOf_131
              unfold wp_X6_findNodesOf_134
              refine ⟨_, ?_, ?_, ?_, ?_, ?_, rfl⟩
              · (try simp (disch := first | ((try simp (disch := first | ((try simp only [pn]) <;> omega) | fail) only [pn, pq]) <;> omega) | fail) only [pn, pq]) <;> (intros; (try simp (disch := first | ((try simp (disch := first | ((try simp only [pn]) <;> omega) | fail) only [pn, pq]) <;> omega) | fail) only [pn, pq]) <;> omega)
              · exact hJSq1
              · exact hFSq1
              · first | rfl | assumption
              · (try simp (disch := first | ((try simp (disch := first | ((try simp only [pn]) <;> omega) | fail) only [pn, pq]) <;> omega) | fail) only [pn, pq]) <;> (intros; (try simp (disch := first | ((try simp (disch := first | ((try simp only [pn]) <;> omega) | fail) only [pn, pq]) <;> omega) | fail) only [pn, pq]) <;> omega)
            · try simp (disch := first | ((try simp (disch := first | ((try simp only [pn]) <;> omega) | fail) only [pn, pq]) <;> omega) | fail) only [pn, pq] at c25
              refine ⟨fun c26 => ?_, fun c26 => ?_⟩
              · try simp (disch := first | ((try simp (disch := first | ((try simp only [pn]) <;> omega) | fail) only [pn, pq]) <;> omega) | fail) only [pn, pq] at c26
                unfold wp_X6_findNodesOf_131
                unfold wp_X6_findNodesOf_134
                refine ⟨_, ?_, ?_, ?_, ?_, ?_, rfl⟩
                · (try simp (disch := first | ((try simp (disch := first | ((try simp only [pn]) <;> omega) | fail) only [pn, pq]) <;> omega) | fail) only [pn, pq]) <;> (intros; (try simp (disch := first | ((try simp (disch := first | ((try simp only [pn]) <;> omega) | fail) only [pn, pq]) <;> omega) | fail) only [pn, pq]) <;> omega)
                · exact hJSq1
                · exact hFSq1
                · first | rfl | assumption
                · (try simp (disch := first | ((try simp (disch := first | ((try simp only [pn]) <;> omega) | fail) only [pn, pq]) <;> omega) | fail) only [pn, pq]) <;> (intros; (try simp (disch := first | ((try simp (disch := first | ((try simp only [pn]) <;> omega) | fail) only [pn, pq]) <;> omega) | fail) only [pn, pq]) <;> omega)
              · try simp (disch := first | ((try simp (disch := first | ((try simp only [pn]) <;> omega) | fail) only [pn, pq]) <;> omega) | fail) only [pn, pq] at c26
                refine ⟨pt_in (by (try simp (disch := first | ((try simp (disch := first | ((try simp only [pn]) <;> omega) | fail) only [pn, pq]) <;> omega) | fail) only [pn, pq]) <;> (intros; (try simp (disch := first | ((try simp (disch := first | ((try simp only [pn]) <;> omega) | fail) only [pn, pq]) <;> omega) | fail) only [pn, pq]) <;> omega)) (by (try simp (disch := first | ((try simp (disch := first | ((try simp only [pn]) <;> omega) | fail) only [pn, pq]) <;> omega) | fail) only [pn, pq]) <;> (intros; (try simp (disch := first | ((try simp (disch := first | ((try simp only [pn]) <;> omega) | fail) only [pn, pq]) <;> omega) | fail) only [pn, pq]) <;> omega)), ?_⟩
                intro v27 ev27
                have nv27 := congrArg Int32.toInt ev27
                try simp (disch := first | ((try simp (disch := first | ((try simp only [pn]) <;> omega) | fail) only [pn, pq]) <;> omega) | fail) only [pn, pq] at nv27
                refine ⟨pt_in (by (try simp (disch := first | ((try simp (disch := first | ((try simp only [pn]) <;> omega) | fail) only [pn, pq]) <;> omega) | fail) only [pn, pq]) <;> (intros; (try simp (disch := first | ((try simp (disch := first | ((try simp only [pn]) <;> omega) | fail) only [pn, pq]) <;> omega) | fail) only [pn, pq]) <;> omega)) (by (try simp (disch := first | ((try simp (disch := first | ((try simp only [pn]) <;> omega) | fail) only [pn, pq]) <;> omega) | fail) only [pn, pq]) <;> (intros; (try simp (disch := first | ((try simp (disch := first | ((try simp only [pn]) <;> omega) | fail) only [pn, pq]) <;> omega) | fail) only [pn, pq]) <;> omega)), ?_⟩
                intro S28 eS28
                have hJS28 : J6 S28.1 ∧ J1 S28.2 := by rw [eS28]; exact ⟨(J6s_leafCounts hJSq1.1), hJSq1.2⟩
                have hFS28 : F_X6_findNodesOf S S28 := by rw [eS28]; exact hFSq1
                have je17 : ((b6g_nodes S28.1)).toInt = ((b6g_nodes Sq1.1)).toInt := by rw [eS28]
                have jf18 := J6g_nodes hJS28.1
                have je20 : ((b0g_count (b1g_owners S28.2))).toInt = ((b0g_count (b1g_owners S.2))).toInt := congrArg (fun z => ((b0g_count (b1g_owners z))).toInt) hFS28.2.2.2.2.2.2.2.2.2.2.2.2.2.2.2
                have ja21 : ((b6g_leafCounts S28.1) (((b6g_nodes Sq1.1) - (1 : Int32))).toNatClampNeg).toInt = (v27).toInt := by rw [eS28]; exact pt_upds
                try simp (disch := first | ((try simp (disch := first | ((try simp only [pn]) <;> omega) | fail) only [pn, pq]) <;> omega) | fail) only [pn, pq] at ja21
                unfold wp_X6_findNodesOf_131
                unfold wp_X6_findNodesOf_134
                refine ⟨_, ?_, ?_, ?_, ?_, ?_, rfl⟩
                · (try simp (disch := first | ((try simp (disch := first | ((try simp only [pn]) <;> omega) | fail) only [pn, pq]) <;> omega) | fail) only [pn, pq]) <;> (intros; (try simp (disch := first | ((try simp (disch := first | ((try simp only [pn]) <;> omega) | fail) only [pn, pq]) <;> omega) | fail) only [pn, pq]) <;> omega)
                · exact hJS28
                · exact hFS28
                · first | rfl | assumption
                · (try simp (disch := first | ((try simp (disch := first | ((try simp only [pn]) <;> omega) | fail) only [pn, pq]) <;> omega) | fail) only [pn, pq]) <;> (intros; (try simp (disch := first | ((try simp (disch := first | ((try simp only [pn]) <;> omega) | fail) only [pn, pq]) <;> omega) | fail) only [pn, pq]) <;> omega)
          · try simp (disch := first | ((try simp (disch := first | ((try simp only [pn]) <;> omega) | fail) only [pn, pq]) <;> omega) | fail) only [pn, pq] at c24
            unfold wp_X6_findNodesOf_92
            refine sf_X6_addNode hJSq1.1 (fun u30 hJu30 hfu30  => ?_)
            intro S31 eS31
            have hGS31 : F_X6_findNodesOf S S31 := by
              rw [eS31]
              exact ⟨(congrArg (fun z => z) hfu30.1).trans hFSq1.1, (congrArg (fun z => z) hfu30.2.1).trans hFSq1.2.1, (congrArg (fun z => z) hfu30.2.2.1).trans hFSq1.2.2.1, (congrArg (fun z => z) hfu30.2.2.2.1).trans hFSq1.2.2.2.1, (congrArg (fun z => z) hfu30.2.2.2.2.1).trans hFSq1.2.2.2.2.1, (congrArg (fun z => z) hfu30.2.2.2.2.2.1).trans hFSq1.2.2.2.2.2.1, (congrArg (fun z => z) hfu30.2.2.2.2.2.2.1).trans hFSq1.2.2.2.2.2.2.1, (congrArg (fun z => z) hfu30.2.2.2.2.2.2.2.1).trans hFSq1.2.2.2.2.2.2.2.1, (congrArg (fun z => z) hfu30.2.2.2.2.2.2.2.2.1).trans hFSq1.2.2.2.2.2.2.2.2.1, (congrArg (fun z => z) hfu30.2.2.2.2.2.2.2.2.2.1).trans hFSq1.2.2.2.2.2.2.2.2.2.1, (congrArg (fun z => z) hfu30.2.2.2.2.2.2.2.2.2.2.1).trans hFSq1.2.2.2.2.2.2.2.2.2.2.1, (congrArg (fun z => z) hfu30.2.2.2.2.2.2.2.2.2.2.2.1).trans hFSq1.2.2.2.2.2.2.2.2.2.2.2.1, (congrArg (fun z => z) hfu30.2.2.2.2.2.2.2.2.2.2.2.2.1).trans hFSq1.2.2.2.2.2.2.2.2.2.2.2.2.1, (congrArg (fun z => z) hfu30.2.2.2.2.2.2.2.2.2.2.2.2.2.1).trans hFSq1.2.2.2.2.2.2.2.2.2.2.2.2.2.1, (congrArg (fun z => z) hfu30.2.2.2.2.2.2.2.2.2.2.2.2.2.2).trans hFSq1.2.2.2.2.2.2.2.2.2.2.2.2.2.2.1, hFSq1.2.2.2.2.2.2.2.2.2.2.2.2.2.2.2⟩
            have hJS31 : J6 S31.1 ∧ J1 S31.2 := by rw [eS31]; exact ⟨hJu30, hJSq1.2⟩
            have hFS31 : F_X6_findNodesOf S S31 := hGS31
            have je22 : ((b6g_nodes S31.1)).toInt = ((b6g_nodes u30)).toInt := by rw [eS31]
            try simp (disch := first | ((try simp (disch := first | ((try simp only [pn]) <;> omega) | fail) only [pn, pq]) <;> omega) | fail) only [pn, pq] at je22
            have jf23 := J6g_nodes hJS31.1
            have je25 : ((b0g_count (b1g_owners S31.2))).toInt = ((b0g_count (b1g_owners S.2))).toInt := congrArg (fun z => ((b0g_count (b1g_owners z))).toInt) hFS31.2.2.2.2.2.2.2.2.2.2.2.2.2.2.2
            unfold wp_X6_findNodesOf_99
            refine ⟨fun c32 => ?_, fun c32 => ?_⟩
            · try simp (disch := first | ((try simp (disch := first | ((try simp only [pn]) <;> omega) | fail) only [pn, pq]) <;> omega) | fail) only [pn, pq] at c32
              unfold wp_X6_findNodesOf_131
              unfold wp_X6_findNodesOf_134
              refine ⟨_, ?_, ?_, ?_, ?_, ?_, rfl⟩
              · (try simp (disch := first | ((try simp (disch := first | ((try simp only [pn]) <;> omega) | fail) only [pn, pq]) <;> omega) | fail) only [pn, pq]) <;> (intros; (try simp (disch := first | ((try simp (disch := first | ((try simp only [pn]) <;> omega) | fail) only [pn, pq]) <;> omega) | fail) only [pn, pq]) <;> omega)
              · exact hJS31
              · exact hFS31
              · first | rfl | assumption
              · (try simp (disch := first | ((try simp (disch := first | ((try simp only [pn]) <;> omega) | fail) only [pn, pq]) <;> omega) | fail) only [pn, pq]) <;> (intros; (try simp (disch := first | ((try simp (disch := first | ((try simp only [pn]) <;> omega) | fail) only [pn, pq]) <;> omega) | fail) only [pn, pq]) <;> omega)
            · try simp (disch := first | ((try simp (disch := first | ((try simp only [pn]) <;> omega) | fail) only [pn, pq]) <;> omega) | fail) only [pn, pq] at c32
              refine ⟨fun c33 => ?_, fun c33 => ?_⟩
              · try simp (disch := first | ((try simp (disch := first | ((try simp only [pn]) <;> omega) | fail) only [pn, pq]) <;> omega) | fail) only [pn, pq] at c33
                unfold wp_X6_findNodesOf_131
                unfold wp_X6_findNodesOf_134
                refine ⟨_, ?_, ?_, ?_, ?_, ?_, rfl⟩
                · (try simp (disch := first | ((try simp (disch := first | ((try simp only [pn]) <;> omega) | fail) only [pn, pq]) <;> omega) | fail) only [pn, pq]) <;> (intros; (try simp (disch := first | ((try simp (disch := first | ((try simp only [pn]) <;> omega) | fail) only [pn, pq]) <;> omega) | fail) only [pn, pq]) <;> omega)
                · exact hJS31
                · exact hFS31
                · first | rfl | assumption
                · (try simp (disch := first | ((try simp (disch := first | ((try simp only [pn]) <;> omega) | fail) only [pn, pq]) <;> omega) | fail) only [pn, pq]) <;> (intros; (try simp (disch := first | ((try simp (disch := first | ((try simp only [pn]) <;> omega) | fail) only [pn, pq]) <;> omega) | fail) only [pn, pq]) <;> omega)
              · try simp (disch := first | ((try simp (disch := first | ((try simp only [pn]) <;> omega) | fail) only [pn, pq]) <;> omega) | fail) only [pn, pq] at c33
                refine ⟨pt_in (by (try simp (disch := first | ((try simp (disch := first | ((try simp only [pn]) <;> omega) | fail) only [pn, pq]) <;> omega) | fail) only [pn, pq]) <;> (intros; (try simp (disch := first | ((try simp (disch := first | ((try simp only [pn]) <;> omega) | fail) only [pn, pq]) <;> omega) | fail) only [pn, pq]) <;> omega)) (by (try simp (disch := first | ((try simp (disch := first | ((try simp only [pn]) <;> omega) | fail) only [pn, pq]) <;> omega) | fail) only [pn, pq]) <;> (intros; (try simp (disch := first | ((try simp (disch := first | ((try simp only [pn]) <;> omega) | fail) only [pn, pq]) <;> omega) | fail) only [pn, pq]) <;> omega)), ?_⟩
                intro v34 ev34
                have nv34 := congrArg Int32.toInt ev34
                try simp (disch := first | ((try simp (disch := first | ((try simp only [pn]) <;> omega) | fail) only [pn, pq]) <;> omega) | fail) only [pn, pq] at nv34
                refine ⟨pt_in (by (try simp (disch := first | ((try simp (disch := first | ((try simp only [pn]) <;> omega) | fail) only [pn, pq]) <;> omega) | fail) only [pn, pq]) <;> (intros; (try simp (disch := first | ((try simp (disch := first | ((try simp only [pn]) <;> omega) | fail) only [pn, pq]) <;> omega) | fail) only [pn, pq]) <;> omega)) (by (try simp (disch := first | ((try simp (disch := first | ((try simp only [pn]) <;> omega) | fail) only [pn, pq]) <;> omega) | fail) only [pn, pq]) <;> (intros; (try simp (disch := first | ((try simp (disch := first | ((try simp only [pn]) <;> omega) | fail) only [pn, pq]) <;> omega) | fail) only [pn, pq]) <;> omega)), ?_⟩
                intro S35 eS35
                have hJS35 : J6 S35.1 ∧ J1 S35.2 := by rw [eS35]; exact ⟨(J6s_leafCounts hJS31.1), hJS31.2⟩
                have hFS35 : F_X6_findNodesOf S S35 := by rw [eS35]; exact hFS31
                have je27 : ((b6g_nodes S35.1)).toInt = ((b6g_nodes S31.1)).toInt := by rw [eS35]
                have jf28 := J6g_nodes hJS35.1
                have je30 : ((b0g_count (b1g_owners S35.2))).toInt = ((b0g_count (b1g_owners S.2))).toInt := congrArg (fun z => ((b0g_count (b1g_owners z))).toInt) hFS35.2.2.2.2.2.2.2.2.2.2.2.2.2.2.2
                have ja31 : ((b6g_leafCounts S35.1) (((b6g_nodes S31.1) - (1 : Int32))).toNatClampNeg).toInt = (v34).toInt := by rw [eS35]; exact pt_upds
                try simp (disch := first | ((try simp (disch := first | ((try simp only [pn]) <;> omega) | fail) only [pn, pq]) <;> omega) | fail) only [pn, pq] at ja31
                unfold wp_X6_findNodesOf_131
                unfold wp_X6_findNodesOf_134
                refine ⟨_, ?_, ?_, ?_, ?_, ?_, rfl⟩
                · (try simp (disch := first | ((try simp (disch := first | ((try simp only [pn]) <;> omega) | fail) only [pn, pq]) <;> omega) | fail) only [pn, pq]) <;> (intros; (try simp (disch := first | ((try simp (disch := first | ((try simp only [pn]) <;> omega) | fail) only [pn, pq]) <;> omega) | fail) only [pn, pq]) <;> omega)
                · exact hJS35
                · exact hFS35
                · first | rfl | assumption
                · (try simp (disch := first | ((try simp (disch := first | ((try simp only [pn]) <;> omega) | fail) only [pn, pq]) <;> omega) | fail) only [pn, pq]) <;> (intros; (try simp (disch := first | ((try simp (disch := first | ((try simp only [pn]) <;> omega) | fail) only [pn, pq]) <;> omega) | fail) only [pn, pq]) <;> omega)
    · try simp (disch := first | ((try simp (disch := first | ((try simp only [pn]) <;> omega) | fail) only [pn, pq]) <;> omega) | fail) only [pn, pq] at c8
      refine sf_X1_isEnded hJSq1.2 (fun r36 hzr36  => ?_)
      refine ⟨fun c38 => ?_, fun c38 => ?_⟩
      · try simp (disch := first | ((try simp (disch := first | ((try simp only [pn]) <;> omega) | fail) only [pn, pq]) <;> omega) | fail) only [pn, pq] at c38
        unfold wp_X6_findNodesOf_47
        unfold wp_X6_findNodesOf_48
        refine ⟨fun c39 => ?_, fun c39 => ?_⟩
        · skip
          unfold wp_X6_findNodesOf_134
          refine ⟨_, ?_, ?_, ?_, ?_, ?_, rfl⟩
          · (try simp (disch := first | ((try simp (disch := first | ((try simp only [pn]) <;> omega) | fail) only [pn, pq]) <;> omega) | fail) only [pn, pq]) <;> (intros; (try simp (disch := first | ((try simp (disch := first | ((try simp only [pn]) <;> omega) | fail) only [pn, pq]) <;> omega) | fail) only [pn, pq]) <;> omega)
          · exact hJSq1
          · exact hFSq1
          · first | rfl | assumption
          · (try simp (disch := first | ((try simp (disch := first | ((try simp only [pn]) <;> omega) | fail) only [pn, pq]) <;> omega) | fail) only [pn, pq]) <;> (intros; (try simp (disch := first | ((try simp (disch := first | ((try simp only [pn]) <;> omega) | fail) only [pn, pq]) <;> omega) | fail) only [pn, pq]) <;> omega)
        · exact absurd c39 (by decide)
      · try simp (disch := first | ((try simp (disch := first | ((try simp only [pn]) <;> omega) | fail) only [pn, pq]) <;> omega) | fail) only [pn, pq] at c38
        refine sf_X1_lengthAt hJSq1.2 (fun r40 hr40_0 => ?_)
        have rgr40 := pt_rg r40
        try simp (disch := first | ((try simp (disch := first | ((try simp only [pn]) <;> omega) | fail) only [pn, pq]) <;> omega) | fail) only [pn, pq] at hr40_0
        refine ⟨fun c42 => ?_, fun c42 => ?_⟩
        · try simp (disch := first | ((try simp (disch := first | ((try simp only [pn]) <;> omega) | fail) only [pn, pq]) <;> omega) | fail) only [pn, pq] at c42
          unfold wp_X6_findNodesOf_47
          unfold wp_X6_findNodesOf_48
          refine ⟨fun c43 => ?_, fun c43 => ?_⟩
          · skip
            unfold wp_X6_findNodesOf_134
            refine ⟨_, ?_, ?_, ?_, ?_, ?_, rfl⟩
            · (try simp (disch := first | ((try simp (disch := first | ((try simp only [pn]) <;> omega) | fail) only [pn, pq]) <;> omega) | fail) only [pn, pq]) <;> (intros; (try simp (disch := first | ((try simp (disch := first | ((try simp only [pn]) <;> omega) | fail) only [pn, pq]) <;> omega) | fail) only [pn, pq]) <;> omega)
            · exact hJSq1
            · exact hFSq1
            · first | rfl | assumption
            · (try simp (disch := first | ((try simp (disch := first | ((try simp only [pn]) <;> omega) | fail) only [pn, pq]) <;> omega) | fail) only [pn, pq]) <;> (intros; (try simp (disch := first | ((try simp (disch := first | ((try simp only [pn]) <;> omega) | fail) only [pn, pq]) <;> omega) | fail) only [pn, pq]) <;> omega)
          · exact absurd c43 (by decide)
        · try simp (disch := first | ((try simp (disch := first | ((try simp only [pn]) <;> omega) | fail) only [pn, pq]) <;> omega) | fail) only [pn, pq] at c42
          unfold wp_X6_findNodesOf_43
          unfold wp_X6_findNodesOf_48
          refine ⟨fun c44 => ?_, fun c44 => ?_⟩
          · exact absurd c44 (by decide)
          · skip
            refine sf_X0_bytesAt (J1g_owners hJSq1.2) (fun r45  => ?_)
            refine sf_X0_bytesAt (J1g_owners hJSq1.2) (fun r47  => ?_)
            refine ⟨fun c49 => ?_, fun c49 => ?_⟩
            · try simp (disch := first | ((try simp (disch := first | ((try simp only [pn]) <;> omega) | fail) only [pn, pq]) <;> omega) | fail) only [pn, pq] at c49
              unfold wp_X6_findNodesOf_92
              refine sf_X6_addNode hJSq1.1 (fun u51 hJu51 hfu51  => ?_)
              intro S52 eS52
              have hGS52 : F_X6_findNodesOf S S52 := by
                rw [eS52]
                exact ⟨(congrArg (fun z => z) hfu51.1).trans hFSq1.1, (congrArg (fun z => z) hfu51.2.1).trans hFSq1.2.1, (congrArg (fun z => z) hfu51.2.2.1).trans hFSq1.2.2.1, (congrArg (fun z => z) hfu51.2.2.2.1).trans hFSq1.2.2.2.1, (congrArg (fun z => z) hfu51.2.2.2.2.1).trans hFSq1.2.2.2.2.1, (congrArg (fun z => z) hfu51.2.2.2.2.2.1).trans hFSq1.2.2.2.2.2.1, (congrArg (fun z => z) hfu51.2.2.2.2.2.2.1).trans hFSq1.2.2.2.2.2.2.1, (congrArg (fun z => z) hfu51.2.2.2.2.2.2.2.1).trans hFSq1.2.2.2.2.2.2.2.1, (congrArg (fun z => z) hfu51.2.2.2.2.2.2.2.2.1).trans hFSq1.2.2.2.2.2.2.2.2.1, (congrArg (fun z => z) hfu51.2.2.2.2.2.2.2.2.2.1).trans hFSq1.2.2.2.2.2.2.2.2.2.1, (congrArg (fun z => z) hfu51.2.2.2.2.2.2.2.2.2.2.1).trans hFSq1.2.2.2.2.2.2.2.2.2.2.1, (congrArg (fun z => z) hfu51.2.2.2.2.2.2.2.2.2.2.2.1).trans hFSq1.2.2.2.2.2.2.2.2.2.2.2.1, (congrArg (fun z => z) hfu51.2.2.2.2.2.2.2.2.2.2.2.2.1).trans hFSq1.2.2.2.2.2.2.2.2.2.2.2.2.1, (congrArg (fun z => z) hfu51.2.2.2.2.2.2.2.2.2.2.2.2.2.1).trans hFSq1.2.2.2.2.2.2.2.2.2.2.2.2.2.1, (congrArg (fun z => z) hfu51.2.2.2.2.2.2.2.2.2.2.2.2.2.2).trans hFSq1.2.2.2.2.2.2.2.2.2.2.2.2.2.2.1, hFSq1.2.2.2.2.2.2.2.2.2.2.2.2.2.2.2⟩
              have hJS52 : J6 S52.1 ∧ J1 S52.2 := by rw [eS52]; exact ⟨hJu51, hJSq1.2⟩
              have hFS52 : F_X6_findNodesOf S S52 := hGS52
              have je32 : ((b6g_nodes S52.1)).toInt = ((b6g_nodes u51)).toInt := by rw [eS52]
              try simp (disch := first | ((try simp (disch := first | ((try simp only [pn]) <;> omega) | fail) only [pn, pq]) <;> omega) | fail) only [pn, pq] at je32
              have jf33 := J6g_nodes hJS52.1
              have je35 : ((b0g_count (b1g_owners S52.2))).toInt = ((b0g_count (b1g_owners S.2))).toInt := congrArg (fun z => ((b0g_count (b1g_owners z))).toInt) hFS52.2.2.2.2.2.2.2.2.2.2.2.2.2.2.2
              unfold wp_X6_findNodesOf_99
              refine ⟨fun c53 => ?_, fun c53 => ?_⟩
              · try simp (disch := first | ((try simp (disch := first | ((try simp only [pn]) <;> omega) | fail) only [pn, pq]) <;> omega) | fail) only [pn, pq] at c53
                unfold wp_X6_findNodesOf_131
                unfold wp_X6_findNodesOf_134
                refine ⟨_, ?_, ?_, ?_, ?_, ?_, rfl⟩
                · (try simp (disch := first | ((try simp (disch := first | ((try simp only [pn]) <;> omega) | fail) only [pn, pq]) <;> omega) | fail) only [pn, pq]) <;> (intros; (try simp (disch := first | ((try simp (disch := first | ((try simp only [pn]) <;> omega) | fail) only [pn, pq]) <;> omega) | fail) only [pn, pq]) <;> omega)
                · exact hJS52
                · exact hFS52
                · first | rfl | assumption
                · (try simp (disch := first | ((try simp (disch := first | ((try simp only [pn]) <;> omega) | fail) only [pn, pq]) <;> omega) | fail) only [pn, pq]) <;> (intros; (try simp (disch := first | ((try simp (disch := first | ((try simp only [pn]) <;> omega) | fail) only [pn, pq]) <;> omega) | fail) only [pn, pq]) <;> omega)
              · try simp (disch := first | ((try simp (disch := first | ((try simp only [pn]) <;> omega) | fail) only [pn, pq]) <;> omega) | fail) only [pn, pq] at c53
                refine ⟨fun c54 => ?_, fun c54 => ?_⟩
                · try simp (disch := first | ((try simp (disch := first | ((try simp only [pn]) <;> omega) | fail) only [pn, pq]) <;> omega) | fail) only [pn, pq] at c54
                  unfold wp_X6_findNodesOf_131
                  unfold wp_X6_findNodesOf_134
                  refine ⟨_, ?_, ?_, ?_, ?_, ?_, rfl⟩
                  · (try simp (disch := first | ((try simp (disch := first | ((try simp only [pn]) <;> omega) | fail) only [pn, pq]) <;> omega) | fail) only [pn, pq]) <;> (intros; (try simp (disch := first | ((try simp (disch := first | ((try simp only [pn]) <;> omega) | fail) only [pn, pq]) <;> omega) | fail) only [pn, pq]) <;> omega)
                  · exact hJS52
                  · exact hFS52
                  · first | rfl | assumption
                  · (try simp (disch := first | ((try simp (disch := first | ((try simp only [pn]) <;> omega) | fail) only [pn, pq]) <;> omega) | fail) only [pn, pq]) <;> (intros; (try simp (disch := first | ((try simp (disch := first | ((try simp only [pn]) <;> omega) | fail) only [pn, pq]) <;> omega) | fail) only [pn, pq]) <;> omega)
                · try simp (disch := first | ((try simp (disch := first | ((try simp only [pn]) <;> omega) | fail) only [pn, pq]) <;> omega) | fail) only [pn, pq] at c54
                  refine ⟨pt_in (by (try simp (disch := first | ((try simp (disch := first | ((try simp only [pn]) <;> omega) | fail) only [pn, pq]) <;> omega) | fail) only [pn, pq]) <;> (intros; (try simp (disch := first | ((try simp (disch := first | ((try simp only [pn]) <;> omega) | fail) only [pn, pq]) <;> omega) | fail) only [pn, pq]) <;> omega)) (by (try simp (disch := first | ((try simp (disch := first | ((try simp only [pn]) <;> omega) | fail) only [pn, pq]) <;> omega) | fail) only [pn, pq]) <;> (intros; (try simp (disch := first | ((try simp (disch := first | ((try simp only [pn]) <;> omega) | fail) only [pn, pq]) <;> omega) | fail) only [pn, pq]) <;> omega)), ?_⟩
                  intro v55 ev55
                  have nv55 := congrArg Int32.toInt ev55
                  try simp (disch := first | ((try simp (disch := first | ((try simp only [pn]) <;> omega) | fail) only [pn, pq]) <;> omega) | fail) only [pn, pq] at nv55
                  refine ⟨pt_in (by (try simp (disch := first | ((try simp (disch := first | ((try simp only [pn]) <;> omega) | fail) only [pn, pq]) <;> omega) | fail) only [pn, pq]) <;> (intros; (try simp (disch := first | ((try simp (disch := first | ((try simp only [pn]) <;> omega) | fail) only [pn, pq]) <;> omega) | fail) only [pn, pq]) <;> omega)) (by (try simp (disch := first | ((try simp (disch := first | ((try simp only [pn]) <;> omega) | fail) only [pn, pq]) <;> omega) | fail) only [pn, pq]) <;> (intros; (try simp (disch := first | ((try simp (disch := first | ((try simp only [pn]) <;> omega) | fail) only [pn, pq]) <;> omega) | fail) only [pn, pq]) <;> omega)), ?_⟩
                  intro S56 eS56
                  have hJS56 : J6 S56.1 ∧ J1 S56.2 := by rw [eS56]; exact ⟨(J6s_leafCounts hJS52.1), hJS52.2⟩
                  have hFS56 : F_X6_findNodesOf S S56 := by rw [eS56]; exact hFS52
                  have je37 : ((b6g_nodes S56.1)).toInt = ((b6g_nodes S52.1)).toInt := by rw [eS56]
                  have jf38 := J6g_nodes hJS56.1
                  have je40 : ((b0g_count (b1g_owners S56.2))).toInt = ((b0g_count (b1g_owners S.2))).toInt := congrArg (fun z => ((b0g_count (b1g_owners z))).toInt) hFS56.2.2.2.2.2.2.2.2.2.2.2.2.2.2.2
                  have ja41 : ((b6g_leafCounts S56.1) (((b6g_nodes S52.1) - (1 : Int32))).toNatClampNeg).toInt = (v55).toInt := by rw [eS56]; exact pt_upds
                  try simp (disch := first | ((try simp (disch := first | ((try simp only [pn]) <;> omega) | fail) only [pn, pq]) <;> omega) | fail) only [pn, pq] at ja41
                  unfold wp_X6_findNodesOf_131
                  unfold wp_X6_findNodesOf_134
                  refine ⟨_, ?_, ?_, ?_, ?_, ?_, rfl⟩
                  · (try simp (disch := first | ((try simp (disch := first | ((try simp only [pn]) <;> omega) | fail) only [pn, pq]) <;> omega) | fail) only [pn, pq]) <;> (intros; (try simp (disch := first | ((try simp (disch := first | ((try simp only [pn]) <;> omega) | fail) only [pn, pq]) <;> omega) | fail) only [pn, pq]) <;> omega)
                  · exact hJS56
                  · exact hFS56
                  · first | rfl | assumption
                  · (try simp (disch := first | ((try simp (disch := first | ((try simp only [pn]) <;> omega) | fail) only [pn, pq]) <;> omega) | fail) only [pn, pq]) <;> (intros; (try simp (disch := first | ((try simp (disch := first | ((try simp only [pn]) <;> omega) | fail) only [pn, pq]) <;> omega) | fail) only [pn, pq]) <;> omega)
            · try simp (disch := first | ((try simp (disch := first | ((try simp only [pn]) <;> omega) | fail) only [pn, pq]) <;> omega) | fail) only [pn, pq] at c49
              refine sf_X8_front  (fun r57 hr57_0 => ?_)
              refine ⟨fun c59 => ?_, fun c59 => ?_⟩
              · try simp (disch := first | ((try simp (disch := first | ((try simp only [pn]) <;> omega) | fail) only [pn, pq]) <;> omega) | fail) only [pn, pq] at c59
                unfold wp_X6_findNodesOf_99
                refine ⟨fun c60 => ?_, fun c60 => ?_⟩
                · try simp (disch := first | ((try simp (disch := first | ((try simp only [pn]) <;> omega) | fail) only [pn, pq]) <;> omega) | fail) only [pn, pq] at c60
                  unfold wp_X6_findNodesOf_131
                  unfold wp_X6_findNodesOf_134
                  refine ⟨_, ?_, ?_, ?_, ?_, ?_, rfl⟩
                  · (try simp (disch := first | ((try simp (disch := first | ((try simp only [pn]) <;> omega) | fail) only [pn, pq]) <;> omega) | fail) only [pn, pq]) <;> (intros; (try simp (disch := first | ((try simp (disch := first | ((try simp only [pn]) <;> omega) | fail) only [pn, pq]) <;> omega) | fail) only [pn, pq]) <;> omega)
                  · exact hJSq1
                  · exact hFSq1
                  · first | rfl | assumption
                  · (try simp (disch := first | ((try simp (disch := first | ((try simp only [pn]) <;> omega) | fail) only [pn, pq]) <;> omega) | fail) only [pn, pq]) <;> (intros; (try simp (disch := first | ((try simp (disch := first | ((try simp only [pn]) <;> omega) | fail) only [pn, pq]) <;> omega) | fail) only [pn, pq]) <;> omega)
                · try simp (disch := first | ((try simp (disch := first | ((try simp only [pn]) <;> omega) | fail) only [pn, pq]) <;> omega) | fail) only [pn, pq] at c60
                  refine ⟨fun c61 => ?_, fun c61 => ?_⟩
                  · try simp (disch := first | ((try simp (disch := first | ((try simp only [pn]) <;> omega) | fail) only [pn, pq]) <;> omega) | fail) only [pn, pq] at c61
                    unfold wp_X6_findNodesOf_131
                    unfold wp_X6_findNodesOf_134
                    refine ⟨_, ?_, ?_, ?_, ?_, ?_, rfl⟩
                    · (try simp (disch := first | ((try simp (disch := first | ((try simp only [pn]) <;> omega) | fail) only [pn, pq]) <;> omega) | fail) only [pn, pq]) <;> (intros; (try simp (disch := first | ((try simp (disch := first | ((try simp only [pn]) <;> omega) | fail) only [pn, pq]) <;> omega) | fail) only [pn, pq]) <;> omega)
                    · exact hJSq1
                    · exact hFSq1
                    · first | rfl | assumption
                    · (try simp (disch := first | ((try simp (disch := first | ((try simp only [pn]) <;> omega) | fail) only [pn, pq]) <;> omega) | fail) only [pn, pq]) <;> (intros; (try simp (disch := first | ((try simp (disch := first | ((try simp only [pn]) <;> omega) | fail) only [pn, pq]) <;> omega) | fail) only [pn, pq]) <;> omega)
                  · try simp (disch := first | ((try simp (disch := first | ((try simp only [pn]) <;> omega) | fail) only [pn, pq]) <;> omega) | fail) only [pn, pq] at c61
                    refine ⟨pt_in (by (try simp (disch := first | ((try simp (disch := first | ((try simp only [pn]) <;> omega) | fail) only [pn, pq]) <;> omega) | fail) only [pn, pq]) <;> (intros; (try simp (disch := first | ((try simp (disch := first | ((try simp only [pn]) <;> omega) | fail) only [pn, pq]) <;> omega) | fail) only [pn, pq]) <;> omega)) (by (try simp (disch := first | ((try simp (disch := first | ((try simp only [pn]) <;> omega) | fail) only [pn, pq]) <;> omega) | fail) only [pn, pq]) <;> (intros; (try simp (disch := first | ((try simp (disch := first | ((try simp only [pn]) <;> omega) | fail) only [pn, pq]) <;> omega) | fail) only [pn, pq]) <;> omega)), ?_⟩
                    intro v62 ev62
                    have nv62 := congrArg Int32.toInt ev62
                    try simp (disch := first | ((try simp (disch := first | ((try simp only [pn]) <;> omega) | fail) only [pn, pq]) <;> omega) | fail) only [pn, pq] at nv62
                    refine ⟨pt_in (by (try simp (disch := first | ((try simp (disch := first | ((try simp only [pn]) <;> omega) | fail) only [pn, pq]) <;> omega) | fail) only [pn, pq]) <;> (intros; (try simp (disch := first | ((try simp (disch := first | ((try simp only [pn]) <;> omega) | fail) only [pn, pq]) <;> omega) | fail) only [pn, pq]) <;> omega)) (by (try simp (disch := first | ((try simp (disch := first | ((try simp only [pn]) <;> omega) | fail) only [pn, pq]) <;> omega) | fail) only [pn, pq]) <;> (intros; (try simp (disch := first | ((try simp (disch := first | ((try simp only [pn]) <;> omega) | fail) only [pn, pq]) <;> omega) | fail) only [pn, pq]) <;> omega)), ?_⟩
                    intro S63 eS63
                    have hJS63 : J6 S63.1 ∧ J1 S63.2 := by rw [eS63]; exact ⟨(J6s_leafCounts hJSq1.1), hJSq1.2⟩
                    have hFS63 : F_X6_findNodesOf S S63 := by rw [eS63]; exact hFSq1
                    have je43 : ((b6g_nodes S63.1)).toInt = ((b6g_nodes Sq1.1)).toInt := by rw [eS63]
                    have jf44 := J6g_nodes hJS63.1
                    have je46 : ((b0g_count (b1g_owners S63.2))).toInt = ((b0g_count (b1g_owners S.2))).toInt := congrArg (fun z => ((b0g_count (b1g_owners z))).toInt) hFS63.2.2.2.2.2.2.2.2.2.2.2.2.2.2.2
                    have ja47 : ((b6g_leafCounts S63.1) (((b6g_nodes Sq1.1) - (1 : Int32))).toNatClampNeg).toInt = (v62).toInt := by rw [eS63]; exact pt_upds
                    try simp (disch := first | ((try simp (disch := first | ((try simp only [pn]) <;> omega) | fail) only [pn, pq]) <;> omega) | fail) only [pn, pq] at ja47
                    unfold wp_X6_findNodesOf_131
                    unfold wp_X6_findNodesOf_134
                    refine ⟨_, ?_, ?_, ?_, ?_, ?_, rfl⟩
                    · (try simp (disch := first | ((try simp (disch := first | ((try simp only [pn]) <;> omega) | fail) only [pn, pq]) <;> omega) | fail) only [pn, pq]) <;> (intros; (try simp (disch := first | ((try simp (disch := first | ((try simp only [pn]) <;> omega) | fail) only [pn, pq]) <;> omega) | fail) only [pn, pq]) <;> omega)
                    · exact hJS63
                    · exact hFS63
                    · first | rfl | assumption
                    · (try simp (disch := first | ((try simp (disch := first | ((try simp only [pn]) <;> omega) | fail) only [pn, pq]) <;> omega) | fail) only [pn, pq]) <;> (intros; (try simp (disch := first | ((try simp (disch := first | ((try simp only [pn]) <;> omega) | fail) only [pn, pq]) <;> omega) | fail) only [pn, pq]) <;> omega)
              · try simp (disch := first | ((try simp (disch := first | ((try simp only [pn]) <;> omega) | fail) only [pn, pq]) <;> omega) | fail) only [pn, pq] at c59
                unfold wp_X6_findNodesOf_92
                refine sf_X6_addNode hJSq1.1 (fun u65 hJu65 hfu65  => ?_)
                intro S66 eS66
                have hGS66 : F_X6_findNodesOf S S66 := by
                  rw [eS66]
                  exact ⟨(congrArg (fun z => z) hfu65.1).trans hFSq1.1, (congrArg (fun z => z) hfu65.2.1).trans hFSq1.2.1, (congrArg (fun z => z) hfu65.2.2.1).trans hFSq1.2.2.1, (congrArg (fun z => z) hfu65.2.2.2.1).trans hFSq1.2.2.2.1, (congrArg (fun z => z) hfu65.2.2.2.2.1).trans hFSq1.2.2.2.2.1, (congrArg (fun z => z) hfu65.2.2.2.2.2.1).trans hFSq1.2.2.2.2.2.1, (congrArg (fun z => z) hfu65.2.2.2.2.2.2.1).trans hFSq1.2.2.2.2.2.2.1, (congrArg (fun z => z) hfu65.2.2.2.2.2.2.2.1).trans hFSq1.2.2.2.2.2.2.2.1, (congrArg (fun z => z) hfu65.2.2.2.2.2.2.2.2.1).trans hFSq1.2.2.2.2.2.2.2.2.1, (congrArg (fun z => z) hfu65.2.2.2.2.2.2.2.2.2.1).trans hFSq1.2.2.2.2.2.2.2.2.2.1, (congrArg (fun z => z) hfu65.2.2.2.2.2.2.2.2.2.2.1).trans hFSq1.2.2.2.2.2.2.2.2.2.2.1, (congrArg (fun z => z) hfu65.2.2.2.2.2.2.2.2.2.2.2.1).trans hFSq1.2.2.2.2.2.2.2.2.2.2.2.1, (congrArg (fun z => z) hfu65.2.2.2.2.2.2.2.2.2.2.2.2.1).trans hFSq1.2.2.2.2.2.2.2.2.2.2.2.2.1, (congrArg (fun z => z) hfu65.2.2.2.2.2.2.2.2.2.2.2.2.2.1).trans hFSq1.2.2.2.2.2.2.2.2.2.2.2.2.2.1, (congrArg (fun z => z) hfu65.2.2.2.2.2.2.2.2.2.2.2.2.2.2).trans hFSq1.2.2.2.2.2.2.2.2.2.2.2.2.2.2.1, hFSq1.2.2.2.2.2.2.2.2.2.2.2.2.2.2.2⟩
                have hJS66 : J6 S66.1 ∧ J1 S66.2 := by rw [eS66]; exact ⟨hJu65, hJSq1.2⟩
                have hFS66 : F_X6_findNodesOf S S66 := hGS66
                have je48 : ((b6g_nodes S66.1)).toInt = ((b6g_nodes u65)).toInt := by rw [eS66]
                try simp (disch := first | ((try simp (disch := first | ((try simp only [pn]) <;> omega) | fail) only [pn, pq]) <;> omega) | fail) only [pn, pq] at je48
                have jf49 := J6g_nodes hJS66.1
                have je51 : ((b0g_count (b1g_owners S66.2))).toInt = ((b0g_count (b1g_owners S.2))).toInt := congrArg (fun z => ((b0g_count (b1g_owners z))).toInt) hFS66.2.2.2.2.2.2.2.2.2.2.2.2.2.2.2
                unfold wp_X6_findNodesOf_99
                refine ⟨fun c67 => ?_, fun c67 => ?_⟩
                · try simp (disch := first | ((try simp (disch := first | ((try simp only [pn]) <;> omega) | fail) only [pn, pq]) <;> omega) | fail) only [pn, pq] at c67
                  unfold wp_X6_findNodesOf_131
                  unfold wp_X6_findNodesOf_134
                  refine ⟨_, ?_, ?_, ?_, ?_, ?_, rfl⟩
                  · (try simp (disch := first | ((try simp (disch := first | ((try simp only [pn]) <;> omega) | fail) only [pn, pq]) <;> omega) | fail) only [pn, pq]) <;> (intros; (try simp (disch := first | ((try simp (disch := first | ((try simp only [pn]) <;> omega) | fail) only [pn, pq]) <;> omega) | fail) only [pn, pq]) <;> omega)
                  · exact hJS66
                  · exact hFS66
                  · first | rfl | assumption
                  · (try simp (disch := first | ((try simp (disch := first | ((try simp only [pn]) <;> omega) | fail) only [pn, pq]) <;> omega) | fail) only [pn, pq]) <;> (intros; (try simp (disch := first | ((try simp (disch := first | ((try simp only [pn]) <;> omega) | fail) only [pn, pq]) <;> omega) | fail) only [pn, pq]) <;> omega)
                · try simp (disch := first | ((try simp (disch := first | ((try simp only [pn]) <;> omega) | fail) only [pn, pq]) <;> omega) | fail) only [pn, pq] at c67
                  refine ⟨fun c68 => ?_, fun c68 => ?_⟩
                  · try simp (disch := first | ((try simp (disch := first | ((try simp only [pn]) <;> omega) | fail) only [pn, pq]) <;> omega) | fail) only [pn, pq] at c68
                    unfold wp_X6_findNodesOf_131
                    unfold wp_X6_findNodesOf_134
                    refine ⟨_, ?_, ?_, ?_, ?_, ?_, rfl⟩
                    · (try simp (disch := first | ((try simp (disch := first | ((try simp only [pn]) <;> omega) | fail) only [pn, pq]) <;> omega) | fail) only [pn, pq]) <;> (intros; (try simp (disch := first | ((try simp (disch := first | ((try simp only [pn]) <;> omega) | fail) only [pn, pq]) <;> omega) | fail) only [pn, pq]) <;> omega)
                    · exact hJS66
                    · exact hFS66
                    · first | rfl | assumption
                    · (try simp (disch := first | ((try simp (disch := first | ((try simp only [pn]) <;> omega) | fail) only [pn, pq]) <;> omega) | fail) only [pn, pq]) <;> (intros; (try simp (disch := first | ((try simp (disch := first | ((try simp only [pn]) <;> omega) | fail) only [pn, pq]) <;> omega) | fail) only [pn, pq]) <;> omega)
                  · try simp (disch := first | ((try simp (disch := first | ((try simp only [pn]) <;> omega) | fail) only [pn, pq]) <;> omega) | fail) only [pn, pq] at c68
                    refine ⟨pt_in (by (try simp (disch := first | ((try simp (disch := first | ((try simp only [pn]) <;> omega) | fail) only [pn, pq]) <;> omega) | fail) only [pn, pq]) <;> (intros; (try simp (disch := first | ((try simp (disch := first | ((try simp only [pn]) <;> omega) | fail) only [pn, pq]) <;> omega) | fail) only [pn, pq]) <;> omega)) (by (try simp (disch := first | ((try simp (disch := first | ((try simp only [pn]) <;> omega) | fail) only [pn, pq]) <;> omega) | fail) only [pn, pq]) <;> (intros; (try simp (disch := first | ((try simp (disch := first | ((try simp only [pn]) <;> omega) | fail) only [pn, pq]) <;> omega) | fail) only [pn, pq]) <;> omega)), ?_⟩
                    intro v69 ev69
                    have nv69 := congrArg Int32.toInt ev69
                    try simp (disch := first | ((try simp (disch := first | ((try simp only [pn]) <;> omega) | fail) only [pn, pq]) <;> omega) | fail) only [pn, pq] at nv69
                    refine ⟨pt_in (by (try simp (disch := first | ((try simp (disch := first | ((try simp only [pn]) <;> omega) | fail) only [pn, pq]) <;> omega) | fail) only [pn, pq]) <;> (intros; (try simp (disch := first | ((try simp (disch := first | ((try simp only [pn]) <;> omega) | fail) only [pn, pq]) <;> omega) | fail) only [pn, pq]) <;> omega)) (by (try simp (disch := first | ((try simp (disch := first | ((try simp only [pn]) <;> omega) | fail) only [pn, pq]) <;> omega) | fail) only [pn, pq]) <;> (intros; (try simp (disch := first | ((try simp (disch := first | ((try simp only [pn]) <;> omega) | fail) only [pn, pq]) <;> omega) | fail) only [pn, pq]) <;> omega)), ?_⟩
                    intro S70 eS70
                    have hJS70 : J6 S70.1 ∧ J1 S70.2 := by rw [eS70]; exact ⟨(J6s_leafCounts hJS66.1), hJS66.2⟩
                    have hFS70 : F_X6_findNodesOf S S70 := by rw [eS70]; exact hFS66
                    have je53 : ((b6g_nodes S70.1)).toInt = ((b6g_nodes S66.1)).toInt := by rw [eS70]
                    have jf54 := J6g_nodes hJS70.1
                    have je56 : ((b0g_count (b1g_owners S70.2))).toInt = ((b0g_count (b1g_owners S.2))).toInt := congrArg (fun z => ((b0g_count (b1g_owners z))).toInt) hFS70.2.2.2.2.2.2.2.2.2.2.2.2.2.2.2
                    have ja57 : ((b6g_leafCounts S70.1) (((b6g_nodes S66.1) - (1 : Int32))).toNatClampNeg).toInt = (v69).toInt := by rw [eS70]; exact pt_upds
                    try simp (disch := first | ((try simp (disch := first | ((try simp only [pn]) <;> omega) | fail) only [pn, pq]) <;> omega) | fail) only [pn, pq] at ja57
                    unfold wp_X6_findNodesOf_131
                    unfold wp_X6_findNodesOf_134
                    refine ⟨_, ?_, ?_, ?_, ?_, ?_, rfl⟩
                    · (try simp (disch := first | ((try simp (disch := first | ((try simp only [pn]) <;> omega) | fail) only [pn, pq]) <;> omega) | fail) only [pn, pq]) <;> (intros; (try simp (disch := first | ((try simp (disch := first | ((try simp only [pn]) <;> omega) | fail) only [pn, pq]) <;> omega) | fail) only [pn, pq]) <;> omega)
                    · exact hJS70
                    · exact hFS70
                    · first | rfl | assumption
                    · (try simp (disch := first | ((try simp (disch := first | ((try simp only [pn]) <;> omega) | fail) only [pn, pq]) <;> omega) | fail) only [pn, pq]) <;> (intros; (try simp (disch := first | ((try simp (disch := first | ((try simp only [pn]) <;> omega) | fail) only [pn, pq]) <;> omega) | fail) only [pn, pq]) <;> omega)
