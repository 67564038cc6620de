set_option maxRecDepth 20000 in
set_option maxHeartbeats 8000000 in
theorem sf_X9_onesAhead {S : bT9} (hJ : K9 S) {a1 : Int32} {Q : Int32 → Prop} (hq : ∀ r : Int32, (0 ≤ r.toInt) → Q r) : wp_X9_onesAhead S a1 Q := by
  unfold wp_X9_onesAhead
  have jf1 := K9g_oneMany hJ
  have jf2 : (-4 ≤ ((b9g_now S) 1).toInt ∧ ((b9g_now S) 1).toInt ≤ 4) ∧ (-3 ≤ ((b9g_now S) 4).toInt ∧ ((b9g_now S) 4).toInt ≤ 252) ∧ (0 ≤ ((b9g_now S) 8).toInt ∧ ((b9g_now S) 8).toInt ≤ 64) ∧ (0 ≤ ((b9g_now S) 9).toInt ∧ ((b9g_now S) 9).toInt ≤ 64) ∧ (0 ≤ ((b9g_now S) 10).toInt ∧ ((b9g_now S) 10).toInt ≤ 16) ∧ (0 ≤ ((b9g_now S) 12).toInt ∧ ((b9g_now S) 12).toInt ≤ 8) := K9g_now hJ
  have rga1 := pt_rg a1
  refine ⟨fun n x1q1 x2q1 => (x1q1 = a1) ∧ (0 ≤ (x2q1).toInt) ∧ n = (((b9g_oneMany S)).toInt + 1 - (x2q1).toInt).toNat, ⟨_, rfl, (by (try simp (disch := first | ((try simp (disch := first | ((try simp only [pn]) <;> omega) | fail) only [pn, pq]) <;> omega) | fail) only [pn, pq]) <;> (intros; (try simp (disch := first | ((try simp (disch := first | ((try simp only [pn]) <;> omega) | fail) only [pn, pq]) <;> omega) | fail) only [pn, pq]) <;> omega)), rfl⟩, ?_⟩
  rintro n2 x1q1 x2q1 ⟨hkq1_0, hiq1_0, hn2⟩
  subst hkq1_0
  have rgx1q1 := pt_rg x1q1
  have rgx2q1 := pt_rg x2q1
  unfold wp_X9_onesAhead_2b
  refine ⟨fun c3 => ?_, fun c3 => ?_⟩
  · try simp (disch := first | ((try simp (disch := first | ((try simp only [pn]) <;> omega) | fail) only [pn, pq]) <;> omega) | fail) only [pn, pq] at c3
    exact hq _ (by (try simp (disch := first | ((try simp (disch := first | ((try simp only [pn]) <;> omega) | fail) only [pn, pq]) <;> omega) | fail) only [pn, pq]) <;> (intros; (try simp (disch := first | ((try simp (disch := first | ((try simp only [pn]) <;> omega) | fail) only [pn, pq]) <;> omega) | fail) only [pn, pq]) <;> omega))
  · try simp (disch := first | ((try simp (disch := first | ((try simp only [pn]) <;> omega) | fail) only [pn, pq]) <;> omega) | fail) only [pn, pq] at c3
    refine ⟨pt_in (by (try simp (disch := first | ((try simp (disch := first | ((try simp only [pn]) <;> omega) | fail) only [pn, pq]) <;> omega) | fail) only [pn, pq]) <;> (intros; (try simp (disch := first | ((try simp (disch := first | ((try simp only [pn]) <;> omega) | fail) only [pn, pq]) <;> omega) | fail) only [pn, pq]) <;> omega)) (by (try simp (disch := first | ((try simp (disch := first | ((try simp only [pn]) <;> omega) | fail) only [pn, pq]) <;> omega) | fail) only [pn, pq]) <;> (intros; (try simp (disch := first | ((try simp (disch := first | ((try simp only [pn]) <;> omega) | fail) only [pn, pq]) <;> omega) | fail) only [pn, pq]) <;> omega)), ?_⟩
    refine ⟨fun c4 => ?_, fun c4 => ?_⟩
    · try simp (disch := first | ((try simp (disch := first | ((try simp only [pn]) <;> omega) | fail) only [pn, pq]) <;> omega) | fail) only [pn, pq] at c4
      exact hq _ (by (try simp (disch := first | ((try simp (disch := first | ((try simp only [pn]) <;> omega) | fail) only [pn, pq]) <;> omega) | fail) only [pn, pq]) <;> (intros; (try simp (disch := first | ((try simp (disch := first | ((try simp only [pn]) <;> omega) | fail) only [pn, pq]) <;> omega) | fail) only [pn, pq]) <;> omega))
    · try simp (disch := first | ((try simp (disch := first | ((try simp only [pn]) <;> omega) | fail) only [pn, pq]) <;> omega) | fail) only [pn, pq] at c4
      refine ⟨_, ?_, ?_, ?_, rfl⟩
      · (try simp (disch := first | ((try simp (disch := first | ((try simp only [pn]) <;> omega) | fail) only [pn, pq]) <;> omega) | fail) only [pn, pq]) <;> (intros; (try simp (disch := first | ((try simp (disch := first | ((try simp only [pn]) <;> omega) | fail) only [pn, pq]) <;> omega) | fail) only [pn, pq]) <;> omega)
      · first | rfl | assumption
      · (try simp (disch := first | ((try simp (disch := first | ((try simp only [pn]) <;> omega) | fail) only [pn, pq]) <;> omega) | fail) only [pn, pq]) <;> (intros; (try simp (disch := first | ((try simp (disch := first | ((try simp only [pn]) <;> omega) | fail) only [pn, pq]) <;> omega) | fail) only [pn, pq]) <;> omega)
def F_X9_bit (S u : bT9) : Prop := (b9g_now u) = (b9g_now S) ∧ (b9g_keys u) = (b9g_keys S) ∧ (b9g_lengths u) = (b9g_lengths S) ∧ (b9g_drawn u) = (b9g_drawn S) ∧ (b9g_drawnLength u) = (b9g_drawnLength S) ∧ (b9g_tape u) = (b9g_tape S) ∧ (b9g_taped u) = (b9g_taped S) ∧ (b9g_names u) = (b9g_names S) ∧ (b9g_chosen u) = (b9g_chosen S) ∧ (b9g_lowKey u) = (b9g_lowKey S) ∧ (b9g_highKey u) = (b9g_highKey S) ∧ (b9g_lowLength u) = (b9g_lowLength S) ∧ (b9g_highLength u) = (b9g_highLength S) ∧ (b9g_fromKey u) = (b9g_fromKey S) ∧ (b9g_toKey u) = (b9g_toKey S) ∧ (b9g_fromLength u) = (b9g_fromLength S) ∧ (b9g_toLength u) = (b9g_toLength S) ∧ (b9g_signs u) = (b9g_signs S) ∧ (b9g_signMany u) = (b9g_signMany S) ∧ (b9g_hasImage u) = (b9g_hasImage S) ∧ (b9g_images u) = (b9g_images S) ∧ (b9g_keyImages u) = (b9g_keyImages S) ∧ (b9g_lengthImages u) = (b9g_lengthImages S)
set_option maxRecDepth 20000 in
set_option maxHeartbeats 8000000 in
theorem sj_X9_bit {S : bT9} (hJ : J9 S) {a1 : Int32} {Q : Int32 → (bT9) → Prop} (hq : ∀ (r : Int32) (u : bT9), (J9 u) → F_X9_bit S u → Q r u) : wp_X9_bit S a1 Q := by
  unfold wp_X9_bit
  have hFS : F_X9_bit S S := ⟨rfl, rfl, rfl, rfl, rfl, rfl, rfl, rfl, rfl, rfl, rfl, rfl, rfl, rfl, rfl, rfl, rfl, rfl, rfl, rfl, rfl, rfl, rfl⟩
  have jf1 := J9g_oneMany hJ
  have jf2 : (-4 ≤ ((b9g_now S) 1).toInt ∧ ((b9g_now S) 1).toInt ≤ 4) ∧ (-3 ≤ ((b9g_now S) 4).toInt ∧ ((b9g_now S) 4).toInt ≤ 252) ∧ (0 ≤ ((b9g_now S) 8).toInt ∧ ((b9g_now S) 8).toInt ≤ 64) ∧ (0 ≤ ((b9g_now S) 9).toInt ∧ ((b9g_now S) 9).toInt ≤ 64) ∧ (0 ≤ ((b9g_now S) 10).toInt ∧ ((b9g_now S) 10).toInt ≤ 16) ∧ (0 ≤ ((b9g_now S) 12).toInt ∧ ((b9g_now S) 12).toInt ≤ 8) := J9g_now hJ
  have ju2_S := hJ.2.1
  have rga1 := pt_rg a1
  intro S1 eS1
  have hJS1 : J9 S1 := by rw [eS1]; exact (J9s_told hJ)
  have hFS1 : F_X9_bit S S1 := by rw [eS1]; exact hFS
  have je3 : ((b9g_oneMany S1)).toInt = ((b9g_oneMany S)).toInt := by rw [eS1]
  have jf4 := J9g_oneMany hJS1
  have je5 : ((b9g_rowLong S1)).toInt = ((b9g_rowLong S)).toInt := by rw [eS1]
  have je7 : ((b9g_now S1) 1).toInt = ((b9g_now S) 1).toInt := congrArg (fun z => (z 1).toInt) hFS1.1
  have je9 : ((b9g_now S1) 4).toInt = ((b9g_now S) 4).toInt := congrArg (fun z => (z 4).toInt) hFS1.1
  have je11 : ((b9g_now S1) 7).toInt = ((b9g_now S) 7).toInt := congrArg (fun z => (z 7).toInt) hFS1.1
  have je13 : ((b9g_now S1) 8).toInt = ((b9g_now S) 8).toInt := congrArg (fun z => (z 8).toInt) hFS1.1
  have je15 : ((b9g_now S1) 9).toInt = ((b9g_now S) 9).toInt := congrArg (fun z => (z 9).toInt) hFS1.1
  have je17 : ((b9g_now S1) 10).toInt = ((b9g_now S) 10).toInt := congrArg (fun z => (z 10).toInt) hFS1.1
  have je19 : ((b9g_now S1) 12).toInt = ((b9g_now S) 12).toInt := congrArg (fun z => (z 12).toInt) hFS1.1
  have ju19_S1 := hJS1.2.1
  refine sf_X9_laysOnes hJS1 (fun u3 hJu3 hfu3 hr2_0 hr2_1 => ?_)
  have hFu3 : F_X9_bit S u3 := ⟨(congrArg (fun z => z) hfu3.2.1).trans hFS1.1, (congrArg (fun z => z) hfu3.2.2.1).trans hFS1.2.1, (congrArg (fun z => z) hfu3.2.2.2.1).trans hFS1.2.2.1, (congrArg (fun z => z) hfu3.2.2.2.2.1).trans hFS1.2.2.2.1, (congrArg (fun z => z) hfu3.2.2.2.2.2.1).trans hFS1.2.2.2.2.1, (congrArg (fun z => z) hfu3.2.2.2.2.2.2.1).trans hFS1.2.2.2.2.2.1, (congrArg (fun z => z) hfu3.2.2.2.2.2.2.2.1).trans hFS1.2.2.2.2.2.2.1, (congrArg (fun z => z) hfu3.2.2.2.2.2.2.2.2.1).trans hFS1.2.2.2.2.2.2.2.1, (congrArg (fun z => z) hfu3.2.2.2.2.2.2.2.2.2.1).trans hFS1.2.2.2.2.2.2.2.2.1, (congrArg (fun z => z) hfu3.2.2.2.2.2.2.2.2.2.2.1).trans hFS1.2.2.2.2.2.2.2.2.2.1, (congrArg (fun z => z) hfu3.2.2.2.2.2.2.2.2.2.2.2.1).trans hFS1.2.2.2.2.2.2.2.2.2.2.1, (congrArg (fun z => z) hfu3.2.2.2.2.2.2.2.2.2.2.2.2.1).trans hFS1.2.2.2.2.2.2.2.2.2.2.2.1, (congrArg (fun z => z) hfu3.2.2.2.2.2.2.2.2.2.2.2.2.2.1).trans hFS1.2.2.2.2.2.2.2.2.2.2.2.2.1, (congrArg (fun z => z) hfu3.2.2.2.2.2.2.2.2.2.2.2.2.2.2.1).trans hFS1.2.2.2.2.2.2.2.2.2.2.2.2.2.1, (congrArg (fun z => z) hfu3.2.2.2.2.2.2.2.2.2.2.2.2.2.2.2.1).trans hFS1.2.2.2.2.2.2.2.2.2.2.2.2.2.2.1, (congrArg (fun z => z) hfu3.2.2.2.2.2.2.2.2.2.2.2.2.2.2.2.2.1).trans hFS1.2.2.2.2.2.2.2.2.2.2.2.2.2.2.2.1, (congrArg (fun z => z) hfu3.2.2.2.2.2.2.2.2.2.2.2.2.2.2.2.2.2.1).trans hFS1.2.2.2.2.2.2.2.2.2.2.2.2.2.2.2.2.1, (congrArg (fun z => z) hfu3.2.2.2.2.2.2.2.2.2.2.2.2.2.2.2.2.2.2.1).trans hFS1.2.2.2.2.2.2.2.2.2.2.2.2.2.2.2.2.2.1, (congrArg (fun z => z) hfu3.2.2.2.2.2.2.2.2.2.2.2.2.2.2.2.2.2.2.2.1).trans hFS1.2.2.2.2.2.2.2.2.2.2.2.2.2.2.2.2.2.2.1, (congrArg (fun z => z) hfu3.2.2.2.2.2.2.2.2.2.2.2.2.2.2.2.2.2.2.2.2.1).trans hFS1.2.2.2.2.2.2.2.2.2.2.2.2.2.2.2.2.2.2.2.1, (congrArg (fun z => z) hfu3.2.2.2.2.2.2.2.2.2.2.2.2.2.2.2.2.2.2.2.2.2.1).trans hFS1.2.2.2.2.2.2.2.2.2.2.2.2.2.2.2.2.2.2.2.2.1, (congrArg (fun z => z) hfu3.2.2.2.2.2.2.2.2.2.2.2.2.2.2.2.2.2.2.2.2.2.2.1).trans hFS1.2.2.2.2.2.2.2.2.2.2.2.2.2.2.2.2.2.2.2.2.2.1, (congrArg (fun z => z) hfu3.2.2.2.2.2.2.2.2.2.2.2.2.2.2.2.2.2.2.2.2.2.2.2).trans hFS1.2.2.2.2.2.2.2.2.2.2.2.2.2.2.2.2.2.2.2.2.2.2⟩
  have jf20 := J9g_oneMany hJu3
  have je22 : ((b9g_now u3) 1).toInt = ((b9g_now S) 1).toInt := congrArg (fun z => (z 1).toInt) hFu3.1
  have je24 : ((b9g_now u3) 4).toInt = ((b9g_now S) 4).toInt := congrArg (fun z => (z 4).toInt) hFu3.1
  have je26 : ((b9g_now u3) 7).toInt = ((b9g_now S) 7).toInt := congrArg (fun z => (z 7).toInt) hFu3.1
  have je28 : ((b9g_now u3) 8).toInt = ((b9g_now S) 8).toInt := congrArg (fun z => (z 8).toInt) hFu3.1
  have je30 : ((b9g_now u3) 9).toInt = ((b9g_now S) 9).toInt := congrArg (fun z => (z 9).toInt) hFu3.1
  have je32 : ((b9g_now u3) 10).toInt = ((b9g_now S) 10).toInt := congrArg (fun z => (z 10).toInt) hFu3.1
  have je34 : ((b9g_now u3) 12).toInt = ((b9g_now S) 12).toInt := congrArg (fun z => (z 12).toInt) hFu3.1
  have ju34_u3 := hJu3.2.1
  refine sf_X9_isIn hJu3.1 (fun r4 hzr4 hr4_0 => ?_)
  try simp (disch := first | ((try simp (disch := first | ((try simp only [pn]) <;> omega) | fail) only [pn, pq]) <;> omega) | fail) only [pn, pq] at hr4_0
  refine ⟨fun c6 => ?_, fun c6 => ?_⟩
  · try simp (disch := first | ((try simp (disch := first | ((try simp only [pn]) <;> omega) | fail) only [pn, pq]) <;> omega) | fail) only [pn, pq] at c6
    refine sf_X9_onesAhead hJu3.1 (fun r7 hr7_0 => ?_)
    have rgr7 := pt_rg r7
    try simp (disch := first | ((try simp (disch := first | ((try simp only [pn]) <;> omega) | fail) only [pn, pq]) <;> omega) | fail) only [pn, pq] at hr7_0
    refine ⟨fun c9 => ?_, fun c9 => ?_⟩
    · try simp (disch := first | ((try simp (disch := first | ((try simp only [pn]) <;> omega) | fail) only [pn, pq]) <;> omega) | fail) only [pn, pq] at c9
      exact hq _ _ hJu3 hFu3 
    · try simp (disch := first | ((try simp (disch := first | ((try simp only [pn]) <;> omega) | fail) only [pn, pq]) <;> omega) | fail) only [pn, pq] at c9
      refine ⟨pt_in (by (try simp (disch := first | ((try simp (disch := first | ((try simp only [pn]) <;> omega) | fail) only [pn, pq]) <;> omega) | fail) only [pn, pq]) <;> (intros; (try simp (disch := first | ((try simp (disch := first | ((try simp only [pn]) <;> omega) | fail) only [pn, pq]) <;> omega) | fail) only [pn, pq]) <;> omega)) (by (try simp (disch := first | ((try simp (disch := first | ((try simp only [pn]) <;> omega) | fail) only [pn, pq]) <;> omega) | fail) only [pn, pq]) <;> (intros; (try simp (disch := first | ((try simp (disch := first | ((try simp only [pn]) <;> omega) | fail) only [pn, pq]) <;> omega) | fail) only [pn, pq]) <;> omega)), ?_⟩
      refine ⟨fun c10 => ?_, fun c10 => ?_⟩
      · try simp (disch := first | ((try simp (disch := first | ((try simp only [pn]) <;> omega) | fail) only [pn, pq]) <;> omega) | fail) only [pn, pq] at c10
        exact hq _ _ hJu3 hFu3 
      · try simp (disch := first | ((try simp (disch := first | ((try simp only [pn]) <;> omega) | fail) only [pn, pq]) <;> omega) | fail) only [pn, pq] at c10
        exact hq _ _ hJu3 hFu3 
  · try simp (disch := first | ((try simp (disch := first | ((try simp only [pn]) <;> omega) | fail) only [pn, pq]) <;> omega) | fail) only [pn, pq] at c6
    exact hq _ _ hJu3 hFu3 
theorem sf_X9_bit {S : bT9} (hJ : J9 S) {a1 : Int32} {Q : Int32 → (bT9) → Prop} (hq : ∀ (r : Int32) (u : bT9), (J9 u) → F_X9_bit S u → (TWW S u) → (T9P S → TDW S → ∀ ro : Nat, (b9g_chosen S).toInt = (ro : Int) → ro ≤ 5 → ∃ k lv : Nat, UPD S k lv ∧ BTV ro (n9 S) (C9 S) (L9 S) (P9 S) (fun j => b9g_keys S (64 + j)) k a1.toInt r.toInt) → Q r u) : wp_X9_bit S a1 Q := by
  by_cases hyp : T9P S ∧ TDW S
  case neg => exact sj_X9_bit hJ (fun r u h1 h2 => hq r u h1 h2 (fun a b => absurd ⟨a, b⟩ hyp) (fun a b => absurd ⟨a, b⟩ hyp))
  case pos =>
    obtain ⟨hP, hW⟩ := hyp
    unfold wp_X9_bit
    intro S1 e1
    have hJ1 : J9 S1 := by rw [e1]; exact J9s_told hJ
    have hF1 : F_X9_bit S S1 := by rw [e1]; exact ⟨rfl, rfl, rfl, rfl, rfl, rfl, rfl, rfl, rfl, rfl, rfl, rfl, rfl, rfl, rfl, rfl, rfl, rfl, rfl, rfl, rfl, rfl, rfl⟩
    refine sf_X9_laysOnes hJ1 (fun u3 hJ3 hf3 tw1 w3 => ?_)
    have hF3 : F_X9_bit S u3 := ⟨(hf3.2.1).trans (hF1.1), (hf3.2.2.1).trans (hF1.2.1), (hf3.2.2.2.1).trans (hF1.2.2.1), (hf3.2.2.2.2.1).trans (hF1.2.2.2.1), (hf3.2.2.2.2.2.1).trans (hF1.2.2.2.2.1), (hf3.2.2.2.2.2.2.1).trans (hF1.2.2.2.2.2.1), (hf3.2.2.2.2.2.2.2.1).trans (hF1.2.2.2.2.2.2.1), (hf3.2.2.2.2.2.2.2.2.1).trans (hF1.2.2.2.2.2.2.2.1), (hf3.2.2.2.2.2.2.2.2.2.1).trans (hF1.2.2.2.2.2.2.2.2.1), (hf3.2.2.2.2.2.2.2.2.2.2.1).trans (hF1.2.2.2.2.2.2.2.2.2.1), (hf3.2.2.2.2.2.2.2.2.2.2.2.1).trans (hF1.2.2.2.2.2.2.2.2.2.2.1), (hf3.2.2.2.2.2.2.2.2.2.2.2.2.1).trans (hF1.2.2.2.2.2.2.2.2.2.2.2.1), (hf3.2.2.2.2.2.2.2.2.2.2.2.2.2.1).trans (hF1.2.2.2.2.2.2.2.2.2.2.2.2.1), (hf3.2.2.2.2.2.2.2.2.2.2.2.2.2.2.1).trans (hF1.2.2.2.2.2.2.2.2.2.2.2.2.2.1), (hf3.2.2.2.2.2.2.2.2.2.2.2.2.2.2.2.1).trans (hF1.2.2.2.2.2.2.2.2.2.2.2.2.2.2.1), (hf3.2.2.2.2.2.2.2.2.2.2.2.2.2.2.2.2.1).trans (hF1.2.2.2.2.2.2.2.2.2.2.2.2.2.2.2.1), (hf3.2.2.2.2.2.2.2.2.2.2.2.2.2.2.2.2.2.1).trans (hF1.2.2.2.2.2.2.2.2.2.2.2.2.2.2.2.2.1), (hf3.2.2.2.2.2.2.2.2.2.2.2.2.2.2.2.2.2.2.1).trans (hF1.2.2.2.2.2.2.2.2.2.2.2.2.2.2.2.2.2.1), (hf3.2.2.2.2.2.2.2.2.2.2.2.2.2.2.2.2.2.2.2.1).trans (hF1.2.2.2.2.2.2.2.2.2.2.2.2.2.2.2.2.2.2.1), (hf3.2.2.2.2.2.2.2.2.2.2.2.2.2.2.2.2.2.2.2.2.1).trans (hF1.2.2.2.2.2.2.2.2.2.2.2.2.2.2.2.2.2.2.2.1), (hf3.2.2.2.2.2.2.2.2.2.2.2.2.2.2.2.2.2.2.2.2.2.1).trans (hF1.2.2.2.2.2.2.2.2.2.2.2.2.2.2.2.2.2.2.2.2.1), (hf3.2.2.2.2.2.2.2.2.2.2.2.2.2.2.2.2.2.2.2.2.2.2.1).trans (hF1.2.2.2.2.2.2.2.2.2.2.2.2.2.2.2.2.2.2.2.2.2.1), (hf3.2.2.2.2.2.2.2.2.2.2.2.2.2.2.2.2.2.2.2.2.2.2.2).trans (hF1.2.2.2.2.2.2.2.2.2.2.2.2.2.2.2.2.2.2.2.2.2.2)⟩
    have tw : TWW S u3 := TWW_told e1 tw1
    have w3' := w3 (by rw [e1]; exact hP) (by rw [e1]; exact hW)
    have jo := J9g_oneMany hJ3
    by_cases hro : ∃ ro : Nat, (b9g_chosen S).toInt = (ro : Int) ∧ ro ≤ 5
    case neg =>
      have fin : ∀ r : Int32, Q r u3 := fun r => hq r u3 hJ3 hF3 tw (fun _ _ ro a b => absurd ⟨ro, a, b⟩ hro)
      exact sf_X9_isIn hJ3.1 (fun r4 _ _ => ⟨fun _ => sf_X9_onesAhead hJ3.1 (fun r6 h6 => ⟨fun _ => fin _, fun c => ⟨pt_in h6 (by simp only [pn] at c; omega), fun _ => fin _, fun _ => fin _⟩⟩), fun _ => fin _⟩)
    case pos =>
      obtain ⟨ro, hr, hr5⟩ := hro
      obtain ⟨k, lv, up1, A1, _, _⟩ := w3' ro (by rw [e1]; exact hr) hr5
      have up : UPD S k lv := by
        rw [e1] at up1
        exact up1
      have A : OAR ro (n9 S) (C9 S) (L9 S) (P9 S) (fun j => b9g_keys S (64 + j)) k (b9g_oneMany u3) (b9g_rowLong u3) (b9g_ones u3) := by
        rw [e1] at A1
        exact A1
      have G : GRD (n9 S) (C9 S) (L9 S) (P9 S) := GRD_of hP.1 hP.2.1 (J9g_now hJ).2.2.2.1.2
      have k8 : k ≤ 8 := Nat.le_trans up.2.2.1 up.2.1
      have fin : ∀ r : Int32, BTV ro (n9 S) (C9 S) (L9 S) (P9 S) (fun j => b9g_keys S (64 + j)) k a1.toInt (r).toInt → Q r u3 := fun r b => hq r u3 hJ3 hF3 tw (fun _ _ ro2 c d => by rw [show ro2 = ro by omega]; exact ⟨k, lv, up, b⟩)
      have rn := RL_nn (ro := ro) (n := (n9 S)) (C := (C9 S)) (P := (P9 S)) k8
      have ar := A.2.1
      have ao := A.1
      have m1 : (b9g_rowLong u3 - 1).toInt = (b9g_rowLong u3).toInt - 1 := by
        have := pt_rg (b9g_rowLong u3)
        rw [pt_sub (by rw [pl_1]; omega) (by rw [pl_1]; omega), pl_1]
      have m2 : (b9g_oneMany u3 - 1).toInt = (b9g_oneMany u3).toInt - 1 := by rw [pt_sub (by rw [pl_1]; omega) (by rw [pl_1]; omega), pl_1]
      refine sf_X9_isIn hJ3.1 (fun r4 _ h4 => ⟨fun c => ?_, fun c => fin _ ⟨fun z => ?_, fun _ => rfl⟩⟩)
      · have c0 : ¬ r4.toInt = 0 := fun z => c (Int32.toInt_inj.mp z)
        rw [pl_0, m1] at h4
        refine fx9_onesAhead G (fun _ _ => rfl) A (fun r6 m hm hrk h5 hA hB => ⟨fun d => fin _ ⟨fun z => ?_, fun z => absurd ⟨by omega, by omega⟩ z⟩, fun d => ?_⟩)
        · simp only [pn] at d
          have := hA (by omega)
          rw [pl_0]
          omega
        · simp only [pn] at d
          have em : r6.toNatClampNeg = m := by
            show r6.toInt.toNat = m
            omega
          have hB' := hB (by omega)
          rw [em]
          refine ⟨pt_in (by omega) (by omega), fun y => fin _ ⟨fun z => ?_, fun z => absurd ⟨by omega, by omega⟩ z⟩, fun y => fin _ ⟨fun z => ?_, fun z => absurd ⟨by omega, by omega⟩ z⟩⟩
          · have := hB'.2 y
            rw [pl_0]
            omega
          · have := hB'.1 y
            rw [pl_1]
            omega
      · have c0 : r4.toInt = 0 := by rw [c]; rfl
        rw [pl_0, m1] at h4
        omega
def F_X9_rank (S u : bT9) : Prop := (b9g_now u) = (b9g_now S) ∧ (b9g_keys u) = (b9g_keys S) ∧ (b9g_lengths u) = (b9g_lengths S) ∧ (b9g_drawn u) = (b9g_drawn S) ∧ (b9g_drawnLength u) = (b9g_drawnLength S) ∧ (b9g_tape u) = (b9g_tape S) ∧ (b9g_taped u) = (b9g_taped S) ∧ (b9g_names u) = (b9g_names S) ∧ (b9g_chosen u) = (b9g_chosen S) ∧ (b9g_lowKey u) = (b9g_lowKey S) ∧ (b9g_highKey u) = (b9g_highKey S) ∧ (b9g_lowLength u) = (b9g_lowLength S) ∧ (b9g_highLength u) = (b9g_highLength S) ∧ (b9g_fromKey u) = (b9g_fromKey S) ∧ (b9g_toKey u) = (b9g_toKey S) ∧ (b9g_fromLength u) = (b9g_fromLength S) ∧ (b9g_toLength u) = (b9g_toLength S) ∧ (b9g_signs u) = (b9g_signs S) ∧ (b9g_signMany u) = (b9g_signMany S) ∧ (b9g_hasImage u) = (b9g_hasImage S) ∧ (b9g_images u) = (b9g_images S) ∧ (b9g_keyImages u) = (b9g_keyImages S) ∧ (b9g_lengthImages u) = (b9g_lengthImages S)
set_option maxRecDepth 20000 in
set_option maxHeartbeats 8000000 in
theorem sj_X9_rank {S : bT9} (hJ : J9 S) {a1 : Int32} {Q : Int32 → (bT9) → Prop} (hq : ∀ (r : Int32) (u : bT9), (J9 u) → F_X9_rank S u → Q r u) : wp_X9_rank S a1 Q := by
  unfold wp_X9_rank
  have hFS : F_X9_rank S S := ⟨rfl, rfl, rfl, rfl, rfl, rfl, rfl, rfl, rfl, rfl, rfl, rfl, rfl, rfl, rfl, rfl, rfl, rfl, rfl, rfl, rfl, rfl, rfl⟩
  have jf1 : (-4 ≤ ((b9g_now S) 1).toInt ∧ ((b9g_now S) 1).toInt ≤ 4) ∧ (-3 ≤ ((b9g_now S) 4).toInt ∧ ((b9g_now S) 4).toInt ≤ 252) ∧ (0 ≤ ((b9g_now S) 8).toInt ∧ ((b9g_now S) 8).toInt ≤ 64) ∧ (0 ≤ ((b9g_now S) 9).toInt ∧ ((b9g_now S) 9).toInt ≤ 64) ∧ (0 ≤ ((b9g_now S) 10).toInt ∧ ((b9g_now S) 10).toInt ≤ 16) ∧ (0 ≤ ((b9g_now S) 12).toInt ∧ ((b9g_now S) 12).toInt ≤ 8) := J9g_now hJ
  have ju1_S := hJ.2.1
  have rga1 := pt_rg a1
  intro S1 eS1
  have hJS1 : J9 S1 := by rw [eS1]; exact (J9s_told hJ)
  have hFS1 : F_X9_rank S S1 := by rw [eS1]; exact hFS
  have je2 : ((b9g_rowLong S1)).toInt = ((b9g_rowLong S)).toInt := by rw [eS1]
  have je4 : ((b9g_now S1) 1).toInt = ((b9g_now S) 1).toInt := congrArg (fun z => (z 1).toInt) hFS1.1
  have je6 : ((b9g_now S1) 4).toInt = ((b9g_now S) 4).toInt := congrArg (fun z => (z 4).toInt) hFS1.1
  have je8 : ((b9g_now S1) 7).toInt = ((b9g_now S) 7).toInt := congrArg (fun z => (z 7).toInt) hFS1.1
  have je10 : ((b9g_now S1) 8).toInt = ((b9g_now S) 8).toInt := congrArg (fun z => (z 8).toInt) hFS1.1
  have je12 : ((b9g_now S1) 9).toInt = ((b9g_now S) 9).toInt := congrArg (fun z => (z 9).toInt) hFS1.1
  have je14 : ((b9g_now S1) 10).toInt = ((b9g_now S) 10).toInt := congrArg (fun z => (z 10).toInt) hFS1.1
  have je16 : ((b9g_now S1) 12).toInt = ((b9g_now S) 12).toInt := congrArg (fun z => (z 12).toInt) hFS1.1
  have ju16_S1 := hJS1.2.1
  refine sf_X9_laysOnes hJS1 (fun u3 hJu3 hfu3 hr2_0 hr2_1 => ?_)
  have hFu3 : F_X9_rank S u3 := ⟨(congrArg (fun z => z) hfu3.2.1).trans hFS1.1, (congrArg (fun z => z) hfu3.2.2.1).trans hFS1.2.1, (congrArg (fun z => z) hfu3.2.2.2.1).trans hFS1.2.2.1, (congrArg (fun z => z) hfu3.2.2.2.2.1).trans hFS1.2.2.2.1, (congrArg (fun z => z) hfu3.2.2.2.2.2.1).trans hFS1.2.2.2.2.1, (congrArg (fun z => z) hfu3.2.2.2.2.2.2.1).trans hFS1.2.2.2.2.2.1, (congrArg (fun z => z) hfu3.2.2.2.2.2.2.2.1).trans hFS1.2.2.2.2.2.2.1, (congrArg (fun z => z) hfu3.2.2.2.2.2.2.2.2.1).trans hFS1.2.2.2.2.2.2.2.1, (congrArg (fun z => z) hfu3.2.2.2.2.2.2.2.2.2.1).trans hFS1.2.2.2.2.2.2.2.2.1, (congrArg (fun z => z) hfu3.2.2.2.2.2.2.2.2.2.2.1).trans hFS1.2.2.2.2.2.2.2.2.2.1, (congrArg (fun z => z) hfu3.2.2.2.2.2.2.2.2.2.2.2.1).trans hFS1.2.2.2.2.2.2.2.2.2.2.1, (congrArg (fun z => z) hfu3.2.2.2.2.2.2.2.2.2.2.2.2.1).trans hFS1.2.2.2.2.2.2.2.2.2.2.2.1, (congrArg (fun z => z) hfu3.2.2.2.2.2.2.2.2.2.2.2.2.2.1).trans hFS1.2.2.2.2.2.2.2.2.2.2.2.2.1, (congrArg (fun z => z) hfu3.2.2.2.2.2.2.2.2.2.2.2.2.2.2.1).trans hFS1.2.2.2.2.2.2.2.2.2.2.2.2.2.1, (congrArg (fun z => z) hfu3.2.2.2.2.2.2.2.2.2.2.2.2.2.2.2.1).trans hFS1.2.2.2.2.2.2.2.2.2.2.2.2.2.2.1, (congrArg (fun z => z) hfu3.2.2.2.2.2.2.2.2.2.2.2.2.2.2.2.2.1).trans hFS1.2.2.2.2.2.2.2.2.2.2.2.2.2.2.2.1, (congrArg (fun z => z) hfu3.2.2.2.2.2.2.2.2.2.2.2.2.2.2.2.2.2.1).trans hFS1.2.2.2.2.2.2.2.2.2.2.2.2.2.2.2.2.1, (congrArg (fun z => z) hfu3.2.2.2.2.2.2.2.2.2.2.2.2.2.2.2.2.2.2.1).trans hFS1.2.2.2.2.2.2.2.2.2.2.2.2.2.2.2.2.2.1, (congrArg (fun z => z) hfu3.2.2.2.2.2.2.2.2.2.2.2.2.2.2.2.2.2.2.2.1).trans hFS1.2.2.2.2.2.2.2.2.2.2.2.2.2.2.2.2.2.2.1, (congrArg (fun z => z) hfu3.2.2.2.2.2.2.2.2.2.2.2.2.2.2.2.2.2.2.2.2.1).trans hFS1.2.2.2.2.2.2.2.2.2.2.2.2.2.2.2.2.2.2.2.1, (congrArg (fun z => z) hfu3.2.2.2.2.2.2.2.2.2.2.2.2.2.2.2.2.2.2.2.2.2.1).trans hFS1.2.2.2.2.2.2.2.2.2.2.2.2.2.2.2.2.2.2.2.2.1, (congrArg (fun z => z) hfu3.2.2.2.2.2.2.2.2.2.2.2.2.2.2.2.2.2.2.2.2.2.2.1).trans hFS1.2.2.2.2.2.2.2.2.2.2.2.2.2.2.2.2.2.2.2.2.2.1, (congrArg (fun z => z) hfu3.2.2.2.2.2.2.2.2.2.2.2.2.2.2.2.2.2.2.2.2.2.2.2).trans hFS1.2.2.2.2.2.2.2.2.2.2.2.2.2.2.2.2.2.2.2.2.2.2⟩
  have je18 : ((b9g_now u3) 1).toInt = ((b9g_now S) 1).toInt := congrArg (fun z => (z 1).toInt) hFu3.1
  have je20 : ((b9g_now u3) 4).toInt = ((b9g_now S) 4).toInt := congrArg (fun z => (z 4).toInt) hFu3.1
  have je22 : ((b9g_now u3) 7).toInt = ((b9g_now S) 7).toInt := congrArg (fun z => (z 7).toInt) hFu3.1
  have je24 : ((b9g_now u3) 8).toInt = ((b9g_now S) 8).toInt := congrArg (fun z => (z 8).toInt) hFu3.1
  have je26 : ((b9g_now u3) 9).toInt = ((b9g_now S) 9).toInt := congrArg (fun z => (z 9).toInt) hFu3.1
  have je28 : ((b9g_now u3) 10).toInt = ((b9g_now S) 10).toInt := congrArg (fun z => (z 10).toInt) hFu3.1
  have je30 : ((b9g_now u3) 12).toInt = ((b9g_now S) 12).toInt := congrArg (fun z => (z 12).toInt) hFu3.1
  have ju30_u3 := hJu3.2.1
  refine sf_X9_isIn hJu3.1 (fun r4 hzr4 hr4_0 => ?_)
  try simp (disch := first | ((try simp (disch := first | ((try simp only [pn]) <;> omega) | fail) only [pn, pq]) <;> omega) | fail) only [pn, pq] at hr4_0
  refine ⟨fun c6 => ?_, fun c6 => ?_⟩
  · try simp (disch := first | ((try simp (disch := first | ((try simp only [pn]) <;> omega) | fail) only [pn, pq]) <;> omega) | fail) only [pn, pq] at c6
    exact hq _ _ hJu3 hFu3 
  · try simp (disch := first | ((try simp (disch := first | ((try simp only [pn]) <;> omega) | fail) only [pn, pq]) <;> omega) | fail) only [pn, pq] at c6
    refine sf_X9_onesAhead hJu3.1 (fun r7 hr7_0 => ?_)
    have rgr7 := pt_rg r7
    try simp (disch := first | ((try simp (disch := first | ((try simp only [pn]) <;> omega) | fail) only [pn, pq]) <;> omega) | fail) only [pn, pq] at hr7_0
    exact hq _ _ hJu3 hFu3 
theorem sf_X9_rank {S : bT9} (hJ : J9 S) {a1 : Int32} {Q : Int32 → (bT9) → Prop} (hq : ∀ (r : Int32) (u : bT9), (J9 u) → F_X9_rank S u → (TWW S u) → (T9P S → TDW S → ∀ ro : Nat, (b9g_chosen S).toInt = (ro : Int) → ro ≤ 5 → ∃ k lv : Nat, UPD S k lv ∧ RKV ro (n9 S) (C9 S) (L9 S) (P9 S) (fun j => b9g_keys S (64 + j)) k a1.toInt r.toInt) → Q r u) : wp_X9_rank S a1 Q := by
  by_cases hyp : T9P S ∧ TDW S
  case neg => exact sj_X9_rank hJ (fun r u h1 h2 => hq r u h1 h2 (fun a b => absurd ⟨a, b⟩ hyp) (fun a b => absurd ⟨a, b⟩ hyp))
  case pos =>
    obtain ⟨hP, hW⟩ := hyp
    unfold wp_X9_rank
    intro S1 e1
    have hJ1 : J9 S1 := by rw [e1]; exact J9s_told hJ
    have hF1 : F_X9_rank S S1 := by rw [e1]; exact ⟨rfl, rfl, rfl, rfl, rfl, rfl, rfl, rfl, rfl, rfl, rfl, rfl, rfl, rfl, rfl, rfl, rfl, rfl, rfl, rfl, rfl, rfl, rfl⟩
    refine sf_X9_laysOnes hJ1 (fun u3 hJ3 hf3 tw1 w3 => ?_)
    have hF3 : F_X9_rank S u3 := ⟨(hf3.2.1).trans (hF1.1), (hf3.2.2.1).trans (hF1.2.1), (hf3.2.2.2.1).trans (hF1.2.2.1), (hf3.2.2.2.2.1).trans (hF1.2.2.2.1), (hf3.2.2.2.2.2.1).trans (hF1.2.2.2.2.1), (hf3.2.2.2.2.2.2.1).trans (hF1.2.2.2.2.2.1), (hf3.2.2.2.2.2.2.2.1).trans (hF1.2.2.2.2.2.2.1), (hf3.2.2.2.2.2.2.2.2.1).trans (hF1.2.2.2.2.2.2.2.1), (hf3.2.2.2.2.2.2.2.2.2.1).trans (hF1.2.2.2.2.2.2.2.2.1), (hf3.2.2.2.2.2.2.2.2.2.2.1).trans (hF1.2.2.2.2.2.2.2.2.2.1), (hf3.2.2.2.2.2.2.2.2.2.2.2.1).trans (hF1.2.2.2.2.2.2.2.2.2.2.1), (hf3.2.2.2.2.2.2.2.2.2.2.2.2.1).trans (hF1.2.2.2.2.2.2.2.2.2.2.2.1), (hf3.2.2.2.2.2.2.2.2.2.2.2.2.2.1).trans (hF1.2.2.2.2.2.2.2.2.2.2.2.2.1), (hf3.2.2.2.2.2.2.2.2.2.2.2.2.2.2.1).trans (hF1.2.2.2.2.2.2.2.2.2.2.2.2.2.1), (hf3.2.2.2.2.2.2.2.2.2.2.2.2.2.2.2.1).trans (hF1.2.2.2.2.2.2.2.2.2.2.2.2.2.2.1), (hf3.2.2.2.2.2.2.2.2.2.2.2.2.2.2.2.2.1).trans (hF1.2.2.2.2.2.2.2.2.2.2.2.2.2.2.2.1), (hf3.2.2.2.2.2.2.2.2.2.2.2.2.2.2.2.2.2.1).trans (hF1.2.2.2.2.2.2.2.2.2.2.2.2.2.2.2.2.1), (hf3.2.2.2.2.2.2.2.2.2.2.2.2.2.2.2.2.2.2.1).trans (hF1.2.2.2.2.2.2.2.2.2.2.2.2.2.2.2.2.2.1), (hf3.2.2.2.2.2.2.2.2.2.2.2.2.2.2.2.2.2.2.2.1).trans (hF1.2.2.2.2.2.2.2.2.2.2.2.2.2.2.2.2.2.2.1), (hf3.2.2.2.2.2.2.2.2.2.2.2.2.2.2.2.2.2.2.2.2.1).trans (hF1.2.2.2.2.2.2.2.2.2.2.2.2.2.2.2.2.2.2.2.1), (hf3.2.2.2.2.2.2.2.2.2.2.2.2.2.2.2.2.2.2.2.2.2.1).trans (hF1.2.2.2.2.2.2.2.2.2.2.2.2.2.2.2.2.2.2.2.2.1), (hf3.2.2.2.2.2.2.2.2.2.2.2.2.2.2.2.2.2.2.2.2.2.2.1).trans (hF1.2.2.2.2.2.2.2.2.2.2.2.2.2.2.2.2.2.2.2.2.2.1), (hf3.2.2.2.2.2.2.2.2.2.2.2.2.2.2.2.2.2.2.2.2.2.2.2).trans (hF1.2.2.2.2.2.2.2.2.2.2.2.2.2.2.2.2.2.2.2.2.2.2)⟩
    have tw : TWW S u3 := TWW_told e1 tw1
    have w3' := w3 (by rw [e1]; exact hP) (by rw [e1]; exact hW)
    have jo := J9g_oneMany hJ3
    by_cases hro : ∃ ro : Nat, (b9g_chosen S).toInt = (ro : Int) ∧ ro ≤ 5
    case neg =>
      have fin : ∀ r : Int32, Q r u3 := fun r => hq r u3 hJ3 hF3 tw (fun _ _ ro a b => absurd ⟨ro, a, b⟩ hro)
      exact sf_X9_isIn hJ3.1 (fun r4 _ _ => ⟨fun _ => fin _, fun _ => sf_X9_onesAhead hJ3.1 (fun r6 h6 => fin _)⟩)
    case pos =>
      obtain ⟨ro, hr, hr5⟩ := hro
      obtain ⟨k, lv, up1, A1, _, _⟩ := w3' ro (by rw [e1]; exact hr) hr5
      have up : UPD S k lv := by
        rw [e1] at up1
        exact up1
      have A : OAR ro (n9 S) (C9 S) (L9 S) (P9 S) (fun j => b9g_keys S (64 + j)) k (b9g_oneMany u3) (b9g_rowLong u3) (b9g_ones u3) := by
        rw [e1] at A1
        exact A1
      have G : GRD (n9 S) (C9 S) (L9 S) (P9 S) := GRD_of hP.1 hP.2.1 (J9g_now hJ).2.2.2.1.2
      have k8 : k ≤ 8 := Nat.le_trans up.2.2.1 up.2.1
      have fin : ∀ r : Int32, RKV ro (n9 S) (C9 S) (L9 S) (P9 S) (fun j => b9g_keys S (64 + j)) k a1.toInt (r).toInt → Q r u3 := fun r b => hq r u3 hJ3 hF3 tw (fun _ _ ro2 c d => by rw [show ro2 = ro by omega]; exact ⟨k, lv, up, b⟩)
      have rn := RL_nn (ro := ro) (n := (n9 S)) (C := (C9 S)) (P := (P9 S)) k8
      have ar := A.2.1
      have ao := A.1
      have m1 : (b9g_rowLong u3 - 1).toInt = (b9g_rowLong u3).toInt - 1 := by
        have := pt_rg (b9g_rowLong u3)
        rw [pt_sub (by rw [pl_1]; omega) (by rw [pl_1]; omega), pl_1]
      have m2 : (b9g_oneMany u3 - 1).toInt = (b9g_oneMany u3).toInt - 1 := by rw [pt_sub (by rw [pl_1]; omega) (by rw [pl_1]; omega), pl_1]
      refine sf_X9_isIn hJ3.1 (fun r4 _ h4 => ⟨fun c => fin _ ⟨fun z => ?_, fun _ => rfl⟩, fun c => ?_⟩)
      · have c0 : r4.toInt = 0 := by rw [c]; rfl
        rw [pl_0] at h4
        omega
      · have c0 : ¬ r4.toInt = 0 := fun z => c (Int32.toInt_inj.mp z)
        rw [pl_0] at h4
        exact fx9_onesAhead G (fun _ _ => rfl) A (fun r6 m hm hrk _ _ _ => fin _ ⟨fun _ => hrk, fun z => absurd ⟨by omega, by omega⟩ z⟩)
def F_X9_select (S u : bT9) : Prop := (b9g_now u) = (b9g_now S) ∧ (b9g_keys u) = (b9g_keys S) ∧ (b9g_lengths u) = (b9g_lengths S) ∧ (b9g_drawn u) = (b9g_drawn S) ∧ (b9g_drawnLength u) = (b9g_drawnLength S) ∧ (b9g_tape u) = (b9g_tape S) ∧ (b9g_taped u) = (b9g_taped S) ∧ (b9g_names u) = (b9g_names S) ∧ (b9g_chosen u) = (b9g_chosen S) ∧ (b9g_lowKey u) = (b9g_lowKey S) ∧ (b9g_highKey u) = (b9g_highKey S) ∧ (b9g_lowLength u) = (b9g_lowLength S) ∧ (b9g_highLength u) = (b9g_highLength S) ∧ (b9g_fromKey u) = (b9g_fromKey S) ∧ (b9g_toKey u) = (b9g_toKey S) ∧ (b9g_fromLength u) = (b9g_fromLength S) ∧ (b9g_toLength u) = (b9g_toLength S) ∧ (b9g_signs u) = (b9g_signs S) ∧ (b9g_signMany u) = (b9g_signMany S) ∧ (b9g_hasImage u) = (b9g_hasImage S) ∧ (b9g_images u) = (b9g_images S) ∧ (b9g_keyImages u) = (b9g_keyImages S) ∧ (b9g_lengthImages u) = (b9g_lengthImages S)
set_option maxRecDepth 20000 in
set_option maxHeartbeats 8000000 in
theorem sj_X9_select {S : bT9} (hJ : J9 S) {a1 : Int32} {Q : Int32 → (bT9) → Prop} (hq : ∀ (r : Int32) (u : bT9), (J9 u) → F_X9_select S u → Q r u) : wp_X9_select S a1 Q := by
  unfold wp_X9_select
  have hFS : F_X9_select S S := ⟨rfl, rfl, rfl, rfl, rfl, rfl, rfl, rfl, rfl, rfl, rfl, rfl, rfl, rfl, rfl, rfl, rfl, rfl, rfl, rfl, rfl, rfl, rfl⟩
  have jf1 := J9g_oneMany hJ
  have jf2 : (-4 ≤ ((b9g_now S) 1).toInt ∧ ((b9g_now S) 1).toInt ≤ 4) ∧ (-3 ≤ ((b9g_now S) 4).toInt ∧ ((b9g_now S) 4).toInt ≤ 252) ∧ (0 ≤ ((b9g_now S) 8).toInt ∧ ((b9g_now S) 8).toInt ≤ 64) ∧ (0 ≤ ((b9g_now S) 9).toInt ∧ ((b9g_now S) 9).toInt ≤ 64) ∧ (0 ≤ ((b9g_now S) 10).toInt ∧ ((b9g_now S) 10).toInt ≤ 16) ∧ (0 ≤ ((b9g_now S) 12).toInt ∧ ((b9g_now S) 12).toInt ≤ 8) := J9g_now hJ
  have ju2_S := hJ.2.1
  have rga1 := pt_rg a1
  intro S1 eS1
  have hJS1 : J9 S1 := by rw [eS1]; exact (J9s_told hJ)
  have hFS1 : F_X9_select S S1 := by rw [eS1]; exact hFS
  have je3 : ((b9g_oneMany S1)).toInt = ((b9g_oneMany S)).toInt := by rw [eS1]
  have jf4 := J9g_oneMany hJS1
  have je6 : ((b9g_now S1) 1).toInt = ((b9g_now S) 1).toInt := congrArg (fun z => (z 1).toInt) hFS1.1
  have je8 : ((b9g_now S1) 4).toInt = ((b9g_now S) 4).toInt := congrArg (fun z => (z 4).toInt) hFS1.1
  have je10 : ((b9g_now S1) 7).toInt = ((b9g_now S) 7).toInt := congrArg (fun z => (z 7).toInt) hFS1.1
  have je12 : ((b9g_now S1) 8).toInt = ((b9g_now S) 8).toInt := congrArg (fun z => (z 8).toInt) hFS1.1
  have je14 : ((b9g_now S1) 9).toInt = ((b9g_now S) 9).toInt := congrArg (fun z => (z 9).toInt) hFS1.1
  have je16 : ((b9g_now S1) 10).toInt = ((b9g_now S) 10).toInt := congrArg (fun z => (z 10).toInt) hFS1.1
  have je18 : ((b9g_now S1) 12).toInt = ((b9g_now S) 12).toInt := congrArg (fun z => (z 12).toInt) hFS1.1
  have ju18_S1 := hJS1.2.1
  refine sf_X9_laysOnes hJS1 (fun u3 hJu3 hfu3 hr2_0 hr2_1 => ?_)
  have hFu3 : F_X9_select S u3 := ⟨(congrArg (fun z => z) hfu3.2.1).trans hFS1.1, (congrArg (fun z => z) hfu3.2.2.1).trans hFS1.2.1, (congrArg (fun z => z) hfu3.2.2.2.1).trans hFS1.2.2.1, (congrArg (fun z => z) hfu3.2.2.2.2.1).trans hFS1.2.2.2.1, (congrArg (fun z => z) hfu3.2.2.2.2.2.1).trans hFS1.2.2.2.2.1, (congrArg (fun z => z) hfu3.2.2.2.2.2.2.1).trans hFS1.2.2.2.2.2.1, (congrArg (fun z => z) hfu3.2.2.2.2.2.2.2.1).trans hFS1.2.2.2.2.2.2.1, (congrArg (fun z => z) hfu3.2.2.2.2.2.2.2.2.1).trans hFS1.2.2.2.2.2.2.2.1, (congrArg (fun z => z) hfu3.2.2.2.2.2.2.2.2.2.1).trans hFS1.2.2.2.2.2.2.2.2.1, (congrArg (fun z => z) hfu3.2.2.2.2.2.2.2.2.2.2.1).trans hFS1.2.2.2.2.2.2.2.2.2.1, (congrArg (fun z => z) hfu3.2.2.2.2.2.2.2.2.2.2.2.1).trans hFS1.2.2.2.2.2.2.2.2.2.2.1, (congrArg (fun z => z) hfu3.2.2.2.2.2.2.2.2.2.2.2.2.1).trans hFS1.2.2.2.2.2.2.2.2.2.2.2.1, (congrArg (fun z => z) hfu3.2.2.2.2.2.2.2.2.2.2.2.2.2.1).trans hFS1.2.2.2.2.2.2.2.2.2.2.2.2.1, (congrArg (fun z => z) hfu3.2.2.2.2.2.2.2.2.2.2.2.2.2.2.1).trans hFS1.2.2.2.2.2.2.2.2.2.2.2.2.2.1, (congrArg (fun z => z) hfu3.2.2.2.2.2.2.2.2.2.2.2.2.2.2.2.1).trans hFS1.2.2.2.2.2.2.2.2.2.2.2.2.2.2.1, (congrArg (fun z => z) hfu3.2.2.2.2.2.2.2.2.2.2.2.2.2.2.2.2.1).trans hFS1.2.2.2.2.2.2.2.2.2.2.2.2.2.2.2.1, (congrArg (fun z => z) hfu3.2.2.2.2.2.2.2.2.2.2.2.2.2.2.2.2.2.1).trans hFS1.2.2.2.2.2.2.2.2.2.2.2.2.2.2.2.2.1, (congrArg (fun z => z) hfu3.2.2.2.2.2.2.2.2.2.2.2.2.2.2.2.2.2.2.1).trans hFS1.2.2.2.2.2.2.2.2.2.2.2.2.2.2.2.2.2.1, (congrArg (fun z => z) hfu3.2.2.2.2.2.2.2.2.2.2.2.2.2.2.2.2.2.2.2.1).trans hFS1.2.2.2.2.2.2.2.2.2.2.2.2.2.2.2.2.2.2.1, (congrArg (fun z => z) hfu3.2.2.2.2.2.2.2.2.2.2.2.2.2.2.2.2.2.2.2.2.1).trans hFS1.2.2.2.2.2.2.2.2.2.2.2.2.2.2.2.2.2.2.2.1, (congrArg (fun z => z) hfu3.2.2.2.2.2.2.2.2.2.2.2.2.2.2.2.2.2.2.2.2.2.1).trans hFS1.2.2.2.2.2.2.2.2.2.2.2.2.2.2.2.2.2.2.2.2.1, (congrArg (fun z => z) hfu3.2.2.2.2.2.2.2.2.2.2.2.2.2.2.2.2.2.2.2.2.2.2.1).trans hFS1.2.2.2.2.2.2.2.2.2.2.2.2.2.2.2.2.2.2.2.2.2.1, (congrArg (fun z => z) hfu3.2.2.2.2.2.2.2.2.2.2.2.2.2.2.2.2.2.2.2.2.2.2.2).trans hFS1.2.2.2.2.2.2.2.2.2.2.2.2.2.2.2.2.2.2.2.2.2.2⟩
  have jf19 := J9g_oneMany hJu3
  have je21 : ((b9g_now u3) 1).toInt = ((b9g_now S) 1).toInt := congrArg (fun z => (z 1).toInt) hFu3.1
  have je23 : ((b9g_now u3) 4).toInt = ((b9g_now S) 4).toInt := congrArg (fun z => (z 4).toInt) hFu3.1
  have je25 : ((b9g_now u3) 7).toInt = ((b9g_now S) 7).toInt := congrArg (fun z => (z 7).toInt) hFu3.1
  have je27 : ((b9g_now u3) 8).toInt = ((b9g_now S) 8).toInt := congrArg (fun z => (z 8).toInt) hFu3.1
  have je29 : ((b9g_now u3) 9).toInt = ((b9g_now S) 9).toInt := congrArg (fun z => (z 9).toInt) hFu3.1
  have je31 : ((b9g_now u3) 10).toInt = ((b9g_now S) 10).toInt := congrArg (fun z => (z 10).toInt) hFu3.1
  have je33 : ((b9g_now u3) 12).toInt = ((b9g_now S) 12).toInt := congrArg (fun z => (z 12).toInt) hFu3.1
  have ju33_u3 := hJu3.2.1
  refine sf_X9_isIn hJu3.1 (fun r4 hzr4 hr4_0 => ?_)
  try simp (disch := first | ((try simp (disch := first | ((try simp only [pn]) <;> omega) | fail) only [pn, pq]) <;> omega) | fail) only [pn, pq] at hr4_0
  refine ⟨fun c6 => ?_, fun c6 => ?_⟩
  · try simp (disch := first | ((try simp (disch := first | ((try simp only [pn]) <;> omega) | fail) only [pn, pq]) <;> omega) | fail) only [pn, pq] at c6
    exact hq _ _ hJu3 hFu3 
  · try simp (disch := first | ((try simp (disch := first | ((try simp only [pn]) <;> omega) | fail) only [pn, pq]) <;> omega) | fail) only [pn, pq] at c6
    refine ⟨pt_in (by (try simp (disch := first | ((try simp (disch := first | ((try simp only [pn]) <;> omega) | fail) only [pn, pq]) <;> omega) | fail) only [pn, pq]) <;> (intros; (try simp (disch := first | ((try simp (disch := first | ((try simp only [pn]) <;> omega) | fail) only [pn, pq]) <;> omega) | fail) only [pn, pq]) <;> omega)) (by (try simp (disch := first | ((try simp (disch := first | ((try simp only [pn]) <;> omega) | fail) only [pn, pq]) <;> omega) | fail) only [pn, pq]) <;> (intros; (try simp (disch := first | ((try simp (disch := first | ((try simp only [pn]) <;> omega) | fail) only [pn, pq]) <;> omega) | fail) only [pn, pq]) <;> omega)), ?_⟩
    exact hq _ _ hJu3 hFu3 
theorem sf_X9_select {S : bT9} (hJ : J9 S) {a1 : Int32} {Q : Int32 → (bT9) → Prop} (hq : ∀ (r : Int32) (u : bT9), (J9 u) → F_X9_select S u → (TWW S u) → (T9P S → TDW S → ∀ ro : Nat, (b9g_chosen S).toInt = (ro : Int) → ro ≤ 5 → ∃ k lv : Nat, UPD S k lv ∧ SEL ro (n9 S) (C9 S) (L9 S) (P9 S) (fun j => b9g_keys S (64 + j)) k a1.toInt r.toInt) → Q r u) : wp_X9_select S a1 Q := by
  by_cases hyp : T9P S ∧ TDW S
  case neg => exact sj_X9_select hJ (fun r u h1 h2 => hq r u h1 h2 (fun a b => absurd ⟨a, b⟩ hyp) (fun a b => absurd ⟨a, b⟩ hyp))
  case pos =>
    obtain ⟨hP, hW⟩ := hyp
    unfold wp_X9_select
    intro S1 e1
    have hJ1 : J9 S1 := by rw [e1]; exact J9s_told hJ
    have hF1 : F_X9_select S S1 := by rw [e1]; exact ⟨rfl, rfl, rfl, rfl, rfl, rfl, rfl, rfl, rfl, rfl, rfl, rfl, rfl, rfl, rfl, rfl, rfl, rfl, rfl, rfl, rfl, rfl, rfl⟩
    refine sf_X9_laysOnes hJ1 (fun u3 hJ3 hf3 tw1 w3 => ?_)
    have hF3 : F_X9_select S u3 := ⟨(hf3.2.1).trans (hF1.1), (hf3.2.2.1).trans (hF1.2.1), (hf3.2.2.2.1).trans (hF1.2.2.1), (hf3.2.2.2.2.1).trans (hF1.2.2.2.1), (hf3.2.2.2.2.2.1).trans (hF1.2.2.2.2.1), (hf3.2.2.2.2.2.2.1).trans (hF1.2.2.2.2.2.1), (hf3.2.2.2.2.2.2.2.1).trans (hF1.2.2.2.2.2.2.1), (hf3.2.2.2.2.2.2.2.2.1).trans (hF1.2.2.2.2.2.2.2.1), (hf3.2.2.2.2.2.2.2.2.2.1).trans (hF1.2.2.2.2.2.2.2.2.1), (hf3.2.2.2.2.2.2.2.2.2.2.1).trans (hF1.2.2.2.2.2.2.2.2.2.1), (hf3.2.2.2.2.2.2.2.2.2.2.2.1).trans (hF1.2.2.2.2.2.2.2.2.2.2.1), (hf3.2.2.2.2.2.2.2.2.2.2.2.2.1).trans (hF1.2.2.2.2.2.2.2.2.2.2.2.1), (hf3.2.2.2.2.2.2.2.2.2.2.2.2.2.1).trans (hF1.2.2.2.2.2.2.2.2.2.2.2.2.1), (hf3.2.2.2.2.2.2.2.2.2.2.2.2.2.2.1).trans (hF1.2.2.2.2.2.2.2.2.2.2.2.2.2.1), (hf3.2.2.2.2.2.2.2.2.2.2.2.2.2.2.2.1).trans (hF1.2.2.2.2.2.2.2.2.2.2.2.2.2.2.1), (hf3.2.2.2.2.2.2.2.2.2.2.2.2.2.2.2.2.1).trans (hF1.2.2.2.2.2.2.2.2.2.2.2.2.2.2.2.1), (hf3.2.2.2.2.2.2.2.2.2.2.2.2.2.2.2.2.2.1).trans (hF1.2.2.2.2.2.2.2.2.2.2.2.2.2.2.2.2.1), (hf3.2.2.2.2.2.2.2.2.2.2.2.2.2.2.2.2.2.2.1).trans (hF1.2.2.2.2.2.2.2.2.2.2.2.2.2.2.2.2.2.1), (hf3.2.2.2.2.2.2.2.2.2.2.2.2.2.2.2.2.2.2.2.1).trans (hF1.2.2.2.2.2.2.2.2.2.2.2.2.2.2.2.2.2.2.1), (hf3.2.2.2.2.2.2.2.2.2.2.2.2.2.2.2.2.2.2.2.2.1).trans (hF1.2.2.2.2.2.2.2.2.2.2.2.2.2.2.2.2.2.2.2.1), (hf3.2.2.2.2.2.2.2.2.2.2.2.2.2.2.2.2.2.2.2.2.2.1).trans (hF1.2.2.2.2.2.2.2.2.2.2.2.2.2.2.2.2.2.2.2.2.1), (hf3.2.2.2.2.2.2.2.2.2.2.2.2.2.2.2.2.2.2.2.2.2.2.1).trans (hF1.2.2.2.2.2.2.2.2.2.2.2.2.2.2.2.2.2.2.2.2.2.1), (hf3.2.2.2.2.2.2.2.2.2.2.2.2.2.2.2.2.2.2.2.2.2.2.2).trans (hF1.2.2.2.2.2.2.2.2.2.2.2.2.2.2.2.2.2.2.2.2.2.2)⟩
    have tw : TWW S u3 := TWW_told e1 tw1
    have w3' := w3 (by rw [e1]; exact hP) (by rw [e1]; exact hW)
    have jo := J9g_oneMany hJ3
    by_cases hro : ∃ ro : Nat, (b9g_chosen S).toInt = (ro : Int) ∧ ro ≤ 5
    case neg =>
      have fin : ∀ r : Int32, Q r u3 := fun r => hq r u3 hJ3 hF3 tw (fun _ _ ro a b => absurd ⟨ro, a, b⟩ hro)
      exact sf_X9_isIn hJ3.1 (fun r4 _ h4 => ⟨fun _ => fin _, fun c => ⟨pt_in (by have c0 : ¬ r4.toInt = 0 := fun z => c (Int32.toInt_inj.mp z); rw [pl_0] at h4; omega) (by have c0 : ¬ r4.toInt = 0 := fun z => c (Int32.toInt_inj.mp z); rw [pl_0, pt_sub (by rw [pl_1]; omega) (by rw [pl_1]; omega), pl_1] at h4; omega), fin _⟩⟩)
    case pos =>
      obtain ⟨ro, hr, hr5⟩ := hro
      obtain ⟨k, lv, up1, A1, _, _⟩ := w3' ro (by rw [e1]; exact hr) hr5
      have up : UPD S k lv := by
        rw [e1] at up1
        exact up1
      have A : OAR ro (n9 S) (C9 S) (L9 S) (P9 S) (fun j => b9g_keys S (64 + j)) k (b9g_oneMany u3) (b9g_rowLong u3) (b9g_ones u3) := by
        rw [e1] at A1
        exact A1
      have G : GRD (n9 S) (C9 S) (L9 S) (P9 S) := GRD_of hP.1 hP.2.1 (J9g_now hJ).2.2.2.1.2
      have k8 : k ≤ 8 := Nat.le_trans up.2.2.1 up.2.1
      have fin : ∀ r : Int32, SEL ro (n9 S) (C9 S) (L9 S) (P9 S) (fun j => b9g_keys S (64 + j)) k a1.toInt (r).toInt → Q r u3 := fun r b => hq r u3 hJ3 hF3 tw (fun _ _ ro2 c d => by rw [show ro2 = ro by omega]; exact ⟨k, lv, up, b⟩)
      have rn := RL_nn (ro := ro) (n := (n9 S)) (C := (C9 S)) (P := (P9 S)) k8
      have ar := A.2.1
      have ao := A.1
      have m1 : (b9g_rowLong u3 - 1).toInt = (b9g_rowLong u3).toInt - 1 := by
        have := pt_rg (b9g_rowLong u3)
        rw [pt_sub (by rw [pl_1]; omega) (by rw [pl_1]; omega), pl_1]
      have m2 : (b9g_oneMany u3 - 1).toInt = (b9g_oneMany u3).toInt - 1 := by rw [pt_sub (by rw [pl_1]; omega) (by rw [pl_1]; omega), pl_1]
      refine sf_X9_isIn hJ3.1 (fun r4 _ h4 => ⟨fun c => fin _ (Or.inr ⟨rfl, ?_⟩), fun c => ?_⟩)
      · have c0 : r4.toInt = 0 := by rw [c]; rfl
        rw [pl_0, m2] at h4
        omega
      · have c0 : ¬ r4.toInt = 0 := fun z => c (Int32.toInt_inj.mp z)
        rw [pl_0, m2] at h4
        obtain ⟨m, em⟩ : ∃ m : Nat, a1.toInt = (m : Int) := ⟨a1.toInt.toNat, by omega⟩
        have ec : a1.toNatClampNeg = m := by
          show a1.toInt.toNat = m
          omega
        obtain ⟨w, w1, w2, w3⟩ := CTP_inv (P := IsO ro (n9 S) (C9 S) (L9 S) (P9 S) k) (e := (m : Int)) (by omega) 512 (by show _ < OB ro (n9 S) (C9 S) (L9 S) (P9 S) k 512; omega)
        have w3' : OB ro (n9 S) (C9 S) (L9 S) (P9 S) k w = (m : Int) := w3
        have q := A.2.2 w w1 w2
        rw [w3', show ((m : Int)).toNat = m by omega] at q
        rw [ec]
        exact ⟨pt_in (by omega) (by omega), fin _ (Or.inl ⟨w, w1, w2, by omega, q⟩)⟩
set_option maxRecDepth 20000 in
set_option maxHeartbeats 8000000 in
theorem sf_X9_tailBits {S : bT9} (hJ : K9 S) {Q : Int32 → Prop} (hq : ∀ r : Int32, Q r) : wp_X9_tailBits S Q := by
  unfold wp_X9_tailBits
  have jf1 : (-4 ≤ ((b9g_now S) 1).toInt ∧ ((b9g_now S) 1).toInt ≤ 4) ∧ (-3 ≤ ((b9g_now S) 4).toInt ∧ ((b9g_now S) 4).toInt ≤ 252) ∧ (0 ≤ ((b9g_now S) 8).toInt ∧ ((b9g_now S) 8).toInt ≤ 64) ∧ (0 ≤ ((b9g_now S) 9).toInt ∧ ((b9g_now S) 9).toInt ≤ 64) ∧ (0 ≤ ((b9g_now S) 10).toInt ∧ ((b9g_now S) 10).toInt ≤ 16) ∧ (0 ≤ ((b9g_now S) 12).toInt ∧ ((b9g_now S) 12).toInt ≤ 8) := K9g_now hJ
  refine ⟨pt_in (by (try simp (disch := first | ((try simp (disch := first | ((try simp only [pn]) <;> omega) | fail) only [pn, pq]) <;> omega) | fail) only [pn, pq]) <;> (intros; (try simp (disch := first | ((try simp (disch := first | ((try simp only [pn]) <;> omega) | fail) only [pn, pq]) <;> omega) | fail) only [pn, pq]) <;> omega)) (by (try simp (disch := first | ((try simp (disch := first | ((try simp only [pn]) <;> omega) | fail) only [pn, pq]) <;> omega) | fail) only [pn, pq]) <;> (intros; (try simp (disch := first | ((try simp (disch := first | ((try simp only [pn]) <;> omega) | fail) only [pn, pq]) <;> omega) | fail) only [pn, pq]) <;> omega)), ?_⟩
  refine sf_X9_hashBits hJ (fun r1 hr1_0 => ?_)
  have rgr1 := pt_rg r1
  refine sf_X9_nextBits hJ (fun r3 hr3_0 hr3_1 hr3_2 => ?_)
  have rgr3 := pt_rg r3
  try simp (disch := first | ((try simp (disch := first | ((try simp only [pn]) <;> omega) | fail) only [pn, pq]) <;> omega) | fail) only [pn, pq] at hr3_0
  try simp (disch := first | ((try simp (disch := first | ((try simp only [pn]) <;> omega) | fail) only [pn, pq]) <;> omega) | fail) only [pn, pq] at hr3_1
  exact hq _ 
set_option maxRecDepth 20000 in
set_option maxHeartbeats 8000000 in
theorem sf_X9_keyBits {S : bT9} (hJ : K9 S) {Q : Int32 → Prop} (hq : ∀ r : Int32, Q r) : wp_X9_keyBits S Q := by
  unfold wp_X9_keyBits
  have jf1 : (-4 ≤ ((b9g_now S) 1).toInt ∧ ((b9g_now S) 1).toInt ≤ 4) ∧ (-3 ≤ ((b9g_now S) 4).toInt ∧ ((b9g_now S) 4).toInt ≤ 252) ∧ (0 ≤ ((b9g_now S) 8).toInt ∧ ((b9g_now S) 8).toInt ≤ 64) ∧ (0 ≤ ((b9g_now S) 9).toInt ∧ ((b9g_now S) 9).toInt ≤ 64) ∧ (0 ≤ ((b9g_now S) 10).toInt ∧ ((b9g_now S) 10).toInt ≤ 16) ∧ (0 ≤ ((b9g_now S) 12).toInt ∧ ((b9g_now S) 12).toInt ≤ 8) := K9g_now hJ
  refine ⟨fun n x1q1 x2q1 => (0 ≤ (x2q1).toInt) ∧ n = ((((b9g_now S) 9)).toInt + 1 - (x2q1).toInt).toNat, ⟨_, (by (try simp (disch := first | ((try simp (disch := first | ((try simp only [pn]) <;> omega) | fail) only [pn, pq]) <;> omega) | fail) only [pn, pq]) <;> (intros; (try simp (disch := first | ((try simp (disch := first | ((try simp only [pn]) <;> omega) | fail) only [pn, pq]) <;> omega) | fail) only [pn, pq]) <;> omega)), rfl⟩, ?_⟩
  rintro n2 x1q1 x2q1 ⟨hiq1_0, hn2⟩
  have rgx1q1 := pt_rg x1q1
  have rgx2q1 := pt_rg x2q1
  unfold wp_X9_keyBits_4b
  refine ⟨pt_in (by (try simp (disch := first | ((try simp (disch := first | ((try simp only [pn]) <;> omega) | fail) only [pn, pq]) <;> omega) | fail) only [pn, pq]) <;> (intros; (try simp (disch := first | ((try simp (disch := first | ((try simp only [pn]) <;> omega) | fail) only [pn, pq]) <;> omega) | fail) only [pn, pq]) <;> omega)) (by (try simp (disch := first | ((try simp (disch := first | ((try simp only [pn]) <;> omega) | fail) only [pn, pq]) <;> omega) | fail) only [pn, pq]) <;> (intros; (try simp (disch := first | ((try simp (disch := first | ((try simp only [pn]) <;> omega) | fail) only [pn, pq]) <;> omega) | fail) only [pn, pq]) <;> omega)), ?_⟩
  refine ⟨fun c3 => ?_, fun c3 => ?_⟩
  · try simp (disch := first | ((try simp (disch := first | ((try simp only [pn]) <;> omega) | fail) only [pn, pq]) <;> omega) | fail) only [pn, pq] at c3
    exact hq _ 
  · try simp (disch := first | ((try simp (disch := first | ((try simp only [pn]) <;> omega) | fail) only [pn, pq]) <;> omega) | fail) only [pn, pq] at c3
    refine sf_X9_lengthOf hJ (by (try simp (disch := first | ((try simp (disch := first | ((try simp only [pn]) <;> omega) | fail) only [pn, pq]) <;> omega) | fail) only [pn, pq]) <;> (intros; (try simp (disch := first | ((try simp (disch := first | ((try simp only [pn]) <;> omega) | fail) only [pn, pq]) <;> omega) | fail) only [pn, pq]) <;> omega)) (by (try simp (disch := first | ((try simp (disch := first | ((try simp only [pn]) <;> omega) | fail) only [pn, pq]) <;> omega) | fail) only [pn, pq]) <;> (intros; (try simp (disch := first | ((try simp (disch := first | ((try simp only [pn]) <;> omega) | fail) only [pn, pq]) <;> omega) | fail) only [pn, pq]) <;> omega)) (fun r4 hr4_0 hr4_1 hr4_2 => ?_)
    have rgr4 := pt_rg r4
    try simp (disch := first | ((try simp (disch := first | ((try simp only [pn]) <;> omega) | fail) only [pn, pq]) <;> omega) | fail) only [pn, pq] at hr4_0
    try simp (disch := first | ((try simp (disch := first | ((try simp only [pn]) <;> omega) | fail) only [pn, pq]) <;> omega) | fail) only [pn, pq] at hr4_1
    try simp (disch := first | ((try simp (disch := first | ((try simp only [pn]) <;> omega) | fail) only [pn, pq]) <;> omega) | fail) only [pn, pq] at hr4_2
    refine ⟨_, ?_, ?_, rfl⟩
    · (try simp (disch := first | ((try simp (disch := first | ((try simp only [pn]) <;> omega) | fail) only [pn, pq]) <;> omega) | fail) only [pn, pq]) <;> (intros; (try simp (disch := first | ((try simp (disch := first | ((try simp only [pn]) <;> omega) | fail) only [pn, pq]) <;> omega) | fail) only [pn, pq]) <;> omega)
    · (try simp (disch := first | ((try simp (disch := first | ((try simp only [pn]) <;> omega) | fail) only [pn, pq]) <;> omega) | fail) only [pn, pq]) <;> (intros; (try simp (disch := first | ((try simp (disch := first | ((try simp only [pn]) <;> omega) | fail) only [pn, pq]) <;> omega) | fail) only [pn, pq]) <;> omega)
def F_X9_bits (S u : bT9) : Prop := (b9g_now u) = (b9g_now S) ∧ (b9g_keys u) = (b9g_keys S) ∧ (b9g_lengths u) = (b9g_lengths S) ∧ (b9g_drawn u) = (b9g_drawn S) ∧ (b9g_drawnLength u) = (b9g_drawnLength S) ∧ (b9g_tape u) = (b9g_tape S) ∧ (b9g_taped u) = (b9g_taped S) ∧ (b9g_names u) = (b9g_names S) ∧ (b9g_chosen u) = (b9g_chosen S) ∧ (b9g_lowKey u) = (b9g_lowKey S) ∧ (b9g_highKey u) = (b9g_highKey S) ∧ (b9g_lowLength u) = (b9g_lowLength S) ∧ (b9g_highLength u) = (b9g_highLength S) ∧ (b9g_fromKey u) = (b9g_fromKey S) ∧ (b9g_toKey u) = (b9g_toKey S) ∧ (b9g_fromLength u) = (b9g_fromLength S) ∧ (b9g_toLength u) = (b9g_toLength S) ∧ (b9g_signs u) = (b9g_signs S) ∧ (b9g_signMany u) = (b9g_signMany S) ∧ (b9g_hasImage u) = (b9g_hasImage S) ∧ (b9g_images u) = (b9g_images S) ∧ (b9g_keyImages u) = (b9g_keyImages S) ∧ (b9g_lengthImages u) = (b9g_lengthImages S)
set_option maxRecDepth 20000 in
set_option maxHeartbeats 8000000 in
theorem sj_X9_bits {S : bT9} (hJ : J9 S) {a1 : Int32} {Q : Int32 → (bT9) → Prop} (hq : ∀ (r : Int32) (u : bT9), (J9 u) → F_X9_bits S u → Q r u) : wp_X9_bits S a1 Q := by
  unfold wp_X9_bits
  have hFS : F_X9_bits S S := ⟨rfl, rfl, rfl, rfl, rfl, rfl, rfl, rfl, rfl, rfl, rfl, rfl, rfl, rfl, rfl, rfl, rfl, rfl, rfl, rfl, rfl, rfl, rfl⟩
  have jf1 := J9g_oneMany hJ
  have jf2 : (-4 ≤ ((b9g_now S) 1).toInt ∧ ((b9g_now S) 1).toInt ≤ 4) ∧ (-3 ≤ ((b9g_now S) 4).toInt ∧ ((b9g_now S) 4).toInt ≤ 252) ∧ (0 ≤ ((b9g_now S) 8).toInt ∧ ((b9g_now S) 8).toInt ≤ 64) ∧ (0 ≤ ((b9g_now S) 9).toInt ∧ ((b9g_now S) 9).toInt ≤ 64) ∧ (0 ≤ ((b9g_now S) 10).toInt ∧ ((b9g_now S) 10).toInt ≤ 16) ∧ (0 ≤ ((b9g_now S) 12).toInt ∧ ((b9g_now S) 12).toInt ≤ 8) := J9g_now hJ
  have ju2_S := hJ.2.1
  have rga1 := pt_rg a1
  intro S1 eS1
  have hJS1 : J9 S1 := by rw [eS1]; exact (J9s_told hJ)
  have hFS1 : F_X9_bits S S1 := by rw [eS1]; exact hFS
  have je3 : ((b9g_oneMany S1)).toInt = ((b9g_oneMany S)).toInt := by rw [eS1]
  have jf4 := J9g_oneMany hJS1
  have je5 : ((b9g_rowLong S1)).toInt = ((b9g_rowLong S)).toInt := by rw [eS1]
  have je6 : ((b9g_upper S1)).toInt = ((b9g_upper S)).toInt := by rw [eS1]
  have je8 : ((b9g_now S1) 1).toInt = ((b9g_now S) 1).toInt := congrArg (fun z => (z 1).toInt) hFS1.1
  have je10 : ((b9g_now S1) 4).toInt = ((b9g_now S) 4).toInt := congrArg (fun z => (z 4).toInt) hFS1.1
  have je12 : ((b9g_now S1) 7).toInt = ((b9g_now S) 7).toInt := congrArg (fun z => (z 7).toInt) hFS1.1
  have je14 : ((b9g_now S1) 8).toInt = ((b9g_now S) 8).toInt := congrArg (fun z => (z 8).toInt) hFS1.1
  have je16 : ((b9g_now S1) 9).toInt = ((b9g_now S) 9).toInt := congrArg (fun z => (z 9).toInt) hFS1.1
  have je18 : ((b9g_now S1) 10).toInt = ((b9g_now S) 10).toInt := congrArg (fun z => (z 10).toInt) hFS1.1
  have je20 : ((b9g_now S1) 12).toInt = ((b9g_now S) 12).toInt := congrArg (fun z => (z 12).toInt) hFS1.1
  have ju20_S1 := hJS1.2.1
  refine sf_X9_laysOnes hJS1 (fun u3 hJu3 hfu3 hr2_0 hr2_1 => ?_)
  have hFu3 : F_X9_bits S u3 := ⟨(congrArg (fun z => z) hfu3.2.1).trans hFS1.1, (congrArg (fun z => z) hfu3.2.2.1).trans hFS1.2.1, (congrArg (fun z => z) hfu3.2.2.2.1).trans hFS1.2.2.1, (congrArg (fun z => z) hfu3.2.2.2.2.1).trans hFS1.2.2.2.1, (congrArg (fun z => z) hfu3.2.2.2.2.2.1).trans hFS1.2.2.2.2.1, (congrArg (fun z => z) hfu3.2.2.2.2.2.2.1).trans hFS1.2.2.2.2.2.1, (congrArg (fun z => z) hfu3.2.2.2.2.2.2.2.1).trans hFS1.2.2.2.2.2.2.1, (congrArg (fun z => z) hfu3.2.2.2.2.2.2.2.2.1).trans hFS1.2.2.2.2.2.2.2.1, (congrArg (fun z => z) hfu3.2.2.2.2.2.2.2.2.2.1).trans hFS1.2.2.2.2.2.2.2.2.1, (congrArg (fun z => z) hfu3.2.2.2.2.2.2.2.2.2.2.1).trans hFS1.2.2.2.2.2.2.2.2.2.1, (congrArg (fun z => z) hfu3.2.2.2.2.2.2.2.2.2.2.2.1).trans hFS1.2.2.2.2.2.2.2.2.2.2.1, (congrArg (fun z => z) hfu3.2.2.2.2.2.2.2.2.2.2.2.2.1).trans hFS1.2.2.2.2.2.2.2.2.2.2.2.1, (congrArg (fun z => z) hfu3.2.2.2.2.2.2.2.2.2.2.2.2.2.1).trans hFS1.2.2.2.2.2.2.2.2.2.2.2.2.1, (congrArg (fun z => z) hfu3.2.2.2.2.2.2.2.2.2.2.2.2.2.2.1).trans hFS1.2.2.2.2.2.2.2.2.2.2.2.2.2.1, (congrArg (fun z => z) hfu3.2.2.2.2.2.2.2.2.2.2.2.2.2.2.2.1).trans hFS1.2.2.2.2.2.2.2.2.2.2.2.2.2.2.1, (congrArg (fun z => z) hfu3.2.2.2.2.2.2.2.2.2.2.2.2.2.2.2.2.1).trans hFS1.2.2.2.2.2.2.2.2.2.2.2.2.2.2.2.1, (congrArg (fun z => z) hfu3.2.2.2.2.2.2.2.2.2.2.2.2.2.2.2.2.2.1).trans hFS1.2.2.2.2.2.2.2.2.2.2.2.2.2.2.2.2.1, (congrArg (fun z => z) hfu3.2.2.2.2.2.2.2.2.2.2.2.2.2.2.2.2.2.2.1).trans hFS1.2.2.2.2.2.2.2.2.2.2.2.2.2.2.2.2.2.1, (congrArg (fun z => z) hfu3.2.2.2.2.2.2.2.2.2.2.2.2.2.2.2.2.2.2.2.1).trans hFS1.2.2.2.2.2.2.2.2.2.2.2.2.2.2.2.2.2.2.1, (congrArg (fun z => z) hfu3.2.2.2.2.2.2.2.2.2.2.2.2.2.2.2.2.2.2.2.2.1).trans hFS1.2.2.2.2.2.2.2.2.2.2.2.2.2.2.2.2.2.2.2.1, (congrArg (fun z => z) hfu3.2.2.2.2.2.2.2.2.2.2.2.2.2.2.2.2.2.2.2.2.2.1).trans hFS1.2.2.2.2.2.2.2.2.2.2.2.2.2.2.2.2.2.2.2.2.1, (congrArg (fun z => z) hfu3.2.2.2.2.2.2.2.2.2.2.2.2.2.2.2.2.2.2.2.2.2.2.1).trans hFS1.2.2.2.2.2.2.2.2.2.2.2.2.2.2.2.2.2.2.2.2.2.1, (congrArg (fun z => z) hfu3.2.2.2.2.2.2.2.2.2.2.2.2.2.2.2.2.2.2.2.2.2.2.2).trans hFS1.2.2.2.2.2.2.2.2.2.2.2.2.2.2.2.2.2.2.2.2.2.2⟩
  have jf21 := J9g_oneMany hJu3
  have je23 : ((b9g_now u3) 1).toInt = ((b9g_now S) 1).toInt := congrArg (fun z => (z 1).toInt) hFu3.1
  have je25 : ((b9g_now u3) 4).toInt = ((b9g_now S) 4).toInt := congrArg (fun z => (z 4).toInt) hFu3.1
  have je27 : ((b9g_now u3) 7).toInt = ((b9g_now S) 7).toInt := congrArg (fun z => (z 7).toInt) hFu3.1
  have je29 : ((b9g_now u3) 8).toInt = ((b9g_now S) 8).toInt := congrArg (fun z => (z 8).toInt) hFu3.1
  have je31 : ((b9g_now u3) 9).toInt = ((b9g_now S) 9).toInt := congrArg (fun z => (z 9).toInt) hFu3.1
  have je33 : ((b9g_now u3) 10).toInt = ((b9g_now S) 10).toInt := congrArg (fun z => (z 10).toInt) hFu3.1
  have je35 : ((b9g_now u3) 12).toInt = ((b9g_now S) 12).toInt := congrArg (fun z => (z 12).toInt) hFu3.1
  have ju35_u3 := hJu3.2.1
  refine ⟨fun c4 => ?_, fun c4 => ?_⟩
  · try simp (disch := first | ((try simp (disch := first | ((try simp only [pn]) <;> omega) | fail) only [pn, pq]) <;> omega) | fail) only [pn, pq] at c4
    refine ⟨fun c5 => ?_, fun c5 => ?_⟩
    · try simp (disch := first | ((try simp (disch := first | ((try simp only [pn]) <;> omega) | fail) only [pn, pq]) <;> omega) | fail) only [pn, pq] at c5
      refine ⟨fun c6 => ?_, fun c6 => ?_⟩
      · try simp (disch := first | ((try simp (disch := first | ((try simp only [pn]) <;> omega) | fail) only [pn, pq]) <;> omega) | fail) only [pn, pq] at c6
        refine ⟨fun c7 => ?_, fun c7 => ?_⟩
        · try simp (disch := first | ((try simp (disch := first | ((try simp only [pn]) <;> omega) | fail) only [pn, pq]) <;> omega) | fail) only [pn, pq] at c7
          refine ⟨fun c8 => ?_, fun c8 => ?_⟩
          · try simp (disch := first | ((try simp (disch := first | ((try simp only [pn]) <;> omega) | fail) only [pn, pq]) <;> omega) | fail) only [pn, pq] at c8
            refine ⟨fun c9 => ?_, fun c9 => ?_⟩
            · try simp (disch := first | ((try simp (disch := first | ((try simp only [pn]) <;> omega) | fail) only [pn, pq]) <;> omega) | fail) only [pn, pq] at c9
              refine ⟨fun c10 => ?_, fun c10 => ?_⟩
              · try simp (disch := first | ((try simp (disch := first | ((try simp only [pn]) <;> omega) | fail) only [pn, pq]) <;> omega) | fail) only [pn, pq] at c10
                exact hq _ _ hJu3 hFu3 
              · try simp (disch := first | ((try simp (disch := first | ((try simp only [pn]) <;> omega) | fail) only [pn, pq]) <;> omega) | fail) only [pn, pq] at c10
                exact hq _ _ hJu3 hFu3 
            · try simp (disch := first | ((try simp (disch := first | ((try simp only [pn]) <;> omega) | fail) only [pn, pq]) <;> omega) | fail) only [pn, pq] at c9
              exact hq _ _ hJu3 hFu3 
          · try simp (disch := first | ((try simp (disch := first | ((try simp only [pn]) <;> omega) | fail) only [pn, pq]) <;> omega) | fail) only [pn, pq] at c8
            refine sf_X9_keyBits hJu3.1 (fun r11  => ?_)
            have rgr11 := pt_rg r11
            exact hq _ _ hJu3 hFu3 
        · try simp (disch := first | ((try simp (disch := first | ((try simp only [pn]) <;> omega) | fail) only [pn, pq]) <;> omega) | fail) only [pn, pq] at c7
          refine sf_X9_bitsAbove hJu3.1 (fun r13 hr13_0 hr13_1 hr13_2 => ?_)
          have rgr13 := pt_rg r13
          try simp (disch := first | ((try simp (disch := first | ((try simp only [pn]) <;> omega) | fail) only [pn, pq]) <;> omega) | fail) only [pn, pq] at hr13_0
          try simp (disch := first | ((try simp (disch := first | ((try simp only [pn]) <;> omega) | fail) only [pn, pq]) <;> omega) | fail) only [pn, pq] at hr13_1
          try simp (disch := first | ((try simp (disch := first | ((try simp only [pn]) <;> omega) | fail) only [pn, pq]) <;> omega) | fail) only [pn, pq] at hr13_2
          refine sf_X9_bitsBelow hJu3.1 (fun r15 hr15_0 hr15_1 => ?_)
          have rgr15 := pt_rg r15
          try simp (disch := first | ((try simp (disch := first | ((try simp only [pn]) <;> omega) | fail) only [pn, pq]) <;> omega) | fail) only [pn, pq] at hr15_0
          try simp (disch := first | ((try simp (disch := first | ((try simp only [pn]) <;> omega) | fail) only [pn, pq]) <;> omega) | fail) only [pn, pq] at hr15_1
          refine sf_X9_tailBits hJu3.1 (fun r17  => ?_)
          have rgr17 := pt_rg r17
          exact hq _ _ hJu3 hFu3 
      · try simp (disch := first | ((try simp (disch := first | ((try simp only [pn]) <;> omega) | fail) only [pn, pq]) <;> omega) | fail) only [pn, pq] at c6
        refine sf_X9_tailBits hJu3.1 (fun r19  => ?_)
        have rgr19 := pt_rg r19
        exact hq _ _ hJu3 hFu3 
    · try simp (disch := first | ((try simp (disch := first | ((try simp only [pn]) <;> omega) | fail) only [pn, pq]) <;> omega) | fail) only [pn, pq] at c5
      refine sf_X9_bitsBelow hJu3.1 (fun r21 hr21_0 hr21_1 => ?_)
      have rgr21 := pt_rg r21
      try simp (disch := first | ((try simp (disch := first | ((try simp only [pn]) <;> omega) | fail) only [pn, pq]) <;> omega) | fail) only [pn, pq] at hr21_0
      try simp (disch := first | ((try simp (disch := first | ((try simp only [pn]) <;> omega) | fail) only [pn, pq]) <;> omega) | fail) only [pn, pq] at hr21_1
      exact hq _ _ hJu3 hFu3 
  · try simp (disch := first | ((try simp (disch := first | ((try simp only [pn]) <;> omega) | fail) only [pn, pq]) <;> omega) | fail) only [pn, pq] at c4
    refine sf_X9_bitsAbove hJu3.1 (fun r23 hr23_0 hr23_1 hr23_2 => ?_)
    have rgr23 := pt_rg r23
    try simp (disch := first | ((try simp (disch := first | ((try simp only [pn]) <;> omega) | fail) only [pn, pq]) <;> omega) | fail) only [pn, pq] at hr23_0
    try simp (disch := first | ((try simp (disch := first | ((try simp only [pn]) <;> omega) | fail) only [pn, pq]) <;> omega) | fail) only [pn, pq] at hr23_1
    try simp (disch := first | ((try simp (disch := first | ((try simp only [pn]) <;> omega) | fail) only [pn, pq]) <;> omega) | fail) only [pn, pq] at hr23_2
    exact hq _ _ hJu3 hFu3 
theorem sf_X9_bits {S : bT9} (hJ : J9 S) {a1 : Int32} {Q : Int32 → (bT9) → Prop} (hq : ∀ (r : Int32) (u : bT9), (J9 u) → F_X9_bits S u → (TWW S u) → (T9P S → TDW S → ∀ ro : Nat, (b9g_chosen S).toInt = (ro : Int) → ro ≤ 5 → ∃ k lv : Nat, UPD S k lv ∧ BIV ro (n9 S) (C9 S) (L9 S) (P9 S) k (TLB (b9g_now S 9) (HBT (b9g_now S)) (NBT (b9g_now S))) a1 r) → Q r u) : wp_X9_bits S a1 Q := by
  by_cases hyp : T9P S ∧ TDW S
  case neg => exact sj_X9_bits hJ (fun r u h1 h2 => hq r u h1 h2 (fun a b => absurd ⟨a, b⟩ hyp) (fun a b => absurd ⟨a, b⟩ hyp))
  case pos =>
    obtain ⟨hP, hW⟩ := hyp
    unfold wp_X9_bits
    intro S1 e1
    have hJ1 : J9 S1 := by rw [e1]; exact J9s_told hJ
    have hF1 : F_X9_bits S S1 := by rw [e1]; exact ⟨rfl, rfl, rfl, rfl, rfl, rfl, rfl, rfl, rfl, rfl, rfl, rfl, rfl, rfl, rfl, rfl, rfl, rfl, rfl, rfl, rfl, rfl, rfl⟩
    refine sf_X9_laysOnes hJ1 (fun u3 hJ3 hf3 tw1 w3 => ?_)
    have hF3 : F_X9_bits S u3 := ⟨(hf3.2.1).trans (hF1.1), (hf3.2.2.1).trans (hF1.2.1), (hf3.2.2.2.1).trans (hF1.2.2.1), (hf3.2.2.2.2.1).trans (hF1.2.2.2.1), (hf3.2.2.2.2.2.1).trans (hF1.2.2.2.2.1), (hf3.2.2.2.2.2.2.1).trans (hF1.2.2.2.2.2.1), (hf3.2.2.2.2.2.2.2.1).trans (hF1.2.2.2.2.2.2.1), (hf3.2.2.2.2.2.2.2.2.1).trans (hF1.2.2.2.2.2.2.2.1), (hf3.2.2.2.2.2.2.2.2.2.1).trans (hF1.2.2.2.2.2.2.2.2.1), (hf3.2.2.2.2.2.2.2.2.2.2.1).trans (hF1.2.2.2.2.2.2.2.2.2.1), (hf3.2.2.2.2.2.2.2.2.2.2.2.1).trans (hF1.2.2.2.2.2.2.2.2.2.2.1), (hf3.2.2.2.2.2.2.2.2.2.2.2.2.1).trans (hF1.2.2.2.2.2.2.2.2.2.2.2.1), (hf3.2.2.2.2.2.2.2.2.2.2.2.2.2.1).trans (hF1.2.2.2.2.2.2.2.2.2.2.2.2.1), (hf3.2.2.2.2.2.2.2.2.2.2.2.2.2.2.1).trans (hF1.2.2.2.2.2.2.2.2.2.2.2.2.2.1), (hf3.2.2.2.2.2.2.2.2.2.2.2.2.2.2.2.1).trans (hF1.2.2.2.2.2.2.2.2.2.2.2.2.2.2.1), (hf3.2.2.2.2.2.2.2.2.2.2.2.2.2.2.2.2.1).trans (hF1.2.2.2.2.2.2.2.2.2.2.2.2.2.2.2.1), (hf3.2.2.2.2.2.2.2.2.2.2.2.2.2.2.2.2.2.1).trans (hF1.2.2.2.2.2.2.2.2.2.2.2.2.2.2.2.2.1), (hf3.2.2.2.2.2.2.2.2.2.2.2.2.2.2.2.2.2.2.1).trans (hF1.2.2.2.2.2.2.2.2.2.2.2.2.2.2.2.2.2.1), (hf3.2.2.2.2.2.2.2.2.2.2.2.2.2.2.2.2.2.2.2.1).trans (hF1.2.2.2.2.2.2.2.2.2.2.2.2.2.2.2.2.2.2.1), (hf3.2.2.2.2.2.2.2.2.2.2.2.2.2.2.2.2.2.2.2.2.1).trans (hF1.2.2.2.2.2.2.2.2.2.2.2.2.2.2.2.2.2.2.2.1), (hf3.2.2.2.2.2.2.2.2.2.2.2.2.2.2.2.2.2.2.2.2.2.1).trans (hF1.2.2.2.2.2.2.2.2.2.2.2.2.2.2.2.2.2.2.2.2.1), (hf3.2.2.2.2.2.2.2.2.2.2.2.2.2.2.2.2.2.2.2.2.2.2.1).trans (hF1.2.2.2.2.2.2.2.2.2.2.2.2.2.2.2.2.2.2.2.2.2.1), (hf3.2.2.2.2.2.2.2.2.2.2.2.2.2.2.2.2.2.2.2.2.2.2.2).trans (hF1.2.2.2.2.2.2.2.2.2.2.2.2.2.2.2.2.2.2.2.2.2.2)⟩
    have tw : TWW S u3 := TWW_told e1 tw1
    have w3' := w3 (by rw [e1]; exact hP) (by rw [e1]; exact hW)
    by_cases hro : ∃ ro : Nat, (b9g_chosen S).toInt = (ro : Int) ∧ ro ≤ 5
    case neg =>
      have fin : ∀ r : Int32, Q r u3 := fun r => hq r u3 hJ3 hF3 tw (fun _ _ ro a b => absurd ⟨ro, a, b⟩ hro)
      exact ⟨fun _ => ⟨fun _ => ⟨fun _ => ⟨fun _ => ⟨fun _ => ⟨fun _ => ⟨fun _ => fin _, fun _ => fin _⟩, fun _ => fin _⟩, fun _ => sf_X9_keyBits hJ3.1 (fun r => fin _)⟩, fun _ => sf_X9_bitsAbove hJ3.1 (fun r6 _ _ _ => sf_X9_bitsBelow hJ3.1 (fun r8 _ _ => sf_X9_tailBits hJ3.1 (fun r10 => fin _)))⟩, fun _ => sf_X9_tailBits hJ3.1 (fun r10 => fin _)⟩, fun _ => sf_X9_bitsBelow hJ3.1 (fun r8 _ _ => fin _)⟩, fun _ => sf_X9_bitsAbove hJ3.1 (fun r6 _ _ _ => fin _)⟩
    case pos =>
      obtain ⟨ro, hr, hr5⟩ := hro
      obtain ⟨k, lv, up1, A1, uk, il⟩ := w3' ro (by rw [e1]; exact hr) hr5
      have up : UPD S k lv := by
        rw [e1] at up1
        exact up1
      have A : OAR ro (n9 S) (C9 S) (L9 S) (P9 S) (fun j => b9g_keys S (64 + j)) k (b9g_oneMany u3) (b9g_rowLong u3) (b9g_ones u3) := by
        rw [e1] at A1
        exact A1
      have k8 : k ≤ 8 := Nat.le_trans up.2.2.1 up.2.1
      have n3 : b9g_now u3 = b9g_now S := hF3.1
      have sm : SM9 u3 S := ⟨hF3.2.1, hF3.2.2.1, n3⟩
      have twu := tw hP hW
      obtain ⟨R, hTD⟩ := TD_use hJ3 hP sm ⟨twu.1, twu.2, il⟩
      have nV := hTD.1
      obtain ⟨q1, q2, q3, q4⟩ := SM9_n sm
      have fin : ∀ r : Int32, BIV ro (n9 S) (C9 S) (L9 S) (P9 S) k (TLB (b9g_now S 9) (HBT (b9g_now S)) (NBT (b9g_now S))) a1 (r) → Q r u3 := fun r b => hq r u3 hJ3 hF3 tw (fun _ _ ro2 c d => by rw [show ro2 = ro by omega]; exact ⟨k, lv, up, b⟩)
      have G := R.1
      rw [q1, q2, q3, q4] at G
      have n5 := NB_le G (l := 7) (i := 64) (by omega) (by omega)
      have nb5 : NB (n9 S) (C9 S) (P9 S) (64 * 7 + 64) = NB (n9 S) (C9 S) (P9 S) 512 := rfl
      have nk := NB_mono (n := (n9 S)) (C := (C9 S)) (P := (P9 S)) (show 64 * k ≤ 512 by omega)
      have nk0 := NB_nn (n := (n9 S)) (C := (C9 S)) (P := (P9 S)) (64 * k)
      have e5 := EB_le G (w := 512) (by omega)
      have ek := EB_le G (w := 64 * k) (by omega)
      have emn := EB_mono (n := (n9 S)) (C := (C9 S)) (P := (P9 S)) (show 64 * k ≤ 512 by omega)
      have b1 : BTN (n9 S) (C9 S) (P9 S) k = 513 * NB (n9 S) (C9 S) (P9 S) (64 * k) := rfl
      have b2 : BTE (n9 S) (C9 S) (P9 S) k = 11 * (EB (n9 S) (C9 S) (P9 S) 512 - EB (n9 S) (C9 S) (P9 S) (64 * k)) := rfl
      have ne : ∀ {m : Int32}, ¬ a1 = m → ¬ a1.toInt = m.toInt := fun h z => h (Int32.toInt_inj.mp z)
      have abv : ∀ R' : Int32 → Prop, (∀ r : Int32, r.toInt = BTN (n9 S) (C9 S) (P9 S) k → R' r) → wp_X9_bitsAbove u3 (b9g_upper u3) R' := fun R' hR => fx9_bitsAbove R nV uk k8 (fun r h => hR r (by rw [q1, q2, q4] at h; exact h))
      have blw : ∀ R' : Int32 → Prop, (∀ r : Int32, r.toInt = BTE (n9 S) (C9 S) (P9 S) k → R' r) → wp_X9_bitsBelow u3 (b9g_upper u3) R' := fun R' hR => fx9_bitsBelow R nV uk k8 (fun r h => hR r (by rw [q1, q2, q4] at h; exact h))
      have tlb : ∀ R' : Int32 → Prop, R' (TLB (b9g_now S 9) (HBT (b9g_now S)) (NBT (b9g_now S))) → wp_X9_tailBits u3 R' := fun R' hR => fx9_tailBits (by rw [n3]; exact hR)
      have p0 : ((0 : Int32)).toInt = 0 := rfl
      have p1 : ((1 : Int32)).toInt = 1 := rfl
      have p2 : ((2 : Int32)).toInt = 2 := rfl
      have p3 : ((3 : Int32)).toInt = 3 := rfl
      have p4 : ((4 : Int32)).toInt = 4 := rfl
      have p5 : ((5 : Int32)).toInt = 5 := rfl
      have p6 : ((6 : Int32)).toInt = 6 := rfl
      refine ⟨fun c0 => ⟨fun c1 => ⟨fun c2 => ⟨fun c3 => ⟨fun c4 => ⟨fun c5 => ⟨fun c6 => ?_, fun c => ?_⟩, fun c => ?_⟩, fun c => ?_⟩, fun c => ?_⟩, fun c => ?_⟩, fun c => ?_⟩, fun c => ?_⟩
      · have d0 := ne c0
        have d1 := ne c1
        have d2 := ne c2
        have d3 := ne c3
        have d4 := ne c4
        have d5 := ne c5
        have d6 := ne c6
        exact fin _ ⟨fun z => by omega, fun z => by omega, fun z => by omega, fun z => by omega, fun z => by omega, fun z => by omega, fun z => by omega, fun _ => rfl⟩
      · have ca : a1.toInt = 6 := by rw [c]; rfl
        exact fin _ ⟨fun z => by omega, fun z => by omega, fun z => by omega, fun z => by omega, fun z => by omega, fun z => by omega, fun _ => A.1, fun z => absurd ⟨by omega, by omega⟩ z⟩
      · have ca : a1.toInt = 5 := by rw [c]; rfl
        exact fin _ ⟨fun z => by omega, fun z => by omega, fun z => by omega, fun z => by omega, fun z => by omega, fun _ => A.2.1, fun z => by omega, fun z => absurd ⟨by omega, by omega⟩ z⟩
      · have ca : a1.toInt = 4 := by rw [c]; rfl
        exact fx9_keyBits hJ3.1 (fun r4 h4 => fin _ ⟨fun z => by omega, fun z => by omega, fun z => by omega, fun z => by omega, fun _ => by rw [q1, q3] at h4; exact h4, fun z => by omega, fun z => by omega, fun z => absurd ⟨by omega, by omega⟩ z⟩)
      · have ca : a1.toInt = 3 := by rw [c]; rfl
        refine abv _ (fun r6 h6 => blw _ (fun r8 h8 => tlb _ (fin _ ⟨fun z => by omega, fun z => by omega, fun z => by omega, fun _ => ⟨r6 + r8, ?_, rfl⟩, fun z => by omega, fun z => by omega, fun z => by omega, fun z => absurd ⟨by omega, by omega⟩ z⟩)))
        unfold BTS
        rw [pt_add (by omega) (by omega), h6, h8]
      · have ca : a1.toInt = 2 := by rw [c]; rfl
        exact tlb _ (fin _ ⟨fun z => by omega, fun z => by omega, fun _ => rfl, fun z => by omega, fun z => by omega, fun z => by omega, fun z => by omega, fun z => absurd ⟨by omega, by omega⟩ z⟩)
      · have ca : a1.toInt = 1 := by rw [c]; rfl
        exact blw _ (fun r14 h14 => fin _ ⟨fun z => by omega, fun _ => h14, fun z => by omega, fun z => by omega, fun z => by omega, fun z => by omega, fun z => by omega, fun z => absurd ⟨by omega, by omega⟩ z⟩)
      · have ca : a1.toInt = 0 := by rw [c]; rfl
        exact abv _ (fun r16 h16 => fin _ ⟨fun _ => h16, fun z => by omega, fun z => by omega, fun z => by omega, fun z => by omega, fun z => by omega, fun z => by omega, fun z => absurd ⟨by omega, by omega⟩ z⟩)
def F_X9_least (S u : bT9) : Prop := (b9g_now u) = (b9g_now S) ∧ (b9g_keys u) = (b9g_keys S) ∧ (b9g_lengths u) = (b9g_lengths S) ∧ (b9g_drawn u) = (b9g_drawn S) ∧ (b9g_drawnLength u) = (b9g_drawnLength S) ∧ (b9g_tape u) = (b9g_tape S) ∧ (b9g_taped u) = (b9g_taped S) ∧ (b9g_names u) = (b9g_names S) ∧ (b9g_chosen u) = (b9g_chosen S) ∧ (b9g_lowKey u) = (b9g_lowKey S) ∧ (b9g_highKey u) = (b9g_highKey S) ∧ (b9g_lowLength u) = (b9g_lowLength S) ∧ (b9g_highLength u) = (b9g_highLength S) ∧ (b9g_fromKey u) = (b9g_fromKey S) ∧ (b9g_toKey u) = (b9g_toKey S) ∧ (b9g_fromLength u) = (b9g_fromLength S) ∧ (b9g_toLength u) = (b9g_toLength S) ∧ (b9g_ones u) = (b9g_ones S) ∧ (b9g_oneMany u) = (b9g_oneMany S) ∧ (b9g_rowLong u) = (b9g_rowLong S) ∧ (b9g_signs u) = (b9g_signs S) ∧ (b9g_signMany u) = (b9g_signMany S) ∧ (b9g_hasImage u) = (b9g_hasImage S) ∧ (b9g_images u) = (b9g_images S) ∧ (b9g_keyImages u) = (b9g_keyImages S) ∧ (b9g_lengthImages u) = (b9g_lengthImages S)
set_option maxRecDepth 20000 in
set_option maxHeartbeats 8000000 in
theorem sj_X9_least {S : bT9} (hJ : J9 S) {a1 : Int32} {Q : Int32 → (bT9) → Prop} (hq : ∀ (r : Int32) (u : bT9), (J9 u) → F_X9_least S u → Q r u) : wp_X9_least S a1 Q := by
  unfold wp_X9_least
  have hFS : F_X9_least S S := ⟨rfl, rfl, rfl, rfl, rfl, rfl, rfl, rfl, rfl, rfl, rfl, rfl, rfl, rfl, rfl, rfl, rfl, rfl, rfl, rfl, rfl, rfl, rfl, rfl, rfl, rfl⟩
  have jf1 := J9g_levelMany hJ
  have jf2 : (-4 ≤ ((b9g_now S) 1).toInt ∧ ((b9g_now S) 1).toInt ≤ 4) ∧ (-3 ≤ ((b9g_now S) 4).toInt ∧ ((b9g_now S) 4).toInt ≤ 252) ∧ (0 ≤ ((b9g_now S) 8).toInt ∧ ((b9g_now S) 8).toInt ≤ 64) ∧ (0 ≤ ((b9g_now S) 9).toInt ∧ ((b9g_now S) 9).toInt ≤ 64) ∧ (0 ≤ ((b9g_now S) 10).toInt ∧ ((b9g_now S) 10).toInt ≤ 16) ∧ (0 ≤ ((b9g_now S) 12).toInt ∧ ((b9g_now S) 12).toInt ≤ 8) := J9g_now hJ
  have ju2_S := hJ.2.1
  have rga1 := pt_rg a1
  intro S1 eS1
  have hJS1 : J9 S1 := by rw [eS1]; exact (J9s_told hJ)
  have hFS1 : F_X9_least S S1 := by rw [eS1]; exact hFS
  have je3 : ((b9g_levelMany S1)).toInt = ((b9g_levelMany S)).toInt := by rw [eS1]
  have jf4 := J9g_levelMany hJS1
  have je6 : ((b9g_now S1) 1).toInt = ((b9g_now S) 1).toInt := congrArg (fun z => (z 1).toInt) hFS1.1
  have je8 : ((b9g_now S1) 4).toInt = ((b9g_now S) 4).toInt := congrArg (fun z => (z 4).toInt) hFS1.1
  have je10 : ((b9g_now S1) 7).toInt = ((b9g_now S) 7).toInt := congrArg (fun z => (z 7).toInt) hFS1.1
  have je12 : ((b9g_now S1) 8).toInt = ((b9g_now S) 8).toInt := congrArg (fun z => (z 8).toInt) hFS1.1
  have je14 : ((b9g_now S1) 9).toInt = ((b9g_now S) 9).toInt := congrArg (fun z => (z 9).toInt) hFS1.1
  have je16 : ((b9g_now S1) 10).toInt = ((b9g_now S) 10).toInt := congrArg (fun z => (z 10).toInt) hFS1.1
  have je18 : ((b9g_now S1) 12).toInt = ((b9g_now S) 12).toInt := congrArg (fun z => (z 12).toInt) hFS1.1
  have ju18_S1 := hJS1.2.1
  refine sf_X9_laysNodes hJS1 (fun u3 hJu3 hfu3 hr2_0 => ?_)
  have hFu3 : F_X9_least S u3 := ⟨(congrArg (fun z => z) hfu3.2.1).trans hFS1.1, (congrArg (fun z => z) hfu3.2.2.1).trans hFS1.2.1, (congrArg (fun z => z) hfu3.2.2.2.1).trans hFS1.2.2.1, (congrArg (fun z => z) hfu3.2.2.2.2.1).trans hFS1.2.2.2.1, (congrArg (fun z => z) hfu3.2.2.2.2.2.1).trans hFS1.2.2.2.2.1, (congrArg (fun z => z) hfu3.2.2.2.2.2.2.1).trans hFS1.2.2.2.2.2.1, (congrArg (fun z => z) hfu3.2.2.2.2.2.2.2.1).trans hFS1.2.2.2.2.2.2.1, (congrArg (fun z => z) hfu3.2.2.2.2.2.2.2.2.1).trans hFS1.2.2.2.2.2.2.2.1, (congrArg (fun z => z) hfu3.2.2.2.2.2.2.2.2.2.1).trans hFS1.2.2.2.2.2.2.2.2.1, (congrArg (fun z => z) hfu3.2.2.2.2.2.2.2.2.2.2.1).trans hFS1.2.2.2.2.2.2.2.2.2.1, (congrArg (fun z => z) hfu3.2.2.2.2.2.2.2.2.2.2.2.1).trans hFS1.2.2.2.2.2.2.2.2.2.2.1, (congrArg (fun z => z) hfu3.2.2.2.2.2.2.2.2.2.2.2.2.1).trans hFS1.2.2.2.2.2.2.2.2.2.2.2.1, (congrArg (fun z => z) hfu3.2.2.2.2.2.2.2.2.2.2.2.2.2.1).trans hFS1.2.2.2.2.2.2.2.2.2.2.2.2.1, (congrArg (fun z => z) hfu3.2.2.2.2.2.2.2.2.2.2.2.2.2.2.1).trans hFS1.2.2.2.2.2.2.2.2.2.2.2.2.2.1, (congrArg (fun z => z) hfu3.2.2.2.2.2.2.2.2.2.2.2.2.2.2.2.1).trans hFS1.2.2.2.2.2.2.2.2.2.2.2.2.2.2.1, (congrArg (fun z => z) hfu3.2.2.2.2.2.2.2.2.2.2.2.2.2.2.2.2.1).trans hFS1.2.2.2.2.2.2.2.2.2.2.2.2.2.2.2.1, (congrArg (fun z => z) hfu3.2.2.2.2.2.2.2.2.2.2.2.2.2.2.2.2.2.1).trans hFS1.2.2.2.2.2.2.2.2.2.2.2.2.2.2.2.2.1, (congrArg (fun z => z) hfu3.2.2.2.2.2.2.2.2.2.2.2.2.2.2.2.2.2.2.1).trans hFS1.2.2.2.2.2.2.2.2.2.2.2.2.2.2.2.2.2.1, (congrArg (fun z => z) hfu3.2.2.2.2.2.2.2.2.2.2.2.2.2.2.2.2.2.2.2.1).trans hFS1.2.2.2.2.2.2.2.2.2.2.2.2.2.2.2.2.2.2.1, (congrArg (fun z => z) hfu3.2.2.2.2.2.2.2.2.2.2.2.2.2.2.2.2.2.2.2.2.1).trans hFS1.2.2.2.2.2.2.2.2.2.2.2.2.2.2.2.2.2.2.2.1, (congrArg (fun z => z) hfu3.2.2.2.2.2.2.2.2.2.2.2.2.2.2.2.2.2.2.2.2.2.1).trans hFS1.2.2.2.2.2.2.2.2.2.2.2.2.2.2.2.2.2.2.2.2.1, (congrArg (fun z => z) hfu3.2.2.2.2.2.2.2.2.2.2.2.2.2.2.2.2.2.2.2.2.2.2.1).trans hFS1.2.2.2.2.2.2.2.2.2.2.2.2.2.2.2.2.2.2.2.2.2.1, (congrArg (fun z => z) hfu3.2.2.2.2.2.2.2.2.2.2.2.2.2.2.2.2.2.2.2.2.2.2.2.1).trans hFS1.2.2.2.2.2.2.2.2.2.2.2.2.2.2.2.2.2.2.2.2.2.2.1, (congrArg (fun z => z) hfu3.2.2.2.2.2.2.2.2.2.2.2.2.2.2.2.2.2.2.2.2.2.2.2.2.1).trans hFS1.2.2.2.2.2.2.2.2.2.2.2.2.2.2.2.2.2.2.2.2.2.2.2.1, (congrArg (fun z => z) hfu3.2.2.2.2.2.2.2.2.2.2.2.2.2.2.2.2.2.2.2.2.2.2.2.2.2.1).trans hFS1.2.2.2.2.2.2.2.2.2.2.2.2.2.2.2.2.2.2.2.2.2.2.2.2.1, (congrArg (fun z => z) hfu3.2.2.2.2.2.2.2.2.2.2.2.2.2.2.2.2.2.2.2.2.2.2.2.2.2.2).trans hFS1.2.2.2.2.2.2.2.2.2.2.2.2.2.2.2.2.2.2.2.2.2.2.2.2.2⟩
  have jf19 := J9g_levelMany hJu3
  have je21 : ((b9g_now u3) 1).toInt = ((b9g_now S) 1).toInt := congrArg (fun z => (z 1).toInt) hFu3.1
  have je23 : ((b9g_now u3) 4).toInt = ((b9g_now S) 4).toInt := congrArg (fun z => (z 4).toInt) hFu3.1
  have je25 : ((b9g_now u3) 7).toInt = ((b9g_now S) 7).toInt := congrArg (fun z => (z 7).toInt) hFu3.1
  have je27 : ((b9g_now u3) 8).toInt = ((b9g_now S) 8).toInt := congrArg (fun z => (z 8).toInt) hFu3.1
  have je29 : ((b9g_now u3) 9).toInt = ((b9g_now S) 9).toInt := congrArg (fun z => (z 9).toInt) hFu3.1
  have je31 : ((b9g_now u3) 10).toInt = ((b9g_now S) 10).toInt := congrArg (fun z => (z 10).toInt) hFu3.1
  have je33 : ((b9g_now u3) 12).toInt = ((b9g_now S) 12).toInt := congrArg (fun z => (z 12).toInt) hFu3.1
  have ju33_u3 := hJu3.2.1
  refine sf_X9_isIn hJu3.1 (fun r4 hzr4 hr4_0 => ?_)
  try simp (disch := first | ((try simp (disch := first | ((try simp only [pn]) <;> omega) | fail) only [pn, pq]) <;> omega) | fail) only [pn, pq] at hr4_0
  refine ⟨fun c6 => ?_, fun c6 => ?_⟩
  · try simp (disch := first | ((try simp (disch := first | ((try simp only [pn]) <;> omega) | fail) only [pn, pq]) <;> omega) | fail) only [pn, pq] at c6
    refine ⟨fun n x1q7 x2q7 x3q7 Sq7 => (J9 Sq7) ∧ (F_X9_least S Sq7) ∧ (x1q7 = a1) ∧ (0 ≤ (x3q7).toInt) ∧ n = (((b9g_levelMany Sq7)).toInt + 1 - (x3q7).toInt).toNat, ⟨_, hJu3, hFu3, rfl, (by (try simp (disch := first | ((try simp (disch := first | ((try simp only [pn]) <;> omega) | fail) only [pn, pq]) <;> omega) | fail) only [pn, pq]) <;> (intros; (try simp (disch := first | ((try simp (disch := first | ((try simp only [pn]) <;> omega) | fail) only [pn, pq]) <;> omega) | fail) only [pn, pq]) <;> omega)), rfl⟩, ?_⟩
    rintro n8 x1q7 x2q7 x3q7 Sq7 ⟨hJSq7, hFSq7, hkq7_0, hiq7_0, hn8⟩
    subst hkq7_0
    have rgx1q7 := pt_rg x1q7
    have rgx2q7 := pt_rg x2q7
    have rgx3q7 := pt_rg x3q7
    unfold wp_X9_least_25b
    have jf34 := J9g_levelMany hJSq7
    have je36 : ((b9g_now Sq7) 1).toInt = ((b9g_now S) 1).toInt := congrArg (fun z => (z 1).toInt) hFSq7.1
    have je38 : ((b9g_now Sq7) 4).toInt = ((b9g_now S) 4).toInt := congrArg (fun z => (z 4).toInt) hFSq7.1
    have je40 : ((b9g_now Sq7) 7).toInt = ((b9g_now S) 7).toInt := congrArg (fun z => (z 7).toInt) hFSq7.1
    have je42 : ((b9g_now Sq7) 8).toInt = ((b9g_now S) 8).toInt := congrArg (fun z => (z 8).toInt) hFSq7.1
    have je44 : ((b9g_now Sq7) 9).toInt = ((b9g_now S) 9).toInt := congrArg (fun z => (z 9).toInt) hFSq7.1
    have je46 : ((b9g_now Sq7) 10).toInt = ((b9g_now S) 10).toInt := congrArg (fun z => (z 10).toInt) hFSq7.1
    have je48 : ((b9g_now Sq7) 12).toInt = ((b9g_now S) 12).toInt := congrArg (fun z => (z 12).toInt) hFSq7.1
    have ju48_Sq7 := hJSq7.2.1
    refine ⟨fun c9 => ?_, fun c9 => ?_⟩
    · try simp (disch := first | ((try simp (disch := first | ((try simp only [pn]) <;> omega) | fail) only [pn, pq]) <;> omega) | fail) only [pn, pq] at c9
      refine ⟨fun c10 => ?_, fun c10 => ?_⟩
      · try simp (disch := first | ((try simp (disch := first | ((try simp only [pn]) <;> omega) | fail) only [pn, pq]) <;> omega) | fail) only [pn, pq] at c10
        refine sf_X9_bitsAbove hJSq7.1 (fun r11 hr11_0 hr11_1 hr11_2 => ?_)
        have rgr11 := pt_rg r11
        try simp (disch := first | ((try simp (disch := first | ((try simp only [pn]) <;> omega) | fail) only [pn, pq]) <;> omega) | fail) only [pn, pq] at hr11_0
        try simp (disch := first | ((try simp (disch := first | ((try simp only [pn]) <;> omega) | fail) only [pn, pq]) <;> omega) | fail) only [pn, pq] at hr11_1
        try simp (disch := first | ((try simp (disch := first | ((try simp only [pn]) <;> omega) | fail) only [pn, pq]) <;> omega) | fail) only [pn, pq] at hr11_2
        refine sf_X9_bitsBelow hJSq7.1 (fun r13 hr13_0 hr13_1 => ?_)
        have rgr13 := pt_rg r13
        try simp (disch := first | ((try simp (disch := first | ((try simp only [pn]) <;> omega) | fail) only [pn, pq]) <;> omega) | fail) only [pn, pq] at hr13_0
        try simp (disch := first | ((try simp (disch := first | ((try simp only [pn]) <;> omega) | fail) only [pn, pq]) <;> omega) | fail) only [pn, pq] at hr13_1
        refine sf_X9_tailBits hJSq7.1 (fun r15  => ?_)
        have rgr15 := pt_rg r15
        exact hq _ _ hJSq7 hFSq7 
      · try simp (disch := first | ((try simp (disch := first | ((try simp only [pn]) <;> omega) | fail) only [pn, pq]) <;> omega) | fail) only [pn, pq] at c10
        exact hq _ _ hJSq7 hFSq7 
    · try simp (disch := first | ((try simp (disch := first | ((try simp only [pn]) <;> omega) | fail) only [pn, pq]) <;> omega) | fail) only [pn, pq] at c9
      refine sf_X9_bitsAbove hJSq7.1 (fun r17 hr17_0 hr17_1 hr17_2 => ?_)
      have rgr17 := pt_rg r17
      try simp (disch := first | ((try simp (disch := first | ((try simp only [pn]) <;> omega) | fail) only [pn, pq]) <;> omega) | fail) only [pn, pq] at hr17_0
      try simp (disch := first | ((try simp (disch := first | ((try simp only [pn]) <;> omega) | fail) only [pn, pq]) <;> omega) | fail) only [pn, pq] at hr17_1
      try simp (disch := first | ((try simp (disch := first | ((try simp only [pn]) <;> omega) | fail) only [pn, pq]) <;> omega) | fail) only [pn, pq] at hr17_2
      refine sf_X9_bitsBelow hJSq7.1 (fun r19 hr19_0 hr19_1 => ?_)
      have rgr19 := pt_rg r19
      try simp (disch := first | ((try simp (disch := first | ((try simp only [pn]) <;> omega) | fail) only [pn, pq]) <;> omega) | fail) only [pn, pq] at hr19_0
      try simp (disch := first | ((try simp (disch := first | ((try simp only [pn]) <;> omega) | fail) only [pn, pq]) <;> omega) | fail) only [pn, pq] at hr19_1
      refine sf_X9_bitsAbove hJSq7.1 (fun r21 hr21_0 hr21_1 hr21_2 => ?_)
      have rgr21 := pt_rg r21
      try simp (disch := first | ((try simp (disch := first | ((try simp only [pn]) <;> omega) | fail) only [pn, pq]) <;> omega) | fail) only [pn, pq] at hr21_0
      try simp (disch := first | ((try simp (disch := first | ((try simp only [pn]) <;> omega) | fail) only [pn, pq]) <;> omega) | fail) only [pn, pq] at hr21_1
      try simp (disch := first | ((try simp (disch := first | ((try simp only [pn]) <;> omega) | fail) only [pn, pq]) <;> omega) | fail) only [pn, pq] at hr21_2
      refine sf_X9_bitsBelow hJSq7.1 (fun r23 hr23_0 hr23_1 => ?_)
      have rgr23 := pt_rg r23
      try simp (disch := first | ((try simp (disch := first | ((try simp only [pn]) <;> omega) | fail) only [pn, pq]) <;> omega) | fail) only [pn, pq] at hr23_0
      try simp (disch := first | ((try simp (disch := first | ((try simp only [pn]) <;> omega) | fail) only [pn, pq]) <;> omega) | fail) only [pn, pq] at hr23_1
      refine ⟨fun c25 => ?_, fun c25 => ?_⟩
      · try simp (disch := first | ((try simp (disch := first | ((try simp only [pn]) <;> omega) | fail) only [pn, pq]) <;> omega) | fail) only [pn, pq] at c25
        unfold wp_X9_least_60
        refine ⟨_, ?_, ?_, ?_, ?_, ?_, rfl⟩
        · (try simp (disch := first | ((try simp (disch := first | ((try simp only [pn]) <;> omega) | fail) only [pn, pq]) <;> omega) | fail) only [pn, pq]) <;> (intros; (try simp (disch := first | ((try simp (disch := first | ((try simp only [pn]) <;> omega) | fail) only [pn, pq]) <;> omega) | fail) only [pn, pq]) <;> omega)
        · exact hJSq7
        · exact hFSq7
        · first | rfl | assumption
        · (try simp (disch := first | ((try simp (disch := first | ((try simp only [pn]) <;> omega) | fail) only [pn, pq]) <;> omega) | fail) only [pn, pq]) <;> (intros; (try simp (disch := first | ((try simp (disch := first | ((try simp only [pn]) <;> omega) | fail) only [pn, pq]) <;> omega) | fail) only [pn, pq]) <;> omega)
      · try simp (disch := first | ((try simp (disch := first | ((try simp only [pn]) <;> omega) | fail) only [pn, pq]) <;> omega) | fail) only [pn, pq] at c25
        unfold wp_X9_least_60
        refine ⟨_, ?_, ?_, ?_, ?_, ?_, rfl⟩
        · (try simp (disch := first | ((try simp (disch := first | ((try simp only [pn]) <;> omega) | fail) only [pn, pq]) <;> omega) | fail) only [pn, pq]) <;> (intros; (try simp (disch := first | ((try simp (disch := first | ((try simp only [pn]) <;> omega) | fail) only [pn, pq]) <;> omega) | fail) only [pn, pq]) <;> omega)
        · exact hJSq7
        · exact hFSq7
        · first | rfl | assumption
        · (try simp (disch := first | ((try simp (disch := first | ((try simp only [pn]) <;> omega) | fail) only [pn, pq]) <;> omega) | fail) only [pn, pq]) <;> (intros; (try simp (disch := first | ((try simp (disch := first | ((try simp only [pn]) <;> omega) | fail) only [pn, pq]) <;> omega) | fail) only [pn, pq]) <;> omega)
  · try simp (disch := first | ((try simp (disch := first | ((try simp only [pn]) <;> omega) | fail) only [pn, pq]) <;> omega) | fail) only [pn, pq] at c6
    exact hq _ _ hJu3 hFu3 
theorem sf_X9_least {S : bT9} (hJ : J9 S) {a1 : Int32} {Q : Int32 → (bT9) → Prop} (hq : ∀ (r : Int32) (u : bT9), (J9 u) → F_X9_least S u → (TWW S u) → (T9P S → TDW S → ∃ k lv : Nat, UPD S k lv ∧ LSV (n9 S) (C9 S) (P9 S) (TLB (b9g_now S 9) (HBT (b9g_now S)) (NBT (b9g_now S))) lv a1 r) → Q r u) : wp_X9_least S a1 Q := by
  by_cases hyp : T9P S ∧ TDW S
  case neg => exact sj_X9_least hJ (fun r u h1 h2 => hq r u h1 h2 (fun a b => absurd ⟨a, b⟩ hyp) (fun a b => absurd ⟨a, b⟩ hyp))
  case pos =>
    obtain ⟨hP, hW⟩ := hyp
    unfold wp_X9_least
    intro S1 e1
    have hJ1 : J9 S1 := by rw [e1]; exact J9s_told hJ
    have hF1 : F_X9_least S S1 := by rw [e1]; exact ⟨rfl, rfl, rfl, rfl, rfl, rfl, rfl, rfl, rfl, rfl, rfl, rfl, rfl, rfl, rfl, rfl, rfl, rfl, rfl, rfl, rfl, rfl, rfl, rfl, rfl, rfl⟩
    refine sf_X9_laysNodes hJ1 (fun u3 hJ3 hf3 w3 => ?_)
    have hF3 : F_X9_least S u3 := ⟨(hf3.2.1).trans (hF1.1), (hf3.2.2.1).trans (hF1.2.1), (hf3.2.2.2.1).trans (hF1.2.2.1), (hf3.2.2.2.2.1).trans (hF1.2.2.2.1), (hf3.2.2.2.2.2.1).trans (hF1.2.2.2.2.1), (hf3.2.2.2.2.2.2.1).trans (hF1.2.2.2.2.2.1), (hf3.2.2.2.2.2.2.2.1).trans (hF1.2.2.2.2.2.2.1), (hf3.2.2.2.2.2.2.2.2.1).trans (hF1.2.2.2.2.2.2.2.1), (hf3.2.2.2.2.2.2.2.2.2.1).trans (hF1.2.2.2.2.2.2.2.2.1), (hf3.2.2.2.2.2.2.2.2.2.2.1).trans (hF1.2.2.2.2.2.2.2.2.2.1), (hf3.2.2.2.2.2.2.2.2.2.2.2.1).trans (hF1.2.2.2.2.2.2.2.2.2.2.1), (hf3.2.2.2.2.2.2.2.2.2.2.2.2.1).trans (hF1.2.2.2.2.2.2.2.2.2.2.2.1), (hf3.2.2.2.2.2.2.2.2.2.2.2.2.2.1).trans (hF1.2.2.2.2.2.2.2.2.2.2.2.2.1), (hf3.2.2.2.2.2.2.2.2.2.2.2.2.2.2.1).trans (hF1.2.2.2.2.2.2.2.2.2.2.2.2.2.1), (hf3.2.2.2.2.2.2.2.2.2.2.2.2.2.2.2.1).trans (hF1.2.2.2.2.2.2.2.2.2.2.2.2.2.2.1), (hf3.2.2.2.2.2.2.2.2.2.2.2.2.2.2.2.2.1).trans (hF1.2.2.2.2.2.2.2.2.2.2.2.2.2.2.2.1), (hf3.2.2.2.2.2.2.2.2.2.2.2.2.2.2.2.2.2.1).trans (hF1.2.2.2.2.2.2.2.2.2.2.2.2.2.2.2.2.1), (hf3.2.2.2.2.2.2.2.2.2.2.2.2.2.2.2.2.2.2.1).trans (hF1.2.2.2.2.2.2.2.2.2.2.2.2.2.2.2.2.2.1), (hf3.2.2.2.2.2.2.2.2.2.2.2.2.2.2.2.2.2.2.2.1).trans (hF1.2.2.2.2.2.2.2.2.2.2.2.2.2.2.2.2.2.2.1), (hf3.2.2.2.2.2.2.2.2.2.2.2.2.2.2.2.2.2.2.2.2.1).trans (hF1.2.2.2.2.2.2.2.2.2.2.2.2.2.2.2.2.2.2.2.1), (hf3.2.2.2.2.2.2.2.2.2.2.2.2.2.2.2.2.2.2.2.2.2.1).trans (hF1.2.2.2.2.2.2.2.2.2.2.2.2.2.2.2.2.2.2.2.2.1), (hf3.2.2.2.2.2.2.2.2.2.2.2.2.2.2.2.2.2.2.2.2.2.2.1).trans (hF1.2.2.2.2.2.2.2.2.2.2.2.2.2.2.2.2.2.2.2.2.2.1), (hf3.2.2.2.2.2.2.2.2.2.2.2.2.2.2.2.2.2.2.2.2.2.2.2.1).trans (hF1.2.2.2.2.2.2.2.2.2.2.2.2.2.2.2.2.2.2.2.2.2.2.1), (hf3.2.2.2.2.2.2.2.2.2.2.2.2.2.2.2.2.2.2.2.2.2.2.2.2.1).trans (hF1.2.2.2.2.2.2.2.2.2.2.2.2.2.2.2.2.2.2.2.2.2.2.2.1), (hf3.2.2.2.2.2.2.2.2.2.2.2.2.2.2.2.2.2.2.2.2.2.2.2.2.2.1).trans (hF1.2.2.2.2.2.2.2.2.2.2.2.2.2.2.2.2.2.2.2.2.2.2.2.2.1), (hf3.2.2.2.2.2.2.2.2.2.2.2.2.2.2.2.2.2.2.2.2.2.2.2.2.2.2).trans (hF1.2.2.2.2.2.2.2.2.2.2.2.2.2.2.2.2.2.2.2.2.2.2.2.2.2)⟩
    have n3 : b9g_now u3 = b9g_now S := hF3.1
    have sm : SM9 u3 S := ⟨hF3.2.1, hF3.2.2.1, n3⟩
    have w3' := w3 (by rw [e1]; exact hP) (by rw [e1]; exact hW)
    obtain ⟨R, nV, k, lv, t1, t2, t3, t4, t5, t6, t7, t8, t9, t10⟩ := TD_use hJ3 hP sm w3'
    obtain ⟨q1, q2, q3, q4⟩ := SM9_n sm
    have tw : TWW S u3 := fun _ _ => ⟨w3'.1, w3'.2.1⟩
    have up : UPD S k lv := by
      unfold UPD
      rw [q1, q2, q4] at t3 t6
      rw [n3] at t6
      exact ⟨t3, t2, t5, t6⟩
    have G := R.1
    have hm := nV.1
    rw [q1, q2, q3, q4] at G
    rw [q1, q2, q4] at hm t7 t8
    rw [q1, q2, q3, q4, sm.1] at t9
    rw [q1, q2] at t10
    have e5 := EB_le G (w := 512) (by omega)
    have ek := EB_le G (w := 64 * k) (by omega)
    have L9e : ∀ {r1 r3 : Int32} {u : Nat}, u ≤ 8 → r1.toInt = BTN (n9 u3) (C9 u3) (P9 u3) u → r3.toInt = BTE (n9 u3) (C9 u3) (P9 u3) u → (r1 + r3).toInt = BTS (n9 S) (C9 S) (P9 S) u := by
      intro r1 r3 u hu a b
      rw [q1, q2, q4] at a b
      have n5 := NB_le G (l := 7) (i := 64) (by omega) (by omega)
      have nb5 : NB (n9 S) (C9 S) (P9 S) (64 * 7 + 64) = NB (n9 S) (C9 S) (P9 S) 512 := rfl
      have nm := NB_mono (n := n9 S) (C := C9 S) (P := P9 S) (show 64 * u ≤ 512 by omega)
      have nn := NB_nn (n := n9 S) (C := C9 S) (P := P9 S) (64 * u)
      have eu := EB_le G (w := 64 * u) (by omega)
      unfold BTS
      unfold BTN at a ⊢
      unfold BTE at b ⊢
      rw [pt_add (by omega) (by omega), a, b]
    have fin : ∀ (r : Int32) (u : Nat), LSU (n9 S) (C9 S) (P9 S) lv u → (a1.toInt = 0 → r.toInt = (u : Int)) → (a1.toInt = 1 → ∃ x : Int32, x.toInt = BTS (n9 S) (C9 S) (P9 S) u ∧ r = x + TLB (b9g_now S 9) (HBT (b9g_now S)) (NBT (b9g_now S))) → (¬ (0 ≤ a1.toInt ∧ a1.toInt ≤ 1) → r.toInt = -1) → Q r u3 := fun r u b0 b1 b2 b3 => hq r u3 hJ3 hF3 tw (fun _ _ => ⟨k, lv, up, u, b0, b1, b2, b3⟩)
    have ext : ∃ u : Nat, LSU (n9 S) (C9 S) (P9 S) lv u := LSU_ex _
    refine sf_X9_isIn hJ3.1 (fun r4 _ h4 => ⟨fun c => ?_, fun c => ?_⟩)
    · have c0 : ¬ r4.toInt = 0 := fun z => c (Int32.toInt_inj.mp z)
      rw [pl_0, pl_1] at h4
      unfold wp_X9_least_25
      refine ⟨fun q x1 x2 x3 V => ∃ u i : Nat, u3 = V ∧ a1 = x1 ∧ x2.toInt = (u : Int) ∧ x3.toInt = (i : Int) ∧ 1 ≤ i ∧ i ≤ lv + 1 ∧ u < i ∧ (∀ j, j < u → BTS (n9 S) (C9 S) (P9 S) u < BTS (n9 S) (C9 S) (P9 S) j) ∧ (∀ j, j < i → BTS (n9 S) (C9 S) (P9 S) u ≤ BTS (n9 S) (C9 S) (P9 S) j) ∧ q = 10 - i, ⟨_, 0, 1, rfl, rfl, rfl, rfl, by omega, by omega, by omega, fun j hj => by omega, fun j hj => by rw [show j = 0 by omega]; exact Int.le_refl _, rfl⟩, ?_⟩
      rintro q x1 x2 x3 V ⟨u, i, rfl, rfl, e2, e3, i1, i2, hui, hmin, hall, hq'⟩
      suffices H : ∀ B : Int32 → Int32 → Int32 → bT9 → Prop, (∀ (v : Int32) (u' : Nat), v.toInt = (u' : Int) → u' < i + 1 → (∀ j, j < u' → BTS (n9 S) (C9 S) (P9 S) u' < BTS (n9 S) (C9 S) (P9 S) j) → (∀ j, j < i + 1 → BTS (n9 S) (C9 S) (P9 S) u' ≤ BTS (n9 S) (C9 S) (P9 S) j) → i ≤ lv → B a1 v (x3 + 1) u3) → wp_X9_least_25b u3 a1 x2 x3 Q B from H _ (fun v u' t1 t2 t3 t4 t5 => ⟨10 - (i + 1), by omega, u', i + 1, rfl, rfl, t1, by rw [pt_add (by rw [pl_1]; omega) (by rw [pl_1]; omega), pl_1, e3]; omega, by omega, by omega, t2, t3, t4, rfl⟩)
      intro B hB
      have nz : ∀ {m : Int32}, ¬ a1 = m → ¬ a1.toInt = m.toInt := fun h z => h (Int32.toInt_inj.mp z)
      unfold wp_X9_least_25b
      refine ⟨fun c => ?_, fun c => ?_⟩
      · simp only [pn] at c
        have L : LSU (n9 S) (C9 S) (P9 S) lv u := ⟨by omega, hmin, fun j hj => hall j (by omega)⟩
        refine ⟨fun c0 => ?_, fun c0 => fin x2 u L (fun _ => e2) (fun z => ?_) (fun z => absurd ?_ z)⟩
        · refine fx9_bitsAbove R nV e2 (by omega) (fun r1 h1 => fx9_bitsBelow R nV e2 (by omega) (fun r3 h3 => fx9_tailBits ?_))
          rw [n3]
          exact fin _ u L (fun z => absurd z (nz c0)) (fun _ => ⟨r1 + r3, L9e (by omega) h1 h3, rfl⟩) (fun z => by omega)
        · rw [c0] at z
          exact absurd z (by decide)
        · rw [c0]
          decide
      · simp only [pn] at c
        refine fx9_bitsAbove R nV e3 (by omega) (fun r7 h7 => fx9_bitsBelow R nV e3 (by omega) (fun r9 h9 => fx9_bitsAbove R nV e2 (by omega) (fun r11 h11 => fx9_bitsBelow R nV e2 (by omega) (fun r13 h13 => ?_))))
        have h5' := L9e (by omega) h7 h9
        have h7' := L9e (by omega) h11 h13
        unfold wp_X9_least_60
        refine ⟨fun d => hB x2 u e2 (by omega) hmin (fun j hj => ?_) (by omega), fun d => hB x3 i e3 (by omega) (fun j hj => ?_) (fun j hj => ?_) (by omega)⟩
        · simp only [pn] at d
          by_cases z : j = i
          · rw [z]; omega
          · exact hall j (by omega)
        · simp only [pn] at d
          have := hall j hj
          omega
        · simp only [pn] at d
          by_cases z : j = i
          · rw [z]; exact Int.le_refl _
          · have := hall j (by omega)
            omega
    · have c0 : r4.toInt = 0 := by rw [c]; rfl
      rw [pl_0, pl_1] at h4
      obtain ⟨u, hu⟩ := ext
      exact fin _ u hu (fun z => by omega) (fun z => by omega) (fun _ => rfl)
set_option maxRecDepth 20000 in
set_option maxHeartbeats 8000000 in
theorem sf_X9_powerOf {S : bT9} (hJ : K9 S) {a1 : Int32} {Q : Int64 → Prop} (hq : ∀ r : Int64, Q r) : wp_X9_powerOf S a1 Q := by
  unfold wp_X9_powerOf
  have jf1 : (-4 ≤ ((b9g_now S) 1).toInt ∧ ((b9g_now S) 1).toInt ≤ 4) ∧ (-3 ≤ ((b9g_now S) 4).toInt ∧ ((b9g_now S) 4).toInt ≤ 252) ∧ (0 ≤ ((b9g_now S) 8).toInt ∧ ((b9g_now S) 8).toInt ≤ 64) ∧ (0 ≤ ((b9g_now S) 9).toInt ∧ ((b9g_now S) 9).toInt ≤ 64) ∧ (0 ≤ ((b9g_now S) 10).toInt ∧ ((b9g_now S) 10).toInt ≤ 16) ∧ (0 ≤ ((b9g_now S) 12).toInt ∧ ((b9g_now S) 12).toInt ≤ 8) := K9g_now hJ
  have rga1 := pt_rg a1
  exact hq _ 
set_option maxRecDepth 20000 in
set_option maxHeartbeats 8000000 in
theorem sf_X9_lessKeys {S : bT9} (hJ : K9 S) {a1 : Int64} {a3 : Int32} {a4 : Int32} {Q : Int64 → Prop} (hq : ∀ r : Int64, Q r) : wp_X9_lessKeys S a1 a3 a4 Q := by
  unfold wp_X9_lessKeys
  have jf1 : (-4 ≤ ((b9g_now S) 1).toInt ∧ ((b9g_now S) 1).toInt ≤ 4) ∧ (-3 ≤ ((b9g_now S) 4).toInt ∧ ((b9g_now S) 4).toInt ≤ 252) ∧ (0 ≤ ((b9g_now S) 8).toInt ∧ ((b9g_now S) 8).toInt ≤ 64) ∧ (0 ≤ ((b9g_now S) 9).toInt ∧ ((b9g_now S) 9).toInt ≤ 64) ∧ (0 ≤ ((b9g_now S) 10).toInt ∧ ((b9g_now S) 10).toInt ≤ 16) ∧ (0 ≤ ((b9g_now S) 12).toInt ∧ ((b9g_now S) 12).toInt ≤ 8) := K9g_now hJ
  have rga3 := pt_rg a3
  have rga4 := pt_rg a4
  refine ⟨fun c1 => ?_, fun c1 => ?_⟩
  · try simp (disch := first | ((try simp (disch := first | ((try simp only [pn]) <;> omega) | fail) only [pn, pq]) <;> omega) | fail) only [pn, pq] at c1
    unfold wp_X9_lessKeys_21
    refine ⟨fun c2 => ?_, fun c2 => ?_⟩
    · try simp (disch := first | ((try simp (disch := first | ((try simp only [pn]) <;> omega) | fail) only [pn, pq]) <;> omega) | fail) only [pn, pq] at c2
      exact hq _ 
    · try simp (disch := first | ((try simp (disch := first | ((try simp only [pn]) <;> omega) | fail) only [pn, pq]) <;> omega) | fail) only [pn, pq] at c2
      exact hq _ 
  · try simp (disch := first | ((try simp (disch := first | ((try simp only [pn]) <;> omega) | fail) only [pn, pq]) <;> omega) | fail) only [pn, pq] at c1
    unfold wp_X9_lessKeys_21
    refine ⟨fun c3 => ?_, fun c3 => ?_⟩
    · try simp (disch := first | ((try simp (disch := first | ((try simp only [pn]) <;> omega) | fail) only [pn, pq]) <;> omega) | fail) only [pn, pq] at c3
      exact hq _ 
    · try simp (disch := first | ((try simp (disch := first | ((try simp only [pn]) <;> omega) | fail) only [pn, pq]) <;> omega) | fail) only [pn, pq] at c3
      exact hq _ 
set_option maxRecDepth 20000 in
set_option maxHeartbeats 8000000 in
theorem sf_X9_notMoreKeys {S : bT9} (hJ : K9 S) {a1 : Int64} {a3 : Int32} {a4 : Int32} {Q : Int64 → Prop} (hq : ∀ r : Int64, Q r) : wp_X9_notMoreKeys S a1 a3 a4 Q := by
  unfold wp_X9_notMoreKeys
  have jf1 : (-4 ≤ ((b9g_now S) 1).toInt ∧ ((b9g_now S) 1).toInt ≤ 4) ∧ (-3 ≤ ((b9g_now S) 4).toInt ∧ ((b9g_now S) 4).toInt ≤ 252) ∧ (0 ≤ ((b9g_now S) 8).toInt ∧ ((b9g_now S) 8).toInt ≤ 64) ∧ (0 ≤ ((b9g_now S) 9).toInt ∧ ((b9g_now S) 9).toInt ≤ 64) ∧ (0 ≤ ((b9g_now S) 10).toInt ∧ ((b9g_now S) 10).toInt ≤ 16) ∧ (0 ≤ ((b9g_now S) 12).toInt ∧ ((b9g_now S) 12).toInt ≤ 8) := K9g_now hJ
  have rga3 := pt_rg a3
  have rga4 := pt_rg a4
  refine sf_X9_lessKeys hJ (fun r1  => ?_)
  refine ⟨fun c3 => ?_, fun c3 => ?_⟩
  · try simp (disch := first | ((try simp (disch := first | ((try simp only [pn]) <;> omega) | fail) only [pn, pq]) <;> omega) | fail) only [pn, pq] at c3
    exact hq _ 
  · try simp (disch := first | ((try simp (disch := first | ((try simp only [pn]) <;> omega) | fail) only [pn, pq]) <;> omega) | fail) only [pn, pq] at c3
    exact hq _ 
def F_X9_coverOf (S u : bT9) : Prop := (b9g_told u) = (b9g_told S) ∧ (b9g_now u) = (b9g_now S) ∧ (b9g_keys u) = (b9g_keys S) ∧ (b9g_lengths u) = (b9g_lengths S) ∧ (b9g_drawn u) = (b9g_drawn S) ∧ (b9g_drawnLength u) = (b9g_drawnLength S) ∧ (b9g_tape u) = (b9g_tape S) ∧ (b9g_taped u) = (b9g_taped S) ∧ (b9g_names u) = (b9g_names S) ∧ (b9g_chosen u) = (b9g_chosen S) ∧ (b9g_nodeLevel u) = (b9g_nodeLevel S) ∧ (b9g_nodeLeaf u) = (b9g_nodeLeaf S) ∧ (b9g_nodeLeaves u) = (b9g_nodeLeaves S) ∧ (b9g_nodeMany u) = (b9g_nodeMany S) ∧ (b9g_levelMany u) = (b9g_levelMany S) ∧ (b9g_upper u) = (b9g_upper S) ∧ (b9g_upperNodes u) = (b9g_upperNodes S) ∧ (b9g_areNodesLaid u) = (b9g_areNodesLaid S) ∧ (b9g_itemNode u) = (b9g_itemNode S) ∧ (b9g_itemByte u) = (b9g_itemByte S) ∧ (b9g_itemChild u) = (b9g_itemChild S) ∧ (b9g_itemMany u) = (b9g_itemMany S) ∧ (b9g_placeOf u) = (b9g_placeOf S) ∧ (b9g_leafOfPlace u) = (b9g_leafOfPlace S) ∧ (b9g_places u) = (b9g_places S) ∧ (b9g_fromKey u) = (b9g_fromKey S) ∧ (b9g_toKey u) = (b9g_toKey S) ∧ (b9g_fromLength u) = (b9g_fromLength S) ∧ (b9g_toLength u) = (b9g_toLength S) ∧ (b9g_ones u) = (b9g_ones S) ∧ (b9g_oneMany u) = (b9g_oneMany S) ∧ (b9g_rowLong u) = (b9g_rowLong S) ∧ (b9g_laidFor u) = (b9g_laidFor S) ∧ (b9g_signs u) = (b9g_signs S) ∧ (b9g_signMany u) = (b9g_signMany S) ∧ (b9g_hasImage u) = (b9g_hasImage S) ∧ (b9g_images u) = (b9g_images S) ∧ (b9g_keyImages u) = (b9g_keyImages S) ∧ (b9g_lengthImages u) = (b9g_lengthImages S)
theorem sf_X9_coverOf {S : bT9} (hJ : J9 S) {a1 : Int32} {Q : Int64 → (bT9) → Prop} (hq : ∀ (r : Int64) (u : bT9), (J9 u) → F_X9_coverOf S u → ((SR9 S ∧ a1.toInt ≤ 7) → r = COV (fun j => b9g_keys S (64 + j)) (fun j => b9g_lengths S (64 + j)) (b9g_now S 9).toInt (NBT (b9g_now S)) a1 (b9g_now S 9).toInt.toNat) → Q r u) : wp_X9_coverOf S a1 Q := by
  have n9 := (J9g_now hJ).2.2.2.1
  unfold wp_X9_coverOf wp_X9_coverOf_5
  refine ⟨fun n x1 x2 x4 V => x1 = a1 ∧ 0 ≤ x4.toInt ∧ x4.toInt ≤ (b9g_now S 9).toInt ∧ J9 V ∧ F_X9_coverOf S V ∧ ((SR9 S ∧ a1.toInt ≤ 7) → x2 = (COV (fun j => b9g_keys S (64 + j)) (fun j => b9g_lengths S (64 + j)) (b9g_now S 9).toInt (NBT (b9g_now S)) a1 x4.toInt.toNat)) ∧ n = (64 - x4.toInt).toNat, ⟨_, rfl, by decide, by rw [pl_0]; exact n9.1, hJ, ⟨rfl, rfl, rfl, rfl, rfl, rfl, rfl, rfl, rfl, rfl, rfl, rfl, rfl, rfl, rfl, rfl, rfl, rfl, rfl, rfl, rfl, rfl, rfl, rfl, rfl, rfl, rfl, rfl, rfl, rfl, rfl, rfl, rfl, rfl, rfl, rfl, rfl, rfl, rfl⟩, fun _ => rfl, rfl⟩, ?_⟩
  rintro n x1 x2 x4 V ⟨e1, h0, h64, hJV, hFV, hI, hn⟩
  unfold wp_X9_coverOf_5b
  rw [e1]
  refine sf_X9_leaves hJV (fun r1 u2 hJ2 hf2 h1 hil => ?_)
  have hF2 : F_X9_coverOf S u2 := ⟨(hf2.1).trans (hFV.1), (hf2.2.1).trans (hFV.2.1), (hf2.2.2.1).trans (hFV.2.2.1), (hf2.2.2.2.1).trans (hFV.2.2.2.1), (hf2.2.2.2.2.1).trans (hFV.2.2.2.2.1), (hf2.2.2.2.2.2.1).trans (hFV.2.2.2.2.2.1), (hf2.2.2.2.2.2.2.1).trans (hFV.2.2.2.2.2.2.1), (hf2.2.2.2.2.2.2.2.1).trans (hFV.2.2.2.2.2.2.2.1), (hf2.2.2.2.2.2.2.2.2.1).trans (hFV.2.2.2.2.2.2.2.2.1), (hf2.2.2.2.2.2.2.2.2.2.1).trans (hFV.2.2.2.2.2.2.2.2.2.1), (hf2.2.2.2.2.2.2.2.2.2.2.1).trans (hFV.2.2.2.2.2.2.2.2.2.2.1), (hf2.2.2.2.2.2.2.2.2.2.2.2.1).trans (hFV.2.2.2.2.2.2.2.2.2.2.2.1), (hf2.2.2.2.2.2.2.2.2.2.2.2.2.1).trans (hFV.2.2.2.2.2.2.2.2.2.2.2.2.1), (hf2.2.2.2.2.2.2.2.2.2.2.2.2.2.1).trans (hFV.2.2.2.2.2.2.2.2.2.2.2.2.2.1), (hf2.2.2.2.2.2.2.2.2.2.2.2.2.2.2.1).trans (hFV.2.2.2.2.2.2.2.2.2.2.2.2.2.2.1), (hf2.2.2.2.2.2.2.2.2.2.2.2.2.2.2.2.1).trans (hFV.2.2.2.2.2.2.2.2.2.2.2.2.2.2.2.1), (hf2.2.2.2.2.2.2.2.2.2.2.2.2.2.2.2.2.1).trans (hFV.2.2.2.2.2.2.2.2.2.2.2.2.2.2.2.2.1), (hf2.2.2.2.2.2.2.2.2.2.2.2.2.2.2.2.2.2.1).trans (hFV.2.2.2.2.2.2.2.2.2.2.2.2.2.2.2.2.2.1), (hf2.2.2.2.2.2.2.2.2.2.2.2.2.2.2.2.2.2.2.1).trans (hFV.2.2.2.2.2.2.2.2.2.2.2.2.2.2.2.2.2.2.1), (hf2.2.2.2.2.2.2.2.2.2.2.2.2.2.2.2.2.2.2.2.1).trans (hFV.2.2.2.2.2.2.2.2.2.2.2.2.2.2.2.2.2.2.2.1), (hf2.2.2.2.2.2.2.2.2.2.2.2.2.2.2.2.2.2.2.2.2.1).trans (hFV.2.2.2.2.2.2.2.2.2.2.2.2.2.2.2.2.2.2.2.2.1), (hf2.2.2.2.2.2.2.2.2.2.2.2.2.2.2.2.2.2.2.2.2.2.1).trans (hFV.2.2.2.2.2.2.2.2.2.2.2.2.2.2.2.2.2.2.2.2.2.1), (hf2.2.2.2.2.2.2.2.2.2.2.2.2.2.2.2.2.2.2.2.2.2.2.1).trans (hFV.2.2.2.2.2.2.2.2.2.2.2.2.2.2.2.2.2.2.2.2.2.2.1), (hf2.2.2.2.2.2.2.2.2.2.2.2.2.2.2.2.2.2.2.2.2.2.2.2.1).trans (hFV.2.2.2.2.2.2.2.2.2.2.2.2.2.2.2.2.2.2.2.2.2.2.2.1), (hf2.2.2.2.2.2.2.2.2.2.2.2.2.2.2.2.2.2.2.2.2.2.2.2.2.1).trans (hFV.2.2.2.2.2.2.2.2.2.2.2.2.2.2.2.2.2.2.2.2.2.2.2.2.1), (hf2.2.2.2.2.2.2.2.2.2.2.2.2.2.2.2.2.2.2.2.2.2.2.2.2.2.2.2.2.2.1).trans (hFV.2.2.2.2.2.2.2.2.2.2.2.2.2.2.2.2.2.2.2.2.2.2.2.2.2.1), (hf2.2.2.2.2.2.2.2.2.2.2.2.2.2.2.2.2.2.2.2.2.2.2.2.2.2.2.2.2.2.2.1).trans (hFV.2.2.2.2.2.2.2.2.2.2.2.2.2.2.2.2.2.2.2.2.2.2.2.2.2.2.1), (hf2.2.2.2.2.2.2.2.2.2.2.2.2.2.2.2.2.2.2.2.2.2.2.2.2.2.2.2.2.2.2.2.1).trans (hFV.2.2.2.2.2.2.2.2.2.2.2.2.2.2.2.2.2.2.2.2.2.2.2.2.2.2.2.1), (hf2.2.2.2.2.2.2.2.2.2.2.2.2.2.2.2.2.2.2.2.2.2.2.2.2.2.2.2.2.2.2.2.2.1).trans (hFV.2.2.2.2.2.2.2.2.2.2.2.2.2.2.2.2.2.2.2.2.2.2.2.2.2.2.2.2.1), (hf2.2.2.2.2.2.2.2.2.2.2.2.2.2.2.2.2.2.2.2.2.2.2.2.2.2.2.2.2.2.2.2.2.2.1).trans (hFV.2.2.2.2.2.2.2.2.2.2.2.2.2.2.2.2.2.2.2.2.2.2.2.2.2.2.2.2.2.1), (hf2.2.2.2.2.2.2.2.2.2.2.2.2.2.2.2.2.2.2.2.2.2.2.2.2.2.2.2.2.2.2.2.2.2.2.1).trans (hFV.2.2.2.2.2.2.2.2.2.2.2.2.2.2.2.2.2.2.2.2.2.2.2.2.2.2.2.2.2.2.1), (hf2.2.2.2.2.2.2.2.2.2.2.2.2.2.2.2.2.2.2.2.2.2.2.2.2.2.2.2.2.2.2.2.2.2.2.2.1).trans (hFV.2.2.2.2.2.2.2.2.2.2.2.2.2.2.2.2.2.2.2.2.2.2.2.2.2.2.2.2.2.2.2.1), (hf2.2.2.2.2.2.2.2.2.2.2.2.2.2.2.2.2.2.2.2.2.2.2.2.2.2.2.2.2.2.2.2.2.2.2.2.2.1).trans (hFV.2.2.2.2.2.2.2.2.2.2.2.2.2.2.2.2.2.2.2.2.2.2.2.2.2.2.2.2.2.2.2.2.1), (hf2.2.2.2.2.2.2.2.2.2.2.2.2.2.2.2.2.2.2.2.2.2.2.2.2.2.2.2.2.2.2.2.2.2.2.2.2.2.1).trans (hFV.2.2.2.2.2.2.2.2.2.2.2.2.2.2.2.2.2.2.2.2.2.2.2.2.2.2.2.2.2.2.2.2.2.1), (hf2.2.2.2.2.2.2.2.2.2.2.2.2.2.2.2.2.2.2.2.2.2.2.2.2.2.2.2.2.2.2.2.2.2.2.2.2.2.2.1).trans (hFV.2.2.2.2.2.2.2.2.2.2.2.2.2.2.2.2.2.2.2.2.2.2.2.2.2.2.2.2.2.2.2.2.2.2.1), (hf2.2.2.2.2.2.2.2.2.2.2.2.2.2.2.2.2.2.2.2.2.2.2.2.2.2.2.2.2.2.2.2.2.2.2.2.2.2.2.2.1).trans (hFV.2.2.2.2.2.2.2.2.2.2.2.2.2.2.2.2.2.2.2.2.2.2.2.2.2.2.2.2.2.2.2.2.2.2.2.1), (hf2.2.2.2.2.2.2.2.2.2.2.2.2.2.2.2.2.2.2.2.2.2.2.2.2.2.2.2.2.2.2.2.2.2.2.2.2.2.2.2.2.1).trans (hFV.2.2.2.2.2.2.2.2.2.2.2.2.2.2.2.2.2.2.2.2.2.2.2.2.2.2.2.2.2.2.2.2.2.2.2.2.1), (hf2.2.2.2.2.2.2.2.2.2.2.2.2.2.2.2.2.2.2.2.2.2.2.2.2.2.2.2.2.2.2.2.2.2.2.2.2.2.2.2.2.2.1).trans (hFV.2.2.2.2.2.2.2.2.2.2.2.2.2.2.2.2.2.2.2.2.2.2.2.2.2.2.2.2.2.2.2.2.2.2.2.2.2.1), (hf2.2.2.2.2.2.2.2.2.2.2.2.2.2.2.2.2.2.2.2.2.2.2.2.2.2.2.2.2.2.2.2.2.2.2.2.2.2.2.2.2.2.2).trans (hFV.2.2.2.2.2.2.2.2.2.2.2.2.2.2.2.2.2.2.2.2.2.2.2.2.2.2.2.2.2.2.2.2.2.2.2.2.2.2)⟩
  have nV : b9g_now u2 = b9g_now S := hF2.2.1
  have kV : b9g_keys u2 = b9g_keys S := hF2.2.2.1
  have lV : b9g_lengths u2 = b9g_lengths S := hF2.2.2.2.1
  rw [nV] at h1
  refine ⟨fun c => hq _ _ hJ2 hF2 (fun o => ?_), fun c => ?_⟩
  · simp only [pn] at c
    rw [hI o, show x4.toInt.toNat = (b9g_now S 9).toInt.toNat by omega]
  simp only [pn] at c
  refine sf_X9_nextBits hJ2.1 (fun r3 p0 p8 h3 => sf_X9_bounds hJ2 h0 (by omega) (fun u6 hJ6 hf6 hB => ?_))
  have hF6 : F_X9_coverOf S u6 := ⟨(hf6.1).trans (hF2.1), (hf6.2.1).trans (hF2.2.1), (hf6.2.2.1).trans (hF2.2.2.1), (hf6.2.2.2.1).trans (hF2.2.2.2.1), (hf6.2.2.2.2.1).trans (hF2.2.2.2.2.1), (hf6.2.2.2.2.2.1).trans (hF2.2.2.2.2.2.1), (hf6.2.2.2.2.2.2.1).trans (hF2.2.2.2.2.2.2.1), (hf6.2.2.2.2.2.2.2.1).trans (hF2.2.2.2.2.2.2.2.1), (hf6.2.2.2.2.2.2.2.2.1).trans (hF2.2.2.2.2.2.2.2.2.1), (hf6.2.2.2.2.2.2.2.2.2.1).trans (hF2.2.2.2.2.2.2.2.2.2.1), (hf6.2.2.2.2.2.2.2.2.2.2.2.2.2.1).trans (hF2.2.2.2.2.2.2.2.2.2.2.1), (hf6.2.2.2.2.2.2.2.2.2.2.2.2.2.2.1).trans (hF2.2.2.2.2.2.2.2.2.2.2.2.1), (hf6.2.2.2.2.2.2.2.2.2.2.2.2.2.2.2.1).trans (hF2.2.2.2.2.2.2.2.2.2.2.2.2.1), (hf6.2.2.2.2.2.2.2.2.2.2.2.2.2.2.2.2.1).trans (hF2.2.2.2.2.2.2.2.2.2.2.2.2.2.1), (hf6.2.2.2.2.2.2.2.2.2.2.2.2.2.2.2.2.2.1).trans (hF2.2.2.2.2.2.2.2.2.2.2.2.2.2.2.1), (hf6.2.2.2.2.2.2.2.2.2.2.2.2.2.2.2.2.2.2.1).trans (hF2.2.2.2.2.2.2.2.2.2.2.2.2.2.2.2.1), (hf6.2.2.2.2.2.2.2.2.2.2.2.2.2.2.2.2.2.2.2.1).trans (hF2.2.2.2.2.2.2.2.2.2.2.2.2.2.2.2.2.1), (hf6.2.2.2.2.2.2.2.2.2.2.2.2.2.2.2.2.2.2.2.2.1).trans (hF2.2.2.2.2.2.2.2.2.2.2.2.2.2.2.2.2.2.1), (hf6.2.2.2.2.2.2.2.2.2.2.2.2.2.2.2.2.2.2.2.2.2.1).trans (hF2.2.2.2.2.2.2.2.2.2.2.2.2.2.2.2.2.2.2.1), (hf6.2.2.2.2.2.2.2.2.2.2.2.2.2.2.2.2.2.2.2.2.2.2.1).trans (hF2.2.2.2.2.2.2.2.2.2.2.2.2.2.2.2.2.2.2.2.1), (hf6.2.2.2.2.2.2.2.2.2.2.2.2.2.2.2.2.2.2.2.2.2.2.2.1).trans (hF2.2.2.2.2.2.2.2.2.2.2.2.2.2.2.2.2.2.2.2.2.1), (hf6.2.2.2.2.2.2.2.2.2.2.2.2.2.2.2.2.2.2.2.2.2.2.2.2.1).trans (hF2.2.2.2.2.2.2.2.2.2.2.2.2.2.2.2.2.2.2.2.2.2.1), (hf6.2.2.2.2.2.2.2.2.2.2.2.2.2.2.2.2.2.2.2.2.2.2.2.2.2.1).trans (hF2.2.2.2.2.2.2.2.2.2.2.2.2.2.2.2.2.2.2.2.2.2.2.1), (hf6.2.2.2.2.2.2.2.2.2.2.2.2.2.2.2.2.2.2.2.2.2.2.2.2.2.2.1).trans (hF2.2.2.2.2.2.2.2.2.2.2.2.2.2.2.2.2.2.2.2.2.2.2.2.1), (hf6.2.2.2.2.2.2.2.2.2.2.2.2.2.2.2.2.2.2.2.2.2.2.2.2.2.2.2.1).trans (hF2.2.2.2.2.2.2.2.2.2.2.2.2.2.2.2.2.2.2.2.2.2.2.2.2.1), (hf6.2.2.2.2.2.2.2.2.2.2.2.2.2.2.2.2.2.2.2.2.2.2.2.2.2.2.2.2.1).trans (hF2.2.2.2.2.2.2.2.2.2.2.2.2.2.2.2.2.2.2.2.2.2.2.2.2.2.1), (hf6.2.2.2.2.2.2.2.2.2.2.2.2.2.2.2.2.2.2.2.2.2.2.2.2.2.2.2.2.2.1).trans (hF2.2.2.2.2.2.2.2.2.2.2.2.2.2.2.2.2.2.2.2.2.2.2.2.2.2.2.1), (hf6.2.2.2.2.2.2.2.2.2.2.2.2.2.2.2.2.2.2.2.2.2.2.2.2.2.2.2.2.2.2.1).trans (hF2.2.2.2.2.2.2.2.2.2.2.2.2.2.2.2.2.2.2.2.2.2.2.2.2.2.2.2.1), (hf6.2.2.2.2.2.2.2.2.2.2.2.2.2.2.2.2.2.2.2.2.2.2.2.2.2.2.2.2.2.2.2.1).trans (hF2.2.2.2.2.2.2.2.2.2.2.2.2.2.2.2.2.2.2.2.2.2.2.2.2.2.2.2.2.1), (hf6.2.2.2.2.2.2.2.2.2.2.2.2.2.2.2.2.2.2.2.2.2.2.2.2.2.2.2.2.2.2.2.2.1).trans (hF2.2.2.2.2.2.2.2.2.2.2.2.2.2.2.2.2.2.2.2.2.2.2.2.2.2.2.2.2.2.1), (hf6.2.2.2.2.2.2.2.2.2.2.2.2.2.2.2.2.2.2.2.2.2.2.2.2.2.2.2.2.2.2.2.2.2.1).trans (hF2.2.2.2.2.2.2.2.2.2.2.2.2.2.2.2.2.2.2.2.2.2.2.2.2.2.2.2.2.2.2.1), (hf6.2.2.2.2.2.2.2.2.2.2.2.2.2.2.2.2.2.2.2.2.2.2.2.2.2.2.2.2.2.2.2.2.2.2.1).trans (hF2.2.2.2.2.2.2.2.2.2.2.2.2.2.2.2.2.2.2.2.2.2.2.2.2.2.2.2.2.2.2.2.1), (hf6.2.2.2.2.2.2.2.2.2.2.2.2.2.2.2.2.2.2.2.2.2.2.2.2.2.2.2.2.2.2.2.2.2.2.2.1).trans (hF2.2.2.2.2.2.2.2.2.2.2.2.2.2.2.2.2.2.2.2.2.2.2.2.2.2.2.2.2.2.2.2.2.1), (hf6.2.2.2.2.2.2.2.2.2.2.2.2.2.2.2.2.2.2.2.2.2.2.2.2.2.2.2.2.2.2.2.2.2.2.2.2.1).trans (hF2.2.2.2.2.2.2.2.2.2.2.2.2.2.2.2.2.2.2.2.2.2.2.2.2.2.2.2.2.2.2.2.2.2.1), (hf6.2.2.2.2.2.2.2.2.2.2.2.2.2.2.2.2.2.2.2.2.2.2.2.2.2.2.2.2.2.2.2.2.2.2.2.2.2.1).trans (hF2.2.2.2.2.2.2.2.2.2.2.2.2.2.2.2.2.2.2.2.2.2.2.2.2.2.2.2.2.2.2.2.2.2.2.1), (hf6.2.2.2.2.2.2.2.2.2.2.2.2.2.2.2.2.2.2.2.2.2.2.2.2.2.2.2.2.2.2.2.2.2.2.2.2.2.2.1).trans (hF2.2.2.2.2.2.2.2.2.2.2.2.2.2.2.2.2.2.2.2.2.2.2.2.2.2.2.2.2.2.2.2.2.2.2.2.1), (hf6.2.2.2.2.2.2.2.2.2.2.2.2.2.2.2.2.2.2.2.2.2.2.2.2.2.2.2.2.2.2.2.2.2.2.2.2.2.2.2.1).trans (hF2.2.2.2.2.2.2.2.2.2.2.2.2.2.2.2.2.2.2.2.2.2.2.2.2.2.2.2.2.2.2.2.2.2.2.2.2.1), (hf6.2.2.2.2.2.2.2.2.2.2.2.2.2.2.2.2.2.2.2.2.2.2.2.2.2.2.2.2.2.2.2.2.2.2.2.2.2.2.2.2.1).trans (hF2.2.2.2.2.2.2.2.2.2.2.2.2.2.2.2.2.2.2.2.2.2.2.2.2.2.2.2.2.2.2.2.2.2.2.2.2.2.1), (hf6.2.2.2.2.2.2.2.2.2.2.2.2.2.2.2.2.2.2.2.2.2.2.2.2.2.2.2.2.2.2.2.2.2.2.2.2.2.2.2.2.2).trans (hF2.2.2.2.2.2.2.2.2.2.2.2.2.2.2.2.2.2.2.2.2.2.2.2.2.2.2.2.2.2.2.2.2.2.2.2.2.2.2)⟩
  unfold SR9 BDS at hB
  rw [kV, lV, nV] at hB
  rw [nV] at h3
  have cx := pt_clamp h0
  have x4' : (x4 + 1).toInt = x4.toInt + 1 := by rw [pt_add (by rw [pl_1]; omega) (by rw [pl_1]; omega), pl_1]
  refine fx9_notMoreKeys (fun r7 h7 => fx9_lessKeys (fun r9 h9 => ⟨_, ?_, rfl, by omega, by omega, hJ6, hF6, fun o => ?_, rfl⟩))
  · omega
  · have q := hB o.1 hil p0 p8 (by omega)
    rw [h3] at q
    rw [x4', show (x4.toInt + 1).toNat = x4.toNatClampNeg + 1 by omega, h7 o.2, h9 o.2]
    exact COV_s q.1 q.2.1 q.2.2.1 q.2.2.2 (by rw [hI o, show x4.toInt.toNat = x4.toNatClampNeg by omega])
def F_X9_cover (S u : bT9) : Prop := (b9g_now u) = (b9g_now S) ∧ (b9g_keys u) = (b9g_keys S) ∧ (b9g_lengths u) = (b9g_lengths S) ∧ (b9g_drawn u) = (b9g_drawn S) ∧ (b9g_drawnLength u) = (b9g_drawnLength S) ∧ (b9g_tape u) = (b9g_tape S) ∧ (b9g_taped u) = (b9g_taped S) ∧ (b9g_names u) = (b9g_names S) ∧ (b9g_chosen u) = (b9g_chosen S) ∧ (b9g_nodeLevel u) = (b9g_nodeLevel S) ∧ (b9g_nodeLeaf u) = (b9g_nodeLeaf S) ∧ (b9g_nodeLeaves u) = (b9g_nodeLeaves S) ∧ (b9g_nodeMany u) = (b9g_nodeMany S) ∧ (b9g_levelMany u) = (b9g_levelMany S) ∧ (b9g_upper u) = (b9g_upper S) ∧ (b9g_upperNodes u) = (b9g_upperNodes S) ∧ (b9g_areNodesLaid u) = (b9g_areNodesLaid S) ∧ (b9g_itemNode u) = (b9g_itemNode S) ∧ (b9g_itemByte u) = (b9g_itemByte S) ∧ (b9g_itemChild u) = (b9g_itemChild S) ∧ (b9g_itemMany u) = (b9g_itemMany S) ∧ (b9g_placeOf u) = (b9g_placeOf S) ∧ (b9g_leafOfPlace u) = (b9g_leafOfPlace S) ∧ (b9g_places u) = (b9g_places S) ∧ (b9g_fromKey u) = (b9g_fromKey S) ∧ (b9g_toKey u) = (b9g_toKey S) ∧ (b9g_fromLength u) = (b9g_fromLength S) ∧ (b9g_toLength u) = (b9g_toLength S) ∧ (b9g_ones u) = (b9g_ones S) ∧ (b9g_oneMany u) = (b9g_oneMany S) ∧ (b9g_rowLong u) = (b9g_rowLong S) ∧ (b9g_laidFor u) = (b9g_laidFor S) ∧ (b9g_signs u) = (b9g_signs S) ∧ (b9g_signMany u) = (b9g_signMany S) ∧ (b9g_hasImage u) = (b9g_hasImage S) ∧ (b9g_images u) = (b9g_images S) ∧ (b9g_keyImages u) = (b9g_keyImages S) ∧ (b9g_lengthImages u) = (b9g_lengthImages S)
theorem sf_X9_cover {S : bT9} (hJ : J9 S) {a1 : Int32} {Q : Int64 → (bT9) → Prop} (hq : ∀ (r : Int64) (u : bT9), (J9 u) → F_X9_cover S u → (SR9 S → ((1 ≤ a1.toInt ∧ a1.toInt ≤ 7) → r = COV (fun j => b9g_keys S (64 + j)) (fun j => b9g_lengths S (64 + j)) (b9g_now S 9).toInt (NBT (b9g_now S)) a1 (b9g_now S 9).toInt.toNat) ∧ (¬ (1 ≤ a1.toInt ∧ a1.toInt ≤ 7) → r = -1)) → Q r u) : wp_X9_cover S a1 Q := by
  unfold wp_X9_cover
  intro S1 e1
  have hJ1 : J9 S1 := by rw [e1]; exact J9s_told hJ
  have hF1 : F_X9_cover S S1 := by rw [e1]; exact ⟨rfl, rfl, rfl, rfl, rfl, rfl, rfl, rfl, rfl, rfl, rfl, rfl, rfl, rfl, rfl, rfl, rfl, rfl, rfl, rfl, rfl, rfl, rfl, rfl, rfl, rfl, rfl, rfl, rfl, rfl, rfl, rfl, rfl, rfl, rfl, rfl, rfl, rfl⟩
  have en : b9g_now S1 = b9g_now S := by rw [e1]
  have ek : b9g_keys S1 = b9g_keys S := by rw [e1]
  have el : b9g_lengths S1 = b9g_lengths S := by rw [e1]
  refine sf_X9_isIn hJ1.1 (fun r2 z2 h2 => ⟨fun c => hq _ _ hJ1 hF1 (fun _ => ⟨fun g => ?_, fun _ => rfl⟩), fun c => sf_X9_coverOf hJ1 (fun r4 u5 hJ5 hf5 h5 => hq _ _ hJ5 ⟨(hf5.2.1).trans (hF1.1), (hf5.2.2.1).trans (hF1.2.1), (hf5.2.2.2.1).trans (hF1.2.2.1), (hf5.2.2.2.2.1).trans (hF1.2.2.2.1), (hf5.2.2.2.2.2.1).trans (hF1.2.2.2.2.1), (hf5.2.2.2.2.2.2.1).trans (hF1.2.2.2.2.2.1), (hf5.2.2.2.2.2.2.2.1).trans (hF1.2.2.2.2.2.2.1), (hf5.2.2.2.2.2.2.2.2.1).trans (hF1.2.2.2.2.2.2.2.1), (hf5.2.2.2.2.2.2.2.2.2.1).trans (hF1.2.2.2.2.2.2.2.2.1), (hf5.2.2.2.2.2.2.2.2.2.2.1).trans (hF1.2.2.2.2.2.2.2.2.2.1), (hf5.2.2.2.2.2.2.2.2.2.2.2.1).trans (hF1.2.2.2.2.2.2.2.2.2.2.1), (hf5.2.2.2.2.2.2.2.2.2.2.2.2.1).trans (hF1.2.2.2.2.2.2.2.2.2.2.2.1), (hf5.2.2.2.2.2.2.2.2.2.2.2.2.2.1).trans (hF1.2.2.2.2.2.2.2.2.2.2.2.2.1), (hf5.2.2.2.2.2.2.2.2.2.2.2.2.2.2.1).trans (hF1.2.2.2.2.2.2.2.2.2.2.2.2.2.1), (hf5.2.2.2.2.2.2.2.2.2.2.2.2.2.2.2.1).trans (hF1.2.2.2.2.2.2.2.2.2.2.2.2.2.2.1), (hf5.2.2.2.2.2.2.2.2.2.2.2.2.2.2.2.2.1).trans (hF1.2.2.2.2.2.2.2.2.2.2.2.2.2.2.2.1), (hf5.2.2.2.2.2.2.2.2.2.2.2.2.2.2.2.2.2.1).trans (hF1.2.2.2.2.2.2.2.2.2.2.2.2.2.2.2.2.1), (hf5.2.2.2.2.2.2.2.2.2.2.2.2.2.2.2.2.2.2.1).trans (hF1.2.2.2.2.2.2.2.2.2.2.2.2.2.2.2.2.2.1), (hf5.2.2.2.2.2.2.2.2.2.2.2.2.2.2.2.2.2.2.2.1).trans (hF1.2.2.2.2.2.2.2.2.2.2.2.2.2.2.2.2.2.2.1), (hf5.2.2.2.2.2.2.2.2.2.2.2.2.2.2.2.2.2.2.2.2.1).trans (hF1.2.2.2.2.2.2.2.2.2.2.2.2.2.2.2.2.2.2.2.1), (hf5.2.2.2.2.2.2.2.2.2.2.2.2.2.2.2.2.2.2.2.2.2.1).trans (hF1.2.2.2.2.2.2.2.2.2.2.2.2.2.2.2.2.2.2.2.2.1), (hf5.2.2.2.2.2.2.2.2.2.2.2.2.2.2.2.2.2.2.2.2.2.2.1).trans (hF1.2.2.2.2.2.2.2.2.2.2.2.2.2.2.2.2.2.2.2.2.2.1), (hf5.2.2.2.2.2.2.2.2.2.2.2.2.2.2.2.2.2.2.2.2.2.2.2.1).trans (hF1.2.2.2.2.2.2.2.2.2.2.2.2.2.2.2.2.2.2.2.2.2.2.1), (hf5.2.2.2.2.2.2.2.2.2.2.2.2.2.2.2.2.2.2.2.2.2.2.2.2.1).trans (hF1.2.2.2.2.2.2.2.2.2.2.2.2.2.2.2.2.2.2.2.2.2.2.2.1), (hf5.2.2.2.2.2.2.2.2.2.2.2.2.2.2.2.2.2.2.2.2.2.2.2.2.2.1).trans (hF1.2.2.2.2.2.2.2.2.2.2.2.2.2.2.2.2.2.2.2.2.2.2.2.2.1), (hf5.2.2.2.2.2.2.2.2.2.2.2.2.2.2.2.2.2.2.2.2.2.2.2.2.2.2.1).trans (hF1.2.2.2.2.2.2.2.2.2.2.2.2.2.2.2.2.2.2.2.2.2.2.2.2.2.1), (hf5.2.2.2.2.2.2.2.2.2.2.2.2.2.2.2.2.2.2.2.2.2.2.2.2.2.2.2.1).trans (hF1.2.2.2.2.2.2.2.2.2.2.2.2.2.2.2.2.2.2.2.2.2.2.2.2.2.2.1), (hf5.2.2.2.2.2.2.2.2.2.2.2.2.2.2.2.2.2.2.2.2.2.2.2.2.2.2.2.2.1).trans (hF1.2.2.2.2.2.2.2.2.2.2.2.2.2.2.2.2.2.2.2.2.2.2.2.2.2.2.2.1), (hf5.2.2.2.2.2.2.2.2.2.2.2.2.2.2.2.2.2.2.2.2.2.2.2.2.2.2.2.2.2.1).trans (hF1.2.2.2.2.2.2.2.2.2.2.2.2.2.2.2.2.2.2.2.2.2.2.2.2.2.2.2.2.1), (hf5.2.2.2.2.2.2.2.2.2.2.2.2.2.2.2.2.2.2.2.2.2.2.2.2.2.2.2.2.2.2.1).trans (hF1.2.2.2.2.2.2.2.2.2.2.2.2.2.2.2.2.2.2.2.2.2.2.2.2.2.2.2.2.2.1), (hf5.2.2.2.2.2.2.2.2.2.2.2.2.2.2.2.2.2.2.2.2.2.2.2.2.2.2.2.2.2.2.2.1).trans (hF1.2.2.2.2.2.2.2.2.2.2.2.2.2.2.2.2.2.2.2.2.2.2.2.2.2.2.2.2.2.2.1), (hf5.2.2.2.2.2.2.2.2.2.2.2.2.2.2.2.2.2.2.2.2.2.2.2.2.2.2.2.2.2.2.2.2.1).trans (hF1.2.2.2.2.2.2.2.2.2.2.2.2.2.2.2.2.2.2.2.2.2.2.2.2.2.2.2.2.2.2.2.1), (hf5.2.2.2.2.2.2.2.2.2.2.2.2.2.2.2.2.2.2.2.2.2.2.2.2.2.2.2.2.2.2.2.2.2.1).trans (hF1.2.2.2.2.2.2.2.2.2.2.2.2.2.2.2.2.2.2.2.2.2.2.2.2.2.2.2.2.2.2.2.2.1), (hf5.2.2.2.2.2.2.2.2.2.2.2.2.2.2.2.2.2.2.2.2.2.2.2.2.2.2.2.2.2.2.2.2.2.2.1).trans (hF1.2.2.2.2.2.2.2.2.2.2.2.2.2.2.2.2.2.2.2.2.2.2.2.2.2.2.2.2.2.2.2.2.2.1), (hf5.2.2.2.2.2.2.2.2.2.2.2.2.2.2.2.2.2.2.2.2.2.2.2.2.2.2.2.2.2.2.2.2.2.2.2.1).trans (hF1.2.2.2.2.2.2.2.2.2.2.2.2.2.2.2.2.2.2.2.2.2.2.2.2.2.2.2.2.2.2.2.2.2.2.1), (hf5.2.2.2.2.2.2.2.2.2.2.2.2.2.2.2.2.2.2.2.2.2.2.2.2.2.2.2.2.2.2.2.2.2.2.2.2.1).trans (hF1.2.2.2.2.2.2.2.2.2.2.2.2.2.2.2.2.2.2.2.2.2.2.2.2.2.2.2.2.2.2.2.2.2.2.2.1), (hf5.2.2.2.2.2.2.2.2.2.2.2.2.2.2.2.2.2.2.2.2.2.2.2.2.2.2.2.2.2.2.2.2.2.2.2.2.2.1).trans (hF1.2.2.2.2.2.2.2.2.2.2.2.2.2.2.2.2.2.2.2.2.2.2.2.2.2.2.2.2.2.2.2.2.2.2.2.2.1), (hf5.2.2.2.2.2.2.2.2.2.2.2.2.2.2.2.2.2.2.2.2.2.2.2.2.2.2.2.2.2.2.2.2.2.2.2.2.2.2).trans (hF1.2.2.2.2.2.2.2.2.2.2.2.2.2.2.2.2.2.2.2.2.2.2.2.2.2.2.2.2.2.2.2.2.2.2.2.2.2)⟩ (fun o => ⟨fun g => ?_, fun g => ?_⟩))⟩)
  · simp only [pn] at c h2; omega
  · unfold SR9 at h5
    rw [en, ek, el] at h5
    exact h5 ⟨o, g.2⟩
  · simp only [pn] at c h2; omega
def F_X9_loose (S u : bT9) : Prop := (b9g_now u) = (b9g_now S) ∧ (b9g_keys u) = (b9g_keys S) ∧ (b9g_lengths u) = (b9g_lengths S) ∧ (b9g_drawn u) = (b9g_drawn S) ∧ (b9g_drawnLength u) = (b9g_drawnLength S) ∧ (b9g_tape u) = (b9g_tape S) ∧ (b9g_taped u) = (b9g_taped S) ∧ (b9g_names u) = (b9g_names S) ∧ (b9g_chosen u) = (b9g_chosen S) ∧ (b9g_nodeLevel u) = (b9g_nodeLevel S) ∧ (b9g_nodeLeaf u) = (b9g_nodeLeaf S) ∧ (b9g_nodeLeaves u) = (b9g_nodeLeaves S) ∧ (b9g_nodeMany u) = (b9g_nodeMany S) ∧ (b9g_levelMany u) = (b9g_levelMany S) ∧ (b9g_upper u) = (b9g_upper S) ∧ (b9g_upperNodes u) = (b9g_upperNodes S) ∧ (b9g_areNodesLaid u) = (b9g_areNodesLaid S) ∧ (b9g_itemNode u) = (b9g_itemNode S) ∧ (b9g_itemByte u) = (b9g_itemByte S) ∧ (b9g_itemChild u) = (b9g_itemChild S) ∧ (b9g_itemMany u) = (b9g_itemMany S) ∧ (b9g_placeOf u) = (b9g_placeOf S) ∧ (b9g_leafOfPlace u) = (b9g_leafOfPlace S) ∧ (b9g_places u) = (b9g_places S) ∧ (b9g_fromKey u) = (b9g_fromKey S) ∧ (b9g_toKey u) = (b9g_toKey S) ∧ (b9g_fromLength u) = (b9g_fromLength S) ∧ (b9g_toLength u) = (b9g_toLength S) ∧ (b9g_ones u) = (b9g_ones S) ∧ (b9g_oneMany u) = (b9g_oneMany S) ∧ (b9g_rowLong u) = (b9g_rowLong S) ∧ (b9g_laidFor u) = (b9g_laidFor S) ∧ (b9g_signs u) = (b9g_signs S) ∧ (b9g_signMany u) = (b9g_signMany S) ∧ (b9g_hasImage u) = (b9g_hasImage S) ∧ (b9g_images u) = (b9g_images S) ∧ (b9g_keyImages u) = (b9g_keyImages S) ∧ (b9g_lengthImages u) = (b9g_lengthImages S)
theorem sf_X9_loose {S : bT9} (hJ : J9 S) {a1 : Int32} {Q : Int64 → (bT9) → Prop} (hq : ∀ (r : Int64) (u : bT9), (J9 u) → F_X9_loose S u → (SR9 S → ((1 ≤ a1.toInt ∧ a1.toInt ≤ 7) → r = LSE (COV (fun j => b9g_keys S (64 + j)) (fun j => b9g_lengths S (64 + j)) (b9g_now S 9).toInt (NBT (b9g_now S)) a1 (b9g_now S 9).toInt.toNat) (fun j => b9g_lengths S (64 + j)) a1 (b9g_now S 9).toInt.toNat) ∧ (¬ (1 ≤ a1.toInt ∧ a1.toInt ≤ 7) → r = -1)) → Q r u) : wp_X9_loose S a1 Q := by
  have n9 := (J9g_now hJ).2.2.2.1
  have c9 : ((9 : Int32)).toNatClampNeg = 9 := by decide
  unfold wp_X9_loose
  intro S1 e1
  have hJ1 : J9 S1 := by rw [e1]; exact J9s_told hJ
  have hF1 : F_X9_loose S S1 := by rw [e1]; exact ⟨rfl, rfl, rfl, rfl, rfl, rfl, rfl, rfl, rfl, rfl, rfl, rfl, rfl, rfl, rfl, rfl, rfl, rfl, rfl, rfl, rfl, rfl, rfl, rfl, rfl, rfl, rfl, rfl, rfl, rfl, rfl, rfl, rfl, rfl, rfl, rfl, rfl, rfl⟩
  have en : b9g_now S1 = b9g_now S := by rw [e1]
  have ek : b9g_keys S1 = b9g_keys S := by rw [e1]
  have el : b9g_lengths S1 = b9g_lengths S := by rw [e1]
  refine sf_X9_isIn hJ1.1 (fun r4 z4 h4 => ⟨fun c => sf_X9_coverOf hJ1 (fun r6 u7 hJ7 hf7 h7 => ?_), fun c => hq _ _ hJ1 hF1 (fun _ => ⟨fun g => ?_, fun _ => rfl⟩)⟩)
  rotate_left
  · simp only [pn] at c h4; omega
  simp only [pn] at c h4
  have hF7 : F_X9_loose S u7 := ⟨(hf7.2.1).trans (hF1.1), (hf7.2.2.1).trans (hF1.2.1), (hf7.2.2.2.1).trans (hF1.2.2.1), (hf7.2.2.2.2.1).trans (hF1.2.2.2.1), (hf7.2.2.2.2.2.1).trans (hF1.2.2.2.2.1), (hf7.2.2.2.2.2.2.1).trans (hF1.2.2.2.2.2.1), (hf7.2.2.2.2.2.2.2.1).trans (hF1.2.2.2.2.2.2.1), (hf7.2.2.2.2.2.2.2.2.1).trans (hF1.2.2.2.2.2.2.2.1), (hf7.2.2.2.2.2.2.2.2.2.1).trans (hF1.2.2.2.2.2.2.2.2.1), (hf7.2.2.2.2.2.2.2.2.2.2.1).trans (hF1.2.2.2.2.2.2.2.2.2.1), (hf7.2.2.2.2.2.2.2.2.2.2.2.1).trans (hF1.2.2.2.2.2.2.2.2.2.2.1), (hf7.2.2.2.2.2.2.2.2.2.2.2.2.1).trans (hF1.2.2.2.2.2.2.2.2.2.2.2.1), (hf7.2.2.2.2.2.2.2.2.2.2.2.2.2.1).trans (hF1.2.2.2.2.2.2.2.2.2.2.2.2.1), (hf7.2.2.2.2.2.2.2.2.2.2.2.2.2.2.1).trans (hF1.2.2.2.2.2.2.2.2.2.2.2.2.2.1), (hf7.2.2.2.2.2.2.2.2.2.2.2.2.2.2.2.1).trans (hF1.2.2.2.2.2.2.2.2.2.2.2.2.2.2.1), (hf7.2.2.2.2.2.2.2.2.2.2.2.2.2.2.2.2.1).trans (hF1.2.2.2.2.2.2.2.2.2.2.2.2.2.2.2.1), (hf7.2.2.2.2.2.2.2.2.2.2.2.2.2.2.2.2.2.1).trans (hF1.2.2.2.2.2.2.2.2.2.2.2.2.2.2.2.2.1), (hf7.2.2.2.2.2.2.2.2.2.2.2.2.2.2.2.2.2.2.1).trans (hF1.2.2.2.2.2.2.2.2.2.2.2.2.2.2.2.2.2.1), (hf7.2.2.2.2.2.2.2.2.2.2.2.2.2.2.2.2.2.2.2.1).trans (hF1.2.2.2.2.2.2.2.2.2.2.2.2.2.2.2.2.2.2.1), (hf7.2.2.2.2.2.2.2.2.2.2.2.2.2.2.2.2.2.2.2.2.1).trans (hF1.2.2.2.2.2.2.2.2.2.2.2.2.2.2.2.2.2.2.2.1), (hf7.2.2.2.2.2.2.2.2.2.2.2.2.2.2.2.2.2.2.2.2.2.1).trans (hF1.2.2.2.2.2.2.2.2.2.2.2.2.2.2.2.2.2.2.2.2.1), (hf7.2.2.2.2.2.2.2.2.2.2.2.2.2.2.2.2.2.2.2.2.2.2.1).trans (hF1.2.2.2.2.2.2.2.2.2.2.2.2.2.2.2.2.2.2.2.2.2.1), (hf7.2.2.2.2.2.2.2.2.2.2.2.2.2.2.2.2.2.2.2.2.2.2.2.1).trans (hF1.2.2.2.2.2.2.2.2.2.2.2.2.2.2.2.2.2.2.2.2.2.2.1), (hf7.2.2.2.2.2.2.2.2.2.2.2.2.2.2.2.2.2.2.2.2.2.2.2.2.1).trans (hF1.2.2.2.2.2.2.2.2.2.2.2.2.2.2.2.2.2.2.2.2.2.2.2.1), (hf7.2.2.2.2.2.2.2.2.2.2.2.2.2.2.2.2.2.2.2.2.2.2.2.2.2.1).trans (hF1.2.2.2.2.2.2.2.2.2.2.2.2.2.2.2.2.2.2.2.2.2.2.2.2.1), (hf7.2.2.2.2.2.2.2.2.2.2.2.2.2.2.2.2.2.2.2.2.2.2.2.2.2.2.1).trans (hF1.2.2.2.2.2.2.2.2.2.2.2.2.2.2.2.2.2.2.2.2.2.2.2.2.2.1), (hf7.2.2.2.2.2.2.2.2.2.2.2.2.2.2.2.2.2.2.2.2.2.2.2.2.2.2.2.1).trans (hF1.2.2.2.2.2.2.2.2.2.2.2.2.2.2.2.2.2.2.2.2.2.2.2.2.2.2.1), (hf7.2.2.2.2.2.2.2.2.2.2.2.2.2.2.2.2.2.2.2.2.2.2.2.2.2.2.2.2.1).trans (hF1.2.2.2.2.2.2.2.2.2.2.2.2.2.2.2.2.2.2.2.2.2.2.2.2.2.2.2.1), (hf7.2.2.2.2.2.2.2.2.2.2.2.2.2.2.2.2.2.2.2.2.2.2.2.2.2.2.2.2.2.1).trans (hF1.2.2.2.2.2.2.2.2.2.2.2.2.2.2.2.2.2.2.2.2.2.2.2.2.2.2.2.2.1), (hf7.2.2.2.2.2.2.2.2.2.2.2.2.2.2.2.2.2.2.2.2.2.2.2.2.2.2.2.2.2.2.1).trans (hF1.2.2.2.2.2.2.2.2.2.2.2.2.2.2.2.2.2.2.2.2.2.2.2.2.2.2.2.2.2.1), (hf7.2.2.2.2.2.2.2.2.2.2.2.2.2.2.2.2.2.2.2.2.2.2.2.2.2.2.2.2.2.2.2.1).trans (hF1.2.2.2.2.2.2.2.2.2.2.2.2.2.2.2.2.2.2.2.2.2.2.2.2.2.2.2.2.2.2.1), (hf7.2.2.2.2.2.2.2.2.2.2.2.2.2.2.2.2.2.2.2.2.2.2.2.2.2.2.2.2.2.2.2.2.1).trans (hF1.2.2.2.2.2.2.2.2.2.2.2.2.2.2.2.2.2.2.2.2.2.2.2.2.2.2.2.2.2.2.2.1), (hf7.2.2.2.2.2.2.2.2.2.2.2.2.2.2.2.2.2.2.2.2.2.2.2.2.2.2.2.2.2.2.2.2.2.1).trans (hF1.2.2.2.2.2.2.2.2.2.2.2.2.2.2.2.2.2.2.2.2.2.2.2.2.2.2.2.2.2.2.2.2.1), (hf7.2.2.2.2.2.2.2.2.2.2.2.2.2.2.2.2.2.2.2.2.2.2.2.2.2.2.2.2.2.2.2.2.2.2.1).trans (hF1.2.2.2.2.2.2.2.2.2.2.2.2.2.2.2.2.2.2.2.2.2.2.2.2.2.2.2.2.2.2.2.2.2.1), (hf7.2.2.2.2.2.2.2.2.2.2.2.2.2.2.2.2.2.2.2.2.2.2.2.2.2.2.2.2.2.2.2.2.2.2.2.1).trans (hF1.2.2.2.2.2.2.2.2.2.2.2.2.2.2.2.2.2.2.2.2.2.2.2.2.2.2.2.2.2.2.2.2.2.2.1), (hf7.2.2.2.2.2.2.2.2.2.2.2.2.2.2.2.2.2.2.2.2.2.2.2.2.2.2.2.2.2.2.2.2.2.2.2.2.1).trans (hF1.2.2.2.2.2.2.2.2.2.2.2.2.2.2.2.2.2.2.2.2.2.2.2.2.2.2.2.2.2.2.2.2.2.2.2.1), (hf7.2.2.2.2.2.2.2.2.2.2.2.2.2.2.2.2.2.2.2.2.2.2.2.2.2.2.2.2.2.2.2.2.2.2.2.2.2.1).trans (hF1.2.2.2.2.2.2.2.2.2.2.2.2.2.2.2.2.2.2.2.2.2.2.2.2.2.2.2.2.2.2.2.2.2.2.2.2.1), (hf7.2.2.2.2.2.2.2.2.2.2.2.2.2.2.2.2.2.2.2.2.2.2.2.2.2.2.2.2.2.2.2.2.2.2.2.2.2.2).trans (hF1.2.2.2.2.2.2.2.2.2.2.2.2.2.2.2.2.2.2.2.2.2.2.2.2.2.2.2.2.2.2.2.2.2.2.2.2.2)⟩
  have n7 : b9g_now u7 = b9g_now S := hF7.1
  have l7 : b9g_lengths u7 = b9g_lengths S := hF7.2.2.1
  unfold SR9 at h7
  rw [en, ek, el] at h7
  unfold wp_X9_loose_29
  refine ⟨fun n x1 x2 x4 V => x1 = a1 ∧ V = u7 ∧ 0 ≤ x4.toInt ∧ x4.toInt ≤ (b9g_now S 9).toInt ∧ x2 = LSE r6 (fun j => b9g_lengths S (64 + j)) a1 x4.toInt.toNat ∧ n = (64 - x4.toInt).toNat, ⟨_, rfl, rfl, by decide, by rw [pl_0]; exact n9.1, rfl, rfl⟩, ?_⟩
  rintro n x1 x2 x4 V ⟨e1', eV, h0, h1, hI, hn⟩
  unfold wp_X9_loose_29b
  rw [e1', eV, c9, n7]
  refine ⟨pt_in (by decide) (by decide), fun d => hq _ _ hJ7 hF7 (fun o => ⟨fun g => ?_, fun g => ?_⟩), fun d => ?_⟩
  · simp only [pn] at d
    rw [hI, h7 ⟨o, g.2⟩, show x4.toInt.toNat = (b9g_now S 9).toInt.toNat by omega]
  · omega
  simp only [pn] at d
  have x4' : (x4 + 1).toInt = x4.toInt + 1 := by rw [pt_add (by rw [pl_1]; omega) (by rw [pl_1]; omega), pl_1]
  have s4 : (x4 + 1).toInt.toNat = x4.toInt.toNat + 1 := by omega
  refine sf_X9_lengthOf hJ7.1 h0 (by omega) (fun r1 hr _ _ => ?_)
  have e64 : ((64 : Int32) + x4).toNatClampNeg = 64 + x4.toInt.toNat := by
    have a : ((64 : Int32) + x4).toInt = 64 + x4.toInt := by rw [pt_add (by rw [pl_64]; omega) (by rw [pl_64]; omega), pl_64]
    have b := pt_clamp (i := (64 : Int32) + x4) (by omega)
    omega
  rw [e64, l7] at hr
  have er : r1 = b9g_lengths S (64 + x4.toInt.toNat) := Int32.toInt_inj.mp hr
  unfold wp_X9_loose_55
  refine ⟨fun k => ⟨_, ?_, rfl, rfl, by omega, by omega, ?_, rfl⟩, fun k => ⟨_, ?_, rfl, rfl, by omega, by omega, ?_, rfl⟩⟩
  · omega
  · have nk : ¬ (fun j => b9g_lengths S (64 + j)) x4.toInt.toNat = a1 := by
      show ¬ b9g_lengths S (64 + x4.toInt.toNat) = a1
      rw [← er]; exact k
    rw [s4, LSE_n (g := fun j => b9g_lengths S (64 + j)) (i := x4.toInt.toNat) nk]
    exact hI
  · omega
  · have yk : (fun j => b9g_lengths S (64 + j)) x4.toInt.toNat = a1 := by
      show b9g_lengths S (64 + x4.toInt.toNat) = a1
      rw [← er]; exact k
    rw [s4, LSE_y (g := fun j => b9g_lengths S (64 + j)) (i := x4.toInt.toNat) yk, hI]
def F_X9_free (S u : bT9) : Prop := (b9g_now u) = (b9g_now S) ∧ (b9g_keys u) = (b9g_keys S) ∧ (b9g_lengths u) = (b9g_lengths S) ∧ (b9g_drawn u) = (b9g_drawn S) ∧ (b9g_drawnLength u) = (b9g_drawnLength S) ∧ (b9g_tape u) = (b9g_tape S) ∧ (b9g_taped u) = (b9g_taped S) ∧ (b9g_names u) = (b9g_names S) ∧ (b9g_chosen u) = (b9g_chosen S) ∧ (b9g_nodeLevel u) = (b9g_nodeLevel S) ∧ (b9g_nodeLeaf u) = (b9g_nodeLeaf S) ∧ (b9g_nodeLeaves u) = (b9g_nodeLeaves S) ∧ (b9g_nodeMany u) = (b9g_nodeMany S) ∧ (b9g_levelMany u) = (b9g_levelMany S) ∧ (b9g_upper u) = (b9g_upper S) ∧ (b9g_upperNodes u) = (b9g_upperNodes S) ∧ (b9g_areNodesLaid u) = (b9g_areNodesLaid S) ∧ (b9g_itemNode u) = (b9g_itemNode S) ∧ (b9g_itemByte u) = (b9g_itemByte S) ∧ (b9g_itemChild u) = (b9g_itemChild S) ∧ (b9g_itemMany u) = (b9g_itemMany S) ∧ (b9g_placeOf u) = (b9g_placeOf S) ∧ (b9g_leafOfPlace u) = (b9g_leafOfPlace S) ∧ (b9g_places u) = (b9g_places S) ∧ (b9g_fromKey u) = (b9g_fromKey S) ∧ (b9g_toKey u) = (b9g_toKey S) ∧ (b9g_fromLength u) = (b9g_fromLength S) ∧ (b9g_toLength u) = (b9g_toLength S) ∧ (b9g_ones u) = (b9g_ones S) ∧ (b9g_oneMany u) = (b9g_oneMany S) ∧ (b9g_rowLong u) = (b9g_rowLong S) ∧ (b9g_laidFor u) = (b9g_laidFor S) ∧ (b9g_signs u) = (b9g_signs S) ∧ (b9g_signMany u) = (b9g_signMany S) ∧ (b9g_hasImage u) = (b9g_hasImage S) ∧ (b9g_images u) = (b9g_images S) ∧ (b9g_keyImages u) = (b9g_keyImages S) ∧ (b9g_lengthImages u) = (b9g_lengthImages S)
theorem sf_X9_free {S : bT9} (hJ : J9 S) {a1 : Int32} {a2 : Int32} {Q : Int64 → (bT9) → Prop} (hq : ∀ (r : Int64) (u : bT9), (J9 u) → F_X9_free S u → (SR9 S → (((0 ≤ a1.toInt ∧ a1.toInt ≤ (b9g_now S 9).toInt) ∧ 1 ≤ a2.toInt ∧ a2.toInt ≤ 7) → r = FRE (fun j => b9g_keys S (64 + j)) (fun j => b9g_lengths S (64 + j)) (b9g_now S 9).toInt (NBT (b9g_now S)) a1 a2) ∧ (¬ ((0 ≤ a1.toInt ∧ a1.toInt ≤ (b9g_now S 9).toInt) ∧ 1 ≤ a2.toInt ∧ a2.toInt ≤ 7) → r = -1)) → Q r u) : wp_X9_free S a1 a2 Q := by
  have n9 := (J9g_now hJ).2.2.2.1
  have c9 : ((9 : Int32)).toNatClampNeg = 9 := by decide
  unfold wp_X9_free
  intro S1 e1
  have hJ1 : J9 S1 := by rw [e1]; exact J9s_told hJ
  have hF1 : F_X9_free S S1 := by rw [e1]; exact ⟨rfl, rfl, rfl, rfl, rfl, rfl, rfl, rfl, rfl, rfl, rfl, rfl, rfl, rfl, rfl, rfl, rfl, rfl, rfl, rfl, rfl, rfl, rfl, rfl, rfl, rfl, rfl, rfl, rfl, rfl, rfl, rfl, rfl, rfl, rfl, rfl, rfl, rfl⟩
  refine sf_X9_leaves hJ1 (fun r10 u11 hJ11 hf11 h10 il => ?_)
  have hF11 : F_X9_free S u11 := ⟨(hf11.2.1).trans (hF1.1), (hf11.2.2.1).trans (hF1.2.1), (hf11.2.2.2.1).trans (hF1.2.2.1), (hf11.2.2.2.2.1).trans (hF1.2.2.2.1), (hf11.2.2.2.2.2.1).trans (hF1.2.2.2.2.1), (hf11.2.2.2.2.2.2.1).trans (hF1.2.2.2.2.2.1), (hf11.2.2.2.2.2.2.2.1).trans (hF1.2.2.2.2.2.2.1), (hf11.2.2.2.2.2.2.2.2.1).trans (hF1.2.2.2.2.2.2.2.1), (hf11.2.2.2.2.2.2.2.2.2.1).trans (hF1.2.2.2.2.2.2.2.2.1), (hf11.2.2.2.2.2.2.2.2.2.2.1).trans (hF1.2.2.2.2.2.2.2.2.2.1), (hf11.2.2.2.2.2.2.2.2.2.2.2.1).trans (hF1.2.2.2.2.2.2.2.2.2.2.1), (hf11.2.2.2.2.2.2.2.2.2.2.2.2.1).trans (hF1.2.2.2.2.2.2.2.2.2.2.2.1), (hf11.2.2.2.2.2.2.2.2.2.2.2.2.2.1).trans (hF1.2.2.2.2.2.2.2.2.2.2.2.2.1), (hf11.2.2.2.2.2.2.2.2.2.2.2.2.2.2.1).trans (hF1.2.2.2.2.2.2.2.2.2.2.2.2.2.1), (hf11.2.2.2.2.2.2.2.2.2.2.2.2.2.2.2.1).trans (hF1.2.2.2.2.2.2.2.2.2.2.2.2.2.2.1), (hf11.2.2.2.2.2.2.2.2.2.2.2.2.2.2.2.2.1).trans (hF1.2.2.2.2.2.2.2.2.2.2.2.2.2.2.2.1), (hf11.2.2.2.2.2.2.2.2.2.2.2.2.2.2.2.2.2.1).trans (hF1.2.2.2.2.2.2.2.2.2.2.2.2.2.2.2.2.1), (hf11.2.2.2.2.2.2.2.2.2.2.2.2.2.2.2.2.2.2.1).trans (hF1.2.2.2.2.2.2.2.2.2.2.2.2.2.2.2.2.2.1), (hf11.2.2.2.2.2.2.2.2.2.2.2.2.2.2.2.2.2.2.2.1).trans (hF1.2.2.2.2.2.2.2.2.2.2.2.2.2.2.2.2.2.2.1), (hf11.2.2.2.2.2.2.2.2.2.2.2.2.2.2.2.2.2.2.2.2.1).trans (hF1.2.2.2.2.2.2.2.2.2.2.2.2.2.2.2.2.2.2.2.1), (hf11.2.2.2.2.2.2.2.2.2.2.2.2.2.2.2.2.2.2.2.2.2.1).trans (hF1.2.2.2.2.2.2.2.2.2.2.2.2.2.2.2.2.2.2.2.2.1), (hf11.2.2.2.2.2.2.2.2.2.2.2.2.2.2.2.2.2.2.2.2.2.2.1).trans (hF1.2.2.2.2.2.2.2.2.2.2.2.2.2.2.2.2.2.2.2.2.2.1), (hf11.2.2.2.2.2.2.2.2.2.2.2.2.2.2.2.2.2.2.2.2.2.2.2.1).trans (hF1.2.2.2.2.2.2.2.2.2.2.2.2.2.2.2.2.2.2.2.2.2.2.1), (hf11.2.2.2.2.2.2.2.2.2.2.2.2.2.2.2.2.2.2.2.2.2.2.2.2.1).trans (hF1.2.2.2.2.2.2.2.2.2.2.2.2.2.2.2.2.2.2.2.2.2.2.2.1), (hf11.2.2.2.2.2.2.2.2.2.2.2.2.2.2.2.2.2.2.2.2.2.2.2.2.2.2.2.2.2.1).trans (hF1.2.2.2.2.2.2.2.2.2.2.2.2.2.2.2.2.2.2.2.2.2.2.2.2.1), (hf11.2.2.2.2.2.2.2.2.2.2.2.2.2.2.2.2.2.2.2.2.2.2.2.2.2.2.2.2.2.2.1).trans (hF1.2.2.2.2.2.2.2.2.2.2.2.2.2.2.2.2.2.2.2.2.2.2.2.2.2.1), (hf11.2.2.2.2.2.2.2.2.2.2.2.2.2.2.2.2.2.2.2.2.2.2.2.2.2.2.2.2.2.2.2.1).trans (hF1.2.2.2.2.2.2.2.2.2.2.2.2.2.2.2.2.2.2.2.2.2.2.2.2.2.2.1), (hf11.2.2.2.2.2.2.2.2.2.2.2.2.2.2.2.2.2.2.2.2.2.2.2.2.2.2.2.2.2.2.2.2.1).trans (hF1.2.2.2.2.2.2.2.2.2.2.2.2.2.2.2.2.2.2.2.2.2.2.2.2.2.2.2.1), (hf11.2.2.2.2.2.2.2.2.2.2.2.2.2.2.2.2.2.2.2.2.2.2.2.2.2.2.2.2.2.2.2.2.2.1).trans (hF1.2.2.2.2.2.2.2.2.2.2.2.2.2.2.2.2.2.2.2.2.2.2.2.2.2.2.2.2.1), (hf11.2.2.2.2.2.2.2.2.2.2.2.2.2.2.2.2.2.2.2.2.2.2.2.2.2.2.2.2.2.2.2.2.2.2.1).trans (hF1.2.2.2.2.2.2.2.2.2.2.2.2.2.2.2.2.2.2.2.2.2.2.2.2.2.2.2.2.2.1), (hf11.2.2.2.2.2.2.2.2.2.2.2.2.2.2.2.2.2.2.2.2.2.2.2.2.2.2.2.2.2.2.2.2.2.2.2.1).trans (hF1.2.2.2.2.2.2.2.2.2.2.2.2.2.2.2.2.2.2.2.2.2.2.2.2.2.2.2.2.2.2.1), (hf11.2.2.2.2.2.2.2.2.2.2.2.2.2.2.2.2.2.2.2.2.2.2.2.2.2.2.2.2.2.2.2.2.2.2.2.2.1).trans (hF1.2.2.2.2.2.2.2.2.2.2.2.2.2.2.2.2.2.2.2.2.2.2.2.2.2.2.2.2.2.2.2.1), (hf11.2.2.2.2.2.2.2.2.2.2.2.2.2.2.2.2.2.2.2.2.2.2.2.2.2.2.2.2.2.2.2.2.2.2.2.2.2.1).trans (hF1.2.2.2.2.2.2.2.2.2.2.2.2.2.2.2.2.2.2.2.2.2.2.2.2.2.2.2.2.2.2.2.2.1), (hf11.2.2.2.2.2.2.2.2.2.2.2.2.2.2.2.2.2.2.2.2.2.2.2.2.2.2.2.2.2.2.2.2.2.2.2.2.2.2.1).trans (hF1.2.2.2.2.2.2.2.2.2.2.2.2.2.2.2.2.2.2.2.2.2.2.2.2.2.2.2.2.2.2.2.2.2.1), (hf11.2.2.2.2.2.2.2.2.2.2.2.2.2.2.2.2.2.2.2.2.2.2.2.2.2.2.2.2.2.2.2.2.2.2.2.2.2.2.2.1).trans (hF1.2.2.2.2.2.2.2.2.2.2.2.2.2.2.2.2.2.2.2.2.2.2.2.2.2.2.2.2.2.2.2.2.2.2.1), (hf11.2.2.2.2.2.2.2.2.2.2.2.2.2.2.2.2.2.2.2.2.2.2.2.2.2.2.2.2.2.2.2.2.2.2.2.2.2.2.2.2.1).trans (hF1.2.2.2.2.2.2.2.2.2.2.2.2.2.2.2.2.2.2.2.2.2.2.2.2.2.2.2.2.2.2.2.2.2.2.2.1), (hf11.2.2.2.2.2.2.2.2.2.2.2.2.2.2.2.2.2.2.2.2.2.2.2.2.2.2.2.2.2.2.2.2.2.2.2.2.2.2.2.2.2.1).trans (hF1.2.2.2.2.2.2.2.2.2.2.2.2.2.2.2.2.2.2.2.2.2.2.2.2.2.2.2.2.2.2.2.2.2.2.2.2.1), (hf11.2.2.2.2.2.2.2.2.2.2.2.2.2.2.2.2.2.2.2.2.2.2.2.2.2.2.2.2.2.2.2.2.2.2.2.2.2.2.2.2.2.2).trans (hF1.2.2.2.2.2.2.2.2.2.2.2.2.2.2.2.2.2.2.2.2.2.2.2.2.2.2.2.2.2.2.2.2.2.2.2.2.2)⟩
  have n11 : b9g_now u11 = b9g_now S := hF11.1
  have k11 : b9g_keys u11 = b9g_keys S := hF11.2.1
  have l11 : b9g_lengths u11 = b9g_lengths S := hF11.2.2.1
  rw [n11] at h10
  have bad : ¬ ((0 ≤ a1.toInt ∧ a1.toInt ≤ (b9g_now S 9).toInt) ∧ 1 ≤ a2.toInt ∧ a2.toInt ≤ 7) → Q (-1) u11 := fun h => hq _ _ hJ11 hF11 (fun _ => ⟨fun g => absurd g h, fun _ => rfl⟩)
  have tail : ((0 ≤ a1.toInt ∧ a1.toInt ≤ (b9g_now S 9).toInt) ∧ 1 ≤ a2.toInt ∧ a2.toInt ≤ 7) → ∀ (T : bT9) (t : Int64), J9 T → F_X9_free S T → (b9g_isLaid T).toInt ≠ 0 → (a1.toInt = 0 → t = 0) → (SR9 S → ¬ a1.toInt = 0 → ∃ (k : Int64) (l : Int32), t = CUP k l a2 ∧ ub k = HIV (fun j => b9g_keys S (64 + j)) (fun j => b9g_lengths S (64 + j)) (b9g_now S 9).toInt (NBT (b9g_now S)) (a1.toInt.toNat - 1) ∧ l.toInt = (HIL (fun j => b9g_keys S (64 + j)) (fun j => b9g_lengths S (64 + j)) (b9g_now S 9).toInt (a1.toInt.toNat - 1) : Nat)) → wp_X9_free_64 T a1 a2 t Q := by
    intro b T t hT hF il t0 t1
    have nT : b9g_now T = b9g_now S := hF.1
    have kT : b9g_keys T = b9g_keys S := hF.2.1
    have lT : b9g_lengths T = b9g_lengths S := hF.2.2.1
    have cx := pt_clamp b.1.1
    unfold wp_X9_free_64
    rw [c9, nT]
    refine ⟨pt_in (by decide) (by decide), fun c => sf_X9_nextBits hT.1 (fun r1 p0 p8 h1 => sf_X9_bounds hT b.1.1 (by simp only [pn] at c; omega) (fun u4 hJ4 hf4 hB => fx9_lessKeys (fun r5 h5 => hq _ _ hJ4 ⟨(hf4.2.1).trans (hF.1), (hf4.2.2.1).trans (hF.2.1), (hf4.2.2.2.1).trans (hF.2.2.1), (hf4.2.2.2.2.1).trans (hF.2.2.2.1), (hf4.2.2.2.2.2.1).trans (hF.2.2.2.2.1), (hf4.2.2.2.2.2.2.1).trans (hF.2.2.2.2.2.1), (hf4.2.2.2.2.2.2.2.1).trans (hF.2.2.2.2.2.2.1), (hf4.2.2.2.2.2.2.2.2.1).trans (hF.2.2.2.2.2.2.2.1), (hf4.2.2.2.2.2.2.2.2.2.1).trans (hF.2.2.2.2.2.2.2.2.1), (hf4.2.2.2.2.2.2.2.2.2.2.2.2.2.1).trans (hF.2.2.2.2.2.2.2.2.2.1), (hf4.2.2.2.2.2.2.2.2.2.2.2.2.2.2.1).trans (hF.2.2.2.2.2.2.2.2.2.2.1), (hf4.2.2.2.2.2.2.2.2.2.2.2.2.2.2.2.1).trans (hF.2.2.2.2.2.2.2.2.2.2.2.1), (hf4.2.2.2.2.2.2.2.2.2.2.2.2.2.2.2.2.1).trans (hF.2.2.2.2.2.2.2.2.2.2.2.2.1), (hf4.2.2.2.2.2.2.2.2.2.2.2.2.2.2.2.2.2.1).trans (hF.2.2.2.2.2.2.2.2.2.2.2.2.2.1), (hf4.2.2.2.2.2.2.2.2.2.2.2.2.2.2.2.2.2.2.1).trans (hF.2.2.2.2.2.2.2.2.2.2.2.2.2.2.1), (hf4.2.2.2.2.2.2.2.2.2.2.2.2.2.2.2.2.2.2.2.1).trans (hF.2.2.2.2.2.2.2.2.2.2.2.2.2.2.2.1), (hf4.2.2.2.2.2.2.2.2.2.2.2.2.2.2.2.2.2.2.2.2.1).trans (hF.2.2.2.2.2.2.2.2.2.2.2.2.2.2.2.2.1), (hf4.2.2.2.2.2.2.2.2.2.2.2.2.2.2.2.2.2.2.2.2.2.1).trans (hF.2.2.2.2.2.2.2.2.2.2.2.2.2.2.2.2.2.1), (hf4.2.2.2.2.2.2.2.2.2.2.2.2.2.2.2.2.2.2.2.2.2.2.1).trans (hF.2.2.2.2.2.2.2.2.2.2.2.2.2.2.2.2.2.2.1), (hf4.2.2.2.2.2.2.2.2.2.2.2.2.2.2.2.2.2.2.2.2.2.2.2.1).trans (hF.2.2.2.2.2.2.2.2.2.2.2.2.2.2.2.2.2.2.2.1), (hf4.2.2.2.2.2.2.2.2.2.2.2.2.2.2.2.2.2.2.2.2.2.2.2.2.1).trans (hF.2.2.2.2.2.2.2.2.2.2.2.2.2.2.2.2.2.2.2.2.1), (hf4.2.2.2.2.2.2.2.2.2.2.2.2.2.2.2.2.2.2.2.2.2.2.2.2.2.1).trans (hF.2.2.2.2.2.2.2.2.2.2.2.2.2.2.2.2.2.2.2.2.2.1), (hf4.2.2.2.2.2.2.2.2.2.2.2.2.2.2.2.2.2.2.2.2.2.2.2.2.2.2.1).trans (hF.2.2.2.2.2.2.2.2.2.2.2.2.2.2.2.2.2.2.2.2.2.2.1), (hf4.2.2.2.2.2.2.2.2.2.2.2.2.2.2.2.2.2.2.2.2.2.2.2.2.2.2.2.1).trans (hF.2.2.2.2.2.2.2.2.2.2.2.2.2.2.2.2.2.2.2.2.2.2.2.1), (hf4.2.2.2.2.2.2.2.2.2.2.2.2.2.2.2.2.2.2.2.2.2.2.2.2.2.2.2.2.1).trans (hF.2.2.2.2.2.2.2.2.2.2.2.2.2.2.2.2.2.2.2.2.2.2.2.2.1), (hf4.2.2.2.2.2.2.2.2.2.2.2.2.2.2.2.2.2.2.2.2.2.2.2.2.2.2.2.2.2.1).trans (hF.2.2.2.2.2.2.2.2.2.2.2.2.2.2.2.2.2.2.2.2.2.2.2.2.2.1), (hf4.2.2.2.2.2.2.2.2.2.2.2.2.2.2.2.2.2.2.2.2.2.2.2.2.2.2.2.2.2.2.1).trans (hF.2.2.2.2.2.2.2.2.2.2.2.2.2.2.2.2.2.2.2.2.2.2.2.2.2.2.1), (hf4.2.2.2.2.2.2.2.2.2.2.2.2.2.2.2.2.2.2.2.2.2.2.2.2.2.2.2.2.2.2.2.1).trans (hF.2.2.2.2.2.2.2.2.2.2.2.2.2.2.2.2.2.2.2.2.2.2.2.2.2.2.2.1), (hf4.2.2.2.2.2.2.2.2.2.2.2.2.2.2.2.2.2.2.2.2.2.2.2.2.2.2.2.2.2.2.2.2.1).trans (hF.2.2.2.2.2.2.2.2.2.2.2.2.2.2.2.2.2.2.2.2.2.2.2.2.2.2.2.2.1), (hf4.2.2.2.2.2.2.2.2.2.2.2.2.2.2.2.2.2.2.2.2.2.2.2.2.2.2.2.2.2.2.2.2.2.1).trans (hF.2.2.2.2.2.2.2.2.2.2.2.2.2.2.2.2.2.2.2.2.2.2.2.2.2.2.2.2.2.1), (hf4.2.2.2.2.2.2.2.2.2.2.2.2.2.2.2.2.2.2.2.2.2.2.2.2.2.2.2.2.2.2.2.2.2.2.1).trans (hF.2.2.2.2.2.2.2.2.2.2.2.2.2.2.2.2.2.2.2.2.2.2.2.2.2.2.2.2.2.2.1), (hf4.2.2.2.2.2.2.2.2.2.2.2.2.2.2.2.2.2.2.2.2.2.2.2.2.2.2.2.2.2.2.2.2.2.2.2.1).trans (hF.2.2.2.2.2.2.2.2.2.2.2.2.2.2.2.2.2.2.2.2.2.2.2.2.2.2.2.2.2.2.2.1), (hf4.2.2.2.2.2.2.2.2.2.2.2.2.2.2.2.2.2.2.2.2.2.2.2.2.2.2.2.2.2.2.2.2.2.2.2.2.1).trans (hF.2.2.2.2.2.2.2.2.2.2.2.2.2.2.2.2.2.2.2.2.2.2.2.2.2.2.2.2.2.2.2.2.1), (hf4.2.2.2.2.2.2.2.2.2.2.2.2.2.2.2.2.2.2.2.2.2.2.2.2.2.2.2.2.2.2.2.2.2.2.2.2.2.1).trans (hF.2.2.2.2.2.2.2.2.2.2.2.2.2.2.2.2.2.2.2.2.2.2.2.2.2.2.2.2.2.2.2.2.2.1), (hf4.2.2.2.2.2.2.2.2.2.2.2.2.2.2.2.2.2.2.2.2.2.2.2.2.2.2.2.2.2.2.2.2.2.2.2.2.2.2.1).trans (hF.2.2.2.2.2.2.2.2.2.2.2.2.2.2.2.2.2.2.2.2.2.2.2.2.2.2.2.2.2.2.2.2.2.2.1), (hf4.2.2.2.2.2.2.2.2.2.2.2.2.2.2.2.2.2.2.2.2.2.2.2.2.2.2.2.2.2.2.2.2.2.2.2.2.2.2.2.1).trans (hF.2.2.2.2.2.2.2.2.2.2.2.2.2.2.2.2.2.2.2.2.2.2.2.2.2.2.2.2.2.2.2.2.2.2.2.1), (hf4.2.2.2.2.2.2.2.2.2.2.2.2.2.2.2.2.2.2.2.2.2.2.2.2.2.2.2.2.2.2.2.2.2.2.2.2.2.2.2.2.1).trans (hF.2.2.2.2.2.2.2.2.2.2.2.2.2.2.2.2.2.2.2.2.2.2.2.2.2.2.2.2.2.2.2.2.2.2.2.2.1), (hf4.2.2.2.2.2.2.2.2.2.2.2.2.2.2.2.2.2.2.2.2.2.2.2.2.2.2.2.2.2.2.2.2.2.2.2.2.2.2.2.2.2).trans (hF.2.2.2.2.2.2.2.2.2.2.2.2.2.2.2.2.2.2.2.2.2.2.2.2.2.2.2.2.2.2.2.2.2.2.2.2.2)⟩ (fun o => ⟨fun _ => ?_, fun h => absurd b h⟩)))), fun c => ?_⟩
    · simp only [pn] at c
      unfold SR9 BDS at hB
      rw [kT, lT, nT] at hB
      rw [nT] at h1
      have q := hB o il p0 p8 (by omega)
      rw [h1, show a1.toNatClampNeg = a1.toInt.toNat by omega] at q
      exact FRE_s (fun h => absurd h c) (fun _ => ⟨_, _, h5 b.2.2, q.1, q.2.1⟩) t0 (t1 o)
    · simp only [pn] at c
      unfold wp_X9_powerOf
      exact hq _ _ hT hF (fun o => ⟨fun _ => FRE_s (fun _ => rfl) (fun h => absurd c h) t0 (t1 o), fun h => absurd b h⟩)
  refine sf_X9_isIn hJ11.1 (fun r12 z12 h12 => ⟨fun c => bad ?_, fun c => sf_X9_isIn hJ11.1 (fun r14 z14 h14 => ⟨fun d => ⟨fun e => ?_, fun e => ?_⟩, fun d => bad ?_⟩)⟩)
  · simp only [pn] at c h12; omega
  · simp only [pn] at c d e h12 h14
    exact tail (by omega) u11 0 hJ11 hF11 il (fun _ => rfl) (fun _ h => absurd (by omega) h)
  · simp only [pn] at c d e h12 h14
    have b : ((0 ≤ a1.toInt ∧ a1.toInt ≤ (b9g_now S 9).toInt) ∧ 1 ≤ a2.toInt ∧ a2.toInt ≤ 7) := by omega
    have am : (a1 - 1).toInt = a1.toInt - 1 := by rw [pt_sub (by rw [pl_1]; omega) (by rw [pl_1]; omega), pl_1]
    have cm := pt_clamp (i := a1 - 1) (by omega)
    refine sf_X9_nextBits hJ11.1 (fun r16 p0 p8 h16 => sf_X9_bounds hJ11 (by omega) (by omega) (fun u19 hJ19 hf19 hB => fx9_notMoreKeys (fun r20 h20 => ?_)))
    unfold SR9 BDS at hB
    rw [k11, l11, n11, show (a1 - 1).toNatClampNeg = a1.toInt.toNat - 1 by omega] at hB
    rw [n11] at h16
    refine tail b u19 _ hJ19 ⟨(hf19.2.1).trans (hF11.1), (hf19.2.2.1).trans (hF11.2.1), (hf19.2.2.2.1).trans (hF11.2.2.1), (hf19.2.2.2.2.1).trans (hF11.2.2.2.1), (hf19.2.2.2.2.2.1).trans (hF11.2.2.2.2.1), (hf19.2.2.2.2.2.2.1).trans (hF11.2.2.2.2.2.1), (hf19.2.2.2.2.2.2.2.1).trans (hF11.2.2.2.2.2.2.1), (hf19.2.2.2.2.2.2.2.2.1).trans (hF11.2.2.2.2.2.2.2.1), (hf19.2.2.2.2.2.2.2.2.2.1).trans (hF11.2.2.2.2.2.2.2.2.1), (hf19.2.2.2.2.2.2.2.2.2.2.2.2.2.1).trans (hF11.2.2.2.2.2.2.2.2.2.1), (hf19.2.2.2.2.2.2.2.2.2.2.2.2.2.2.1).trans (hF11.2.2.2.2.2.2.2.2.2.2.1), (hf19.2.2.2.2.2.2.2.2.2.2.2.2.2.2.2.1).trans (hF11.2.2.2.2.2.2.2.2.2.2.2.1), (hf19.2.2.2.2.2.2.2.2.2.2.2.2.2.2.2.2.1).trans (hF11.2.2.2.2.2.2.2.2.2.2.2.2.1), (hf19.2.2.2.2.2.2.2.2.2.2.2.2.2.2.2.2.2.1).trans (hF11.2.2.2.2.2.2.2.2.2.2.2.2.2.1), (hf19.2.2.2.2.2.2.2.2.2.2.2.2.2.2.2.2.2.2.1).trans (hF11.2.2.2.2.2.2.2.2.2.2.2.2.2.2.1), (hf19.2.2.2.2.2.2.2.2.2.2.2.2.2.2.2.2.2.2.2.1).trans (hF11.2.2.2.2.2.2.2.2.2.2.2.2.2.2.2.1), (hf19.2.2.2.2.2.2.2.2.2.2.2.2.2.2.2.2.2.2.2.2.1).trans (hF11.2.2.2.2.2.2.2.2.2.2.2.2.2.2.2.2.1), (hf19.2.2.2.2.2.2.2.2.2.2.2.2.2.2.2.2.2.2.2.2.2.1).trans (hF11.2.2.2.2.2.2.2.2.2.2.2.2.2.2.2.2.2.1), (hf19.2.2.2.2.2.2.2.2.2.2.2.2.2.2.2.2.2.2.2.2.2.2.1).trans (hF11.2.2.2.2.2.2.2.2.2.2.2.2.2.2.2.2.2.2.1), (hf19.2.2.2.2.2.2.2.2.2.2.2.2.2.2.2.2.2.2.2.2.2.2.2.1).trans (hF11.2.2.2.2.2.2.2.2.2.2.2.2.2.2.2.2.2.2.2.1), (hf19.2.2.2.2.2.2.2.2.2.2.2.2.2.2.2.2.2.2.2.2.2.2.2.2.1).trans (hF11.2.2.2.2.2.2.2.2.2.2.2.2.2.2.2.2.2.2.2.2.1), (hf19.2.2.2.2.2.2.2.2.2.2.2.2.2.2.2.2.2.2.2.2.2.2.2.2.2.1).trans (hF11.2.2.2.2.2.2.2.2.2.2.2.2.2.2.2.2.2.2.2.2.2.1), (hf19.2.2.2.2.2.2.2.2.2.2.2.2.2.2.2.2.2.2.2.2.2.2.2.2.2.2.1).trans (hF11.2.2.2.2.2.2.2.2.2.2.2.2.2.2.2.2.2.2.2.2.2.2.1), (hf19.2.2.2.2.2.2.2.2.2.2.2.2.2.2.2.2.2.2.2.2.2.2.2.2.2.2.2.1).trans (hF11.2.2.2.2.2.2.2.2.2.2.2.2.2.2.2.2.2.2.2.2.2.2.2.1), (hf19.2.2.2.2.2.2.2.2.2.2.2.2.2.2.2.2.2.2.2.2.2.2.2.2.2.2.2.2.1).trans (hF11.2.2.2.2.2.2.2.2.2.2.2.2.2.2.2.2.2.2.2.2.2.2.2.2.1), (hf19.2.2.2.2.2.2.2.2.2.2.2.2.2.2.2.2.2.2.2.2.2.2.2.2.2.2.2.2.2.1).trans (hF11.2.2.2.2.2.2.2.2.2.2.2.2.2.2.2.2.2.2.2.2.2.2.2.2.2.1), (hf19.2.2.2.2.2.2.2.2.2.2.2.2.2.2.2.2.2.2.2.2.2.2.2.2.2.2.2.2.2.2.1).trans (hF11.2.2.2.2.2.2.2.2.2.2.2.2.2.2.2.2.2.2.2.2.2.2.2.2.2.2.1), (hf19.2.2.2.2.2.2.2.2.2.2.2.2.2.2.2.2.2.2.2.2.2.2.2.2.2.2.2.2.2.2.2.1).trans (hF11.2.2.2.2.2.2.2.2.2.2.2.2.2.2.2.2.2.2.2.2.2.2.2.2.2.2.2.1), (hf19.2.2.2.2.2.2.2.2.2.2.2.2.2.2.2.2.2.2.2.2.2.2.2.2.2.2.2.2.2.2.2.2.1).trans (hF11.2.2.2.2.2.2.2.2.2.2.2.2.2.2.2.2.2.2.2.2.2.2.2.2.2.2.2.2.1), (hf19.2.2.2.2.2.2.2.2.2.2.2.2.2.2.2.2.2.2.2.2.2.2.2.2.2.2.2.2.2.2.2.2.2.1).trans (hF11.2.2.2.2.2.2.2.2.2.2.2.2.2.2.2.2.2.2.2.2.2.2.2.2.2.2.2.2.2.1), (hf19.2.2.2.2.2.2.2.2.2.2.2.2.2.2.2.2.2.2.2.2.2.2.2.2.2.2.2.2.2.2.2.2.2.2.1).trans (hF11.2.2.2.2.2.2.2.2.2.2.2.2.2.2.2.2.2.2.2.2.2.2.2.2.2.2.2.2.2.2.1), (hf19.2.2.2.2.2.2.2.2.2.2.2.2.2.2.2.2.2.2.2.2.2.2.2.2.2.2.2.2.2.2.2.2.2.2.2.1).trans (hF11.2.2.2.2.2.2.2.2.2.2.2.2.2.2.2.2.2.2.2.2.2.2.2.2.2.2.2.2.2.2.2.1), (hf19.2.2.2.2.2.2.2.2.2.2.2.2.2.2.2.2.2.2.2.2.2.2.2.2.2.2.2.2.2.2.2.2.2.2.2.2.1).trans (hF11.2.2.2.2.2.2.2.2.2.2.2.2.2.2.2.2.2.2.2.2.2.2.2.2.2.2.2.2.2.2.2.2.1), (hf19.2.2.2.2.2.2.2.2.2.2.2.2.2.2.2.2.2.2.2.2.2.2.2.2.2.2.2.2.2.2.2.2.2.2.2.2.2.1).trans (hF11.2.2.2.2.2.2.2.2.2.2.2.2.2.2.2.2.2.2.2.2.2.2.2.2.2.2.2.2.2.2.2.2.2.1), (hf19.2.2.2.2.2.2.2.2.2.2.2.2.2.2.2.2.2.2.2.2.2.2.2.2.2.2.2.2.2.2.2.2.2.2.2.2.2.2.1).trans (hF11.2.2.2.2.2.2.2.2.2.2.2.2.2.2.2.2.2.2.2.2.2.2.2.2.2.2.2.2.2.2.2.2.2.2.1), (hf19.2.2.2.2.2.2.2.2.2.2.2.2.2.2.2.2.2.2.2.2.2.2.2.2.2.2.2.2.2.2.2.2.2.2.2.2.2.2.2.1).trans (hF11.2.2.2.2.2.2.2.2.2.2.2.2.2.2.2.2.2.2.2.2.2.2.2.2.2.2.2.2.2.2.2.2.2.2.2.1), (hf19.2.2.2.2.2.2.2.2.2.2.2.2.2.2.2.2.2.2.2.2.2.2.2.2.2.2.2.2.2.2.2.2.2.2.2.2.2.2.2.2.1).trans (hF11.2.2.2.2.2.2.2.2.2.2.2.2.2.2.2.2.2.2.2.2.2.2.2.2.2.2.2.2.2.2.2.2.2.2.2.2.1), (hf19.2.2.2.2.2.2.2.2.2.2.2.2.2.2.2.2.2.2.2.2.2.2.2.2.2.2.2.2.2.2.2.2.2.2.2.2.2.2.2.2.2).trans (hF11.2.2.2.2.2.2.2.2.2.2.2.2.2.2.2.2.2.2.2.2.2.2.2.2.2.2.2.2.2.2.2.2.2.2.2.2.2)⟩ (by rw [show b9g_isLaid u19 = b9g_isLaid u11 from hf19.2.2.2.2.2.2.2.2.2.2.2.2.1]; exact il) (fun h => absurd h (by omega)) (fun o _ => ⟨_, _, h20 b.2.2, ?_, ?_⟩)
    · have q := hB o il p0 p8 (by omega)
      rw [h16] at q
      exact q.2.2.1
    · have q := hB o il p0 p8 (by omega)
      rw [h16] at q
      exact q.2.2.2
  · simp only [pn] at d h14; omega
def F_X9_spread (S u : bT9) : Prop := (b9g_now u) = (b9g_now S) ∧ (b9g_keys u) = (b9g_keys S) ∧ (b9g_lengths u) = (b9g_lengths S) ∧ (b9g_drawn u) = (b9g_drawn S) ∧ (b9g_drawnLength u) = (b9g_drawnLength S) ∧ (b9g_tape u) = (b9g_tape S) ∧ (b9g_taped u) = (b9g_taped S) ∧ (b9g_names u) = (b9g_names S) ∧ (b9g_chosen u) = (b9g_chosen S) ∧ (b9g_nodeLevel u) = (b9g_nodeLevel S) ∧ (b9g_nodeLeaf u) = (b9g_nodeLeaf S) ∧ (b9g_nodeLeaves u) = (b9g_nodeLeaves S) ∧ (b9g_nodeMany u) = (b9g_nodeMany S) ∧ (b9g_levelMany u) = (b9g_levelMany S) ∧ (b9g_upper u) = (b9g_upper S) ∧ (b9g_upperNodes u) = (b9g_upperNodes S) ∧ (b9g_areNodesLaid u) = (b9g_areNodesLaid S) ∧ (b9g_itemNode u) = (b9g_itemNode S) ∧ (b9g_itemByte u) = (b9g_itemByte S) ∧ (b9g_itemChild u) = (b9g_itemChild S) ∧ (b9g_itemMany u) = (b9g_itemMany S) ∧ (b9g_placeOf u) = (b9g_placeOf S) ∧ (b9g_leafOfPlace u) = (b9g_leafOfPlace S) ∧ (b9g_places u) = (b9g_places S) ∧ (b9g_fromKey u) = (b9g_fromKey S) ∧ (b9g_toKey u) = (b9g_toKey S) ∧ (b9g_fromLength u) = (b9g_fromLength S) ∧ (b9g_toLength u) = (b9g_toLength S) ∧ (b9g_ones u) = (b9g_ones S) ∧ (b9g_oneMany u) = (b9g_oneMany S) ∧ (b9g_rowLong u) = (b9g_rowLong S) ∧ (b9g_laidFor u) = (b9g_laidFor S) ∧ (b9g_signs u) = (b9g_signs S) ∧ (b9g_signMany u) = (b9g_signMany S) ∧ (b9g_hasImage u) = (b9g_hasImage S) ∧ (b9g_images u) = (b9g_images S) ∧ (b9g_keyImages u) = (b9g_keyImages S) ∧ (b9g_lengthImages u) = (b9g_lengthImages S)
theorem sf_X9_spread {S : bT9} (hJ : J9 S) {a1 : Int32} {a2 : Int32} {a3 : Int32} {a4 : Int32} {Q : Int32 → (bT9) → Prop} (hq : ∀ (r : Int32) (u : bT9), (J9 u) → F_X9_spread S u → ((SR9 S ∧ CLN (fun j => b9g_keys S (64 + j)) (fun j => b9g_lengths S (64 + j)) (b9g_now S 9).toInt) → (((1 ≤ a3.toInt ∧ a3.toInt ≤ 7) ∧ 0 ≤ a4.toInt ∧ a4.toInt ≤ 2) → SPO (fun c => MAY (fun j => b9g_keys S (64 + j)) (fun j => b9g_lengths S (64 + j)) (b9g_now S 9).toInt (NBT (b9g_now S)) (b9g_now S 16) (HBT (b9g_now S)) (SPK (KEY a1 a2 a3) a3 c) (a3 + 1) 1) (fun c => VRD (fun j => b9g_keys S (64 + j)) (fun j => b9g_lengths S (64 + j)) (b9g_now S 9).toInt (NBT (b9g_now S)) (b9g_now S 16) (HBT (b9g_now S)) (SPK (KEY a1 a2 a3) a3 c) (a3 + 1) 2) a4.toInt r.toInt) ∧ (¬ ((1 ≤ a3.toInt ∧ a3.toInt ≤ 7) ∧ 0 ≤ a4.toInt ∧ a4.toInt ≤ 2) → r.toInt = -1)) → Q r u) : wp_X9_spread S a1 a2 a3 a4 Q := by
  unfold wp_X9_spread
  intro S1 e1
  have hJ1 : J9 S1 := by rw [e1]; exact J9s_told hJ
  have hF1 : F_X9_spread S S1 := by rw [e1]; exact ⟨rfl, rfl, rfl, rfl, rfl, rfl, rfl, rfl, rfl, rfl, rfl, rfl, rfl, rfl, rfl, rfl, rfl, rfl, rfl, rfl, rfl, rfl, rfl, rfl, rfl, rfl, rfl, rfl, rfl, rfl, rfl, rfl, rfl, rfl, rfl, rfl, rfl, rfl⟩
  have e255 : ((255 : Int32)).toInt = 255 := rfl
  have bad : ¬ ((1 ≤ a3.toInt ∧ a3.toInt ≤ 7) ∧ 0 ≤ a4.toInt ∧ a4.toInt ≤ 2) → Q (-1) S1 := fun h => hq _ _ hJ1 hF1 (fun _ => ⟨fun g => absurd g h, fun _ => rfl⟩)
  refine sf_X9_isIn hJ1.1 (fun r9 z9 h9 => ⟨fun c => bad ?_, fun c => sf_X9_isIn hJ1.1 (fun r11 z11 h11 => ⟨fun d => ?_, fun d => bad ?_⟩)⟩)
  · simp only [pn] at c h9; omega
  rotate_left
  · simp only [pn] at d h11; omega
  simp only [pn] at c d h9 h11
  have ok : (1 ≤ a3.toInt ∧ a3.toInt ≤ 7) ∧ 0 ≤ a4.toInt ∧ a4.toInt ≤ 2 := by omega
  have a3' : (a3 + 1).toInt = a3.toInt + 1 := by rw [pt_add (by rw [pl_1]; omega) (by rw [pl_1]; omega), pl_1]
  unfold wp_X9_spread_43
  refine ⟨fun n x1 x2 x3 x4 x5 x6 x7 x8 V => x1 = a1 ∧ x2 = a2 ∧ x3 = a3 ∧ x4 = a4 ∧ -1 ≤ x8.toInt ∧ x8.toInt ≤ 255 ∧ 0 ≤ x5.toInt ∧ x5.toInt ≤ 255 - x8.toInt ∧ 0 ≤ x6.toInt ∧ x6.toInt ≤ 255 - x8.toInt ∧ J9 V ∧ F_X9_spread S V ∧ ((SR9 S ∧ CLN (fun j => b9g_keys S (64 + j)) (fun j => b9g_lengths S (64 + j)) (b9g_now S 9).toInt) → x5.toInt + CTP (fun c => (MAY (fun j => b9g_keys S (64 + j)) (fun j => b9g_lengths S (64 + j)) (b9g_now S 9).toInt (NBT (b9g_now S)) (b9g_now S 16) (HBT (b9g_now S)) (SPK (KEY a1 a2 a3) a3 c) (a3 + 1) 1)) (x8.toInt + 1).toNat = CTP (fun c => (MAY (fun j => b9g_keys S (64 + j)) (fun j => b9g_lengths S (64 + j)) (b9g_now S 9).toInt (NBT (b9g_now S)) (b9g_now S 16) (HBT (b9g_now S)) (SPK (KEY a1 a2 a3) a3 c) (a3 + 1) 1)) 256 ∧ x6.toInt + CTP (fun c => (VRD (fun j => b9g_keys S (64 + j)) (fun j => b9g_lengths S (64 + j)) (b9g_now S 9).toInt (NBT (b9g_now S)) (b9g_now S 16) (HBT (b9g_now S)) (SPK (KEY a1 a2 a3) a3 c) (a3 + 1) 2)) (x8.toInt + 1).toNat = CTP (fun c => (VRD (fun j => b9g_keys S (64 + j)) (fun j => b9g_lengths S (64 + j)) (b9g_now S 9).toInt (NBT (b9g_now S)) (b9g_now S 16) (HBT (b9g_now S)) (SPK (KEY a1 a2 a3) a3 c) (a3 + 1) 2)) 256 ∧ (((x7).toInt = -1 ∧ ∀ c : Nat, c < 256 → (x8).toInt < (c : Int) → ¬ (MAY (fun j => b9g_keys S (64 + j)) (fun j => b9g_lengths S (64 + j)) (b9g_now S 9).toInt (NBT (b9g_now S)) (b9g_now S 16) (HBT (b9g_now S)) (SPK (KEY a1 a2 a3) a3 c) (a3 + 1) 1)) ∨ ((x8).toInt < (x7).toInt ∧ 0 ≤ (x7).toInt ∧ (x7).toInt < 256 ∧ (∀ c : Nat, (c : Int) = (x7).toInt → (MAY (fun j => b9g_keys S (64 + j)) (fun j => b9g_lengths S (64 + j)) (b9g_now S 9).toInt (NBT (b9g_now S)) (b9g_now S 16) (HBT (b9g_now S)) (SPK (KEY a1 a2 a3) a3 c) (a3 + 1) 1)) ∧ ∀ c : Nat, (x8).toInt < (c : Int) → (c : Int) < (x7).toInt → ¬ (MAY (fun j => b9g_keys S (64 + j)) (fun j => b9g_lengths S (64 + j)) (b9g_now S 9).toInt (NBT (b9g_now S)) (b9g_now S 16) (HBT (b9g_now S)) (SPK (KEY a1 a2 a3) a3 c) (a3 + 1) 1)))) ∧ n = (x8.toInt + 1).toNat, ⟨_, rfl, rfl, rfl, rfl, by decide, by decide, by decide, by decide, by decide, by decide, hJ1, hF1, fun _ => ⟨?_, ?_, Or.inl ⟨rfl, fun c hc h => by rw [e255] at h; omega⟩⟩, rfl⟩, ?_⟩
  · rw [e255, pl_0, show ((255 : Int) + 1).toNat = 256 from rfl, Int.zero_add]
  · rw [e255, pl_0, show ((255 : Int) + 1).toNat = 256 from rfl, Int.zero_add]
  rintro n x1 x2 x3 x4 x5 x6 x7 x8 V ⟨e1', e2, e3, e4, h0, h1, p0, p1, q0, q1, hJV, hFV, hI, hn⟩
  have nV : b9g_now V = b9g_now S := hFV.1
  have kV : b9g_keys V = b9g_keys S := hFV.2.1
  have lV : b9g_lengths V = b9g_lengths S := hFV.2.2.1
  unfold wp_X9_spread_43b
  rw [e1', e2, e3, e4]
  refine ⟨fun g => ?_, fun g => ?_⟩
  · simp only [pn] at g
    have ex : (x8.toInt + 1).toNat = 0 := by omega
    have fin : ∀ r : Int32, ((SR9 S ∧ CLN (fun j => b9g_keys S (64 + j)) (fun j => b9g_lengths S (64 + j)) (b9g_now S 9).toInt) → SPO (fun c => (MAY (fun j => b9g_keys S (64 + j)) (fun j => b9g_lengths S (64 + j)) (b9g_now S 9).toInt (NBT (b9g_now S)) (b9g_now S 16) (HBT (b9g_now S)) (SPK (KEY a1 a2 a3) a3 c) (a3 + 1) 1)) (fun c => (VRD (fun j => b9g_keys S (64 + j)) (fun j => b9g_lengths S (64 + j)) (b9g_now S 9).toInt (NBT (b9g_now S)) (b9g_now S 16) (HBT (b9g_now S)) (SPK (KEY a1 a2 a3) a3 c) (a3 + 1) 2)) a4.toInt r.toInt) → Q r V := fun r hr => hq _ _ hJV hFV (fun o => ⟨fun _ => hr o, fun h => absurd ok h⟩)
    refine ⟨fun k => ⟨fun l => fin _ (fun o => ?_), fun l => fin _ (fun o => ?_)⟩, fun k => fin _ (fun o => ?_)⟩
    · simp only [pn] at k l
      obtain ⟨i1, i2, i3⟩ := hI o
      refine ⟨fun h => by omega, fun h => by omega, fun _ => ?_⟩
      rcases i3 with ⟨u, v⟩ | ⟨u0, u, v, w, y⟩
      · exact Or.inl ⟨u, fun c hc => v c hc (by omega)⟩
      · exact Or.inr ⟨u, v, w, fun c hc => y c (by omega) hc⟩
    · simp only [pn] at k l
      obtain ⟨i1, i2, i3⟩ := hI o
      rw [ex] at i2
      exact ⟨fun h => by omega, fun h => by rw [← i2]; exact (Int.add_zero _).symm, fun h => by omega⟩
    · simp only [pn] at k
      obtain ⟨i1, i2, i3⟩ := hI o
      rw [ex] at i1
      exact ⟨fun h => by rw [← i1]; exact (Int.add_zero _).symm, fun h => by omega, fun h => by omega⟩
  simp only [pn] at g
  have h0' : 0 ≤ x8.toInt := by omega
  have x8' : (x8 + -1).toInt = x8.toInt - 1 := by rw [pt_add (by rw [pl_m1]; omega) (by rw [pl_m1]; omega), pl_m1]; omega
  obtain ⟨y8, hy⟩ : ∃ y : Int32, x8 + (-1 : Int32) = y := ⟨_, rfl⟩
  rw [hy] at x8'
  have x5' : (x5 + 1).toInt = x5.toInt + 1 := by rw [pt_add (by rw [pl_1]; omega) (by rw [pl_1]; omega), pl_1]
  have x6' : (x6 + 1).toInt = x6.toInt + 1 := by rw [pt_add (by rw [pl_1]; omega) (by rw [pl_1]; omega), pl_1]
  have s1 : (x8.toInt + 1).toNat = x8.toInt.toNat + 1 := by omega
  have s2 : (y8.toInt + 1).toNat = x8.toInt.toNat := by omega
  rw [s1] at hI
  refine sf_X9_keyOf hJV.1 (fun r1 k1 => ?_)
  intro v3 e3'
  have ek : v3 = SPK (KEY a1 a2 a3) a3 x8.toInt.toNat := by
    rw [e3', k1]
    unfold SPK
    rw [nI_back h0']
  rw [ek]
  refine sf_X9_mayNow hJV (fun r4 u5 hJ5 hf5 z4 hM => ?_)
  have hF5 : F_X9_spread S u5 := ⟨(hf5.2.1).trans (hFV.1), (hf5.2.2.1).trans (hFV.2.1), (hf5.2.2.2.1).trans (hFV.2.2.1), (hf5.2.2.2.2.1).trans (hFV.2.2.2.1), (hf5.2.2.2.2.2.1).trans (hFV.2.2.2.2.1), (hf5.2.2.2.2.2.2.1).trans (hFV.2.2.2.2.2.1), (hf5.2.2.2.2.2.2.2.1).trans (hFV.2.2.2.2.2.2.1), (hf5.2.2.2.2.2.2.2.2.1).trans (hFV.2.2.2.2.2.2.2.1), (hf5.2.2.2.2.2.2.2.2.2.1).trans (hFV.2.2.2.2.2.2.2.2.1), (hf5.2.2.2.2.2.2.2.2.2.2.1).trans (hFV.2.2.2.2.2.2.2.2.2.1), (hf5.2.2.2.2.2.2.2.2.2.2.2.1).trans (hFV.2.2.2.2.2.2.2.2.2.2.1), (hf5.2.2.2.2.2.2.2.2.2.2.2.2.1).trans (hFV.2.2.2.2.2.2.2.2.2.2.2.1), (hf5.2.2.2.2.2.2.2.2.2.2.2.2.2.1).trans (hFV.2.2.2.2.2.2.2.2.2.2.2.2.1), (hf5.2.2.2.2.2.2.2.2.2.2.2.2.2.2.1).trans (hFV.2.2.2.2.2.2.2.2.2.2.2.2.2.1), (hf5.2.2.2.2.2.2.2.2.2.2.2.2.2.2.2.1).trans (hFV.2.2.2.2.2.2.2.2.2.2.2.2.2.2.1), (hf5.2.2.2.2.2.2.2.2.2.2.2.2.2.2.2.2.1).trans (hFV.2.2.2.2.2.2.2.2.2.2.2.2.2.2.2.1), (hf5.2.2.2.2.2.2.2.2.2.2.2.2.2.2.2.2.2.1).trans (hFV.2.2.2.2.2.2.2.2.2.2.2.2.2.2.2.2.1), (hf5.2.2.2.2.2.2.2.2.2.2.2.2.2.2.2.2.2.2.1).trans (hFV.2.2.2.2.2.2.2.2.2.2.2.2.2.2.2.2.2.1), (hf5.2.2.2.2.2.2.2.2.2.2.2.2.2.2.2.2.2.2.2.1).trans (hFV.2.2.2.2.2.2.2.2.2.2.2.2.2.2.2.2.2.2.1), (hf5.2.2.2.2.2.2.2.2.2.2.2.2.2.2.2.2.2.2.2.2.1).trans (hFV.2.2.2.2.2.2.2.2.2.2.2.2.2.2.2.2.2.2.2.1), (hf5.2.2.2.2.2.2.2.2.2.2.2.2.2.2.2.2.2.2.2.2.2.1).trans (hFV.2.2.2.2.2.2.2.2.2.2.2.2.2.2.2.2.2.2.2.2.1), (hf5.2.2.2.2.2.2.2.2.2.2.2.2.2.2.2.2.2.2.2.2.2.2.1).trans (hFV.2.2.2.2.2.2.2.2.2.2.2.2.2.2.2.2.2.2.2.2.2.1), (hf5.2.2.2.2.2.2.2.2.2.2.2.2.2.2.2.2.2.2.2.2.2.2.2.1).trans (hFV.2.2.2.2.2.2.2.2.2.2.2.2.2.2.2.2.2.2.2.2.2.2.1), (hf5.2.2.2.2.2.2.2.2.2.2.2.2.2.2.2.2.2.2.2.2.2.2.2.2.1).trans (hFV.2.2.2.2.2.2.2.2.2.2.2.2.2.2.2.2.2.2.2.2.2.2.2.1), (hf5.2.2.2.2.2.2.2.2.2.2.2.2.2.2.2.2.2.2.2.2.2.2.2.2.2.1).trans (hFV.2.2.2.2.2.2.2.2.2.2.2.2.2.2.2.2.2.2.2.2.2.2.2.2.1), (hf5.2.2.2.2.2.2.2.2.2.2.2.2.2.2.2.2.2.2.2.2.2.2.2.2.2.2.1).trans (hFV.2.2.2.2.2.2.2.2.2.2.2.2.2.2.2.2.2.2.2.2.2.2.2.2.2.1), (hf5.2.2.2.2.2.2.2.2.2.2.2.2.2.2.2.2.2.2.2.2.2.2.2.2.2.2.2.1).trans (hFV.2.2.2.2.2.2.2.2.2.2.2.2.2.2.2.2.2.2.2.2.2.2.2.2.2.2.1), (hf5.2.2.2.2.2.2.2.2.2.2.2.2.2.2.2.2.2.2.2.2.2.2.2.2.2.2.2.2.1).trans (hFV.2.2.2.2.2.2.2.2.2.2.2.2.2.2.2.2.2.2.2.2.2.2.2.2.2.2.2.1), (hf5.2.2.2.2.2.2.2.2.2.2.2.2.2.2.2.2.2.2.2.2.2.2.2.2.2.2.2.2.2.1).trans (hFV.2.2.2.2.2.2.2.2.2.2.2.2.2.2.2.2.2.2.2.2.2.2.2.2.2.2.2.2.1), (hf5.2.2.2.2.2.2.2.2.2.2.2.2.2.2.2.2.2.2.2.2.2.2.2.2.2.2.2.2.2.2.1).trans (hFV.2.2.2.2.2.2.2.2.2.2.2.2.2.2.2.2.2.2.2.2.2.2.2.2.2.2.2.2.2.1), (hf5.2.2.2.2.2.2.2.2.2.2.2.2.2.2.2.2.2.2.2.2.2.2.2.2.2.2.2.2.2.2.2.1).trans (hFV.2.2.2.2.2.2.2.2.2.2.2.2.2.2.2.2.2.2.2.2.2.2.2.2.2.2.2.2.2.2.1), (hf5.2.2.2.2.2.2.2.2.2.2.2.2.2.2.2.2.2.2.2.2.2.2.2.2.2.2.2.2.2.2.2.2.1).trans (hFV.2.2.2.2.2.2.2.2.2.2.2.2.2.2.2.2.2.2.2.2.2.2.2.2.2.2.2.2.2.2.2.1), (hf5.2.2.2.2.2.2.2.2.2.2.2.2.2.2.2.2.2.2.2.2.2.2.2.2.2.2.2.2.2.2.2.2.2.1).trans (hFV.2.2.2.2.2.2.2.2.2.2.2.2.2.2.2.2.2.2.2.2.2.2.2.2.2.2.2.2.2.2.2.2.1), (hf5.2.2.2.2.2.2.2.2.2.2.2.2.2.2.2.2.2.2.2.2.2.2.2.2.2.2.2.2.2.2.2.2.2.2.1).trans (hFV.2.2.2.2.2.2.2.2.2.2.2.2.2.2.2.2.2.2.2.2.2.2.2.2.2.2.2.2.2.2.2.2.2.1), (hf5.2.2.2.2.2.2.2.2.2.2.2.2.2.2.2.2.2.2.2.2.2.2.2.2.2.2.2.2.2.2.2.2.2.2.2.1).trans (hFV.2.2.2.2.2.2.2.2.2.2.2.2.2.2.2.2.2.2.2.2.2.2.2.2.2.2.2.2.2.2.2.2.2.2.1), (hf5.2.2.2.2.2.2.2.2.2.2.2.2.2.2.2.2.2.2.2.2.2.2.2.2.2.2.2.2.2.2.2.2.2.2.2.2.1).trans (hFV.2.2.2.2.2.2.2.2.2.2.2.2.2.2.2.2.2.2.2.2.2.2.2.2.2.2.2.2.2.2.2.2.2.2.2.1), (hf5.2.2.2.2.2.2.2.2.2.2.2.2.2.2.2.2.2.2.2.2.2.2.2.2.2.2.2.2.2.2.2.2.2.2.2.2.2.1).trans (hFV.2.2.2.2.2.2.2.2.2.2.2.2.2.2.2.2.2.2.2.2.2.2.2.2.2.2.2.2.2.2.2.2.2.2.2.2.1), (hf5.2.2.2.2.2.2.2.2.2.2.2.2.2.2.2.2.2.2.2.2.2.2.2.2.2.2.2.2.2.2.2.2.2.2.2.2.2.2).trans (hFV.2.2.2.2.2.2.2.2.2.2.2.2.2.2.2.2.2.2.2.2.2.2.2.2.2.2.2.2.2.2.2.2.2.2.2.2.2)⟩
  have n5 : b9g_now u5 = b9g_now S := hF5.1
  have k5 : b9g_keys u5 = b9g_keys S := hF5.2.1
  have l5 : b9g_lengths u5 = b9g_lengths S := hF5.2.2.1
  unfold SR9 at hM
  rw [kV, lV, nV] at hM
  have nb := NBT_rng (J9g_now hJ).2.2.2.2.2
  have step : ∀ y5 y6 y7 : Int32, 0 ≤ y5.toInt → y5.toInt ≤ 255 - y8.toInt → 0 ≤ y6.toInt → y6.toInt ≤ 255 - y8.toInt → ((SR9 S ∧ CLN (fun j => b9g_keys S (64 + j)) (fun j => b9g_lengths S (64 + j)) (b9g_now S 9).toInt) → y5.toInt + CTP (fun c => (MAY (fun j => b9g_keys S (64 + j)) (fun j => b9g_lengths S (64 + j)) (b9g_now S 9).toInt (NBT (b9g_now S)) (b9g_now S 16) (HBT (b9g_now S)) (SPK (KEY a1 a2 a3) a3 c) (a3 + 1) 1)) x8.toInt.toNat = CTP (fun c => (MAY (fun j => b9g_keys S (64 + j)) (fun j => b9g_lengths S (64 + j)) (b9g_now S 9).toInt (NBT (b9g_now S)) (b9g_now S 16) (HBT (b9g_now S)) (SPK (KEY a1 a2 a3) a3 c) (a3 + 1) 1)) 256 ∧ y6.toInt + CTP (fun c => (VRD (fun j => b9g_keys S (64 + j)) (fun j => b9g_lengths S (64 + j)) (b9g_now S 9).toInt (NBT (b9g_now S)) (b9g_now S 16) (HBT (b9g_now S)) (SPK (KEY a1 a2 a3) a3 c) (a3 + 1) 2)) x8.toInt.toNat = CTP (fun c => (VRD (fun j => b9g_keys S (64 + j)) (fun j => b9g_lengths S (64 + j)) (b9g_now S 9).toInt (NBT (b9g_now S)) (b9g_now S 16) (HBT (b9g_now S)) (SPK (KEY a1 a2 a3) a3 c) (a3 + 1) 2)) 256 ∧ (((y7).toInt = -1 ∧ ∀ c : Nat, c < 256 → (y8).toInt < (c : Int) → ¬ (MAY (fun j => b9g_keys S (64 + j)) (fun j => b9g_lengths S (64 + j)) (b9g_now S 9).toInt (NBT (b9g_now S)) (b9g_now S 16) (HBT (b9g_now S)) (SPK (KEY a1 a2 a3) a3 c) (a3 + 1) 1)) ∨ ((y8).toInt < (y7).toInt ∧ 0 ≤ (y7).toInt ∧ (y7).toInt < 256 ∧ (∀ c : Nat, (c : Int) = (y7).toInt → (MAY (fun j => b9g_keys S (64 + j)) (fun j => b9g_lengths S (64 + j)) (b9g_now S 9).toInt (NBT (b9g_now S)) (b9g_now S 16) (HBT (b9g_now S)) (SPK (KEY a1 a2 a3) a3 c) (a3 + 1) 1)) ∧ ∀ c : Nat, (y8).toInt < (c : Int) → (c : Int) < (y7).toInt → ¬ (MAY (fun j => b9g_keys S (64 + j)) (fun j => b9g_lengths S (64 + j)) (b9g_now S 9).toInt (NBT (b9g_now S)) (b9g_now S 16) (HBT (b9g_now S)) (SPK (KEY a1 a2 a3) a3 c) (a3 + 1) 1)))) → wp_X9_spread_112 u5 a1 a2 a3 a4 y5 y6 y7 x8 Q (fun x1 x2 x3 x4 x5 x6 x7 x8 S_1 => ∃ n2 : Nat, n2 < n ∧ x1 = a1 ∧ x2 = a2 ∧ x3 = a3 ∧ x4 = a4 ∧ -1 ≤ x8.toInt ∧ x8.toInt ≤ 255 ∧ 0 ≤ x5.toInt ∧ x5.toInt ≤ 255 - x8.toInt ∧ 0 ≤ x6.toInt ∧ x6.toInt ≤ 255 - x8.toInt ∧ J9 S_1 ∧ F_X9_spread S S_1 ∧ ((SR9 S ∧ CLN (fun j => b9g_keys S (64 + j)) (fun j => b9g_lengths S (64 + j)) (b9g_now S 9).toInt) → x5.toInt + CTP (fun c => (MAY (fun j => b9g_keys S (64 + j)) (fun j => b9g_lengths S (64 + j)) (b9g_now S 9).toInt (NBT (b9g_now S)) (b9g_now S 16) (HBT (b9g_now S)) (SPK (KEY a1 a2 a3) a3 c) (a3 + 1) 1)) (x8.toInt + 1).toNat = CTP (fun c => (MAY (fun j => b9g_keys S (64 + j)) (fun j => b9g_lengths S (64 + j)) (b9g_now S 9).toInt (NBT (b9g_now S)) (b9g_now S 16) (HBT (b9g_now S)) (SPK (KEY a1 a2 a3) a3 c) (a3 + 1) 1)) 256 ∧ x6.toInt + CTP (fun c => (VRD (fun j => b9g_keys S (64 + j)) (fun j => b9g_lengths S (64 + j)) (b9g_now S 9).toInt (NBT (b9g_now S)) (b9g_now S 16) (HBT (b9g_now S)) (SPK (KEY a1 a2 a3) a3 c) (a3 + 1) 2)) (x8.toInt + 1).toNat = CTP (fun c => (VRD (fun j => b9g_keys S (64 + j)) (fun j => b9g_lengths S (64 + j)) (b9g_now S 9).toInt (NBT (b9g_now S)) (b9g_now S 16) (HBT (b9g_now S)) (SPK (KEY a1 a2 a3) a3 c) (a3 + 1) 2)) 256 ∧ (((x7).toInt = -1 ∧ ∀ c : Nat, c < 256 → (x8).toInt < (c : Int) → ¬ (MAY (fun j => b9g_keys S (64 + j)) (fun j => b9g_lengths S (64 + j)) (b9g_now S 9).toInt (NBT (b9g_now S)) (b9g_now S 16) (HBT (b9g_now S)) (SPK (KEY a1 a2 a3) a3 c) (a3 + 1) 1)) ∨ ((x8).toInt < (x7).toInt ∧ 0 ≤ (x7).toInt ∧ (x7).toInt < 256 ∧ (∀ c : Nat, (c : Int) = (x7).toInt → (MAY (fun j => b9g_keys S (64 + j)) (fun j => b9g_lengths S (64 + j)) (b9g_now S 9).toInt (NBT (b9g_now S)) (b9g_now S 16) (HBT (b9g_now S)) (SPK (KEY a1 a2 a3) a3 c) (a3 + 1) 1)) ∧ ∀ c : Nat, (x8).toInt < (c : Int) → (c : Int) < (x7).toInt → ¬ (MAY (fun j => b9g_keys S (64 + j)) (fun j => b9g_lengths S (64 + j)) (b9g_now S 9).toInt (NBT (b9g_now S)) (b9g_now S 16) (HBT (b9g_now S)) (SPK (KEY a1 a2 a3) a3 c) (a3 + 1) 1)))) ∧ n2 = (x8.toInt + 1).toNat) := by
    intro y5 y6 y7 b1 b2 b3 b4 hh
    unfold wp_X9_spread_112
    rw [hy]
    refine ⟨_, ?_, rfl, rfl, rfl, rfl, by omega, by omega, b1, b2, b3, b4, hJ5, hF5, fun o => ?_, rfl⟩
    · omega
    · rw [s2]
      exact hh o
  have ls : (SR9 S ∧ CLN (fun j => b9g_keys S (64 + j)) (fun j => b9g_lengths S (64 + j)) (b9g_now S 9).toInt) → (MAY (fun j => b9g_keys S (64 + j)) (fun j => b9g_lengths S (64 + j)) (b9g_now S 9).toInt (NBT (b9g_now S)) (b9g_now S 16) (HBT (b9g_now S)) (SPK (KEY a1 a2 a3) a3 x8.toInt.toNat) (a3 + 1) 1) → (((x8).toInt = -1 ∧ ∀ c : Nat, c < 256 → (y8).toInt < (c : Int) → ¬ (MAY (fun j => b9g_keys S (64 + j)) (fun j => b9g_lengths S (64 + j)) (b9g_now S 9).toInt (NBT (b9g_now S)) (b9g_now S 16) (HBT (b9g_now S)) (SPK (KEY a1 a2 a3) a3 c) (a3 + 1) 1)) ∨ ((y8).toInt < (x8).toInt ∧ 0 ≤ (x8).toInt ∧ (x8).toInt < 256 ∧ (∀ c : Nat, (c : Int) = (x8).toInt → (MAY (fun j => b9g_keys S (64 + j)) (fun j => b9g_lengths S (64 + j)) (b9g_now S 9).toInt (NBT (b9g_now S)) (b9g_now S 16) (HBT (b9g_now S)) (SPK (KEY a1 a2 a3) a3 c) (a3 + 1) 1)) ∧ ∀ c : Nat, (y8).toInt < (c : Int) → (c : Int) < (x8).toInt → ¬ (MAY (fun j => b9g_keys S (64 + j)) (fun j => b9g_lengths S (64 + j)) (b9g_now S 9).toInt (NBT (b9g_now S)) (b9g_now S 16) (HBT (b9g_now S)) (SPK (KEY a1 a2 a3) a3 c) (a3 + 1) 1))) := fun o m => Or.inr ⟨by omega, h0', by omega, fun c hc => by rw [show c = x8.toInt.toNat by omega]; exact m, fun c u v => by omega⟩
  have ym : ¬ r4 = 0 → (SR9 S ∧ CLN (fun j => b9g_keys S (64 + j)) (fun j => b9g_lengths S (64 + j)) (b9g_now S 9).toInt) → (MAY (fun j => b9g_keys S (64 + j)) (fun j => b9g_lengths S (64 + j)) (b9g_now S 9).toInt (NBT (b9g_now S)) (b9g_now S 16) (HBT (b9g_now S)) (SPK (KEY a1 a2 a3) a3 x8.toInt.toNat) (a3 + 1) 1) := by
    intro z o
    obtain ⟨a, b, q⟩ := hM o.1 (by omega) (by omega)
    rcases q with ⟨e, q⟩ | ⟨e, _⟩
    · exact ⟨a, b, Or.inl ⟨rfl, q⟩⟩
    · exact absurd (Int32.toInt_inj.mp (e.trans pl_0.symm)) z
  refine ⟨fun z => sf_X9_isOfFilter hJ5.1 (fun r6 z6 h6 => ?_), fun z => step x5 x6 x7 (by omega) (by omega) (by omega) (by omega) (fun o => ?_)⟩
  · unfold SR9 at h6
    rw [k5, l5, n5] at h6
    refine ⟨fun y => step (x5 + 1) x6 x8 (by omega) (by omega) (by omega) (by omega) (fun o => ?_), fun y => step (x5 + 1) (x6 + 1) x8 (by omega) (by omega) (by omega) (by omega) (fun o => ?_)⟩
    · obtain ⟨i1, i2, i3⟩ := hI o
      have m := ym z o
      have nv : ¬ (VRD (fun j => b9g_keys S (64 + j)) (fun j => b9g_lengths S (64 + j)) (b9g_now S 9).toInt (NBT (b9g_now S)) (b9g_now S 16) (HBT (b9g_now S)) (SPK (KEY a1 a2 a3) a3 x8.toInt.toNat) (a3 + 1) 2) := by
        intro hV
        rcases hV with ⟨e, _⟩ | ⟨e, _⟩ | ⟨_, _, e⟩
        · omega
        · omega
        · obtain ⟨j, hj, he⟩ := bl_y (h6 o.1) y
          exact e j hj he
      rw [CTP_y (P := fun c => (MAY (fun j => b9g_keys S (64 + j)) (fun j => b9g_lengths S (64 + j)) (b9g_now S 9).toInt (NBT (b9g_now S)) (b9g_now S 16) (HBT (b9g_now S)) (SPK (KEY a1 a2 a3) a3 c) (a3 + 1) 1)) m] at i1
      rw [CTP_n (P := fun c => (VRD (fun j => b9g_keys S (64 + j)) (fun j => b9g_lengths S (64 + j)) (b9g_now S 9).toInt (NBT (b9g_now S)) (b9g_now S 16) (HBT (b9g_now S)) (SPK (KEY a1 a2 a3) a3 c) (a3 + 1) 2)) nv] at i2
      exact ⟨by omega, i2, ls o m⟩
    · obtain ⟨i1, i2, i3⟩ := hI o
      have m := ym z o
      have v : (VRD (fun j => b9g_keys S (64 + j)) (fun j => b9g_lengths S (64 + j)) (b9g_now S 9).toInt (NBT (b9g_now S)) (b9g_now S 16) (HBT (b9g_now S)) (SPK (KEY a1 a2 a3) a3 x8.toInt.toNat) (a3 + 1) 2) := Or.inr (Or.inr ⟨rfl, m, fun j hj he => bl_n (h6 o.1) y ⟨j, hj, he⟩⟩)
      rw [CTP_y (P := fun c => (MAY (fun j => b9g_keys S (64 + j)) (fun j => b9g_lengths S (64 + j)) (b9g_now S 9).toInt (NBT (b9g_now S)) (b9g_now S 16) (HBT (b9g_now S)) (SPK (KEY a1 a2 a3) a3 c) (a3 + 1) 1)) m] at i1
      rw [CTP_y (P := fun c => (VRD (fun j => b9g_keys S (64 + j)) (fun j => b9g_lengths S (64 + j)) (b9g_now S 9).toInt (NBT (b9g_now S)) (b9g_now S 16) (HBT (b9g_now S)) (SPK (KEY a1 a2 a3) a3 c) (a3 + 1) 2)) v] at i2
      exact ⟨by omega, by omega, ls o m⟩
  · obtain ⟨i1, i2, i3⟩ := hI o
    have nm : ¬ (MAY (fun j => b9g_keys S (64 + j)) (fun j => b9g_lengths S (64 + j)) (b9g_now S 9).toInt (NBT (b9g_now S)) (b9g_now S 16) (HBT (b9g_now S)) (SPK (KEY a1 a2 a3) a3 x8.toInt.toNat) (a3 + 1) 1) := by
      intro h
      have q := MAY_one o.1 o.2 nb.1 nb.2 (hM o.1 (by omega) (by omega)) h
      rw [z, pl_0] at q
      omega
    have nv : ¬ (VRD (fun j => b9g_keys S (64 + j)) (fun j => b9g_lengths S (64 + j)) (b9g_now S 9).toInt (NBT (b9g_now S)) (b9g_now S 16) (HBT (b9g_now S)) (SPK (KEY a1 a2 a3) a3 x8.toInt.toNat) (a3 + 1) 2) := by
      intro hV
      rcases hV with ⟨e, _⟩ | ⟨e, _⟩ | ⟨_, m, _⟩
      · omega
      · omega
      · exact nm m
    rw [CTP_n (P := fun c => (MAY (fun j => b9g_keys S (64 + j)) (fun j => b9g_lengths S (64 + j)) (b9g_now S 9).toInt (NBT (b9g_now S)) (b9g_now S 16) (HBT (b9g_now S)) (SPK (KEY a1 a2 a3) a3 c) (a3 + 1) 1)) nm] at i1
    rw [CTP_n (P := fun c => (VRD (fun j => b9g_keys S (64 + j)) (fun j => b9g_lengths S (64 + j)) (b9g_now S 9).toInt (NBT (b9g_now S)) (b9g_now S 16) (HBT (b9g_now S)) (SPK (KEY a1 a2 a3) a3 c) (a3 + 1) 2)) nv] at i2
    refine ⟨i1, i2, ?_⟩
    have at8 : ∀ c : Nat, y8.toInt < (c : Int) → ¬ x8.toInt < (c : Int) → ¬ (MAY (fun j => b9g_keys S (64 + j)) (fun j => b9g_lengths S (64 + j)) (b9g_now S 9).toInt (NBT (b9g_now S)) (b9g_now S 16) (HBT (b9g_now S)) (SPK (KEY a1 a2 a3) a3 c) (a3 + 1) 1) := by
      intro c u v
      rw [show c = x8.toInt.toNat by omega]
      exact nm
    rcases i3 with ⟨u, v⟩ | ⟨u0, u, v, w, y⟩
    · refine Or.inl ⟨u, fun c hc h => ?_⟩
      by_cases k : x8.toInt < (c : Int)
      · exact v c hc k
      · exact at8 c h k
    · refine Or.inr ⟨by omega, u, v, w, fun c h hc => ?_⟩
      by_cases k : x8.toInt < (c : Int)
      · exact y c k hc
      · exact at8 c h k
