def F_X6_findNodes (S u : bT6 × bT1) : Prop := (b6g_edgeStarts u.1) = (b6g_edgeStarts S.1) ∧ (b6g_edgeNodes u.1) = (b6g_edgeNodes S.1) ∧ (b6g_edgeOctets u.1) = (b6g_edgeOctets S.1) ∧ (b6g_edgeLeaves u.1) = (b6g_edgeLeaves S.1) ∧ (b6g_edgeChildren u.1) = (b6g_edgeChildren S.1) ∧ (b6g_places u.1) = (b6g_places S.1) ∧ (b6g_leavesByPlace u.1) = (b6g_leavesByPlace S.1) ∧ (b6g_leafNodes u.1) = (b6g_leafNodes S.1) ∧ (b6g_edges u.1) = (b6g_edges S.1) ∧ (b6g_children u.1) = (b6g_children S.1) ∧ (b6g_upper u.1) = (b6g_upper S.1) ∧ (b6g_upperNodes u.1) = (b6g_upperNodes S.1) ∧ (b6g_itemStart u.1) = (b6g_itemStart S.1) ∧ u.2 = S.2
set_option maxRecDepth 20000 in
set_option maxHeartbeats 1000000 in
theorem sf_X6_findNodes {S : bT6 × bT1} (hJ : J6 S.1 ∧ J1 S.2) {Q : (bT6 × bT1) → Prop} (hq : ∀ u : bT6 × bT1, (J6 u.1 ∧ J1 u.2) → F_X6_findNodes S u → Q u) : wp_X6_findNodes S Q := by
  unfold wp_X6_findNodes
  have hFS : F_X6_findNodes S S := ⟨rfl, rfl, rfl, rfl, rfl, rfl, rfl, rfl, rfl, rfl, rfl, rfl, rfl, rfl⟩
  have jf1 := J6g_nodes hJ.1
  intro S1 eS1
  have hJS1 : J6 S1.1 ∧ J1 S1.2 := by rw [eS1]; exact ⟨(J6s_nodes hJ.1 ⟨(by (try simp (disch := first | ((try simp (disch := first | ((try simp only [pn]) <;> omega) | fail) only [pn, pq]) <;> omega) | fail) only [pn, pq]) <;> (intros; (try simp (disch := first | ((try simp (disch := first | ((try simp only [pn]) <;> omega) | fail) only [pn, pq]) <;> omega) | fail) only [pn, pq]) <;> omega)), (by (try simp (disch := first | ((try simp (disch := first | ((try simp only [pn]) <;> omega) | fail) only [pn, pq]) <;> omega) | fail) only [pn, pq]) <;> (intros; (try simp (disch := first | ((try simp (disch := first | ((try simp only [pn]) <;> omega) | fail) only [pn, pq]) <;> omega) | fail) only [pn, pq]) <;> omega))⟩), hJ.2⟩
  have hFS1 : F_X6_findNodes S S1 := by rw [eS1]; exact hFS
  have je2 : ((b6g_nodes S1.1)).toInt = ((0 : Int32)).toInt := by rw [eS1]
  try simp (disch := first | ((try simp (disch := first | ((try simp only [pn]) <;> omega) | fail) only [pn, pq]) <;> omega) | fail) only [pn, pq] at je2
  have jf3 := J6g_nodes hJS1.1
  intro S2 eS2
  have hJS2 : J6 S2.1 ∧ J1 S2.2 := by rw [eS2]; exact ⟨(J6s_levels hJS1.1 ⟨(by (try simp (disch := first | ((try simp (disch := first | ((try simp only [pn]) <;> omega) | fail) only [pn, pq]) <;> omega) | fail) only [pn, pq]) <;> (intros; (try simp (disch := first | ((try simp (disch := first | ((try simp only [pn]) <;> omega) | fail) only [pn, pq]) <;> omega) | fail) only [pn, pq]) <;> omega)), (by (try simp (disch := first | ((try simp (disch := first | ((try simp only [pn]) <;> omega) | fail) only [pn, pq]) <;> omega) | fail) only [pn, pq]) <;> (intros; (try simp (disch := first | ((try simp (disch := first | ((try simp only [pn]) <;> omega) | fail) only [pn, pq]) <;> omega) | fail) only [pn, pq]) <;> omega))⟩), hJS1.2⟩
  have hFS2 : F_X6_findNodes S S2 := by rw [eS2]; exact hFS1
  have je4 : ((b6g_nodes S2.1)).toInt = ((b6g_nodes S1.1)).toInt := by rw [eS2]
  have jf5 := J6g_nodes hJS2.1
  refine ⟨fun n x2q3 Sq3 => (J6 Sq3.1 ∧ J1 Sq3.2) ∧ (F_X6_findNodes S Sq3) ∧ (0 ≤ (x2q3).toInt) ∧ n = (8 + 1 - (x2q3).toInt).toNat, ⟨_, hJS2, hFS2, (by (try simp (disch := first | ((try simp (disch := first | ((try simp only [pn]) <;> omega) | fail) only [pn, pq]) <;> omega) | fail) only [pn, pq]) <;> (intros; (try simp (disch := first | ((try simp (disch := first | ((try simp only [pn]) <;> omega) | fail) only [pn, pq]) <;> omega) | fail) only [pn, pq]) <;> omega)), rfl⟩, ?_⟩
  rintro n4 x2q3 Sq3 ⟨hJSq3, hFSq3, hiq3_0, hn4⟩
  have rgx2q3 := pt_rg x2q3
  unfold wp_X6_findNodes_12b
  have jf6 := J6g_nodes hJSq3.1
  refine ⟨fun c5 => ?_, fun c5 => ?_⟩
  · try simp (disch := first | ((try simp (disch := first | ((try simp only [pn]) <;> omega) | fail) only [pn, pq]) <;> omega) | fail) only [pn, pq] at c5
    refine ⟨pt_in (by (try simp (disch := first | ((try simp (disch := first | ((try simp only [pn]) <;> omega) | fail) only [pn, pq]) <;> omega) | fail) only [pn, pq]) <;> (intros; (try simp (disch := first | ((try simp (disch := first | ((try simp only [pn]) <;> omega) | fail) only [pn, pq]) <;> omega) | fail) only [pn, pq]) <;> omega)) (by (try simp (disch := first | ((try simp (disch := first | ((try simp only [pn]) <;> omega) | fail) only [pn, pq]) <;> omega) | fail) only [pn, pq]) <;> (intros; (try simp (disch := first | ((try simp (disch := first | ((try simp only [pn]) <;> omega) | fail) only [pn, pq]) <;> omega) | fail) only [pn, pq]) <;> omega)), ?_⟩
    intro S6 eS6
    have hJS6 : J6 S6.1 ∧ J1 S6.2 := by rw [eS6]; exact ⟨(J6s_levelStarts hJSq3.1), hJSq3.2⟩
    have hFS6 : F_X6_findNodes S S6 := by rw [eS6]; exact hFSq3
    have je7 : ((b6g_nodes S6.1)).toInt = ((b6g_nodes Sq3.1)).toInt := by rw [eS6]
    have jf8 := J6g_nodes hJS6.1
    have ja9 : ((b6g_levelStarts S6.1) ((8 : Int32)).toNatClampNeg).toInt = ((b6g_nodes Sq3.1)).toInt := by rw [eS6]; exact pt_upds
    try simp (disch := first | ((try simp (disch := first | ((try simp only [pn]) <;> omega) | fail) only [pn, pq]) <;> omega) | fail) only [pn, pq] at ja9
    exact hq _ hJS6 hFS6 
  · try simp (disch := first | ((try simp (disch := first | ((try simp only [pn]) <;> omega) | fail) only [pn, pq]) <;> omega) | fail) only [pn, pq] at c5
    refine ⟨pt_in (by (try simp (disch := first | ((try simp (disch := first | ((try simp only [pn]) <;> omega) | fail) only [pn, pq]) <;> omega) | fail) only [pn, pq]) <;> (intros; (try simp (disch := first | ((try simp (disch := first | ((try simp only [pn]) <;> omega) | fail) only [pn, pq]) <;> omega) | fail) only [pn, pq]) <;> omega)) (by (try simp (disch := first | ((try simp (disch := first | ((try simp only [pn]) <;> omega) | fail) only [pn, pq]) <;> omega) | fail) only [pn, pq]) <;> (intros; (try simp (disch := first | ((try simp (disch := first | ((try simp only [pn]) <;> omega) | fail) only [pn, pq]) <;> omega) | fail) only [pn, pq]) <;> omega)), ?_⟩
    intro S7 eS7
    have hJS7 : J6 S7.1 ∧ J1 S7.2 := by rw [eS7]; exact ⟨(J6s_levelStarts hJSq3.1), hJSq3.2⟩
    have hFS7 : F_X6_findNodes S S7 := by rw [eS7]; exact hFSq3
    have je10 : ((b6g_nodes S7.1)).toInt = ((b6g_nodes Sq3.1)).toInt := by rw [eS7]
    have jf11 := J6g_nodes hJS7.1
    have ja12 : ((b6g_levelStarts S7.1) (x2q3).toNatClampNeg).toInt = ((b6g_nodes Sq3.1)).toInt := by rw [eS7]; exact pt_upds
    try simp (disch := first | ((try simp (disch := first | ((try simp only [pn]) <;> omega) | fail) only [pn, pq]) <;> omega) | fail) only [pn, pq] at ja12
    refine sf_X6_findNodesOf (S := S7) ⟨hJS7.1, hJS7.2⟩ (fun u9 hJu9 hfu9  => ?_)
    have hFu9 : F_X6_findNodes S u9 := ⟨(congrArg (fun z => z) hfu9.1).trans hFS7.1, (congrArg (fun z => z) hfu9.2.1).trans hFS7.2.1, (congrArg (fun z => z) hfu9.2.2.1).trans hFS7.2.2.1, (congrArg (fun z => z) hfu9.2.2.2.1).trans hFS7.2.2.2.1, (congrArg (fun z => z) hfu9.2.2.2.2.1).trans hFS7.2.2.2.2.1, (congrArg (fun z => z) hfu9.2.2.2.2.2.2.1).trans hFS7.2.2.2.2.2.1, (congrArg (fun z => z) hfu9.2.2.2.2.2.2.2.1).trans hFS7.2.2.2.2.2.2.1, (congrArg (fun z => z) hfu9.2.2.2.2.2.2.2.2.1).trans hFS7.2.2.2.2.2.2.2.1, (congrArg (fun z => z) hfu9.2.2.2.2.2.2.2.2.2.1).trans hFS7.2.2.2.2.2.2.2.2.1, (congrArg (fun z => z) hfu9.2.2.2.2.2.2.2.2.2.2.1).trans hFS7.2.2.2.2.2.2.2.2.2.1, (congrArg (fun z => z) hfu9.2.2.2.2.2.2.2.2.2.2.2.2.1).trans hFS7.2.2.2.2.2.2.2.2.2.2.1, (congrArg (fun z => z) hfu9.2.2.2.2.2.2.2.2.2.2.2.2.2.1).trans hFS7.2.2.2.2.2.2.2.2.2.2.2.1, (congrArg (fun z => z) hfu9.2.2.2.2.2.2.2.2.2.2.2.2.2.2.1).trans hFS7.2.2.2.2.2.2.2.2.2.2.2.2.1, (congrArg (fun z => z) hfu9.2.2.2.2.2.2.2.2.2.2.2.2.2.2.2).trans hFS7.2.2.2.2.2.2.2.2.2.2.2.2.2⟩
    have jf13 := J6g_nodes hJu9.1
    refine ⟨pt_in (by (try simp (disch := first | ((try simp (disch := first | ((try simp only [pn]) <;> omega) | fail) only [pn, pq]) <;> omega) | fail) only [pn, pq]) <;> (intros; (try simp (disch := first | ((try simp (disch := first | ((try simp only [pn]) <;> omega) | fail) only [pn, pq]) <;> omega) | fail) only [pn, pq]) <;> omega)) (by (try simp (disch := first | ((try simp (disch := first | ((try simp only [pn]) <;> omega) | fail) only [pn, pq]) <;> omega) | fail) only [pn, pq]) <;> (intros; (try simp (disch := first | ((try simp (disch := first | ((try simp only [pn]) <;> omega) | fail) only [pn, pq]) <;> omega) | fail) only [pn, pq]) <;> omega)), ?_⟩
    refine ⟨fun c10 => ?_, fun c10 => ?_⟩
    · try simp (disch := first | ((try simp (disch := first | ((try simp only [pn]) <;> omega) | fail) only [pn, pq]) <;> omega) | fail) only [pn, pq] at c10
      unfold wp_X6_findNodes_54
      refine ⟨_, ?_, ?_, ?_, ?_, rfl⟩
      · (try simp (disch := first | ((try simp (disch := first | ((try simp only [pn]) <;> omega) | fail) only [pn, pq]) <;> omega) | fail) only [pn, pq]) <;> (intros; (try simp (disch := first | ((try simp (disch := first | ((try simp only [pn]) <;> omega) | fail) only [pn, pq]) <;> omega) | fail) only [pn, pq]) <;> omega)
      · exact hJu9
      · exact hFu9
      · (try simp (disch := first | ((try simp (disch := first | ((try simp only [pn]) <;> omega) | fail) only [pn, pq]) <;> omega) | fail) only [pn, pq]) <;> (intros; (try simp (disch := first | ((try simp (disch := first | ((try simp only [pn]) <;> omega) | fail) only [pn, pq]) <;> omega) | fail) only [pn, pq]) <;> omega)
    · try simp (disch := first | ((try simp (disch := first | ((try simp only [pn]) <;> omega) | fail) only [pn, pq]) <;> omega) | fail) only [pn, pq] at c10
      intro S11 eS11
      have hJS11 : J6 S11.1 ∧ J1 S11.2 := by rw [eS11]; exact ⟨(J6s_levels hJu9.1 ⟨(by (try simp (disch := first | ((try simp (disch := first | ((try simp only [pn]) <;> omega) | fail) only [pn, pq]) <;> omega) | fail) only [pn, pq]) <;> (intros; (try simp (disch := first | ((try simp (disch := first | ((try simp only [pn]) <;> omega) | fail) only [pn, pq]) <;> omega) | fail) only [pn, pq]) <;> omega)), (by (try simp (disch := first | ((try simp (disch := first | ((try simp only [pn]) <;> omega) | fail) only [pn, pq]) <;> omega) | fail) only [pn, pq]) <;> (intros; (try simp (disch := first | ((try simp (disch := first | ((try simp only [pn]) <;> omega) | fail) only [pn, pq]) <;> omega) | fail) only [pn, pq]) <;> omega))⟩), hJu9.2⟩
      have hFS11 : F_X6_findNodes S S11 := by rw [eS11]; exact hFu9
      have je15 : ((b6g_nodes S11.1)).toInt = ((b6g_nodes u9.1)).toInt := by rw [eS11]
      have jf16 := J6g_nodes hJS11.1
      unfold wp_X6_findNodes_54
      refine ⟨_, ?_, ?_, ?_, ?_, rfl⟩
      · (try simp (disch := first | ((try simp (disch := first | ((try simp only [pn]) <;> omega) | fail) only [pn, pq]) <;> omega) | fail) only [pn, pq]) <;> (intros; (try simp (disch := first | ((try simp (disch := first | ((try simp only [pn]) <;> omega) | fail) only [pn, pq]) <;> omega) | fail) only [pn, pq]) <;> omega)
      · exact hJS11
      · exact hFS11
      · (try simp (disch := first | ((try simp (disch := first | ((try simp only [pn]) <;> omega) | fail) only [pn, pq]) <;> omega) | fail) only [pn, pq]) <;> (intros; (try simp (disch := first | ((try simp (disch := first | ((try simp only [pn]) <;> omega) | fail) only [pn, pq]) <;> omega) | fail) only [pn, pq]) <;> omega)
def F_X6_findPlaces (S u : bT6) : Prop := (b6g_nodeLevels u) = (b6g_nodeLevels S) ∧ (b6g_firstLeaves u) = (b6g_firstLeaves S) ∧ (b6g_leafCounts u) = (b6g_leafCounts S) ∧ (b6g_edgeStarts u) = (b6g_edgeStarts S) ∧ (b6g_edgeNodes u) = (b6g_edgeNodes S) ∧ (b6g_edgeOctets u) = (b6g_edgeOctets S) ∧ (b6g_edgeLeaves u) = (b6g_edgeLeaves S) ∧ (b6g_edgeChildren u) = (b6g_edgeChildren S) ∧ (b6g_levelStarts u) = (b6g_levelStarts S) ∧ (b6g_nodes u) = (b6g_nodes S) ∧ (b6g_edges u) = (b6g_edges S) ∧ (b6g_children u) = (b6g_children S) ∧ (b6g_levels u) = (b6g_levels S) ∧ (b6g_upper u) = (b6g_upper S) ∧ (b6g_upperNodes u) = (b6g_upperNodes S) ∧ (b6g_itemStart u) = (b6g_itemStart S)
set_option maxRecDepth 20000 in
set_option maxHeartbeats 1000000 in
theorem sf_X6_findPlaces {S : bT6} (hJ : J6 S) {Q : (bT6) → Prop} (hq : ∀ u : bT6, (J6 u) → F_X6_findPlaces S u → Q u) : wp_X6_findPlaces S Q := by
  unfold wp_X6_findPlaces
  have hFS : F_X6_findPlaces S S := ⟨rfl, rfl, rfl, rfl, rfl, rfl, rfl, rfl, rfl, rfl, rfl, rfl, rfl, rfl, rfl, rfl⟩
  have jf1 := J6g_edges hJ
  refine ⟨fun n x1q1 x2q1 Sq1 => (J6 Sq1) ∧ (F_X6_findPlaces S Sq1) ∧ (0 ≤ (x1q1).toInt) ∧ (0 ≤ (x2q1).toInt) ∧ n = ((b6g_edges Sq1).toInt + 1 - (x2q1).toInt).toNat, ⟨_, hJ, hFS, (by (try simp (disch := first | ((try simp (disch := first | ((try simp only [pn]) <;> omega) | fail) only [pn, pq]) <;> omega) | fail) only [pn, pq]) <;> (intros; (try simp (disch := first | ((try simp (disch := first | ((try simp only [pn]) <;> omega) | fail) only [pn, pq]) <;> omega) | fail) only [pn, pq]) <;> omega)), (by (try simp (disch := first | ((try simp (disch := first | ((try simp only [pn]) <;> omega) | fail) only [pn, pq]) <;> omega) | fail) only [pn, pq]) <;> (intros; (try simp (disch := first | ((try simp (disch := first | ((try simp only [pn]) <;> omega) | fail) only [pn, pq]) <;> omega) | fail) only [pn, pq]) <;> omega)), rfl⟩, ?_⟩
  rintro n2 x1q1 x2q1 Sq1 ⟨hJSq1, hFSq1, hiq1_0, hiq1_1, hn2⟩
  have rgx1q1 := pt_rg x1q1
  have rgx2q1 := pt_rg x2q1
  unfold wp_X6_findPlaces_4b
  have je3 : ((b6g_edges Sq1)).toInt = ((b6g_edges S)).toInt := congrArg (fun z => (z).toInt) hFSq1.2.2.2.2.2.2.2.2.2.2.1
  refine ⟨fun c3 => ?_, fun c3 => ?_⟩
  · try simp (disch := first | ((try simp (disch := first | ((try simp only [pn]) <;> omega) | fail) only [pn, pq]) <;> omega) | fail) only [pn, pq] at c3
    exact hq _ hJSq1 hFSq1 
  · try simp (disch := first | ((try simp (disch := first | ((try simp only [pn]) <;> omega) | fail) only [pn, pq]) <;> omega) | fail) only [pn, pq] at c3
    refine sf_X8_at (by decide) (fun r4 hr4_0 => ?_)
    have rgr4 := pt_rg r4
    try simp (disch := first | ((try simp (disch := first | ((try simp only [pn]) <;> omega) | fail) only [pn, pq]) <;> omega) | fail) only [pn, pq] at hr4_0
    refine ⟨fun c6 => ?_, fun c6 => ?_⟩
    · try simp (disch := first | ((try simp (disch := first | ((try simp only [pn]) <;> omega) | fail) only [pn, pq]) <;> omega) | fail) only [pn, pq] at c6
      unfold wp_X6_findPlaces_68
      refine ⟨_, ?_, ?_, ?_, ?_, ?_, rfl⟩
      · (try simp (disch := first | ((try simp (disch := first | ((try simp only [pn]) <;> omega) | fail) only [pn, pq]) <;> omega) | fail) only [pn, pq]) <;> (intros; (try simp (disch := first | ((try simp (disch := first | ((try simp only [pn]) <;> omega) | fail) only [pn, pq]) <;> omega) | fail) only [pn, pq]) <;> omega)
      · exact hJSq1
      · exact hFSq1
      · (try simp (disch := first | ((try simp (disch := first | ((try simp only [pn]) <;> omega) | fail) only [pn, pq]) <;> omega) | fail) only [pn, pq]) <;> (intros; (try simp (disch := first | ((try simp (disch := first | ((try simp only [pn]) <;> omega) | fail) only [pn, pq]) <;> omega) | fail) only [pn, pq]) <;> omega)
      · (try simp (disch := first | ((try simp (disch := first | ((try simp only [pn]) <;> omega) | fail) only [pn, pq]) <;> omega) | fail) only [pn, pq]) <;> (intros; (try simp (disch := first | ((try simp (disch := first | ((try simp only [pn]) <;> omega) | fail) only [pn, pq]) <;> omega) | fail) only [pn, pq]) <;> omega)
    · try simp (disch := first | ((try simp (disch := first | ((try simp only [pn]) <;> omega) | fail) only [pn, pq]) <;> omega) | fail) only [pn, pq] at c6
      refine ⟨fun c7 => ?_, fun c7 => ?_⟩
      · try simp (disch := first | ((try simp (disch := first | ((try simp only [pn]) <;> omega) | fail) only [pn, pq]) <;> omega) | fail) only [pn, pq] at c7
        unfold wp_X6_findPlaces_68
        refine ⟨_, ?_, ?_, ?_, ?_, ?_, rfl⟩
        · (try simp (disch := first | ((try simp (disch := first | ((try simp only [pn]) <;> omega) | fail) only [pn, pq]) <;> omega) | fail) only [pn, pq]) <;> (intros; (try simp (disch := first | ((try simp (disch := first | ((try simp only [pn]) <;> omega) | fail) only [pn, pq]) <;> omega) | fail) only [pn, pq]) <;> omega)
        · exact hJSq1
        · exact hFSq1
        · (try simp (disch := first | ((try simp (disch := first | ((try simp only [pn]) <;> omega) | fail) only [pn, pq]) <;> omega) | fail) only [pn, pq]) <;> (intros; (try simp (disch := first | ((try simp (disch := first | ((try simp only [pn]) <;> omega) | fail) only [pn, pq]) <;> omega) | fail) only [pn, pq]) <;> omega)
        · (try simp (disch := first | ((try simp (disch := first | ((try simp only [pn]) <;> omega) | fail) only [pn, pq]) <;> omega) | fail) only [pn, pq]) <;> (intros; (try simp (disch := first | ((try simp (disch := first | ((try simp only [pn]) <;> omega) | fail) only [pn, pq]) <;> omega) | fail) only [pn, pq]) <;> omega)
      · try simp (disch := first | ((try simp (disch := first | ((try simp only [pn]) <;> omega) | fail) only [pn, pq]) <;> omega) | fail) only [pn, pq] at c7
        refine ⟨fun c8 => ?_, fun c8 => ?_⟩
        · try simp (disch := first | ((try simp (disch := first | ((try simp only [pn]) <;> omega) | fail) only [pn, pq]) <;> omega) | fail) only [pn, pq] at c8
          unfold wp_X6_findPlaces_68
          refine ⟨_, ?_, ?_, ?_, ?_, ?_, rfl⟩
          · (try simp (disch := first | ((try simp (disch := first | ((try simp only [pn]) <;> omega) | fail) only [pn, pq]) <;> omega) | fail) only [pn, pq]) <;> (intros; (try simp (disch := first | ((try simp (disch := first | ((try simp only [pn]) <;> omega) | fail) only [pn, pq]) <;> omega) | fail) only [pn, pq]) <;> omega)
          · exact hJSq1
          · exact hFSq1
          · (try simp (disch := first | ((try simp (disch := first | ((try simp only [pn]) <;> omega) | fail) only [pn, pq]) <;> omega) | fail) only [pn, pq]) <;> (intros; (try simp (disch := first | ((try simp (disch := first | ((try simp only [pn]) <;> omega) | fail) only [pn, pq]) <;> omega) | fail) only [pn, pq]) <;> omega)
          · (try simp (disch := first | ((try simp (disch := first | ((try simp only [pn]) <;> omega) | fail) only [pn, pq]) <;> omega) | fail) only [pn, pq]) <;> (intros; (try simp (disch := first | ((try simp (disch := first | ((try simp only [pn]) <;> omega) | fail) only [pn, pq]) <;> omega) | fail) only [pn, pq]) <;> omega)
        · try simp (disch := first | ((try simp (disch := first | ((try simp only [pn]) <;> omega) | fail) only [pn, pq]) <;> omega) | fail) only [pn, pq] at c8
          refine ⟨pt_in (by (try simp (disch := first | ((try simp (disch := first | ((try simp only [pn]) <;> omega) | fail) only [pn, pq]) <;> omega) | fail) only [pn, pq]) <;> (intros; (try simp (disch := first | ((try simp (disch := first | ((try simp only [pn]) <;> omega) | fail) only [pn, pq]) <;> omega) | fail) only [pn, pq]) <;> omega)) (by (try simp (disch := first | ((try simp (disch := first | ((try simp only [pn]) <;> omega) | fail) only [pn, pq]) <;> omega) | fail) only [pn, pq]) <;> (intros; (try simp (disch := first | ((try simp (disch := first | ((try simp only [pn]) <;> omega) | fail) only [pn, pq]) <;> omega) | fail) only [pn, pq]) <;> omega)), ?_⟩
          intro S9 eS9
          have hJS9 : J6 S9 := by rw [eS9]; exact (J6s_places hJSq1)
          have hFS9 : F_X6_findPlaces S S9 := by rw [eS9]; exact hFSq1
          have je5 : ((b6g_edges S9)).toInt = ((b6g_edges S)).toInt := congrArg (fun z => (z).toInt) hFS9.2.2.2.2.2.2.2.2.2.2.1
          refine ⟨pt_in (by (try simp (disch := first | ((try simp (disch := first | ((try simp only [pn]) <;> omega) | fail) only [pn, pq]) <;> omega) | fail) only [pn, pq]) <;> (intros; (try simp (disch := first | ((try simp (disch := first | ((try simp only [pn]) <;> omega) | fail) only [pn, pq]) <;> omega) | fail) only [pn, pq]) <;> omega)) (by (try simp (disch := first | ((try simp (disch := first | ((try simp only [pn]) <;> omega) | fail) only [pn, pq]) <;> omega) | fail) only [pn, pq]) <;> (intros; (try simp (disch := first | ((try simp (disch := first | ((try simp only [pn]) <;> omega) | fail) only [pn, pq]) <;> omega) | fail) only [pn, pq]) <;> omega)), ?_⟩
          intro S10 eS10
          have hJS10 : J6 S10 := by rw [eS10]; exact (J6s_leavesByPlace hJS9)
          have hFS10 : F_X6_findPlaces S S10 := by rw [eS10]; exact hFS9
          have je7 : ((b6g_edges S10)).toInt = ((b6g_edges S)).toInt := congrArg (fun z => (z).toInt) hFS10.2.2.2.2.2.2.2.2.2.2.1
          refine sf_X8_at (by decide) (fun r11 hr11_0 => ?_)
          have rgr11 := pt_rg r11
          try simp (disch := first | ((try simp (disch := first | ((try simp only [pn]) <;> omega) | fail) only [pn, pq]) <;> omega) | fail) only [pn, pq] at hr11_0
          refine ⟨pt_in (by (try simp (disch := first | ((try simp (disch := first | ((try simp only [pn]) <;> omega) | fail) only [pn, pq]) <;> omega) | fail) only [pn, pq]) <;> (intros; (try simp (disch := first | ((try simp (disch := first | ((try simp only [pn]) <;> omega) | fail) only [pn, pq]) <;> omega) | fail) only [pn, pq]) <;> omega)) (by (try simp (disch := first | ((try simp (disch := first | ((try simp only [pn]) <;> omega) | fail) only [pn, pq]) <;> omega) | fail) only [pn, pq]) <;> (intros; (try simp (disch := first | ((try simp (disch := first | ((try simp only [pn]) <;> omega) | fail) only [pn, pq]) <;> omega) | fail) only [pn, pq]) <;> omega)), ?_⟩
          intro S13 eS13
          have hJS13 : J6 S13 := by rw [eS13]; exact (J6s_leafNodes hJS10)
          have hFS13 : F_X6_findPlaces S S13 := by rw [eS13]; exact hFS10
          have je9 : ((b6g_edges S13)).toInt = ((b6g_edges S)).toInt := congrArg (fun z => (z).toInt) hFS13.2.2.2.2.2.2.2.2.2.2.1
          unfold wp_X6_findPlaces_68
          refine ⟨_, ?_, ?_, ?_, ?_, ?_, rfl⟩
          · (try simp (disch := first | ((try simp (disch := first | ((try simp only [pn]) <;> omega) | fail) only [pn, pq]) <;> omega) | fail) only [pn, pq]) <;> (intros; (try simp (disch := first | ((try simp (disch := first | ((try simp only [pn]) <;> omega) | fail) only [pn, pq]) <;> omega) | fail) only [pn, pq]) <;> omega)
          · exact hJS13
          · exact hFS13
          · (try simp (disch := first | ((try simp (disch := first | ((try simp only [pn]) <;> omega) | fail) only [pn, pq]) <;> omega) | fail) only [pn, pq]) <;> (intros; (try simp (disch := first | ((try simp (disch := first | ((try simp only [pn]) <;> omega) | fail) only [pn, pq]) <;> omega) | fail) only [pn, pq]) <;> omega)
          · (try simp (disch := first | ((try simp (disch := first | ((try simp only [pn]) <;> omega) | fail) only [pn, pq]) <;> omega) | fail) only [pn, pq]) <;> (intros; (try simp (disch := first | ((try simp (disch := first | ((try simp only [pn]) <;> omega) | fail) only [pn, pq]) <;> omega) | fail) only [pn, pq]) <;> omega)
set_option maxRecDepth 20000 in
set_option maxHeartbeats 1000000 in
theorem sf_X6_edgesAmong {S : bT6} (hJ : J6 S) {a1 : Int32} {a2 : Int32} {Q : Int32 → Prop} (hq : ∀ r : Int32, Q r) : wp_X6_edgesAmong S a1 a2 Q := by
  unfold wp_X6_edgesAmong
  have rga1 := pt_rg a1
  have rga2 := pt_rg a2
  have jr1 := atf_rng (N := 233) (J6g_edgeStarts hJ) (a2) (by decide) (by decide)
  refine sf_X8_at (by decide) (fun r1 hr1_0 => ?_)
  have rgr1 := pt_rg r1
  try simp (disch := first | ((try simp (disch := first | ((try simp only [pn]) <;> omega) | fail) only [pn, pq]) <;> omega) | fail) only [pn, pq] at hr1_0
  have jr2 := atf_rng (N := 233) (J6g_edgeStarts hJ) (a1) (by decide) (by decide)
  refine sf_X8_at (by decide) (fun r3 hr3_0 => ?_)
  have rgr3 := pt_rg r3
  try simp (disch := first | ((try simp (disch := first | ((try simp only [pn]) <;> omega) | fail) only [pn, pq]) <;> omega) | fail) only [pn, pq] at hr3_0
  exact hq _ 
set_option maxRecDepth 20000 in
set_option maxHeartbeats 1000000 in
theorem sf_X6_bitsBy {S : bT6} (hJ : J6 S) {a1 : Int32} {Q : Int32 → Prop} (hq : ∀ r : Int32, Q r) : wp_X6_bitsBy S a1 Q := by
  unfold wp_X6_bitsBy
  have jf1 := J6g_nodes hJ
  have rga1 := pt_rg a1
  refine sf_X8_at (by decide) (fun r1 hr1_0 => ?_)
  have rgr1 := pt_rg r1
  try simp (disch := first | ((try simp (disch := first | ((try simp only [pn]) <;> omega) | fail) only [pn, pq]) <;> omega) | fail) only [pn, pq] at hr1_0
  refine sf_X6_edgesAmong hJ (fun r3  => ?_)
  have rgr3 := pt_rg r3
  exact hq _ 
set_option maxRecDepth 20000 in
set_option maxHeartbeats 1000000 in
theorem sf_X6_upperBy {S : bT6} (hJ : J6 S) {a1 : Int32} {Q : Int32 → Prop} (hq : ∀ r : Int32, Q r) : wp_X6_upperBy S a1 Q := by
  unfold wp_X6_upperBy
  have jf1 := J6g_levels hJ
  have rga1 := pt_rg a1
  refine ⟨fun n x1q1 x2q1 x3q1 => (x1q1 = a1) ∧ (0 ≤ (x3q1).toInt) ∧ n = (((b6g_levels S)).toInt + 1 - (x3q1).toInt).toNat, ⟨_, rfl, (by (try simp (disch := first | ((try simp (disch := first | ((try simp only [pn]) <;> omega) | fail) only [pn, pq]) <;> omega) | fail) only [pn, pq]) <;> (intros; (try simp (disch := first | ((try simp (disch := first | ((try simp only [pn]) <;> omega) | fail) only [pn, pq]) <;> omega) | fail) only [pn, pq]) <;> omega)), rfl⟩, ?_⟩
  rintro n2 x1q1 x2q1 x3q1 ⟨hkq1_0, hiq1_0, hn2⟩
  subst hkq1_0
  have rgx1q1 := pt_rg x1q1
  have rgx2q1 := pt_rg x2q1
  have rgx3q1 := pt_rg x3q1
  unfold wp_X6_upperBy_4b
  refine ⟨fun c3 => ?_, fun c3 => ?_⟩
  · try simp (disch := first | ((try simp (disch := first | ((try simp only [pn]) <;> omega) | fail) only [pn, pq]) <;> omega) | fail) only [pn, pq] at c3
    exact hq _ 
  · try simp (disch := first | ((try simp (disch := first | ((try simp only [pn]) <;> omega) | fail) only [pn, pq]) <;> omega) | fail) only [pn, pq] at c3
    refine sf_X8_at (by decide) (fun r4 hr4_0 => ?_)
    have rgr4 := pt_rg r4
    try simp (disch := first | ((try simp (disch := first | ((try simp only [pn]) <;> omega) | fail) only [pn, pq]) <;> omega) | fail) only [pn, pq] at hr4_0
    intro v6 ev6
    have nv6 := congrArg Int32.toInt ev6
    try simp (disch := first | ((try simp (disch := first | ((try simp only [pn]) <;> omega) | fail) only [pn, pq]) <;> omega) | fail) only [pn, pq] at nv6
    refine sf_X6_bitsBy hJ (fun r7  => ?_)
    have rgr7 := pt_rg r7
    refine ⟨fun c9 => ?_, fun c9 => ?_⟩
    · try simp (disch := first | ((try simp (disch := first | ((try simp only [pn]) <;> omega) | fail) only [pn, pq]) <;> omega) | fail) only [pn, pq] at c9
      unfold wp_X6_upperBy_43
      refine ⟨_, ?_, ?_, ?_, rfl⟩
      · (try simp (disch := first | ((try simp (disch := first | ((try simp only [pn]) <;> omega) | fail) only [pn, pq]) <;> omega) | fail) only [pn, pq]) <;> (intros; (try simp (disch := first | ((try simp (disch := first | ((try simp only [pn]) <;> omega) | fail) only [pn, pq]) <;> omega) | fail) only [pn, pq]) <;> omega)
      · first | rfl | assumption
      · (try simp (disch := first | ((try simp (disch := first | ((try simp only [pn]) <;> omega) | fail) only [pn, pq]) <;> omega) | fail) only [pn, pq]) <;> (intros; (try simp (disch := first | ((try simp (disch := first | ((try simp only [pn]) <;> omega) | fail) only [pn, pq]) <;> omega) | fail) only [pn, pq]) <;> omega)
    · try simp (disch := first | ((try simp (disch := first | ((try simp only [pn]) <;> omega) | fail) only [pn, pq]) <;> omega) | fail) only [pn, pq] at c9
      unfold wp_X6_upperBy_43
      refine ⟨_, ?_, ?_, ?_, rfl⟩
      · (try simp (disch := first | ((try simp (disch := first | ((try simp only [pn]) <;> omega) | fail) only [pn, pq]) <;> omega) | fail) only [pn, pq]) <;> (intros; (try simp (disch := first | ((try simp (disch := first | ((try simp only [pn]) <;> omega) | fail) only [pn, pq]) <;> omega) | fail) only [pn, pq]) <;> omega)
      · first | rfl | assumption
      · (try simp (disch := first | ((try simp (disch := first | ((try simp only [pn]) <;> omega) | fail) only [pn, pq]) <;> omega) | fail) only [pn, pq]) <;> (intros; (try simp (disch := first | ((try simp (disch := first | ((try simp only [pn]) <;> omega) | fail) only [pn, pq]) <;> omega) | fail) only [pn, pq]) <;> omega)
def F_X6_make (S u : bT6 × bT1) : Prop := u.2 = S.2
set_option maxRecDepth 20000 in
set_option maxHeartbeats 1000000 in
theorem sf_X6_make {S : bT6 × bT1} (hJ : J6 S.1 ∧ J1 S.2) {a2 : Int32} {a3 : Int32} {Q : (bT6 × bT1) → Prop} (hq : ∀ u : bT6 × bT1, (J6 u.1 ∧ J1 u.2) → F_X6_make S u → Q u) : wp_X6_make S a2 a3 Q := by
  unfold wp_X6_make
  have hFS : F_X6_make S S := rfl
  have jf1 := J6g_levels hJ.1
  have rga2 := pt_rg a2
  have rga3 := pt_rg a3
  refine sf_X6_findNodes (S := S) ⟨hJ.1, hJ.2⟩ (fun u2 hJu2 hfu2  => ?_)
  have hFu2 : F_X6_make S u2 := (congrArg (fun z => z) hfu2.2.2.2.2.2.2.2.2.2.2.2.2.2).trans hFS
  have jf2 := J6g_levels hJu2.1
  have je3 : ((b6g_upper u2.1)).toInt = ((b6g_upper S.1)).toInt := congrArg (fun z => (z).toInt) hfu2.2.2.2.2.2.2.2.2.2.2.1
  have je4 : ((b6g_upperNodes u2.1)).toInt = ((b6g_upperNodes S.1)).toInt := congrArg (fun z => (z).toInt) hfu2.2.2.2.2.2.2.2.2.2.2.2.1
  refine sf_X6_findEdges (S := u2) ⟨hJu2.1, hJu2.2⟩ (fun u4 hJu4 hfu4  => ?_)
  have hFu4 : F_X6_make S u4 := (congrArg (fun z => z) hfu4.2.2.2.2.2.2.2.2.2.2.2.2).trans hFu2
  have je5 : ((b6g_levels u4.1)).toInt = ((b6g_levels u2.1)).toInt := congrArg (fun z => (z).toInt) hfu4.2.2.2.2.2.2.2.2.1
  have jf6 := J6g_levels hJu4.1
  have je7 : ((b6g_upper u4.1)).toInt = ((b6g_upper u2.1)).toInt := congrArg (fun z => (z).toInt) hfu4.2.2.2.2.2.2.2.2.2.1
  have je8 : ((b6g_upperNodes u4.1)).toInt = ((b6g_upperNodes u2.1)).toInt := congrArg (fun z => (z).toInt) hfu4.2.2.2.2.2.2.2.2.2.2.1
  refine sf_X6_findPlaces hJu4.1 (fun u6 hJu6 hfu6  => ?_)
  have je10 : ((b6g_levels u6)).toInt = ((b6g_levels u4.1)).toInt := congrArg (fun z => (z).toInt) hfu6.2.2.2.2.2.2.2.2.2.2.2.2.1
  have je12 : ((b6g_upper u6)).toInt = ((b6g_upper u4.1)).toInt := congrArg (fun z => (z).toInt) hfu6.2.2.2.2.2.2.2.2.2.2.2.2.2.1
  have je14 : ((b6g_upperNodes u6)).toInt = ((b6g_upperNodes u4.1)).toInt := congrArg (fun z => (z).toInt) hfu6.2.2.2.2.2.2.2.2.2.2.2.2.2.2.1
  intro S7 eS7
  have hGS7 : F_X6_make S S7 := by
    rw [eS7]
    exact hFu4
  have hJS7 : J6 S7.1 ∧ J1 S7.2 := by rw [eS7]; exact ⟨hJu6, hJu4.2⟩
  have hFS7 : F_X6_make S S7 := hGS7
  have je15 : ((b6g_levels S7.1)).toInt = ((b6g_levels u6)).toInt := by rw [eS7]
  try simp (disch := first | ((try simp (disch := first | ((try simp only [pn]) <;> omega) | fail) only [pn, pq]) <;> omega) | fail) only [pn, pq] at je15
  have jf16 := J6g_levels hJS7.1
  have je17 : ((b6g_upper S7.1)).toInt = ((b6g_upper u6)).toInt := by rw [eS7]
  try simp (disch := first | ((try simp (disch := first | ((try simp only [pn]) <;> omega) | fail) only [pn, pq]) <;> omega) | fail) only [pn, pq] at je17
  have je18 : ((b6g_upperNodes S7.1)).toInt = ((b6g_upperNodes u6)).toInt := by rw [eS7]
  try simp (disch := first | ((try simp (disch := first | ((try simp only [pn]) <;> omega) | fail) only [pn, pq]) <;> omega) | fail) only [pn, pq] at je18
  refine ⟨fun c8 => ?_, fun c8 => ?_⟩
  · try simp (disch := first | ((try simp (disch := first | ((try simp only [pn]) <;> omega) | fail) only [pn, pq]) <;> omega) | fail) only [pn, pq] at c8
    unfold wp_X6_make_37
    intro S9 eS9
    have hJS9 : J6 S9.1 ∧ J1 S9.2 := by rw [eS9]; exact ⟨(J6s_upper hJS7.1), hJS7.2⟩
    have hFS9 : F_X6_make S S9 := by rw [eS9]; exact hFS7
    have je19 : ((b6g_levels S9.1)).toInt = ((b6g_levels S7.1)).toInt := by rw [eS9]
    have jf20 := J6g_levels hJS9.1
    have je21 : ((b6g_upper S9.1)).toInt = ((if (b6g_levels S7.1) < a2 then (b6g_levels S7.1) else a2)).toInt := by rw [eS9]
    try simp (disch := first | ((try simp (disch := first | ((try simp only [pn]) <;> omega) | fail) only [pn, pq]) <;> omega) | fail) only [pn, pq] at je21
    have je22 : ((b6g_upperNodes S9.1)).toInt = ((b6g_upperNodes S7.1)).toInt := by rw [eS9]
    refine sf_X8_at (by decide) (fun r10 hr10_0 => ?_)
    have rgr10 := pt_rg r10
    try simp (disch := first | ((try simp (disch := first | ((try simp only [pn]) <;> omega) | fail) only [pn, pq]) <;> omega) | fail) only [pn, pq] at hr10_0
    intro S12 eS12
    have hJS12 : J6 S12.1 ∧ J1 S12.2 := by rw [eS12]; exact ⟨(J6s_upperNodes hJS9.1), hJS9.2⟩
    have hFS12 : F_X6_make S S12 := by rw [eS12]; exact hFS9
    have je23 : ((b6g_levels S12.1)).toInt = ((b6g_levels S9.1)).toInt := by rw [eS12]
    have jf24 := J6g_levels hJS12.1
    have je25 : ((b6g_upper S12.1)).toInt = ((b6g_upper S9.1)).toInt := by rw [eS12]
    have je26 : ((b6g_upperNodes S12.1)).toInt = (r10).toInt := by rw [eS12]
    try simp (disch := first | ((try simp (disch := first | ((try simp only [pn]) <;> omega) | fail) only [pn, pq]) <;> omega) | fail) only [pn, pq] at je26
    have jr27 := atf_rng (N := 233) (J6g_edgeStarts hJS12.1) ((b6g_upperNodes S12.1)) (by decide) (by decide)
    refine sf_X8_at (by decide) (fun r13 hr13_0 => ?_)
    have rgr13 := pt_rg r13
    try simp (disch := first | ((try simp (disch := first | ((try simp only [pn]) <;> omega) | fail) only [pn, pq]) <;> omega) | fail) only [pn, pq] at hr13_0
    intro S15 eS15
    have hJS15 : J6 S15.1 ∧ J1 S15.2 := by rw [eS15]; exact ⟨(J6s_itemStart hJS12.1 ⟨(by (try simp (disch := first | ((try simp (disch := first | ((try simp only [pn]) <;> omega) | fail) only [pn, pq]) <;> omega) | fail) only [pn, pq]) <;> (intros; (try simp (disch := first | ((try simp (disch := first | ((try simp only [pn]) <;> omega) | fail) only [pn, pq]) <;> omega) | fail) only [pn, pq]) <;> omega)), (by (try simp (disch := first | ((try simp (disch := first | ((try simp only [pn]) <;> omega) | fail) only [pn, pq]) <;> omega) | fail) only [pn, pq]) <;> (intros; (try simp (disch := first | ((try simp (disch := first | ((try simp only [pn]) <;> omega) | fail) only [pn, pq]) <;> omega) | fail) only [pn, pq]) <;> omega))⟩), hJS12.2⟩
    have hFS15 : F_X6_make S S15 := by rw [eS15]; exact hFS12
    have je28 : ((b6g_levels S15.1)).toInt = ((b6g_levels S12.1)).toInt := by rw [eS15]
    have jf29 := J6g_levels hJS15.1
    have je30 : ((b6g_upper S15.1)).toInt = ((b6g_upper S12.1)).toInt := by rw [eS15]
    have je31 : ((b6g_upperNodes S15.1)).toInt = ((b6g_upperNodes S12.1)).toInt := by rw [eS15]
    exact hq _ hJS15 hFS15 
  · try simp (disch := first | ((try simp (disch := first | ((try simp only [pn]) <;> omega) | fail) only [pn, pq]) <;> omega) | fail) only [pn, pq] at c8
    refine sf_X6_upperBy hJS7.1 (fun r16  => ?_)
    have rgr16 := pt_rg r16
    unfold wp_X6_make_37
    intro S18 eS18
    have hJS18 : J6 S18.1 ∧ J1 S18.2 := by rw [eS18]; exact ⟨(J6s_upper hJS7.1), hJS7.2⟩
    have hFS18 : F_X6_make S S18 := by rw [eS18]; exact hFS7
    have je32 : ((b6g_levels S18.1)).toInt = ((b6g_levels S7.1)).toInt := by rw [eS18]
    have jf33 := J6g_levels hJS18.1
    have je34 : ((b6g_upper S18.1)).toInt = (r16).toInt := by rw [eS18]
    try simp (disch := first | ((try simp (disch := first | ((try simp only [pn]) <;> omega) | fail) only [pn, pq]) <;> omega) | fail) only [pn, pq] at je34
    have je35 : ((b6g_upperNodes S18.1)).toInt = ((b6g_upperNodes S7.1)).toInt := by rw [eS18]
    refine sf_X8_at (by decide) (fun r19 hr19_0 => ?_)
    have rgr19 := pt_rg r19
    try simp (disch := first | ((try simp (disch := first | ((try simp only [pn]) <;> omega) | fail) only [pn, pq]) <;> omega) | fail) only [pn, pq] at hr19_0
    intro S21 eS21
    have hJS21 : J6 S21.1 ∧ J1 S21.2 := by rw [eS21]; exact ⟨(J6s_upperNodes hJS18.1), hJS18.2⟩
    have hFS21 : F_X6_make S S21 := by rw [eS21]; exact hFS18
    have je36 : ((b6g_levels S21.1)).toInt = ((b6g_levels S18.1)).toInt := by rw [eS21]
    have jf37 := J6g_levels hJS21.1
    have je38 : ((b6g_upper S21.1)).toInt = ((b6g_upper S18.1)).toInt := by rw [eS21]
    have je39 : ((b6g_upperNodes S21.1)).toInt = (r19).toInt := by rw [eS21]
    try simp (disch := first | ((try simp (disch := first | ((try simp only [pn]) <;> omega) | fail) only [pn, pq]) <;> omega) | fail) only [pn, pq] at je39
    have jr40 := atf_rng (N := 233) (J6g_edgeStarts hJS21.1) ((b6g_upperNodes S21.1)) (by decide) (by decide)
    refine sf_X8_at (by decide) (fun r22 hr22_0 => ?_)
    have rgr22 := pt_rg r22
    try simp (disch := first | ((try simp (disch := first | ((try simp only [pn]) <;> omega) | fail) only [pn, pq]) <;> omega) | fail) only [pn, pq] at hr22_0
    intro S24 eS24
    have hJS24 : J6 S24.1 ∧ J1 S24.2 := by rw [eS24]; exact ⟨(J6s_itemStart hJS21.1 ⟨(by (try simp (disch := first | ((try simp (disch := first | ((try simp only [pn]) <;> omega) | fail) only [pn, pq]) <;> omega) | fail) only [pn, pq]) <;> (intros; (try simp (disch := first | ((try simp (disch := first | ((try simp only [pn]) <;> omega) | fail) only [pn, pq]) <;> omega) | fail) only [pn, pq]) <;> omega)), (by (try simp (disch := first | ((try simp (disch := first | ((try simp only [pn]) <;> omega) | fail) only [pn, pq]) <;> omega) | fail) only [pn, pq]) <;> (intros; (try simp (disch := first | ((try simp (disch := first | ((try simp only [pn]) <;> omega) | fail) only [pn, pq]) <;> omega) | fail) only [pn, pq]) <;> omega))⟩), hJS21.2⟩
    have hFS24 : F_X6_make S S24 := by rw [eS24]; exact hFS21
    have je41 : ((b6g_levels S24.1)).toInt = ((b6g_levels S21.1)).toInt := by rw [eS24]
    have jf42 := J6g_levels hJS24.1
    have je43 : ((b6g_upper S24.1)).toInt = ((b6g_upper S21.1)).toInt := by rw [eS24]
    have je44 : ((b6g_upperNodes S24.1)).toInt = ((b6g_upperNodes S21.1)).toInt := by rw [eS24]
    exact hq _ hJS24 hFS24 
set_option maxRecDepth 20000 in
set_option maxHeartbeats 1000000 in
theorem sf_X6_items {S : bT6} (hJ : J6 S) {Q : Int32 → Prop} (hq : ∀ r : Int32, Q r) : wp_X6_items S Q := by
  unfold wp_X6_items
  have jf1 := J6g_edges hJ
  have jf2 := J6g_itemStart hJ
  exact hq _ 
set_option maxRecDepth 20000 in
set_option maxHeartbeats 1000000 in
theorem sf_X6_isEnd {S : bT6} (hJ : J6 S) {a1 : Int32} {Q : Int32 → Prop} (hq : ∀ r : Int32, bf_bool r → Q r) : wp_X6_isEnd S a1 Q := by
  unfold wp_X6_isEnd
  have rga1 := pt_rg a1
  refine sf_X8_at (by decide) (fun r1 hr1_0 => ?_)
  have rgr1 := pt_rg r1
  try simp (disch := first | ((try simp (disch := first | ((try simp only [pn]) <;> omega) | fail) only [pn, pq]) <;> omega) | fail) only [pn, pq] at hr1_0
  refine ⟨fun c3 => ?_, fun c3 => ?_⟩
  · try simp (disch := first | ((try simp (disch := first | ((try simp only [pn]) <;> omega) | fail) only [pn, pq]) <;> omega) | fail) only [pn, pq] at c3
    exact ⟨by first | rfl | assumption, hq _ (by first | rfl | assumption) ⟩
  · try simp (disch := first | ((try simp (disch := first | ((try simp only [pn]) <;> omega) | fail) only [pn, pq]) <;> omega) | fail) only [pn, pq] at c3
    exact ⟨by first | rfl | assumption, hq _ (by first | rfl | assumption) ⟩
set_option maxRecDepth 20000 in
set_option maxHeartbeats 1000000 in
theorem sf_X6_hasChild {S : bT6} (hJ : J6 S) {a1 : Int32} {Q : Int32 → Prop} (hq : ∀ r : Int32, bf_bool r → Q r) : wp_X6_hasChild S a1 Q := by
  unfold wp_X6_hasChild
  have rga1 := pt_rg a1
  refine sf_X8_at (by decide) (fun r1 hr1_0 => ?_)
  have rgr1 := pt_rg r1
  try simp (disch := first | ((try simp (disch := first | ((try simp only [pn]) <;> omega) | fail) only [pn, pq]) <;> omega) | fail) only [pn, pq] at hr1_0
  refine ⟨fun c3 => ?_, fun c3 => ?_⟩
  · try simp (disch := first | ((try simp (disch := first | ((try simp only [pn]) <;> omega) | fail) only [pn, pq]) <;> omega) | fail) only [pn, pq] at c3
    exact ⟨by first | rfl | assumption, hq _ (by first | rfl | assumption) ⟩
  · try simp (disch := first | ((try simp (disch := first | ((try simp only [pn]) <;> omega) | fail) only [pn, pq]) <;> omega) | fail) only [pn, pq] at c3
    exact ⟨by first | rfl | assumption, hq _ (by first | rfl | assumption) ⟩
set_option maxRecDepth 20000 in
set_option maxHeartbeats 1000000 in
theorem sf_X6_endsAmong {S : bT6} (hJ : J6 S) {a1 : Int32} {a2 : Int32} {Q : Int32 → Prop} (hq : ∀ r : Int32, Q r) : wp_X6_endsAmong S a1 a2 Q := by
  unfold wp_X6_endsAmong
  have rga1 := pt_rg a1
  have rga2 := pt_rg a2
  have jr1 := atf_rng (N := 233) (J6g_edgeStarts hJ) (a1) (by decide) (by decide)
  refine sf_X8_at (by decide) (fun r1 hr1_0 => ?_)
  have rgr1 := pt_rg r1
  try simp (disch := first | ((try simp (disch := first | ((try simp only [pn]) <;> omega) | fail) only [pn, pq]) <;> omega) | fail) only [pn, pq] at hr1_0
  refine ⟨fun n x2q3 x3q3 x4q3 => (x2q3 = a2) ∧ (-1 ≤ (x4q3).toInt) ∧ ((x4q3).toInt ≤ 296) ∧ n = (300 - (x4q3).toInt).toNat, ⟨_, rfl, (by (try simp (disch := first | ((try simp (disch := first | ((try simp only [pn]) <;> omega) | fail) only [pn, pq]) <;> omega) | fail) only [pn, pq]) <;> (intros; (try simp (disch := first | ((try simp (disch := first | ((try simp only [pn]) <;> omega) | fail) only [pn, pq]) <;> omega) | fail) only [pn, pq]) <;> omega)), (by (try simp (disch := first | ((try simp (disch := first | ((try simp only [pn]) <;> omega) | fail) only [pn, pq]) <;> omega) | fail) only [pn, pq]) <;> (intros; (try simp (disch := first | ((try simp (disch := first | ((try simp only [pn]) <;> omega) | fail) only [pn, pq]) <;> omega) | fail) only [pn, pq]) <;> omega)), rfl⟩, ?_⟩
  rintro n4 x2q3 x3q3 x4q3 ⟨hkq3_0, hiq3_0, hiq3_1, hn4⟩
  subst hkq3_0
  have rgx2q3 := pt_rg x2q3
  have rgx3q3 := pt_rg x3q3
  have rgx4q3 := pt_rg x4q3
  unfold wp_X6_endsAmong_12b
  have jr2 := atf_rng (N := 233) (J6g_edgeStarts hJ) (x2q3) (by decide) (by decide)
  refine sf_X8_at (by decide) (fun r5 hr5_0 => ?_)
  have rgr5 := pt_rg r5
  try simp (disch := first | ((try simp (disch := first | ((try simp only [pn]) <;> omega) | fail) only [pn, pq]) <;> omega) | fail) only [pn, pq] at hr5_0
  refine ⟨fun c7 => ?_, fun c7 => ?_⟩
  · try simp (disch := first | ((try simp (disch := first | ((try simp only [pn]) <;> omega) | fail) only [pn, pq]) <;> omega) | fail) only [pn, pq] at c7
    exact hq _ 
  · try simp (disch := first | ((try simp (disch := first | ((try simp only [pn]) <;> omega) | fail) only [pn, pq]) <;> omega) | fail) only [pn, pq] at c7
    refine sf_X6_isEnd hJ (fun r8 hzr8  => ?_)
    refine ⟨fun c10 => ?_, fun c10 => ?_⟩
    · try simp (disch := first | ((try simp (disch := first | ((try simp only [pn]) <;> omega) | fail) only [pn, pq]) <;> omega) | fail) only [pn, pq] at c10
      unfold wp_X6_endsAmong_40
      refine ⟨_, ?_, ?_, ?_, ?_, rfl⟩
      · (try simp (disch := first | ((try simp (disch := first | ((try simp only [pn]) <;> omega) | fail) only [pn, pq]) <;> omega) | fail) only [pn, pq]) <;> (intros; (try simp (disch := first | ((try simp (disch := first | ((try simp only [pn]) <;> omega) | fail) only [pn, pq]) <;> omega) | fail) only [pn, pq]) <;> omega)
      · first | rfl | assumption
      · (try simp (disch := first | ((try simp (disch := first | ((try simp only [pn]) <;> omega) | fail) only [pn, pq]) <;> omega) | fail) only [pn, pq]) <;> (intros; (try simp (disch := first | ((try simp (disch := first | ((try simp only [pn]) <;> omega) | fail) only [pn, pq]) <;> omega) | fail) only [pn, pq]) <;> omega)
      · (try simp (disch := first | ((try simp (disch := first | ((try simp only [pn]) <;> omega) | fail) only [pn, pq]) <;> omega) | fail) only [pn, pq]) <;> (intros; (try simp (disch := first | ((try simp (disch := first | ((try simp only [pn]) <;> omega) | fail) only [pn, pq]) <;> omega) | fail) only [pn, pq]) <;> omega)
    · try simp (disch := first | ((try simp (disch := first | ((try simp only [pn]) <;> omega) | fail) only [pn, pq]) <;> omega) | fail) only [pn, pq] at c10
      unfold wp_X6_endsAmong_40
      refine ⟨_, ?_, ?_, ?_, ?_, rfl⟩
      · (try simp (disch := first | ((try simp (disch := first | ((try simp only [pn]) <;> omega) | fail) only [pn, pq]) <;> omega) | fail) only [pn, pq]) <;> (intros; (try simp (disch := first | ((try simp (disch := first | ((try simp only [pn]) <;> omega) | fail) only [pn, pq]) <;> omega) | fail) only [pn, pq]) <;> omega)
      · first | rfl | assumption
      · (try simp (disch := first | ((try simp (disch := first | ((try simp only [pn]) <;> omega) | fail) only [pn, pq]) <;> omega) | fail) only [pn, pq]) <;> (intros; (try simp (disch := first | ((try simp (disch := first | ((try simp only [pn]) <;> omega) | fail) only [pn, pq]) <;> omega) | fail) only [pn, pq]) <;> omega)
      · (try simp (disch := first | ((try simp (disch := first | ((try simp only [pn]) <;> omega) | fail) only [pn, pq]) <;> omega) | fail) only [pn, pq]) <;> (intros; (try simp (disch := first | ((try simp (disch := first | ((try simp only [pn]) <;> omega) | fail) only [pn, pq]) <;> omega) | fail) only [pn, pq]) <;> omega)
set_option maxRecDepth 20000 in
set_option maxHeartbeats 1000000 in
theorem sf_X6_branches {S : bT6} (hJ : J6 S) {a1 : Int32} {a2 : Int32} {Q : Int32 → Prop} (hq : ∀ r : Int32, Q r) : wp_X6_branches S a1 a2 Q := by
  unfold wp_X6_branches
  have rga1 := pt_rg a1
  have rga2 := pt_rg a2
  refine sf_X6_edgesAmong hJ (fun r1  => ?_)
  have rgr1 := pt_rg r1
  refine sf_X6_endsAmong hJ (fun r3  => ?_)
  have rgr3 := pt_rg r3
  exact hq _ 
set_option maxRecDepth 20000 in
set_option maxHeartbeats 1000000 in
theorem sf_X6_childrenOf {S : bT6} (hJ : J6 S) {a1 : Int32} {Q : Int32 → Prop} (hq : ∀ r : Int32, Q r) : wp_X6_childrenOf S a1 Q := by
  unfold wp_X6_childrenOf
  have rga1 := pt_rg a1
  have jr1 := atf_rng (N := 233) (J6g_edgeStarts hJ) (a1) (by decide) (by decide)
  refine sf_X8_at (by decide) (fun r1 hr1_0 => ?_)
  have rgr1 := pt_rg r1
  try simp (disch := first | ((try simp (disch := first | ((try simp only [pn]) <;> omega) | fail) only [pn, pq]) <;> omega) | fail) only [pn, pq] at hr1_0
  refine ⟨fun n x1q3 x2q3 x3q3 => (x1q3 = a1) ∧ (-1 ≤ (x3q3).toInt) ∧ ((x3q3).toInt ≤ 296) ∧ n = (300 - (x3q3).toInt).toNat, ⟨_, rfl, (by (try simp (disch := first | ((try simp (disch := first | ((try simp only [pn]) <;> omega) | fail) only [pn, pq]) <;> omega) | fail) only [pn, pq]) <;> (intros; (try simp (disch := first | ((try simp (disch := first | ((try simp only [pn]) <;> omega) | fail) only [pn, pq]) <;> omega) | fail) only [pn, pq]) <;> omega)), (by (try simp (disch := first | ((try simp (disch := first | ((try simp only [pn]) <;> omega) | fail) only [pn, pq]) <;> omega) | fail) only [pn, pq]) <;> (intros; (try simp (disch := first | ((try simp (disch := first | ((try simp only [pn]) <;> omega) | fail) only [pn, pq]) <;> omega) | fail) only [pn, pq]) <;> omega)), rfl⟩, ?_⟩
  rintro n4 x1q3 x2q3 x3q3 ⟨hkq3_0, hiq3_0, hiq3_1, hn4⟩
  subst hkq3_0
  have rgx1q3 := pt_rg x1q3
  have rgx2q3 := pt_rg x2q3
  have rgx3q3 := pt_rg x3q3
  unfold wp_X6_childrenOf_11b
  have jr2 := atf_rng (N := 233) (J6g_edgeStarts hJ) ((x1q3 + (1 : Int32))) (by decide) (by decide)
  refine sf_X8_at (by decide) (fun r5 hr5_0 => ?_)
  have rgr5 := pt_rg r5
  try simp (disch := first | ((try simp (disch := first | ((try simp only [pn]) <;> omega) | fail) only [pn, pq]) <;> omega) | fail) only [pn, pq] at hr5_0
  refine ⟨fun c7 => ?_, fun c7 => ?_⟩
  · try simp (disch := first | ((try simp (disch := first | ((try simp only [pn]) <;> omega) | fail) only [pn, pq]) <;> omega) | fail) only [pn, pq] at c7
    exact hq _ 
  · try simp (disch := first | ((try simp (disch := first | ((try simp only [pn]) <;> omega) | fail) only [pn, pq]) <;> omega) | fail) only [pn, pq] at c7
    refine sf_X6_hasChild hJ (fun r8 hzr8  => ?_)
    refine ⟨fun c10 => ?_, fun c10 => ?_⟩
    · try simp (disch := first | ((try simp (disch := first | ((try simp only [pn]) <;> omega) | fail) only [pn, pq]) <;> omega) | fail) only [pn, pq] at c10
      unfold wp_X6_childrenOf_39
      refine ⟨_, ?_, ?_, ?_, ?_, rfl⟩
      · (try simp (disch := first | ((try simp (disch := first | ((try simp only [pn]) <;> omega) | fail) only [pn, pq]) <;> omega) | fail) only [pn, pq]) <;> (intros; (try simp (disch := first | ((try simp (disch := first | ((try simp only [pn]) <;> omega) | fail) only [pn, pq]) <;> omega) | fail) only [pn, pq]) <;> omega)
      · first | rfl | assumption
      · (try simp (disch := first | ((try simp (disch := first | ((try simp only [pn]) <;> omega) | fail) only [pn, pq]) <;> omega) | fail) only [pn, pq]) <;> (intros; (try simp (disch := first | ((try simp (disch := first | ((try simp only [pn]) <;> omega) | fail) only [pn, pq]) <;> omega) | fail) only [pn, pq]) <;> omega)
      · (try simp (disch := first | ((try simp (disch := first | ((try simp only [pn]) <;> omega) | fail) only [pn, pq]) <;> omega) | fail) only [pn, pq]) <;> (intros; (try simp (disch := first | ((try simp (disch := first | ((try simp only [pn]) <;> omega) | fail) only [pn, pq]) <;> omega) | fail) only [pn, pq]) <;> omega)
    · try simp (disch := first | ((try simp (disch := first | ((try simp only [pn]) <;> omega) | fail) only [pn, pq]) <;> omega) | fail) only [pn, pq] at c10
      unfold wp_X6_childrenOf_39
      refine ⟨_, ?_, ?_, ?_, ?_, rfl⟩
      · (try simp (disch := first | ((try simp (disch := first | ((try simp only [pn]) <;> omega) | fail) only [pn, pq]) <;> omega) | fail) only [pn, pq]) <;> (intros; (try simp (disch := first | ((try simp (disch := first | ((try simp only [pn]) <;> omega) | fail) only [pn, pq]) <;> omega) | fail) only [pn, pq]) <;> omega)
      · first | rfl | assumption
      · (try simp (disch := first | ((try simp (disch := first | ((try simp only [pn]) <;> omega) | fail) only [pn, pq]) <;> omega) | fail) only [pn, pq]) <;> (intros; (try simp (disch := first | ((try simp (disch := first | ((try simp only [pn]) <;> omega) | fail) only [pn, pq]) <;> omega) | fail) only [pn, pq]) <;> omega)
      · (try simp (disch := first | ((try simp (disch := first | ((try simp only [pn]) <;> omega) | fail) only [pn, pq]) <;> omega) | fail) only [pn, pq]) <;> (intros; (try simp (disch := first | ((try simp (disch := first | ((try simp only [pn]) <;> omega) | fail) only [pn, pq]) <;> omega) | fail) only [pn, pq]) <;> omega)
set_option maxRecDepth 20000 in
set_option maxHeartbeats 1000000 in
theorem sf_X6_goneAlong {S : bT6} (hJ : J6 S) {a1 : Int32} {a2 : Int32} {Q : Int32 → Prop} (hq : ∀ r : Int32, Q r) : wp_X6_goneAlong S a1 a2 Q := by
  unfold wp_X6_goneAlong
  have rga1 := pt_rg a1
  have rga2 := pt_rg a2
  have jr1 := atf_rng (N := 233) (J6g_edgeStarts hJ) (a1) (by decide) (by decide)
  refine sf_X8_at (by decide) (fun r1 hr1_0 => ?_)
  have rgr1 := pt_rg r1
  try simp (disch := first | ((try simp (disch := first | ((try simp only [pn]) <;> omega) | fail) only [pn, pq]) <;> omega) | fail) only [pn, pq] at hr1_0
  refine ⟨fun n x1q3 x2q3 x3q3 => (x1q3 = a1) ∧ (x2q3 = a2) ∧ (-1 ≤ (x3q3).toInt) ∧ ((x3q3).toInt ≤ 296) ∧ n = (300 - (x3q3).toInt).toNat, ⟨_, rfl, rfl, (by (try simp (disch := first | ((try simp (disch := first | ((try simp only [pn]) <;> omega) | fail) only [pn, pq]) <;> omega) | fail) only [pn, pq]) <;> (intros; (try simp (disch := first | ((try simp (disch := first | ((try simp only [pn]) <;> omega) | fail) only [pn, pq]) <;> omega) | fail) only [pn, pq]) <;> omega)), (by (try simp (disch := first | ((try simp (disch := first | ((try simp only [pn]) <;> omega) | fail) only [pn, pq]) <;> omega) | fail) only [pn, pq]) <;> (intros; (try simp (disch := first | ((try simp (disch := first | ((try simp only [pn]) <;> omega) | fail) only [pn, pq]) <;> omega) | fail) only [pn, pq]) <;> omega)), rfl⟩, ?_⟩
  rintro n4 x1q3 x2q3 x3q3 ⟨hkq3_0, hkq3_1, hiq3_0, hiq3_1, hn4⟩
  subst hkq3_0
  subst hkq3_1
  have rgx1q3 := pt_rg x1q3
  have rgx2q3 := pt_rg x2q3
  have rgx3q3 := pt_rg x3q3
  unfold wp_X6_goneAlong_9b
  have jr2 := atf_rng (N := 233) (J6g_edgeStarts hJ) ((x1q3 + (1 : Int32))) (by decide) (by decide)
  refine sf_X8_at (by decide) (fun r5 hr5_0 => ?_)
  have rgr5 := pt_rg r5
  try simp (disch := first | ((try simp (disch := first | ((try simp only [pn]) <;> omega) | fail) only [pn, pq]) <;> omega) | fail) only [pn, pq] at hr5_0
  refine ⟨fun c7 => ?_, fun c7 => ?_⟩
  · try simp (disch := first | ((try simp (disch := first | ((try simp only [pn]) <;> omega) | fail) only [pn, pq]) <;> omega) | fail) only [pn, pq] at c7
    exact hq _ 
  · try simp (disch := first | ((try simp (disch := first | ((try simp only [pn]) <;> omega) | fail) only [pn, pq]) <;> omega) | fail) only [pn, pq] at c7
    refine sf_X8_at (by decide) (fun r8 hr8_0 => ?_)
    have rgr8 := pt_rg r8
    try simp (disch := first | ((try simp (disch := first | ((try simp only [pn]) <;> omega) | fail) only [pn, pq]) <;> omega) | fail) only [pn, pq] at hr8_0
    refine ⟨fun c10 => ?_, fun c10 => ?_⟩
    · try simp (disch := first | ((try simp (disch := first | ((try simp only [pn]) <;> omega) | fail) only [pn, pq]) <;> omega) | fail) only [pn, pq] at c10
      refine ⟨_, ?_, ?_, ?_, ?_, ?_, rfl⟩
      · (try simp (disch := first | ((try simp (disch := first | ((try simp only [pn]) <;> omega) | fail) only [pn, pq]) <;> omega) | fail) only [pn, pq]) <;> (intros; (try simp (disch := first | ((try simp (disch := first | ((try simp only [pn]) <;> omega) | fail) only [pn, pq]) <;> omega) | fail) only [pn, pq]) <;> omega)
      · first | rfl | assumption
      · first | rfl | assumption
      · (try simp (disch := first | ((try simp (disch := first | ((try simp only [pn]) <;> omega) | fail) only [pn, pq]) <;> omega) | fail) only [pn, pq]) <;> (intros; (try simp (disch := first | ((try simp (disch := first | ((try simp only [pn]) <;> omega) | fail) only [pn, pq]) <;> omega) | fail) only [pn, pq]) <;> omega)
      · (try simp (disch := first | ((try simp (disch := first | ((try simp only [pn]) <;> omega) | fail) only [pn, pq]) <;> omega) | fail) only [pn, pq]) <;> (intros; (try simp (disch := first | ((try simp (disch := first | ((try simp only [pn]) <;> omega) | fail) only [pn, pq]) <;> omega) | fail) only [pn, pq]) <;> omega)
    · try simp (disch := first | ((try simp (disch := first | ((try simp only [pn]) <;> omega) | fail) only [pn, pq]) <;> omega) | fail) only [pn, pq] at c10
      refine sf_X6_hasChild hJ (fun r11 hzr11  => ?_)
      refine ⟨fun c13 => ?_, fun c13 => ?_⟩
      · try simp (disch := first | ((try simp (disch := first | ((try simp only [pn]) <;> omega) | fail) only [pn, pq]) <;> omega) | fail) only [pn, pq] at c13
        exact hq _ 
      · try simp (disch := first | ((try simp (disch := first | ((try simp only [pn]) <;> omega) | fail) only [pn, pq]) <;> omega) | fail) only [pn, pq] at c13
        refine sf_X8_at (by decide) (fun r14 hr14_0 => ?_)
        have rgr14 := pt_rg r14
        try simp (disch := first | ((try simp (disch := first | ((try simp only [pn]) <;> omega) | fail) only [pn, pq]) <;> omega) | fail) only [pn, pq] at hr14_0
        exact hq _ 
set_option maxRecDepth 20000 in
set_option maxHeartbeats 1000000 in
theorem sf_X6_isOfItems {a0 : Int32} {Q : Int32 → Prop} (hq : ∀ r : Int32, bf_bool r → Q r) : wp_X6_isOfItems a0 Q := by
  unfold wp_X6_isOfItems
  have rga0 := pt_rg a0
  refine ⟨fun c1 => ?_, fun c1 => ?_⟩
  · try simp (disch := first | ((try simp (disch := first | ((try simp only [pn]) <;> omega) | fail) only [pn, pq]) <;> omega) | fail) only [pn, pq] at c1
    unfold wp_X6_isOfItems_15
    exact ⟨by first | rfl | assumption, hq _ (by first | rfl | assumption) ⟩
  · try simp (disch := first | ((try simp (disch := first | ((try simp only [pn]) <;> omega) | fail) only [pn, pq]) <;> omega) | fail) only [pn, pq] at c1
    refine ⟨fun c2 => ?_, fun c2 => ?_⟩
    · try simp (disch := first | ((try simp (disch := first | ((try simp only [pn]) <;> omega) | fail) only [pn, pq]) <;> omega) | fail) only [pn, pq] at c2
      unfold wp_X6_isOfItems_15
      exact ⟨by first | rfl | assumption, hq _ (by first | rfl | assumption) ⟩
    · try simp (disch := first | ((try simp (disch := first | ((try simp only [pn]) <;> omega) | fail) only [pn, pq]) <;> omega) | fail) only [pn, pq] at c2
      refine ⟨fun c3 => ?_, fun c3 => ?_⟩
      · try simp (disch := first | ((try simp (disch := first | ((try simp only [pn]) <;> omega) | fail) only [pn, pq]) <;> omega) | fail) only [pn, pq] at c3
        exact ⟨by first | rfl | assumption, hq _ (by first | rfl | assumption) ⟩
      · try simp (disch := first | ((try simp (disch := first | ((try simp only [pn]) <;> omega) | fail) only [pn, pq]) <;> omega) | fail) only [pn, pq] at c3
        unfold wp_X6_isOfItems_15
        exact ⟨by first | rfl | assumption, hq _ (by first | rfl | assumption) ⟩
set_option maxRecDepth 20000 in
set_option maxHeartbeats 1000000 in
theorem sf_X6_firstEdgeOf {S : bT6} (hJ : J6 S) {a1 : Int32} {Q : Int32 → Prop} (hq : ∀ r : Int32, (-1 ≤ r.toInt) → (r.toInt ≤ 296) → Q r) : wp_X6_firstEdgeOf S a1 Q := by
  unfold wp_X6_firstEdgeOf
  have jf1 := J6g_itemStart hJ
  have rga1 := pt_rg a1
  refine sf_X6_isOfItems  (fun r1 hzr1  => ?_)
  refine ⟨fun c3 => ?_, fun c3 => ?_⟩
  · try simp (disch := first | ((try simp (disch := first | ((try simp only [pn]) <;> omega) | fail) only [pn, pq]) <;> omega) | fail) only [pn, pq] at c3
    exact hq _ (by (try simp (disch := first | ((try simp (disch := first | ((try simp only [pn]) <;> omega) | fail) only [pn, pq]) <;> omega) | fail) only [pn, pq]) <;> (intros; (try simp (disch := first | ((try simp (disch := first | ((try simp only [pn]) <;> omega) | fail) only [pn, pq]) <;> omega) | fail) only [pn, pq]) <;> omega)) (by (try simp (disch := first | ((try simp (disch := first | ((try simp only [pn]) <;> omega) | fail) only [pn, pq]) <;> omega) | fail) only [pn, pq]) <;> (intros; (try simp (disch := first | ((try simp (disch := first | ((try simp only [pn]) <;> omega) | fail) only [pn, pq]) <;> omega) | fail) only [pn, pq]) <;> omega))
  · try simp (disch := first | ((try simp (disch := first | ((try simp only [pn]) <;> omega) | fail) only [pn, pq]) <;> omega) | fail) only [pn, pq] at c3
    exact hq _ (by (try simp (disch := first | ((try simp (disch := first | ((try simp only [pn]) <;> omega) | fail) only [pn, pq]) <;> omega) | fail) only [pn, pq]) <;> (intros; (try simp (disch := first | ((try simp (disch := first | ((try simp only [pn]) <;> omega) | fail) only [pn, pq]) <;> omega) | fail) only [pn, pq]) <;> omega)) (by (try simp (disch := first | ((try simp (disch := first | ((try simp only [pn]) <;> omega) | fail) only [pn, pq]) <;> omega) | fail) only [pn, pq]) <;> (intros; (try simp (disch := first | ((try simp (disch := first | ((try simp only [pn]) <;> omega) | fail) only [pn, pq]) <;> omega) | fail) only [pn, pq]) <;> omega))
set_option maxRecDepth 20000 in
set_option maxHeartbeats 1000000 in
theorem sf_X6_lastEdgeOf {S : bT6} (hJ : J6 S) {a1 : Int32} {Q : Int32 → Prop} (hq : ∀ r : Int32, (-2 ≤ r.toInt) → (r.toInt ≤ 295) → Q r) : wp_X6_lastEdgeOf S a1 Q := by
  unfold wp_X6_lastEdgeOf
  have jf1 := J6g_edges hJ
  have jf2 := J6g_itemStart hJ
  have rga1 := pt_rg a1
  refine sf_X6_isOfItems  (fun r1 hzr1  => ?_)
  refine ⟨fun c3 => ?_, fun c3 => ?_⟩
  · try simp (disch := first | ((try simp (disch := first | ((try simp only [pn]) <;> omega) | fail) only [pn, pq]) <;> omega) | fail) only [pn, pq] at c3
    exact hq _ (by (try simp (disch := first | ((try simp (disch := first | ((try simp only [pn]) <;> omega) | fail) only [pn, pq]) <;> omega) | fail) only [pn, pq]) <;> (intros; (try simp (disch := first | ((try simp (disch := first | ((try simp only [pn]) <;> omega) | fail) only [pn, pq]) <;> omega) | fail) only [pn, pq]) <;> omega)) (by (try simp (disch := first | ((try simp (disch := first | ((try simp only [pn]) <;> omega) | fail) only [pn, pq]) <;> omega) | fail) only [pn, pq]) <;> (intros; (try simp (disch := first | ((try simp (disch := first | ((try simp only [pn]) <;> omega) | fail) only [pn, pq]) <;> omega) | fail) only [pn, pq]) <;> omega))
  · try simp (disch := first | ((try simp (disch := first | ((try simp only [pn]) <;> omega) | fail) only [pn, pq]) <;> omega) | fail) only [pn, pq] at c3
    exact hq _ (by (try simp (disch := first | ((try simp (disch := first | ((try simp only [pn]) <;> omega) | fail) only [pn, pq]) <;> omega) | fail) only [pn, pq]) <;> (intros; (try simp (disch := first | ((try simp (disch := first | ((try simp only [pn]) <;> omega) | fail) only [pn, pq]) <;> omega) | fail) only [pn, pq]) <;> omega)) (by (try simp (disch := first | ((try simp (disch := first | ((try simp only [pn]) <;> omega) | fail) only [pn, pq]) <;> omega) | fail) only [pn, pq]) <;> (intros; (try simp (disch := first | ((try simp (disch := first | ((try simp only [pn]) <;> omega) | fail) only [pn, pq]) <;> omega) | fail) only [pn, pq]) <;> omega))
set_option maxRecDepth 20000 in
set_option maxHeartbeats 1000000 in
theorem sf_X6_rowLength {S : bT6} (hJ : J6 S) {a1 : Int32} {Q : Int32 → Prop} (hq : ∀ r : Int32, Q r) : wp_X6_rowLength S a1 Q := by
  unfold wp_X6_rowLength
  have rga1 := pt_rg a1
  refine ⟨fun c1 => ?_, fun c1 => ?_⟩
  · try simp (disch := first | ((try simp (disch := first | ((try simp only [pn]) <;> omega) | fail) only [pn, pq]) <;> omega) | fail) only [pn, pq] at c1
    unfold wp_X6_rowLength_9
    exact hq _ 
  · try simp (disch := first | ((try simp (disch := first | ((try simp only [pn]) <;> omega) | fail) only [pn, pq]) <;> omega) | fail) only [pn, pq] at c1
    refine ⟨fun c2 => ?_, fun c2 => ?_⟩
    · try simp (disch := first | ((try simp (disch := first | ((try simp only [pn]) <;> omega) | fail) only [pn, pq]) <;> omega) | fail) only [pn, pq] at c2
      refine ⟨fun c3 => ?_, fun c3 => ?_⟩
      · try simp (disch := first | ((try simp (disch := first | ((try simp only [pn]) <;> omega) | fail) only [pn, pq]) <;> omega) | fail) only [pn, pq] at c3
        refine sf_X6_items hJ (fun r4  => ?_)
        have rgr4 := pt_rg r4
        exact hq _ 
      · try simp (disch := first | ((try simp (disch := first | ((try simp only [pn]) <;> omega) | fail) only [pn, pq]) <;> omega) | fail) only [pn, pq] at c3
        exact hq _ 
    · try simp (disch := first | ((try simp (disch := first | ((try simp only [pn]) <;> omega) | fail) only [pn, pq]) <;> omega) | fail) only [pn, pq] at c2
      unfold wp_X6_rowLength_9
      exact hq _ 
set_option maxRecDepth 20000 in
set_option maxHeartbeats 1000000 in
theorem sf_X6_oneOf {S : bT6} (hJ : J6 S) {a1 : Int32} {a2 : Int32} {Q : Int32 → Prop} (hq : ∀ r : Int32, Q r) : wp_X6_oneOf S a1 a2 Q := by
  unfold wp_X6_oneOf
  have jf1 := J6g_itemStart hJ
  have rga1 := pt_rg a1
  have rga2 := pt_rg a2
  refine sf_X8_at (by decide) (fun r1 hr1_0 => ?_)
  have rgr1 := pt_rg r1
  try simp (disch := first | ((try simp (disch := first | ((try simp only [pn]) <;> omega) | fail) only [pn, pq]) <;> omega) | fail) only [pn, pq] at hr1_0
  refine ⟨fun c => ?_, fun c => ?_, fun c => ?_, fun c => ?_, fun c => ?_, fun c => ?_⟩
  · skip
    have jr2 := atf_rng (N := 233) (J6g_edgeStarts hJ) (r1) (by decide) (by decide)
    refine sf_X8_at (by decide) (fun r3 hr3_0 => ?_)
    have rgr3 := pt_rg r3
    try simp (disch := first | ((try simp (disch := first | ((try simp only [pn]) <;> omega) | fail) only [pn, pq]) <;> omega) | fail) only [pn, pq] at hr3_0
    refine ⟨fun c5 => ?_, fun c5 => ?_⟩
    · try simp (disch := first | ((try simp (disch := first | ((try simp only [pn]) <;> omega) | fail) only [pn, pq]) <;> omega) | fail) only [pn, pq] at c5
      exact hq _ 
    · try simp (disch := first | ((try simp (disch := first | ((try simp only [pn]) <;> omega) | fail) only [pn, pq]) <;> omega) | fail) only [pn, pq] at c5
      exact hq _ 
  · skip
    refine sf_X6_isEnd hJ (fun r6 hzr6  => ?_)
    refine ⟨fun c8 => ?_, fun c8 => ?_⟩
    · try simp (disch := first | ((try simp (disch := first | ((try simp only [pn]) <;> omega) | fail) only [pn, pq]) <;> omega) | fail) only [pn, pq] at c8
      refine sf_X8_at (by decide) (fun r9 hr9_0 => ?_)
      have rgr9 := pt_rg r9
      try simp (disch := first | ((try simp (disch := first | ((try simp only [pn]) <;> omega) | fail) only [pn, pq]) <;> omega) | fail) only [pn, pq] at hr9_0
      exact hq _ 
    · try simp (disch := first | ((try simp (disch := first | ((try simp only [pn]) <;> omega) | fail) only [pn, pq]) <;> omega) | fail) only [pn, pq] at c8
      exact hq _ 
  · skip
    refine sf_X6_hasChild hJ (fun r11 hzr11  => ?_)
    refine ⟨fun c13 => ?_, fun c13 => ?_⟩
    · try simp (disch := first | ((try simp (disch := first | ((try simp only [pn]) <;> omega) | fail) only [pn, pq]) <;> omega) | fail) only [pn, pq] at c13
      exact hq _ 
    · try simp (disch := first | ((try simp (disch := first | ((try simp only [pn]) <;> omega) | fail) only [pn, pq]) <;> omega) | fail) only [pn, pq] at c13
      refine sf_X8_at (by decide) (fun r14 hr14_0 => ?_)
      have rgr14 := pt_rg r14
      try simp (disch := first | ((try simp (disch := first | ((try simp only [pn]) <;> omega) | fail) only [pn, pq]) <;> omega) | fail) only [pn, pq] at hr14_0
      exact hq _ 
  · skip
    refine sf_X6_isEnd hJ (fun r16 hzr16  => ?_)
    refine ⟨fun c18 => ?_, fun c18 => ?_⟩
    · try simp (disch := first | ((try simp (disch := first | ((try simp only [pn]) <;> omega) | fail) only [pn, pq]) <;> omega) | fail) only [pn, pq] at c18
      exact hq _ 
    · try simp (disch := first | ((try simp (disch := first | ((try simp only [pn]) <;> omega) | fail) only [pn, pq]) <;> omega) | fail) only [pn, pq] at c18
      exact hq _ 
  · skip
    refine sf_X6_isEnd hJ (fun r19 hzr19  => ?_)
    refine ⟨fun c21 => ?_, fun c21 => ?_⟩
    · try simp (disch := first | ((try simp (disch := first | ((try simp only [pn]) <;> omega) | fail) only [pn, pq]) <;> omega) | fail) only [pn, pq] at c21
      exact hq _ 
    · try simp (disch := first | ((try simp (disch := first | ((try simp only [pn]) <;> omega) | fail) only [pn, pq]) <;> omega) | fail) only [pn, pq] at c21
      exact hq _ 
  · skip
    refine sf_X6_hasChild hJ (fun r22 hzr22  => ?_)
    refine ⟨fun c24 => ?_, fun c24 => ?_⟩
    · try simp (disch := first | ((try simp (disch := first | ((try simp only [pn]) <;> omega) | fail) only [pn, pq]) <;> omega) | fail) only [pn, pq] at c24
      exact hq _ 
    · try simp (disch := first | ((try simp (disch := first | ((try simp only [pn]) <;> omega) | fail) only [pn, pq]) <;> omega) | fail) only [pn, pq] at c24
      exact hq _ 
set_option maxRecDepth 20000 in
set_option maxHeartbeats 1000000 in
theorem sf_X6_onesAhead {S : bT6} (hJ : J6 S) {a1 : Int32} {a2 : Int32} {Q : Int32 → Prop} (hq : ∀ r : Int32, Q r) : wp_X6_onesAhead S a1 a2 Q := by
  unfold wp_X6_onesAhead
  have rga1 := pt_rg a1
  have rga2 := pt_rg a2
  refine sf_X6_lastEdgeOf hJ (fun r1 hr1_0 hr1_1 => ?_)
  have rgr1 := pt_rg r1
  try simp (disch := first | ((try simp (disch := first | ((try simp only [pn]) <;> omega) | fail) only [pn, pq]) <;> omega) | fail) only [pn, pq] at hr1_0
  try simp (disch := first | ((try simp (disch := first | ((try simp only [pn]) <;> omega) | fail) only [pn, pq]) <;> omega) | fail) only [pn, pq] at hr1_1
  refine sf_X6_firstEdgeOf hJ (fun r3 hr3_0 hr3_1 => ?_)
  have rgr3 := pt_rg r3
  try simp (disch := first | ((try simp (disch := first | ((try simp only [pn]) <;> omega) | fail) only [pn, pq]) <;> omega) | fail) only [pn, pq] at hr3_0
  try simp (disch := first | ((try simp (disch := first | ((try simp only [pn]) <;> omega) | fail) only [pn, pq]) <;> omega) | fail) only [pn, pq] at hr3_1
  refine ⟨fun n x1q5 x2q5 x3q5 x4q5 x5q5 => (x1q5 = a1) ∧ (x2q5 = a2) ∧ (x4q5 = r1) ∧ ((x4q5).toInt ≤ 295) ∧ (-1 ≤ (x5q5).toInt) ∧ ((x5q5).toInt ≤ 296) ∧ n = (300 - (x5q5).toInt).toNat, ⟨_, rfl, rfl, rfl, (by (try simp (disch := first | ((try simp (disch := first | ((try simp only [pn]) <;> omega) | fail) only [pn, pq]) <;> omega) | fail) only [pn, pq]) <;> (intros; (try simp (disch := first | ((try simp (disch := first | ((try simp only [pn]) <;> omega) | fail) only [pn, pq]) <;> omega) | fail) only [pn, pq]) <;> omega)), (by (try simp (disch := first | ((try simp (disch := first | ((try simp only [pn]) <;> omega) | fail) only [pn, pq]) <;> omega) | fail) only [pn, pq]) <;> (intros; (try simp (disch := first | ((try simp (disch := first | ((try simp only [pn]) <;> omega) | fail) only [pn, pq]) <;> omega) | fail) only [pn, pq]) <;> omega)), (by (try simp (disch := first | ((try simp (disch := first | ((try simp only [pn]) <;> omega) | fail) only [pn, pq]) <;> omega) | fail) only [pn, pq]) <;> (intros; (try simp (disch := first | ((try simp (disch := first | ((try simp only [pn]) <;> omega) | fail) only [pn, pq]) <;> omega) | fail) only [pn, pq]) <;> omega)), rfl⟩, ?_⟩
  rintro n6 x1q5 x2q5 x3q5 x4q5 x5q5 ⟨hkq5_0, hkq5_1, hkq5_2, hiq5_0, hiq5_1, hiq5_2, hn6⟩
  subst hkq5_0
  subst hkq5_1
  subst hkq5_2
  have rgx1q5 := pt_rg x1q5
  have rgx2q5 := pt_rg x2q5
  have rgx3q5 := pt_rg x3q5
  have rgx4q5 := pt_rg x4q5
  have rgx5q5 := pt_rg x5q5
  unfold wp_X6_onesAhead_16b
  refine ⟨fun c7 => ?_, fun c7 => ?_⟩
  · try simp (disch := first | ((try simp (disch := first | ((try simp only [pn]) <;> omega) | fail) only [pn, pq]) <;> omega) | fail) only [pn, pq] at c7
    exact hq _ 
  · try simp (disch := first | ((try simp (disch := first | ((try simp only [pn]) <;> omega) | fail) only [pn, pq]) <;> omega) | fail) only [pn, pq] at c7
    refine sf_X6_oneOf hJ (fun r8  => ?_)
    have rgr8 := pt_rg r8
    refine ⟨fun c10 => ?_, fun c10 => ?_⟩
    · try simp (disch := first | ((try simp (disch := first | ((try simp only [pn]) <;> omega) | fail) only [pn, pq]) <;> omega) | fail) only [pn, pq] at c10
      unfold wp_X6_onesAhead_49
      unfold wp_X6_onesAhead_50
      refine ⟨_, ?_, ?_, ?_, ?_, ?_, ?_, ?_, rfl⟩
      · (try simp (disch := first | ((try simp (disch := first | ((try simp only [pn]) <;> omega) | fail) only [pn, pq]) <;> omega) | fail) only [pn, pq]) <;> (intros; (try simp (disch := first | ((try simp (disch := first | ((try simp only [pn]) <;> omega) | fail) only [pn, pq]) <;> omega) | fail) only [pn, pq]) <;> omega)
      · first | rfl | assumption
      · first | rfl | assumption
      · first | rfl | assumption
      · (try simp (disch := first | ((try simp (disch := first | ((try simp only [pn]) <;> omega) | fail) only [pn, pq]) <;> omega) | fail) only [pn, pq]) <;> (intros; (try simp (disch := first | ((try simp (disch := first | ((try simp only [pn]) <;> omega) | fail) only [pn, pq]) <;> omega) | fail) only [pn, pq]) <;> omega)
      · (try simp (disch := first | ((try simp (disch := first | ((try simp only [pn]) <;> omega) | fail) only [pn, pq]) <;> omega) | fail) only [pn, pq]) <;> (intros; (try simp (disch := first | ((try simp (disch := first | ((try simp only [pn]) <;> omega) | fail) only [pn, pq]) <;> omega) | fail) only [pn, pq]) <;> omega)
      · (try simp (disch := first | ((try simp (disch := first | ((try simp only [pn]) <;> omega) | fail) only [pn, pq]) <;> omega) | fail) only [pn, pq]) <;> (intros; (try simp (disch := first | ((try simp (disch := first | ((try simp only [pn]) <;> omega) | fail) only [pn, pq]) <;> omega) | fail) only [pn, pq]) <;> omega)
    · try simp (disch := first | ((try simp (disch := first | ((try simp only [pn]) <;> omega) | fail) only [pn, pq]) <;> omega) | fail) only [pn, pq] at c10
      refine ⟨fun c11 => ?_, fun c11 => ?_⟩
      · try simp (disch := first | ((try simp (disch := first | ((try simp only [pn]) <;> omega) | fail) only [pn, pq]) <;> omega) | fail) only [pn, pq] at c11
        unfold wp_X6_onesAhead_49
        unfold wp_X6_onesAhead_50
        refine ⟨_, ?_, ?_, ?_, ?_, ?_, ?_, ?_, rfl⟩
        · (try simp (disch := first | ((try simp (disch := first | ((try simp only [pn]) <;> omega) | fail) only [pn, pq]) <;> omega) | fail) only [pn, pq]) <;> (intros; (try simp (disch := first | ((try simp (disch := first | ((try simp only [pn]) <;> omega) | fail) only [pn, pq]) <;> omega) | fail) only [pn, pq]) <;> omega)
        · first | rfl | assumption
        · first | rfl | assumption
        · first | rfl | assumption
        · (try simp (disch := first | ((try simp (disch := first | ((try simp only [pn]) <;> omega) | fail) only [pn, pq]) <;> omega) | fail) only [pn, pq]) <;> (intros; (try simp (disch := first | ((try simp (disch := first | ((try simp only [pn]) <;> omega) | fail) only [pn, pq]) <;> omega) | fail) only [pn, pq]) <;> omega)
        · (try simp (disch := first | ((try simp (disch := first | ((try simp only [pn]) <;> omega) | fail) only [pn, pq]) <;> omega) | fail) only [pn, pq]) <;> (intros; (try simp (disch := first | ((try simp (disch := first | ((try simp only [pn]) <;> omega) | fail) only [pn, pq]) <;> omega) | fail) only [pn, pq]) <;> omega)
        · (try simp (disch := first | ((try simp (disch := first | ((try simp only [pn]) <;> omega) | fail) only [pn, pq]) <;> omega) | fail) only [pn, pq]) <;> (intros; (try simp (disch := first | ((try simp (disch := first | ((try simp only [pn]) <;> omega) | fail) only [pn, pq]) <;> omega) | fail) only [pn, pq]) <;> omega)
      · try simp (disch := first | ((try simp (disch := first | ((try simp only [pn]) <;> omega) | fail) only [pn, pq]) <;> omega) | fail) only [pn, pq] at c11
        unfold wp_X6_onesAhead_50
        refine ⟨_, ?_, ?_, ?_, ?_, ?_, ?_, ?_, rfl⟩
        · (try simp (disch := first | ((try simp (disch := first | ((try simp only [pn]) <;> omega) | fail) only [pn, pq]) <;> omega) | fail) only [pn, pq]) <;> (intros; (try simp (disch := first | ((try simp (disch := first | ((try simp only [pn]) <;> omega) | fail) only [pn, pq]) <;> omega) | fail) only [pn, pq]) <;> omega)
        · first | rfl | assumption
        · first | rfl | assumption
        · first | rfl | assumption
        · (try simp (disch := first | ((try simp (disch := first | ((try simp only [pn]) <;> omega) | fail) only [pn, pq]) <;> omega) | fail) only [pn, pq]) <;> (intros; (try simp (disch := first | ((try simp (disch := first | ((try simp only [pn]) <;> omega) | fail) only [pn, pq]) <;> omega) | fail) only [pn, pq]) <;> omega)
        · (try simp (disch := first | ((try simp (disch := first | ((try simp only [pn]) <;> omega) | fail) only [pn, pq]) <;> omega) | fail) only [pn, pq]) <;> (intros; (try simp (disch := first | ((try simp (disch := first | ((try simp only [pn]) <;> omega) | fail) only [pn, pq]) <;> omega) | fail) only [pn, pq]) <;> omega)
        · (try simp (disch := first | ((try simp (disch := first | ((try simp only [pn]) <;> omega) | fail) only [pn, pq]) <;> omega) | fail) only [pn, pq]) <;> (intros; (try simp (disch := first | ((try simp (disch := first | ((try simp only [pn]) <;> omega) | fail) only [pn, pq]) <;> omega) | fail) only [pn, pq]) <;> omega)
set_option maxRecDepth 20000 in
set_option maxHeartbeats 1000000 in
theorem sf_X6_placeOfOne {S : bT6} (hJ : J6 S) {a1 : Int32} {a2 : Int32} {Q : Int32 → Prop} (hq : ∀ r : Int32, Q r) : wp_X6_placeOfOne S a1 a2 Q := by
  unfold wp_X6_placeOfOne
  have rga1 := pt_rg a1
  have rga2 := pt_rg a2
  refine sf_X6_lastEdgeOf hJ (fun r1 hr1_0 hr1_1 => ?_)
  have rgr1 := pt_rg r1
  try simp (disch := first | ((try simp (disch := first | ((try simp only [pn]) <;> omega) | fail) only [pn, pq]) <;> omega) | fail) only [pn, pq] at hr1_0
  try simp (disch := first | ((try simp (disch := first | ((try simp only [pn]) <;> omega) | fail) only [pn, pq]) <;> omega) | fail) only [pn, pq] at hr1_1
  refine sf_X6_firstEdgeOf hJ (fun r3 hr3_0 hr3_1 => ?_)
  have rgr3 := pt_rg r3
  try simp (disch := first | ((try simp (disch := first | ((try simp only [pn]) <;> omega) | fail) only [pn, pq]) <;> omega) | fail) only [pn, pq] at hr3_0
  try simp (disch := first | ((try simp (disch := first | ((try simp only [pn]) <;> omega) | fail) only [pn, pq]) <;> omega) | fail) only [pn, pq] at hr3_1
  refine ⟨fun n x1q5 x2q5 x3q5 x4q5 x5q5 => (x1q5 = a1) ∧ (x2q5 = a2) ∧ (x4q5 = r1) ∧ ((x4q5).toInt ≤ 295) ∧ (-1 ≤ (x5q5).toInt) ∧ ((x5q5).toInt ≤ 296) ∧ n = (300 - (x5q5).toInt).toNat, ⟨_, rfl, rfl, rfl, (by (try simp (disch := first | ((try simp (disch := first | ((try simp only [pn]) <;> omega) | fail) only [pn, pq]) <;> omega) | fail) only [pn, pq]) <;> (intros; (try simp (disch := first | ((try simp (disch := first | ((try simp only [pn]) <;> omega) | fail) only [pn, pq]) <;> omega) | fail) only [pn, pq]) <;> omega)), (by (try simp (disch := first | ((try simp (disch := first | ((try simp only [pn]) <;> omega) | fail) only [pn, pq]) <;> omega) | fail) only [pn, pq]) <;> (intros; (try simp (disch := first | ((try simp (disch := first | ((try simp only [pn]) <;> omega) | fail) only [pn, pq]) <;> omega) | fail) only [pn, pq]) <;> omega)), (by (try simp (disch := first | ((try simp (disch := first | ((try simp only [pn]) <;> omega) | fail) only [pn, pq]) <;> omega) | fail) only [pn, pq]) <;> (intros; (try simp (disch := first | ((try simp (disch := first | ((try simp only [pn]) <;> omega) | fail) only [pn, pq]) <;> omega) | fail) only [pn, pq]) <;> omega)), rfl⟩, ?_⟩
  rintro n6 x1q5 x2q5 x3q5 x4q5 x5q5 ⟨hkq5_0, hkq5_1, hkq5_2, hiq5_0, hiq5_1, hiq5_2, hn6⟩
  subst hkq5_0
  subst hkq5_1
  subst hkq5_2
  have rgx1q5 := pt_rg x1q5
  have rgx2q5 := pt_rg x2q5
  have rgx3q5 := pt_rg x3q5
  have rgx4q5 := pt_rg x4q5
  have rgx5q5 := pt_rg x5q5
  unfold wp_X6_placeOfOne_16b
  refine ⟨fun c7 => ?_, fun c7 => ?_⟩
  · try simp (disch := first | ((try simp (disch := first | ((try simp only [pn]) <;> omega) | fail) only [pn, pq]) <;> omega) | fail) only [pn, pq] at c7
    exact hq _ 
  · try simp (disch := first | ((try simp (disch := first | ((try simp only [pn]) <;> omega) | fail) only [pn, pq]) <;> omega) | fail) only [pn, pq] at c7
    refine sf_X6_oneOf hJ (fun r8  => ?_)
    have rgr8 := pt_rg r8
    refine ⟨fun c10 => ?_, fun c10 => ?_⟩
    · try simp (disch := first | ((try simp (disch := first | ((try simp only [pn]) <;> omega) | fail) only [pn, pq]) <;> omega) | fail) only [pn, pq] at c10
      unfold wp_X6_placeOfOne_49
      refine ⟨_, ?_, ?_, ?_, ?_, ?_, ?_, ?_, rfl⟩
      · (try simp (disch := first | ((try simp (disch := first | ((try simp only [pn]) <;> omega) | fail) only [pn, pq]) <;> omega) | fail) only [pn, pq]) <;> (intros; (try simp (disch := first | ((try simp (disch := first | ((try simp only [pn]) <;> omega) | fail) only [pn, pq]) <;> omega) | fail) only [pn, pq]) <;> omega)
      · first | rfl | assumption
      · first | rfl | assumption
      · first | rfl | assumption
      · (try simp (disch := first | ((try simp (disch := first | ((try simp only [pn]) <;> omega) | fail) only [pn, pq]) <;> omega) | fail) only [pn, pq]) <;> (intros; (try simp (disch := first | ((try simp (disch := first | ((try simp only [pn]) <;> omega) | fail) only [pn, pq]) <;> omega) | fail) only [pn, pq]) <;> omega)
      · (try simp (disch := first | ((try simp (disch := first | ((try simp only [pn]) <;> omega) | fail) only [pn, pq]) <;> omega) | fail) only [pn, pq]) <;> (intros; (try simp (disch := first | ((try simp (disch := first | ((try simp only [pn]) <;> omega) | fail) only [pn, pq]) <;> omega) | fail) only [pn, pq]) <;> omega)
      · (try simp (disch := first | ((try simp (disch := first | ((try simp only [pn]) <;> omega) | fail) only [pn, pq]) <;> omega) | fail) only [pn, pq]) <;> (intros; (try simp (disch := first | ((try simp (disch := first | ((try simp only [pn]) <;> omega) | fail) only [pn, pq]) <;> omega) | fail) only [pn, pq]) <;> omega)
    · try simp (disch := first | ((try simp (disch := first | ((try simp only [pn]) <;> omega) | fail) only [pn, pq]) <;> omega) | fail) only [pn, pq] at c10
      refine ⟨fun c11 => ?_, fun c11 => ?_⟩
      · try simp (disch := first | ((try simp (disch := first | ((try simp only [pn]) <;> omega) | fail) only [pn, pq]) <;> omega) | fail) only [pn, pq] at c11
        unfold wp_X6_placeOfOne_49
        refine ⟨_, ?_, ?_, ?_, ?_, ?_, ?_, ?_, rfl⟩
        · (try simp (disch := first | ((try simp (disch := first | ((try simp only [pn]) <;> omega) | fail) only [pn, pq]) <;> omega) | fail) only [pn, pq]) <;> (intros; (try simp (disch := first | ((try simp (disch := first | ((try simp only [pn]) <;> omega) | fail) only [pn, pq]) <;> omega) | fail) only [pn, pq]) <;> omega)
        · first | rfl | assumption
        · first | rfl | assumption
        · first | rfl | assumption
        · (try simp (disch := first | ((try simp (disch := first | ((try simp only [pn]) <;> omega) | fail) only [pn, pq]) <;> omega) | fail) only [pn, pq]) <;> (intros; (try simp (disch := first | ((try simp (disch := first | ((try simp only [pn]) <;> omega) | fail) only [pn, pq]) <;> omega) | fail) only [pn, pq]) <;> omega)
        · (try simp (disch := first | ((try simp (disch := first | ((try simp only [pn]) <;> omega) | fail) only [pn, pq]) <;> omega) | fail) only [pn, pq]) <;> (intros; (try simp (disch := first | ((try simp (disch := first | ((try simp only [pn]) <;> omega) | fail) only [pn, pq]) <;> omega) | fail) only [pn, pq]) <;> omega)
        · (try simp (disch := first | ((try simp (disch := first | ((try simp only [pn]) <;> omega) | fail) only [pn, pq]) <;> omega) | fail) only [pn, pq]) <;> (intros; (try simp (disch := first | ((try simp (disch := first | ((try simp only [pn]) <;> omega) | fail) only [pn, pq]) <;> omega) | fail) only [pn, pq]) <;> omega)
      · try simp (disch := first | ((try simp (disch := first | ((try simp only [pn]) <;> omega) | fail) only [pn, pq]) <;> omega) | fail) only [pn, pq] at c11
        exact hq _ 
set_option maxRecDepth 20000 in
set_option maxHeartbeats 1000000 in
theorem sf_X7_zerosFromHighest {a0 : Int32} {Q : Int32 → Prop} (hq : ∀ r : Int32, Q r) : wp_X7_zerosFromHighest a0 Q := by
  unfold wp_X7_zerosFromHighest
  have rga0 := pt_rg a0
  refine ⟨fun n x0q1 x1q1 => (x0q1 = a0) ∧ (0 ≤ (x1q1).toInt) ∧ n = (8 + 1 - (x1q1).toInt).toNat, ⟨_, rfl, (by (try simp (disch := first | ((try simp (disch := first | ((try simp only [pn]) <;> omega) | fail) only [pn, pq]) <;> omega) | fail) only [pn, pq]) <;> (intros; (try simp (disch := first | ((try simp (disch := first | ((try simp only [pn]) <;> omega) | fail) only [pn, pq]) <;> omega) | fail) only [pn, pq]) <;> omega)), rfl⟩, ?_⟩
  rintro n2 x0q1 x1q1 ⟨hkq1_0, hiq1_0, hn2⟩
  subst hkq1_0
  have rgx0q1 := pt_rg x0q1
  have rgx1q1 := pt_rg x1q1
  unfold wp_X7_zerosFromHighest_2b
  refine ⟨fun c3 => ?_, fun c3 => ?_⟩
  · try simp (disch := first | ((try simp (disch := first | ((try simp only [pn]) <;> omega) | fail) only [pn, pq]) <;> omega) | fail) only [pn, pq] at c3
    exact hq _ 
  · try simp (disch := first | ((try simp (disch := first | ((try simp only [pn]) <;> omega) | fail) only [pn, pq]) <;> omega) | fail) only [pn, pq] at c3
    refine sf_X8_highest  (fun r4  => ?_)
    have rgr4 := pt_rg r4
    refine ⟨fun c6 => ?_, fun c6 => ?_⟩
    · try simp (disch := first | ((try simp (disch := first | ((try simp only [pn]) <;> omega) | fail) only [pn, pq]) <;> omega) | fail) only [pn, pq] at c6
      exact hq _ 
    · try simp (disch := first | ((try simp (disch := first | ((try simp only [pn]) <;> omega) | fail) only [pn, pq]) <;> omega) | fail) only [pn, pq] at c6
      refine ⟨_, ?_, ?_, ?_, rfl⟩
      · (try simp (disch := first | ((try simp (disch := first | ((try simp only [pn]) <;> omega) | fail) only [pn, pq]) <;> omega) | fail) only [pn, pq]) <;> (intros; (try simp (disch := first | ((try simp (disch := first | ((try simp only [pn]) <;> omega) | fail) only [pn, pq]) <;> omega) | fail) only [pn, pq]) <;> omega)
      · first | rfl | assumption
      · (try simp (disch := first | ((try simp (disch := first | ((try simp only [pn]) <;> omega) | fail) only [pn, pq]) <;> omega) | fail) only [pn, pq]) <;> (intros; (try simp (disch := first | ((try simp (disch := first | ((try simp only [pn]) <;> omega) | fail) only [pn, pq]) <;> omega) | fail) only [pn, pq]) <;> omega)
set_option maxRecDepth 20000 in
set_option maxHeartbeats 1000000 in
theorem sf_X7_zerosFromLowest {a0 : Int32} {Q : Int32 → Prop} (hq : ∀ r : Int32, Q r) : wp_X7_zerosFromLowest a0 Q := by
  unfold wp_X7_zerosFromLowest
  have rga0 := pt_rg a0
  refine ⟨fun n x0q1 x1q1 => (x0q1 = a0) ∧ (0 ≤ (x1q1).toInt) ∧ n = (8 + 1 - (x1q1).toInt).toNat, ⟨_, rfl, (by (try simp (disch := first | ((try simp (disch := first | ((try simp only [pn]) <;> omega) | fail) only [pn, pq]) <;> omega) | fail) only [pn, pq]) <;> (intros; (try simp (disch := first | ((try simp (disch := first | ((try simp only [pn]) <;> omega) | fail) only [pn, pq]) <;> omega) | fail) only [pn, pq]) <;> omega)), rfl⟩, ?_⟩
  rintro n2 x0q1 x1q1 ⟨hkq1_0, hiq1_0, hn2⟩
  subst hkq1_0
  have rgx0q1 := pt_rg x0q1
  have rgx1q1 := pt_rg x1q1
  unfold wp_X7_zerosFromLowest_2b
  refine ⟨fun c3 => ?_, fun c3 => ?_⟩
  · try simp (disch := first | ((try simp (disch := first | ((try simp only [pn]) <;> omega) | fail) only [pn, pq]) <;> omega) | fail) only [pn, pq] at c3
    exact hq _ 
  · try simp (disch := first | ((try simp (disch := first | ((try simp only [pn]) <;> omega) | fail) only [pn, pq]) <;> omega) | fail) only [pn, pq] at c3
    refine sf_X8_lowest  (fun r4  => ?_)
    have rgr4 := pt_rg r4
    refine ⟨fun c6 => ?_, fun c6 => ?_⟩
    · try simp (disch := first | ((try simp (disch := first | ((try simp only [pn]) <;> omega) | fail) only [pn, pq]) <;> omega) | fail) only [pn, pq] at c6
      exact hq _ 
    · try simp (disch := first | ((try simp (disch := first | ((try simp only [pn]) <;> omega) | fail) only [pn, pq]) <;> omega) | fail) only [pn, pq] at c6
      refine ⟨_, ?_, ?_, ?_, rfl⟩
      · (try simp (disch := first | ((try simp (disch := first | ((try simp only [pn]) <;> omega) | fail) only [pn, pq]) <;> omega) | fail) only [pn, pq]) <;> (intros; (try simp (disch := first | ((try simp (disch := first | ((try simp only [pn]) <;> omega) | fail) only [pn, pq]) <;> omega) | fail) only [pn, pq]) <;> omega)
      · first | rfl | assumption
      · (try simp (disch := first | ((try simp (disch := first | ((try simp only [pn]) <;> omega) | fail) only [pn, pq]) <;> omega) | fail) only [pn, pq]) <;> (intros; (try simp (disch := first | ((try simp (disch := first | ((try simp only [pn]) <;> omega) | fail) only [pn, pq]) <;> omega) | fail) only [pn, pq]) <;> omega)
def F_X7_compare (S u : bT7 × bT1) : Prop := (b7g_count u.1) = (b7g_count S.1) ∧ (b7g_hashBits u.1) = (b7g_hashBits S.1) ∧ (b7g_realBits u.1) = (b7g_realBits S.1) ∧ (b7g_falsely u.1) = (b7g_falsely S.1) ∧ u.2 = S.2
set_option maxRecDepth 20000 in
set_option maxHeartbeats 1000000 in
theorem sf_X7_compare {S : bT7 × bT1} (hJ : J7 S.1 ∧ J1 S.2) {a2 : Int64} {a4 : Int32} {a5 : Int32} {Q : (bT7 × bT1) → Prop} (hq : ∀ u : bT7 × bT1, (J7 u.1 ∧ J1 u.2) → F_X7_compare S u → Q u) : wp_X7_compare S a2 a4 a5 Q := by
  unfold wp_X7_compare
  have hFS : F_X7_compare S S := ⟨rfl, rfl, rfl, rfl, rfl⟩
  have rga4 := pt_rg a4
  have rga5 := pt_rg a5
  refine sf_X0_numberOf (J1g_owners hJ.2) (fun r1 hr1_0 hr1_1 => ?_)
  have rgr1 := pt_rg r1
  try simp (disch := first | ((try simp (disch := first | ((try simp only [pn]) <;> omega) | fail) only [pn, pq]) <;> omega) | fail) only [pn, pq] at hr1_0
  try simp (disch := first | ((try simp (disch := first | ((try simp only [pn]) <;> omega) | fail) only [pn, pq]) <;> omega) | fail) only [pn, pq] at hr1_1
  refine ⟨fun c3 => ?_, fun c3 => ?_⟩
  · try simp (disch := first | ((try simp (disch := first | ((try simp only [pn]) <;> omega) | fail) only [pn, pq]) <;> omega) | fail) only [pn, pq] at c3
    unfold wp_X7_compare_25
    refine ⟨fun c4 => ?_, fun c4 => ?_⟩
    · try simp (disch := first | ((try simp (disch := first | ((try simp only [pn]) <;> omega) | fail) only [pn, pq]) <;> omega) | fail) only [pn, pq] at c4
      exact hq _ hJ hFS 
    · try simp (disch := first | ((try simp (disch := first | ((try simp only [pn]) <;> omega) | fail) only [pn, pq]) <;> omega) | fail) only [pn, pq] at c4
      refine ⟨fun c5 => ?_, fun c5 => ?_⟩
      · try simp (disch := first | ((try simp (disch := first | ((try simp only [pn]) <;> omega) | fail) only [pn, pq]) <;> omega) | fail) only [pn, pq] at c5
        exact hq _ hJ hFS 
      · try simp (disch := first | ((try simp (disch := first | ((try simp only [pn]) <;> omega) | fail) only [pn, pq]) <;> omega) | fail) only [pn, pq] at c5
        refine ⟨pt_in (by (try simp (disch := first | ((try simp (disch := first | ((try simp only [pn]) <;> omega) | fail) only [pn, pq]) <;> omega) | fail) only [pn, pq]) <;> (intros; (try simp (disch := first | ((try simp (disch := first | ((try simp only [pn]) <;> omega) | fail) only [pn, pq]) <;> omega) | fail) only [pn, pq]) <;> omega)) (by (try simp (disch := first | ((try simp (disch := first | ((try simp only [pn]) <;> omega) | fail) only [pn, pq]) <;> omega) | fail) only [pn, pq]) <;> (intros; (try simp (disch := first | ((try simp (disch := first | ((try simp only [pn]) <;> omega) | fail) only [pn, pq]) <;> omega) | fail) only [pn, pq]) <;> omega)), ?_⟩
        intro S6 eS6
        have hJS6 : J7 S6.1 ∧ J1 S6.2 := by rw [eS6]; exact ⟨(J7s_likeHash hJ.1), hJ.2⟩
        have hFS6 : F_X7_compare S S6 := by rw [eS6]; exact hFS
        have je2 : ((b1g_salt S6.2)).toInt = ((b1g_salt S.2)).toInt := congrArg (fun z => ((b1g_salt z)).toInt) hFS6.2.2.2.2
        refine ⟨pt_in (by (try simp (disch := first | ((try simp (disch := first | ((try simp only [pn]) <;> omega) | fail) only [pn, pq]) <;> omega) | fail) only [pn, pq]) <;> (intros; (try simp (disch := first | ((try simp (disch := first | ((try simp only [pn]) <;> omega) | fail) only [pn, pq]) <;> omega) | fail) only [pn, pq]) <;> omega)) (by (try simp (disch := first | ((try simp (disch := first | ((try simp only [pn]) <;> omega) | fail) only [pn, pq]) <;> omega) | fail) only [pn, pq]) <;> (intros; (try simp (disch := first | ((try simp (disch := first | ((try simp only [pn]) <;> omega) | fail) only [pn, pq]) <;> omega) | fail) only [pn, pq]) <;> omega)), ?_⟩
        intro S7 eS7
        have hJS7 : J7 S7.1 ∧ J1 S7.2 := by rw [eS7]; exact ⟨(J7s_likeNext hJS6.1), hJS6.2⟩
        have hFS7 : F_X7_compare S S7 := by rw [eS7]; exact hFS6
        have je4 : ((b1g_salt S7.2)).toInt = ((b1g_salt S.2)).toInt := congrArg (fun z => ((b1g_salt z)).toInt) hFS7.2.2.2.2
        refine ⟨fun c8 => ?_, fun c8 => ?_⟩
        · skip
          exact hq _ hJS7 hFS7 
        · exact absurd c8 (by decide)
  · try simp (disch := first | ((try simp (disch := first | ((try simp only [pn]) <;> omega) | fail) only [pn, pq]) <;> omega) | fail) only [pn, pq] at c3
    refine sf_X1_beginningOf hJ.2 (fun r9  => ?_)
    have rgr9 := pt_rg r9
    unfold wp_X7_compare_25
    refine ⟨fun c11 => ?_, fun c11 => ?_⟩
    · try simp (disch := first | ((try simp (disch := first | ((try simp only [pn]) <;> omega) | fail) only [pn, pq]) <;> omega) | fail) only [pn, pq] at c11
      exact hq _ hJ hFS 
    · try simp (disch := first | ((try simp (disch := first | ((try simp only [pn]) <;> omega) | fail) only [pn, pq]) <;> omega) | fail) only [pn, pq] at c11
      refine ⟨fun c12 => ?_, fun c12 => ?_⟩
      · try simp (disch := first | ((try simp (disch := first | ((try simp only [pn]) <;> omega) | fail) only [pn, pq]) <;> omega) | fail) only [pn, pq] at c12
        exact hq _ hJ hFS 
      · try simp (disch := first | ((try simp (disch := first | ((try simp only [pn]) <;> omega) | fail) only [pn, pq]) <;> omega) | fail) only [pn, pq] at c12
        refine ⟨pt_in (by (try simp (disch := first | ((try simp (disch := first | ((try simp only [pn]) <;> omega) | fail) only [pn, pq]) <;> omega) | fail) only [pn, pq]) <;> (intros; (try simp (disch := first | ((try simp (disch := first | ((try simp only [pn]) <;> omega) | fail) only [pn, pq]) <;> omega) | fail) only [pn, pq]) <;> omega)) (by (try simp (disch := first | ((try simp (disch := first | ((try simp only [pn]) <;> omega) | fail) only [pn, pq]) <;> omega) | fail) only [pn, pq]) <;> (intros; (try simp (disch := first | ((try simp (disch := first | ((try simp only [pn]) <;> omega) | fail) only [pn, pq]) <;> omega) | fail) only [pn, pq]) <;> omega)), ?_⟩
        intro S13 eS13
        have hJS13 : J7 S13.1 ∧ J1 S13.2 := by rw [eS13]; exact ⟨(J7s_likeHash hJ.1), hJ.2⟩
        have hFS13 : F_X7_compare S S13 := by rw [eS13]; exact hFS
        have je6 : ((b1g_salt S13.2)).toInt = ((b1g_salt S.2)).toInt := congrArg (fun z => ((b1g_salt z)).toInt) hFS13.2.2.2.2
        refine ⟨pt_in (by (try simp (disch := first | ((try simp (disch := first | ((try simp only [pn]) <;> omega) | fail) only [pn, pq]) <;> omega) | fail) only [pn, pq]) <;> (intros; (try simp (disch := first | ((try simp (disch := first | ((try simp only [pn]) <;> omega) | fail) only [pn, pq]) <;> omega) | fail) only [pn, pq]) <;> omega)) (by (try simp (disch := first | ((try simp (disch := first | ((try simp only [pn]) <;> omega) | fail) only [pn, pq]) <;> omega) | fail) only [pn, pq]) <;> (intros; (try simp (disch := first | ((try simp (disch := first | ((try simp only [pn]) <;> omega) | fail) only [pn, pq]) <;> omega) | fail) only [pn, pq]) <;> omega)), ?_⟩
        intro S14 eS14
        have hJS14 : J7 S14.1 ∧ J1 S14.2 := by rw [eS14]; exact ⟨(J7s_likeNext hJS13.1), hJS13.2⟩
        have hFS14 : F_X7_compare S S14 := by rw [eS14]; exact hFS13
        have je8 : ((b1g_salt S14.2)).toInt = ((b1g_salt S.2)).toInt := congrArg (fun z => ((b1g_salt z)).toInt) hFS14.2.2.2.2
        refine ⟨fun c15 => ?_, fun c15 => ?_⟩
        · try simp (disch := first | ((try simp (disch := first | ((try simp only [pn]) <;> omega) | fail) only [pn, pq]) <;> omega) | fail) only [pn, pq] at c15
          exact hq _ hJS14 hFS14 
        · try simp (disch := first | ((try simp (disch := first | ((try simp only [pn]) <;> omega) | fail) only [pn, pq]) <;> omega) | fail) only [pn, pq] at c15
          refine sf_X8_mixed  (fun r16  => ?_)
          have rgr16 := pt_rg r16
          refine sf_X8_at (by decide) (fun r18 hr18_0 => ?_)
          have rgr18 := pt_rg r18
          try simp (disch := first | ((try simp (disch := first | ((try simp only [pn]) <;> omega) | fail) only [pn, pq]) <;> omega) | fail) only [pn, pq] at hr18_0
          refine sf_X1_lengthAt hJS14.2 (fun r20 hr20_0 => ?_)
          have rgr20 := pt_rg r20
          try simp (disch := first | ((try simp (disch := first | ((try simp only [pn]) <;> omega) | fail) only [pn, pq]) <;> omega) | fail) only [pn, pq] at hr20_0
          refine sf_X8_octetAt  (fun r22  => ?_)
          have rgr22 := pt_rg r22
          refine sf_X8_at (by decide) (fun r24 hr24_0 => ?_)
          have rgr24 := pt_rg r24
          try simp (disch := first | ((try simp (disch := first | ((try simp only [pn]) <;> omega) | fail) only [pn, pq]) <;> omega) | fail) only [pn, pq] at hr24_0
          refine sf_X7_zerosFromLowest  (fun r26  => ?_)
          have rgr26 := pt_rg r26
          refine ⟨pt_in (by (try simp (disch := first | ((try simp (disch := first | ((try simp only [pn]) <;> omega) | fail) only [pn, pq]) <;> omega) | fail) only [pn, pq]) <;> (intros; (try simp (disch := first | ((try simp (disch := first | ((try simp only [pn]) <;> omega) | fail) only [pn, pq]) <;> omega) | fail) only [pn, pq]) <;> omega)) (by (try simp (disch := first | ((try simp (disch := first | ((try simp only [pn]) <;> omega) | fail) only [pn, pq]) <;> omega) | fail) only [pn, pq]) <;> (intros; (try simp (disch := first | ((try simp (disch := first | ((try simp only [pn]) <;> omega) | fail) only [pn, pq]) <;> omega) | fail) only [pn, pq]) <;> omega)), ?_⟩
          intro S28 eS28
          have hJS28 : J7 S28.1 ∧ J1 S28.2 := by rw [eS28]; exact ⟨(J7s_likeHash hJS14.1), hJS14.2⟩
          have hFS28 : F_X7_compare S S28 := by rw [eS28]; exact hFS14
          have je10 : ((b1g_salt S28.2)).toInt = ((b1g_salt S.2)).toInt := congrArg (fun z => ((b1g_salt z)).toInt) hFS28.2.2.2.2
          refine sf_X7_zerosFromHighest  (fun r29  => ?_)
          have rgr29 := pt_rg r29
          refine ⟨pt_in (by (try simp (disch := first | ((try simp (disch := first | ((try simp only [pn]) <;> omega) | fail) only [pn, pq]) <;> omega) | fail) only [pn, pq]) <;> (intros; (try simp (disch := first | ((try simp (disch := first | ((try simp only [pn]) <;> omega) | fail) only [pn, pq]) <;> omega) | fail) only [pn, pq]) <;> omega)) (by (try simp (disch := first | ((try simp (disch := first | ((try simp only [pn]) <;> omega) | fail) only [pn, pq]) <;> omega) | fail) only [pn, pq]) <;> (intros; (try simp (disch := first | ((try simp (disch := first | ((try simp only [pn]) <;> omega) | fail) only [pn, pq]) <;> omega) | fail) only [pn, pq]) <;> omega)), ?_⟩
          intro S31 eS31
          have hJS31 : J7 S31.1 ∧ J1 S31.2 := by rw [eS31]; exact ⟨(J7s_likeNext hJS28.1), hJS28.2⟩
          have hFS31 : F_X7_compare S S31 := by rw [eS31]; exact hFS28
          have je12 : ((b1g_salt S31.2)).toInt = ((b1g_salt S.2)).toInt := congrArg (fun z => ((b1g_salt z)).toInt) hFS31.2.2.2.2
          exact hq _ hJS31 hFS31 
set_option maxRecDepth 20000 in
set_option maxHeartbeats 1000000 in
theorem sf_X7_falseBy {S : bT7} (hJ : J7 S) {a1 : Int32} {a2 : Int32} {Q : Int32 → Prop} (hq : ∀ r : Int32, Q r) : wp_X7_falseBy S a1 a2 Q := by
  unfold wp_X7_falseBy
  have jf1 := J7g_count hJ
  have rga1 := pt_rg a1
  have rga2 := pt_rg a2
  refine ⟨fun n x1q1 x2q1 x3q1 x4q1 => (x1q1 = a1) ∧ (x2q1 = a2) ∧ (0 ≤ (x4q1).toInt) ∧ n = (((b7g_count S)).toInt + 1 - (x4q1).toInt).toNat, ⟨_, rfl, rfl, (by (try simp (disch := first | ((try simp (disch := first | ((try simp only [pn]) <;> omega) | fail) only [pn, pq]) <;> omega) | fail) only [pn, pq]) <;> (intros; (try simp (disch := first | ((try simp (disch := first | ((try simp only [pn]) <;> omega) | fail) only [pn, pq]) <;> omega) | fail) only [pn, pq]) <;> omega)), rfl⟩, ?_⟩
  rintro n2 x1q1 x2q1 x3q1 x4q1 ⟨hkq1_0, hkq1_1, hiq1_0, hn2⟩
  subst hkq1_0
  subst hkq1_1
  have rgx1q1 := pt_rg x1q1
  have rgx2q1 := pt_rg x2q1
  have rgx3q1 := pt_rg x3q1
  have rgx4q1 := pt_rg x4q1
  unfold wp_X7_falseBy_5b
  refine ⟨fun c3 => ?_, fun c3 => ?_⟩
  · try simp (disch := first | ((try simp (disch := first | ((try simp only [pn]) <;> omega) | fail) only [pn, pq]) <;> omega) | fail) only [pn, pq] at c3
    exact hq _ 
  · try simp (disch := first | ((try simp (disch := first | ((try simp only [pn]) <;> omega) | fail) only [pn, pq]) <;> omega) | fail) only [pn, pq] at c3
    refine sf_X8_at (by decide) (fun r4 hr4_0 => ?_)
    have rgr4 := pt_rg r4
    try simp (disch := first | ((try simp (disch := first | ((try simp only [pn]) <;> omega) | fail) only [pn, pq]) <;> omega) | fail) only [pn, pq] at hr4_0
    refine ⟨fun c6 => ?_, fun c6 => ?_⟩
    · try simp (disch := first | ((try simp (disch := first | ((try simp only [pn]) <;> omega) | fail) only [pn, pq]) <;> omega) | fail) only [pn, pq] at c6
      unfold wp_X7_falseBy_45
      unfold wp_X7_falseBy_46
      refine ⟨_, ?_, ?_, ?_, ?_, rfl⟩
      · (try simp (disch := first | ((try simp (disch := first | ((try simp only [pn]) <;> omega) | fail) only [pn, pq]) <;> omega) | fail) only [pn, pq]) <;> (intros; (try simp (disch := first | ((try simp (disch := first | ((try simp only [pn]) <;> omega) | fail) only [pn, pq]) <;> omega) | fail) only [pn, pq]) <;> omega)
      · first | rfl | assumption
      · first | rfl | assumption
      · (try simp (disch := first | ((try simp (disch := first | ((try simp only [pn]) <;> omega) | fail) only [pn, pq]) <;> omega) | fail) only [pn, pq]) <;> (intros; (try simp (disch := first | ((try simp (disch := first | ((try simp only [pn]) <;> omega) | fail) only [pn, pq]) <;> omega) | fail) only [pn, pq]) <;> omega)
    · try simp (disch := first | ((try simp (disch := first | ((try simp only [pn]) <;> omega) | fail) only [pn, pq]) <;> omega) | fail) only [pn, pq] at c6
      refine sf_X8_at (by decide) (fun r7 hr7_0 => ?_)
      have rgr7 := pt_rg r7
      try simp (disch := first | ((try simp (disch := first | ((try simp only [pn]) <;> omega) | fail) only [pn, pq]) <;> omega) | fail) only [pn, pq] at hr7_0
      refine ⟨fun c9 => ?_, fun c9 => ?_⟩
      · try simp (disch := first | ((try simp (disch := first | ((try simp only [pn]) <;> omega) | fail) only [pn, pq]) <;> omega) | fail) only [pn, pq] at c9
        unfold wp_X7_falseBy_45
        unfold wp_X7_falseBy_46
        refine ⟨_, ?_, ?_, ?_, ?_, rfl⟩
        · (try simp (disch := first | ((try simp (disch := first | ((try simp only [pn]) <;> omega) | fail) only [pn, pq]) <;> omega) | fail) only [pn, pq]) <;> (intros; (try simp (disch := first | ((try simp (disch := first | ((try simp only [pn]) <;> omega) | fail) only [pn, pq]) <;> omega) | fail) only [pn, pq]) <;> omega)
        · first | rfl | assumption
        · first | rfl | assumption
        · (try simp (disch := first | ((try simp (disch := first | ((try simp only [pn]) <;> omega) | fail) only [pn, pq]) <;> omega) | fail) only [pn, pq]) <;> (intros; (try simp (disch := first | ((try simp (disch := first | ((try simp only [pn]) <;> omega) | fail) only [pn, pq]) <;> omega) | fail) only [pn, pq]) <;> omega)
      · try simp (disch := first | ((try simp (disch := first | ((try simp only [pn]) <;> omega) | fail) only [pn, pq]) <;> omega) | fail) only [pn, pq] at c9
        unfold wp_X7_falseBy_46
        refine ⟨_, ?_, ?_, ?_, ?_, rfl⟩
        · (try simp (disch := first | ((try simp (disch := first | ((try simp only [pn]) <;> omega) | fail) only [pn, pq]) <;> omega) | fail) only [pn, pq]) <;> (intros; (try simp (disch := first | ((try simp (disch := first | ((try simp only [pn]) <;> omega) | fail) only [pn, pq]) <;> omega) | fail) only [pn, pq]) <;> omega)
        · first | rfl | assumption
        · first | rfl | assumption
        · (try simp (disch := first | ((try simp (disch := first | ((try simp only [pn]) <;> omega) | fail) only [pn, pq]) <;> omega) | fail) only [pn, pq]) <;> (intros; (try simp (disch := first | ((try simp (disch := first | ((try simp only [pn]) <;> omega) | fail) only [pn, pq]) <;> omega) | fail) only [pn, pq]) <;> omega)
def F_X7_tune (S u : bT7 × bT1 × bT0) : Prop := u.2.1 = S.2.1 ∧ u.2.2 = S.2.2
set_option maxRecDepth 20000 in
set_option maxHeartbeats 1000000 in
theorem sf_X7_tune {S : bT7 × bT1 × bT0} (hJ : J7 S.1 ∧ J1 S.2.1 ∧ J0 S.2.2) {a3 : Int32} {Q : (bT7 × bT1 × bT0) → Prop} (hp0 : a3.toInt ≤ 16) (hq : ∀ u : bT7 × bT1 × bT0, (J7 u.1 ∧ J1 u.2.1 ∧ J0 u.2.2) → F_X7_tune S u → Q u) : wp_X7_tune S a3 Q := by
  unfold wp_X7_tune
  have hFS : F_X7_tune S S := ⟨rfl, rfl⟩
  have jf1 := J7g_count hJ.1
  have jf2 := J0g_count hJ.2.2
  have rga3 := pt_rg a3
  intro v1 ev1
  have nv1 := congrArg Int32.toInt ev1
  try simp (disch := first | ((try simp (disch := first | ((try simp only [pn]) <;> omega) | fail) only [pn, pq]) <;> omega) | fail) only [pn, pq] at nv1
  intro S2 eS2
  have hJS2 : J7 S2.1 ∧ J1 S2.2.1 ∧ J0 S2.2.2 := by rw [eS2]; exact ⟨(J7s_count hJ.1 ⟨(by (try simp (disch := first | ((try simp (disch := first | ((try simp only [pn]) <;> omega) | fail) only [pn, pq]) <;> omega) | fail) only [pn, pq]) <;> (intros; (try simp (disch := first | ((try simp (disch := first | ((try simp only [pn]) <;> omega) | fail) only [pn, pq]) <;> omega) | fail) only [pn, pq]) <;> omega)), (by (try simp (disch := first | ((try simp (disch := first | ((try simp only [pn]) <;> omega) | fail) only [pn, pq]) <;> omega) | fail) only [pn, pq]) <;> (intros; (try simp (disch := first | ((try simp (disch := first | ((try simp only [pn]) <;> omega) | fail) only [pn, pq]) <;> omega) | fail) only [pn, pq]) <;> omega))⟩), hJ.2.1, hJ.2.2⟩
  have hFS2 : F_X7_tune S S2 := by rw [eS2]; exact hFS
  have je3 : ((b7g_count S2.1)).toInt = (v1).toInt := by rw [eS2]
  try simp (disch := first | ((try simp (disch := first | ((try simp only [pn]) <;> omega) | fail) only [pn, pq]) <;> omega) | fail) only [pn, pq] at je3
  have jf4 := J7g_count hJS2.1
  have je5 : ((b7g_falsely S2.1)).toInt = ((b7g_falsely S.1)).toInt := by rw [eS2]
  have je7 : ((b0g_count S2.2.2)).toInt = ((b0g_count S.2.2)).toInt := congrArg (fun z => ((b0g_count z)).toInt) hFS2.2
  refine ⟨fun n x3q3 x4q3 Sq3 => (J7 Sq3.1 ∧ J1 Sq3.2.1 ∧ J0 Sq3.2.2) ∧ (F_X7_tune S Sq3) ∧ (x3q3 = a3) ∧ (0 ≤ (x4q3).toInt) ∧ n = (((b7g_count Sq3.1)).toInt + 1 - (x4q3).toInt).toNat, ⟨_, hJS2, hFS2, rfl, (by (try simp (disch := first | ((try simp (disch := first | ((try simp only [pn]) <;> omega) | fail) only [pn, pq]) <;> omega) | fail) only [pn, pq]) <;> (intros; (try simp (disch := first | ((try simp (disch := first | ((try simp only [pn]) <;> omega) | fail) only [pn, pq]) <;> omega) | fail) only [pn, pq]) <;> omega)), rfl⟩, ?_⟩
  rintro n4 x3q3 x4q3 Sq3 ⟨hJSq3, hFSq3, hkq3_0, hiq3_0, hn4⟩
  subst hkq3_0
  have rgx3q3 := pt_rg x3q3
  have rgx4q3 := pt_rg x4q3
  unfold wp_X7_tune_16b
  have jf8 := J7g_count hJSq3.1
  have je10 : ((b0g_count Sq3.2.2)).toInt = ((b0g_count S.2.2)).toInt := congrArg (fun z => ((b0g_count z)).toInt) hFSq3.2
  refine ⟨fun c5 => ?_, fun c5 => ?_⟩
  · try simp (disch := first | ((try simp (disch := first | ((try simp only [pn]) <;> omega) | fail) only [pn, pq]) <;> omega) | fail) only [pn, pq] at c5
    intro S6 eS6
    have hJS6 : J7 S6.1 ∧ J1 S6.2.1 ∧ J0 S6.2.2 := by rw [eS6]; exact ⟨(J7s_hashBits hJSq3.1), hJSq3.2.1, hJSq3.2.2⟩
    have hFS6 : F_X7_tune S S6 := by rw [eS6]; exact hFSq3
    have je11 : ((b7g_count S6.1)).toInt = ((b7g_count Sq3.1)).toInt := by rw [eS6]
    have jf12 := J7g_count hJS6.1
    have je13 : ((b7g_falsely S6.1)).toInt = ((b7g_falsely Sq3.1)).toInt := by rw [eS6]
    have je15 : ((b0g_count S6.2.2)).toInt = ((b0g_count S.2.2)).toInt := congrArg (fun z => ((b0g_count z)).toInt) hFS6.2
    intro S7 eS7
    have hJS7 : J7 S7.1 ∧ J1 S7.2.1 ∧ J0 S7.2.2 := by rw [eS7]; exact ⟨(J7s_realBits hJS6.1), hJS6.2.1, hJS6.2.2⟩
    have hFS7 : F_X7_tune S S7 := by rw [eS7]; exact hFS6
    have je16 : ((b7g_count S7.1)).toInt = ((b7g_count S6.1)).toInt := by rw [eS7]
    have jf17 := J7g_count hJS7.1
    have je18 : ((b7g_falsely S7.1)).toInt = ((b7g_falsely S6.1)).toInt := by rw [eS7]
    have je20 : ((b0g_count S7.2.2)).toInt = ((b0g_count S.2.2)).toInt := congrArg (fun z => ((b0g_count z)).toInt) hFS7.2
    refine sf_X7_falseBy hJS7.1 (fun r8  => ?_)
    have rgr8 := pt_rg r8
    intro S10 eS10
    have hJS10 : J7 S10.1 ∧ J1 S10.2.1 ∧ J0 S10.2.2 := by rw [eS10]; exact ⟨(J7s_falsely hJS7.1), hJS7.2.1, hJS7.2.2⟩
    have hFS10 : F_X7_tune S S10 := by rw [eS10]; exact hFS7
    have je21 : ((b7g_count S10.1)).toInt = ((b7g_count S7.1)).toInt := by rw [eS10]
    have jf22 := J7g_count hJS10.1
    have je23 : ((b7g_falsely S10.1)).toInt = (r8).toInt := by rw [eS10]
    try simp (disch := first | ((try simp (disch := first | ((try simp only [pn]) <;> omega) | fail) only [pn, pq]) <;> omega) | fail) only [pn, pq] at je23
    have je25 : ((b0g_count S10.2.2)).toInt = ((b0g_count S.2.2)).toInt := congrArg (fun z => ((b0g_count z)).toInt) hFS10.2
    refine ⟨fun n x3q11 x4q11 Sq11 => (J7 Sq11.1 ∧ J1 Sq11.2.1 ∧ J0 Sq11.2.2) ∧ (F_X7_tune S Sq11) ∧ (x3q11 = x3q3) ∧ (1 ≤ (x4q11).toInt) ∧ ((x4q11).toInt ≤ 17) ∧ ((x3q11).toInt ≤ 16) ∧ n = (20 - (x4q11).toInt).toNat, ⟨_, hJS10, hFS10, rfl, (by (try simp (disch := first | ((try simp (disch := first | ((try simp only [pn]) <;> omega) | fail) only [pn, pq]) <;> omega) | fail) only [pn, pq]) <;> (intros; (try simp (disch := first | ((try simp (disch := first | ((try simp only [pn]) <;> omega) | fail) only [pn, pq]) <;> omega) | fail) only [pn, pq]) <;> omega)), (by (try simp (disch := first | ((try simp (disch := first | ((try simp only [pn]) <;> omega) | fail) only [pn, pq]) <;> omega) | fail) only [pn, pq]) <;> (intros; (try simp (disch := first | ((try simp (disch := first | ((try simp only [pn]) <;> omega) | fail) only [pn, pq]) <;> omega) | fail) only [pn, pq]) <;> omega)), (by (try simp (disch := first | ((try simp (disch := first | ((try simp only [pn]) <;> omega) | fail) only [pn, pq]) <;> omega) | fail) only [pn, pq]) <;> (intros; (try simp (disch := first | ((try simp (disch := first | ((try simp only [pn]) <;> omega) | fail) only [pn, pq]) <;> omega) | fail) only [pn, pq]) <;> omega)), rfl⟩, ?_⟩
    rintro n12 x3q11 x4q11 Sq11 ⟨hJSq11, hFSq11, hkq11_0, hiq11_0, hiq11_1, hiq11_2, hn12⟩
    subst hkq11_0
    have rgx3q11 := pt_rg x3q11
    have rgx4q11 := pt_rg x4q11
    unfold wp_X7_tune_73b
    have jf26 := J7g_count hJSq11.1
    have je28 : ((b0g_count Sq11.2.2)).toInt = ((b0g_count S.2.2)).toInt := congrArg (fun z => ((b0g_count z)).toInt) hFSq11.2
    refine ⟨fun c13 => ?_, fun c13 => ?_⟩
    · try simp (disch := first | ((try simp (disch := first | ((try simp only [pn]) <;> omega) | fail) only [pn, pq]) <;> omega) | fail) only [pn, pq] at c13
      exact hq _ hJSq11 hFSq11 
    · try simp (disch := first | ((try simp (disch := first | ((try simp only [pn]) <;> omega) | fail) only [pn, pq]) <;> omega) | fail) only [pn, pq] at c13
      intro v14 ev14
      have nv14 := congrArg Int32.toInt ev14
      try simp (disch := first | ((try simp (disch := first | ((try simp only [pn]) <;> omega) | fail) only [pn, pq]) <;> omega) | fail) only [pn, pq] at nv14
      refine ⟨fun n x3q15 x4q15 x5q15 Sq15 => (J7 Sq15.1 ∧ J1 Sq15.2.1 ∧ J0 Sq15.2.2) ∧ (F_X7_tune S Sq15) ∧ (x3q15 = x3q11) ∧ (x4q15 = x4q11) ∧ (1 ≤ (x4q15).toInt) ∧ ((x4q15).toInt ≤ 16) ∧ ((x3q15).toInt ≤ 16) ∧ (0 ≤ (x5q15).toInt) ∧ ((x5q15).toInt ≤ 9) ∧ n = (10 - (x5q15).toInt).toNat, ⟨_, hJSq11, hFSq11, rfl, rfl, (by (try simp (disch := first | ((try simp (disch := first | ((try simp only [pn]) <;> omega) | fail) only [pn, pq]) <;> omega) | fail) only [pn, pq]) <;> (intros; (try simp (disch := first | ((try simp (disch := first | ((try simp only [pn]) <;> omega) | fail) only [pn, pq]) <;> omega) | fail) only [pn, pq]) <;> omega)), (by (try simp (disch := first | ((try simp (disch := first | ((try simp only [pn]) <;> omega) | fail) only [pn, pq]) <;> omega) | fail) only [pn, pq]) <;> (intros; (try simp (disch := first | ((try simp (disch := first | ((try simp only [pn]) <;> omega) | fail) only [pn, pq]) <;> omega) | fail) only [pn, pq]) <;> omega)), (by (try simp (disch := first | ((try simp (disch := first | ((try simp only [pn]) <;> omega) | fail) only [pn, pq]) <;> omega) | fail) only [pn, pq]) <;> (intros; (try simp (disch := first | ((try simp (disch := first | ((try simp only [pn]) <;> omega) | fail) only [pn, pq]) <;> omega) | fail) only [pn, pq]) <;> omega)), (by (try simp (disch := first | ((try simp (disch := first | ((try simp only [pn]) <;> omega) | fail) only [pn, pq]) <;> omega) | fail) only [pn, pq]) <;> (intros; (try simp (disch := first | ((try simp (disch := first | ((try simp only [pn]) <;> omega) | fail) only [pn, pq]) <;> omega) | fail) only [pn, pq]) <;> omega)), (by (try simp (disch := first | ((try simp (disch := first | ((try simp only [pn]) <;> omega) | fail) only [pn, pq]) <;> omega) | fail) only [pn, pq]) <;> (intros; (try simp (disch := first | ((try simp (disch := first | ((try simp only [pn]) <;> omega) | fail) only [pn, pq]) <;> omega) | fail) only [pn, pq]) <;> omega)), rfl⟩, ?_⟩
      rintro n16 x3q15 x4q15 x5q15 Sq15 ⟨hJSq15, hFSq15, hkq15_0, hkq15_1, hiq15_0, hiq15_1, hiq15_2, hiq15_3, hiq15_4, hn16⟩
      subst hkq15_0
      subst hkq15_1
      have rgx3q15 := pt_rg x3q15
      have rgx4q15 := pt_rg x4q15
      have rgx5q15 := pt_rg x5q15
      unfold wp_X7_tune_90b
      have jf29 := J7g_count hJSq15.1
      have je31 : ((b0g_count Sq15.2.2)).toInt = ((b0g_count S.2.2)).toInt := congrArg (fun z => ((b0g_count z)).toInt) hFSq15.2
      refine ⟨fun c17 => ?_, fun c17 => ?_⟩
      · try simp (disch := first | ((try simp (disch := first | ((try simp only [pn]) <;> omega) | fail) only [pn, pq]) <;> omega) | fail) only [pn, pq] at c17
        refine ⟨_, ?_, ?_, ?_, ?_, ?_, ?_, ?_, rfl⟩
        · (try simp (disch := first | ((try simp (disch := first | ((try simp only [pn]) <;> omega) | fail) only [pn, pq]) <;> omega) | fail) only [pn, pq]) <;> (intros; (try simp (disch := first | ((try simp (disch := first | ((try simp only [pn]) <;> omega) | fail) only [pn, pq]) <;> omega) | fail) only [pn, pq]) <;> omega)
        · exact hJSq15
        · exact hFSq15
        · first | rfl | assumption
        · (try simp (disch := first | ((try simp (disch := first | ((try simp only [pn]) <;> omega) | fail) only [pn, pq]) <;> omega) | fail) only [pn, pq]) <;> (intros; (try simp (disch := first | ((try simp (disch := first | ((try simp only [pn]) <;> omega) | fail) only [pn, pq]) <;> omega) | fail) only [pn, pq]) <;> omega)
        · (try simp (disch := first | ((try simp (disch := first | ((try simp only [pn]) <;> omega) | fail) only [pn, pq]) <;> omega) | fail) only [pn, pq]) <;> (intros; (try simp (disch := first | ((try simp (disch := first | ((try simp only [pn]) <;> omega) | fail) only [pn, pq]) <;> omega) | fail) only [pn, pq]) <;> omega)
        · (try simp (disch := first | ((try simp (disch := first | ((try simp only [pn]) <;> omega) | fail) only [pn, pq]) <;> omega) | fail) only [pn, pq]) <;> (intros; (try simp (disch := first | ((try simp (disch := first | ((try simp only [pn]) <;> omega) | fail) only [pn, pq]) <;> omega) | fail) only [pn, pq]) <;> omega)
      · try simp (disch := first | ((try simp (disch := first | ((try simp only [pn]) <;> omega) | fail) only [pn, pq]) <;> omega) | fail) only [pn, pq] at c17
        refine sf_X7_falseBy hJSq15.1 (fun r18  => ?_)
        have rgr18 := pt_rg r18
        refine ⟨fun c20 => ?_, fun c20 => ?_⟩
        · try simp (disch := first | ((try simp (disch := first | ((try simp only [pn]) <;> omega) | fail) only [pn, pq]) <;> omega) | fail) only [pn, pq] at c20
          unfold wp_X7_tune_145
          refine ⟨_, ?_, ?_, ?_, ?_, ?_, ?_, ?_, ?_, ?_, ?_, rfl⟩
          · (try simp (disch := first | ((try simp (disch := first | ((try simp only [pn]) <;> omega) | fail) only [pn, pq]) <;> omega) | fail) only [pn, pq]) <;> (intros; (try simp (disch := first | ((try simp (disch := first | ((try simp only [pn]) <;> omega) | fail) only [pn, pq]) <;> omega) | fail) only [pn, pq]) <;> omega)
          · exact hJSq15
          · exact hFSq15
          · first | rfl | assumption
          · first | rfl | assumption
          · (try simp (disch := first | ((try simp (disch := first | ((try simp only [pn]) <;> omega) | fail) only [pn, pq]) <;> omega) | fail) only [pn, pq]) <;> (intros; (try simp (disch := first | ((try simp (disch := first | ((try simp only [pn]) <;> omega) | fail) only [pn, pq]) <;> omega) | fail) only [pn, pq]) <;> omega)
          · (try simp (disch := first | ((try simp (disch := first | ((try simp only [pn]) <;> omega) | fail) only [pn, pq]) <;> omega) | fail) only [pn, pq]) <;> (intros; (try simp (disch := first | ((try simp (disch := first | ((try simp only [pn]) <;> omega) | fail) only [pn, pq]) <;> omega) | fail) only [pn, pq]) <;> omega)
          · (try simp (disch := first | ((try simp (disch := first | ((try simp only [pn]) <;> omega) | fail) only [pn, pq]) <;> omega) | fail) only [pn, pq]) <;> (intros; (try simp (disch := first | ((try simp (disch := first | ((try simp only [pn]) <;> omega) | fail) only [pn, pq]) <;> omega) | fail) only [pn, pq]) <;> omega)
          · (try simp (disch := first | ((try simp (disch := first | ((try simp only [pn]) <;> omega) | fail) only [pn, pq]) <;> omega) | fail) only [pn, pq]) <;> (intros; (try simp (disch := first | ((try simp (disch := first | ((try simp only [pn]) <;> omega) | fail) only [pn, pq]) <;> omega) | fail) only [pn, pq]) <;> omega)
          · (try simp (disch := first | ((try simp (disch := first | ((try simp only [pn]) <;> omega) | fail) only [pn, pq]) <;> omega) | fail) only [pn, pq]) <;> (intros; (try simp (disch := first | ((try simp (disch := first | ((try simp only [pn]) <;> omega) | fail) only [pn, pq]) <;> omega) | fail) only [pn, pq]) <;> omega)
        · try simp (disch := first | ((try simp (disch := first | ((try simp only [pn]) <;> omega) | fail) only [pn, pq]) <;> omega) | fail) only [pn, pq] at c20
          intro S21 eS21
          have hJS21 : J7 S21.1 ∧ J1 S21.2.1 ∧ J0 S21.2.2 := by rw [eS21]; exact ⟨(J7s_falsely hJSq15.1), hJSq15.2.1, hJSq15.2.2⟩
          have hFS21 : F_X7_tune S S21 := by rw [eS21]; exact hFSq15
          have je32 : ((b7g_count S21.1)).toInt = ((b7g_count Sq15.1)).toInt := by rw [eS21]
          have jf33 := J7g_count hJS21.1
          have je34 : ((b7g_falsely S21.1)).toInt = (r18).toInt := by rw [eS21]
          try simp (disch := first | ((try simp (disch := first | ((try simp only [pn]) <;> omega) | fail) only [pn, pq]) <;> omega) | fail) only [pn, pq] at je34
          have je36 : ((b0g_count S21.2.2)).toInt = ((b0g_count S.2.2)).toInt := congrArg (fun z => ((b0g_count z)).toInt) hFS21.2
          intro S22 eS22
          have hJS22 : J7 S22.1 ∧ J1 S22.2.1 ∧ J0 S22.2.2 := by rw [eS22]; exact ⟨(J7s_hashBits hJS21.1), hJS21.2.1, hJS21.2.2⟩
          have hFS22 : F_X7_tune S S22 := by rw [eS22]; exact hFS21
          have je37 : ((b7g_count S22.1)).toInt = ((b7g_count S21.1)).toInt := by rw [eS22]
          have jf38 := J7g_count hJS22.1
          have je39 : ((b7g_falsely S22.1)).toInt = ((b7g_falsely S21.1)).toInt := by rw [eS22]
          have je41 : ((b0g_count S22.2.2)).toInt = ((b0g_count S.2.2)).toInt := congrArg (fun z => ((b0g_count z)).toInt) hFS22.2
          intro S23 eS23
          have hJS23 : J7 S23.1 ∧ J1 S23.2.1 ∧ J0 S23.2.2 := by rw [eS23]; exact ⟨(J7s_realBits hJS22.1), hJS22.2.1, hJS22.2.2⟩
          have hFS23 : F_X7_tune S S23 := by rw [eS23]; exact hFS22
          have je42 : ((b7g_count S23.1)).toInt = ((b7g_count S22.1)).toInt := by rw [eS23]
          have jf43 := J7g_count hJS23.1
          have je44 : ((b7g_falsely S23.1)).toInt = ((b7g_falsely S22.1)).toInt := by rw [eS23]
          have je46 : ((b0g_count S23.2.2)).toInt = ((b0g_count S.2.2)).toInt := congrArg (fun z => ((b0g_count z)).toInt) hFS23.2
          unfold wp_X7_tune_145
          refine ⟨_, ?_, ?_, ?_, ?_, ?_, ?_, ?_, ?_, ?_, ?_, rfl⟩
          · (try simp (disch := first | ((try simp (disch := first | ((try simp only [pn]) <;> omega) | fail) only [pn, pq]) <;> omega) | fail) only [pn, pq]) <;> (intros; (try simp (disch := first | ((try simp (disch := first | ((try simp only [pn]) <;> omega) | fail) only [pn, pq]) <;> omega) | fail) only [pn, pq]) <;> omega)
          · exact hJS23
          · exact hFS23
          · first | rfl | assumption
          · first | rfl | assumption
          · (try simp (disch := first | ((try simp (disch := first | ((try simp only [pn]) <;> omega) | fail) only [pn, pq]) <;> omega) | fail) only [pn, pq]) <;> (intros; (try simp (disch := first | ((try simp (disch := first | ((try simp only [pn]) <;> omega) | fail) only [pn, pq]) <;> omega) | fail) only [pn, pq]) <;> omega)
          · (try simp (disch := first | ((try simp (disch := first | ((try simp only [pn]) <;> omega) | fail) only [pn, pq]) <;> omega) | fail) only [pn, pq]) <;> (intros; (try simp (disch := first | ((try simp (disch := first | ((try simp only [pn]) <;> omega) | fail) only [pn, pq]) <;> omega) | fail) only [pn, pq]) <;> omega)
          · (try simp (disch := first | ((try simp (disch := first | ((try simp only [pn]) <;> omega) | fail) only [pn, pq]) <;> omega) | fail) only [pn, pq]) <;> (intros; (try simp (disch := first | ((try simp (disch := first | ((try simp only [pn]) <;> omega) | fail) only [pn, pq]) <;> omega) | fail) only [pn, pq]) <;> omega)
          · (try simp (disch := first | ((try simp (disch := first | ((try simp only [pn]) <;> omega) | fail) only [pn, pq]) <;> omega) | fail) only [pn, pq]) <;> (intros; (try simp (disch := first | ((try simp (disch := first | ((try simp only [pn]) <;> omega) | fail) only [pn, pq]) <;> omega) | fail) only [pn, pq]) <;> omega)
          · (try simp (disch := first | ((try simp (disch := first | ((try simp only [pn]) <;> omega) | fail) only [pn, pq]) <;> omega) | fail) only [pn, pq]) <;> (intros; (try simp (disch := first | ((try simp (disch := first | ((try simp only [pn]) <;> omega) | fail) only [pn, pq]) <;> omega) | fail) only [pn, pq]) <;> omega)
  · try simp (disch := first | ((try simp (disch := first | ((try simp only [pn]) <;> omega) | fail) only [pn, pq]) <;> omega) | fail) only [pn, pq] at c5
    refine sf_X0_bytesAt hJSq3.2.2 (fun r24  => ?_)
    refine sf_X0_lengthAt hJSq3.2.2 (fun r26  => ?_)
    have rgr26 := pt_rg r26
    refine sf_X7_compare (S := (Sq3.1, Sq3.2.1)) ⟨hJSq3.1, hJSq3.2.1⟩ (fun u29 hJu29 hfu29  => ?_)
    have je48 : ((b7g_count u29.1)).toInt = ((b7g_count Sq3.1)).toInt := congrArg (fun z => (z).toInt) hfu29.1
    have je50 : ((b7g_falsely u29.1)).toInt = ((b7g_falsely Sq3.1)).toInt := congrArg (fun z => (z).toInt) hfu29.2.2.2.1
    intro S30 eS30
    have hGS30 : F_X7_tune S S30 := by
      rw [eS30]
      exact ⟨(congrArg (fun z => z) hfu29.2.2.2.2).trans hFSq3.1, hFSq3.2⟩
    have hJS30 : J7 S30.1 ∧ J1 S30.2.1 ∧ J0 S30.2.2 := by rw [eS30]; exact ⟨hJu29.1, hJu29.2, hJSq3.2.2⟩
    have hFS30 : F_X7_tune S S30 := hGS30
    have je51 : ((b7g_count S30.1)).toInt = ((b7g_count u29.1)).toInt := by rw [eS30]
    try simp (disch := first | ((try simp (disch := first | ((try simp only [pn]) <;> omega) | fail) only [pn, pq]) <;> omega) | fail) only [pn, pq] at je51
    have jf52 := J7g_count hJS30.1
    have je53 : ((b7g_falsely S30.1)).toInt = ((b7g_falsely u29.1)).toInt := by rw [eS30]
    try simp (disch := first | ((try simp (disch := first | ((try simp only [pn]) <;> omega) | fail) only [pn, pq]) <;> omega) | fail) only [pn, pq] at je53
    have je55 : ((b0g_count S30.2.2)).toInt = ((b0g_count S.2.2)).toInt := congrArg (fun z => ((b0g_count z)).toInt) hFS30.2
    refine ⟨_, ?_, ?_, ?_, ?_, ?_, rfl⟩
    · (try simp (disch := first | ((try simp (disch := first | ((try simp only [pn]) <;> omega) | fail) only [pn, pq]) <;> omega) | fail) only [pn, pq]) <;> (intros; (try simp (disch := first | ((try simp (disch := first | ((try simp only [pn]) <;> omega) | fail) only [pn, pq]) <;> omega) | fail) only [pn, pq]) <;> omega)
    · exact hJS30
    · exact hFS30
    · first | rfl | assumption
    · (try simp (disch := first | ((try simp (disch := first | ((try simp only [pn]) <;> omega) | fail) only [pn, pq]) <;> omega) | fail) only [pn, pq]) <;> (intros; (try simp (disch := first | ((try simp (disch := first | ((try simp only [pn]) <;> omega) | fail) only [pn, pq]) <;> omega) | fail) only [pn, pq]) <;> omega)
def F_X8_rebuild (S u : bT8) : Prop := (b8g_now u) = (b8g_now S) ∧ (b8g_kept u) = (b8g_kept S) ∧ (b8g_isKept u) = (b8g_isKept S) ∧ (b8g_tuning u) = (b8g_tuning S) ∧ (b8g_trial u) = (b8g_trial S) ∧ (b8g_tape u) = (b8g_tape S) ∧ (b8g_text u) = (b8g_text S) ∧ (b8g_chosenRow u) = (b8g_chosenRow S)
set_option maxRecDepth 20000 in
set_option maxHeartbeats 1000000 in
theorem sf_X8_rebuild {S : bT8} (hJ : J8 S) {Q : (bT8) → Prop} (hq : ∀ u : bT8, (J8 u) → F_X8_rebuild S u → Q u) : wp_X8_rebuild S Q := by
  unfold wp_X8_rebuild
  have hFS : F_X8_rebuild S S := ⟨rfl, rfl, rfl, rfl, rfl, rfl, rfl, rfl⟩
  refine sf_X1_make (S := ((b8g_leaves S), (b2g_built (b8g_now S)))) ⟨(J8g_leaves hJ), (J2g_built (J8g_now hJ))⟩ (fun u2 hJu2 hfu2  => ?_)
  intro S3 eS3
  have hGS3 : F_X8_rebuild S S3 := by
    rw [eS3]
    rw [hfu2]
    exact ⟨hFS.1, hFS.2.1, hFS.2.2.1, hFS.2.2.2.1, hFS.2.2.2.2.1, hFS.2.2.2.2.2.1, hFS.2.2.2.2.2.2.1, hFS.2.2.2.2.2.2.2⟩
  have hJS3 : J8 S3 := by rw [eS3]; exact (J8s_now (J8s_leaves hJ hJu2.1) (J2s_built (J8g_now (J8s_leaves hJ hJu2.1)) hJu2.2))
  have hFS3 : F_X8_rebuild S S3 := hGS3
  refine sf_X8_at (by decide) (fun r4 hr4_0 => ?_)
  have rgr4 := pt_rg r4
  try simp (disch := first | ((try simp (disch := first | ((try simp only [pn]) <;> omega) | fail) only [pn, pq]) <;> omega) | fail) only [pn, pq] at hr4_0
  refine sf_X8_at (by decide) (fun r6 hr6_0 => ?_)
  have rgr6 := pt_rg r6
  try simp (disch := first | ((try simp (disch := first | ((try simp only [pn]) <;> omega) | fail) only [pn, pq]) <;> omega) | fail) only [pn, pq] at hr6_0
  refine sf_X6_make (S := ((b8g_tree S3), (b8g_leaves S3))) ⟨(J8g_tree hJS3), (J8g_leaves hJS3)⟩ (fun u9 hJu9 hfu9  => ?_)
  intro S10 eS10
  have hGS10 : F_X8_rebuild S S10 := by
    rw [eS10]
    exact ⟨hFS3.1, hFS3.2.1, hFS3.2.2.1, hFS3.2.2.2.1, hFS3.2.2.2.2.1, hFS3.2.2.2.2.2.1, hFS3.2.2.2.2.2.2.1, hFS3.2.2.2.2.2.2.2⟩
  have hJS10 : J8 S10 := by rw [eS10]; exact (J8s_leaves (J8s_tree hJS3 hJu9.1) hJu9.2)
  have hFS10 : F_X8_rebuild S S10 := hGS10
  exact hq _ hJS10 hFS10 
def F_X8_feed (S u : bT8) : Prop := (b8g_now u) = (b8g_now S) ∧ (b8g_kept u) = (b8g_kept S) ∧ (b8g_isKept u) = (b8g_isKept S) ∧ (b8g_leaves u) = (b8g_leaves S) ∧ (b8g_tree u) = (b8g_tree S) ∧ (b8g_tuning u) = (b8g_tuning S) ∧ (b8g_trial u) = (b8g_trial S) ∧ (b8g_text u) = (b8g_text S) ∧ (b8g_chosenRow u) = (b8g_chosenRow S)
theorem sf_X8_feed {S : bT8} (hJ : J8 S) {a1 : Int32} {a2 : Int32} {a3 : Int32} {a4 : Int32} {a5 : Int32} {Q : Int32 → (bT8) → Prop} (hq : ∀ (r : Int32) (u : bT8), (J8 u) → F_X8_feed S u → (140 < (b4g_count (b8g_tape S)).toInt → r.toInt = -1 ∧ (b4g_count (b8g_tape u)).toInt = (b4g_count (b8g_tape S)).toInt) → ((b4g_count (b8g_tape S)).toInt ≤ 140 → r.toInt = (b4g_count (b8g_tape S)).toInt + 20 ∧ (b4g_count (b8g_tape u)).toInt = (b4g_count (b8g_tape S)).toInt + 20) → ((b4g_count (b8g_tape S)).toInt ≤ 140 → PF5 (b4g_octets (b8g_tape S)) (b4g_count (b8g_tape S)).toInt a1 a2 a3 a4 a5 (b4g_octets (b8g_tape u))) → (140 < (b4g_count (b8g_tape S)).toInt → b8g_tape u = b8g_tape S) → Q r u) : wp_X8_feed S a1 a2 a3 a4 a5 Q := by
  have jc := J4g_count (J8g_tape hJ)
  have e20 : ((b4g_count (b8g_tape S)) + (20 : Int32)).toInt = (b4g_count (b8g_tape S)).toInt + 20 := by
    have : (20 : Int32).toInt = 20 := rfl
    rw [pt_add (by omega) (by omega)]
    omega
  unfold wp_X8_feed
  refine ⟨fun c => ?_, fun c => ?_⟩
  rotate_left
  · simp only [pn] at c
    exact hq _ _ hJ ⟨rfl, rfl, rfl, rfl, rfl, rfl, rfl, rfl, rfl⟩ (fun _ => ⟨rfl, rfl⟩) (fun h => by exfalso; omega) (fun h => by exfalso; omega) (fun _ => rfl)
  simp only [pn] at c
  refine sf_X4_putFour (J8g_tape hJ) (fun u2 hJ2 hf2 n2 p2 => ?_)
  have n2' := n2 (by omega)
  intro S3 e3
  have t3 : b8g_tape S3 = u2 := by rw [e3]
  rw [t3]
  refine sf_X4_putFour hJ2 (fun u5 hJ5 hf5 n5 p5 => ?_)
  have n5' := n5 (by omega)
  intro S6 e6
  have t6 : b8g_tape S6 = u5 := by rw [e6]
  rw [t6]
  refine sf_X4_putFour hJ5 (fun u8 hJ8 hf8 n8 p8 => ?_)
  have n8' := n8 (by omega)
  intro S9 e9
  have t9 : b8g_tape S9 = u8 := by rw [e9]
  rw [t9]
  refine sf_X4_putFour hJ8 (fun u11 hJ11 hf11 n11 p11 => ?_)
  have n11' := n11 (by omega)
  intro S12 e12
  have t12 : b8g_tape S12 = u11 := by rw [e12]
  rw [t12]
  refine sf_X4_putFour hJ11 (fun u14 hJ14 hf14 n14 p14 => ?_)
  have n14' := n14 (by omega)
  intro S15 e15
  have t15 : b8g_tape S15 = u14 := by rw [e15]
  have q2 := p2 (by omega)
  have q5 := p5 (by omega)
  have q8 := p8 (by omega)
  have q11 := p11 (by omega)
  have q14 := p14 (by omega)
  rw [n2'] at q5
  rw [n5', n2', Int.add_assoc] at q8
  rw [n8', n5', n2', Int.add_assoc, Int.add_assoc] at q11
  rw [n11', n8', n5', n2', Int.add_assoc, Int.add_assoc, Int.add_assoc] at q14
  have cc : (b4g_count (b8g_tape S15)).toInt = (b4g_count (b8g_tape S)).toInt + 20 := by rw [t15]; omega
  refine hq _ _ ?_ ?_ (fun h => by exfalso; omega) (fun _ => ⟨cc, cc⟩) (fun _ => ?_) (fun h => by exfalso; omega)
  · rw [e15, e12, e9, e6, e3]
    exact J8s_tape (J8s_tape (J8s_tape (J8s_tape (J8s_tape hJ hJ2) hJ5) hJ8) hJ11) hJ14
  · rw [e15, e12, e9, e6, e3]
    exact ⟨rfl, rfl, rfl, rfl, rfl, rfl, rfl, rfl, rfl⟩
  · rw [t15]
    exact ⟨_, _, _, _, q2, q5, q8, q11, q14⟩
def F_X8_end (S u : bT8) : Prop := (b8g_now u) = (b8g_now S) ∧ (b8g_kept u) = (b8g_kept S) ∧ (b8g_isKept u) = (b8g_isKept S) ∧ (b8g_leaves u) = (b8g_leaves S) ∧ (b8g_tree u) = (b8g_tree S) ∧ (b8g_tuning u) = (b8g_tuning S) ∧ (b8g_trial u) = (b8g_trial S) ∧ (b4g_octets (b8g_tape u)) = (b4g_octets (b8g_tape S)) ∧ (b8g_text u) = (b8g_text S) ∧ (b8g_chosenRow u) = (b8g_chosenRow S)
theorem sf_X8_end {S : bT8} (hJ : J8 S) {a1 : Int32} {Q : Int32 → (bT8) → Prop} (hq : ∀ (r : Int32) (u : bT8), (J8 u) → F_X8_end S u → bf_bool r → ((r.toInt = 1 ∧ 0 ≤ a1.toInt ∧ a1.toInt ≤ (b4g_count (b8g_tape S)).toInt ∧ (b4g_count (b8g_tape u)).toInt = a1.toInt) ∨ (r.toInt = 0 ∧ (a1.toInt < 0 ∨ (b4g_count (b8g_tape S)).toInt < a1.toInt) ∧ (b4g_count (b8g_tape u)).toInt = (b4g_count (b8g_tape S)).toInt)) → (∀ T : Nat → Int32, TPE (b8g_tape S) T → TPE (b8g_tape u) T) → Q r u) : wp_X8_end S a1 Q := by
  have jc := J4g_count (J8g_tape hJ)
  unfold wp_X8_end
  refine ⟨fun c => ?_, fun c => ⟨fun d => ?_, fun d => ?_⟩⟩
  · simp only [pn] at c
    exact ⟨rfl, hq _ _ hJ ⟨rfl, rfl, rfl, rfl, rfl, rfl, rfl, rfl, rfl, rfl⟩ rfl (Or.inr ⟨rfl, Or.inl c, rfl⟩) (fun T h => h)⟩
  · simp only [pn] at c d
    intro S1 e1
    have ec : b4g_count (b8g_tape S1) = a1 := by rw [e1]
    have eo : b4g_octets (b8g_tape S1) = b4g_octets (b8g_tape S) := by rw [e1]
    refine ⟨rfl, hq _ _ ?_ ?_ rfl (Or.inl ⟨rfl, by omega, d, by rw [ec]⟩) (fun T h j hj => ?_)⟩
    · rw [e1]
      exact J8s_tape hJ (J4s_count (J8g_tape hJ) ⟨by omega, by omega⟩)
    · rw [e1]
      exact ⟨rfl, rfl, rfl, rfl, rfl, rfl, rfl, rfl, rfl, rfl⟩
    · rw [ec] at hj
      rw [eo]
      exact h j (by omega)
  · simp only [pn] at c d
    exact ⟨rfl, hq _ _ hJ ⟨rfl, rfl, rfl, rfl, rfl, rfl, rfl, rfl, rfl, rfl⟩ rfl (Or.inr ⟨rfl, Or.inr (by omega), rfl⟩) (fun T h => h)⟩
def F_X8_mode (S u : bT8) : Prop := (b3g_members (b2g_told (b8g_now u))) = (b3g_members (b2g_told (b8g_now S))) ∧ (b3g_values (b2g_told (b8g_now u))) = (b3g_values (b2g_told (b8g_now S))) ∧ (b2g_built (b8g_now u)) = (b2g_built (b8g_now S)) ∧ (b2g_questions (b8g_now u)) = (b2g_questions (b8g_now S)) ∧ (b2g_answers (b8g_now u)) = (b2g_answers (b8g_now S)) ∧ (b2g_draws (b8g_now u)) = (b2g_draws (b8g_now S)) ∧ (b8g_kept u) = (b8g_kept S) ∧ (b8g_isKept u) = (b8g_isKept S) ∧ (b8g_leaves u) = (b8g_leaves S) ∧ (b8g_tree u) = (b8g_tree S) ∧ (b8g_tuning u) = (b8g_tuning S) ∧ (b8g_trial u) = (b8g_trial S) ∧ (b4g_octets (b8g_tape u)) = (b4g_octets (b8g_tape S)) ∧ (b8g_text u) = (b8g_text S) ∧ (b8g_chosenRow u) = (b8g_chosenRow S)
theorem sf_X8_mode {S : bT8} (hJ : J8 S) {Q : Int32 → (bT8) → Prop} (hq : ∀ (r : Int32) (u : bT8), (J8 u) → F_X8_mode S u → ((b4g_count (b8g_tape u)).toInt = 0) → (MDE (b4g_octets (b8g_tape S)) (b4g_count (b8g_tape S)) r) → (∀ T : Nat → Int32, TPE (b8g_tape u) T) → Q r u) : wp_X8_mode S Q := by
  unfold wp_X8_mode
  intro r hr S1 e1
  have hJ1 : J8 S1 := by rw [e1]; exact J8s_tape hJ (J4s_count (J8g_tape hJ) ⟨by decide, by decide⟩)
  have sp : ∀ k : Nat, k < 4 → (bf_sp (0 + k) (b8g_tape S) ↔ SPL (b4g_octets (b8g_tape S)) (b4g_count (b8g_tape S)) (0 + k)) := by
    intro k hk
    have hs : sln (0 + k) < 7 := (nm_pos (0 + k) (by omega)).2.2.2.2
    have ei : (nI (bf_slen.getD (0 + k) 0)).toInt = (sln (0 + k) : Int) := nI_toInt (by unfold sln at hs; omega)
    refine ⟨fun h => ⟨by rw [h.1]; exact ei, fun j hj => h.2 j hj⟩, fun h => ⟨Int32.toInt_inj.mp (by rw [ei]; exact h.1), fun j hj => h.2 j hj⟩⟩
  have hE : MDE (b4g_octets (b8g_tape S)) (b4g_count (b8g_tape S)) r := by
    rcases hr with ⟨k, hk, e, h, _⟩ | ⟨e, h⟩
    · exact Or.inl ⟨k, hk, by rw [e]; exact nI_toInt (by omega), (sp k hk).mp h⟩
    · exact Or.inr ⟨by rw [e]; rfl, fun k hk hh => h k hk ((sp k hk).mpr hh)⟩
  have t1 : (b4g_count (b8g_tape S1)).toInt = 0 := by rw [e1]; first | done | rfl
  have z1 : ∀ T : Nat → Int32, TPE (b8g_tape S1) T := fun T j hj => by rw [t1] at hj; omega
  refine ⟨fun _ => hq _ _ hJ1 (by rw [e1]; exact ⟨rfl, rfl, rfl, rfl, rfl, rfl, rfl, rfl, rfl, rfl, rfl, rfl, rfl, rfl, rfl⟩) t1 hE z1, fun _ S2 e2 => hq _ _ ?_ (by rw [e2, e1]; exact ⟨rfl, rfl, rfl, rfl, rfl, rfl, rfl, rfl, rfl, rfl, rfl, rfl, rfl, rfl, rfl⟩) ?_ hE ?_⟩
  · rw [e2]
    exact J8s_now hJ1 (J2s_told (J8g_now hJ1) (J3s_mode (J2g_told (J8g_now hJ1))))
  · rw [e2]
    exact t1
  · rw [e2]
    exact z1
def F_X8_row (S u : bT8) : Prop := (b8g_now u) = (b8g_now S) ∧ (b8g_kept u) = (b8g_kept S) ∧ (b8g_isKept u) = (b8g_isKept S) ∧ (b8g_leaves u) = (b8g_leaves S) ∧ (b8g_tree u) = (b8g_tree S) ∧ (b8g_tuning u) = (b8g_tuning S) ∧ (b8g_trial u) = (b8g_trial S) ∧ (b4g_octets (b8g_tape u)) = (b4g_octets (b8g_tape S)) ∧ (b8g_text u) = (b8g_text S)
theorem sf_X8_row {S : bT8} (hJ : J8 S) {Q : Int32 → (bT8) → Prop} (hq : ∀ (r : Int32) (u : bT8), (J8 u) → F_X8_row S u → ((b4g_count (b8g_tape u)).toInt = 0) → (RWE (b4g_octets (b8g_tape S)) (b4g_count (b8g_tape S)) r) → (∀ T : Nat → Int32, TPE (b8g_tape u) T) → Q r u) : wp_X8_row S Q := by
  unfold wp_X8_row
  intro r hr S1 e1
  have hJ1 : J8 S1 := by rw [e1]; exact J8s_tape hJ (J4s_count (J8g_tape hJ) ⟨by decide, by decide⟩)
  have sp : ∀ k : Nat, k < 6 → (bf_sp (4 + k) (b8g_tape S) ↔ SPL (b4g_octets (b8g_tape S)) (b4g_count (b8g_tape S)) (4 + k)) := by
    intro k hk
    have hs : sln (4 + k) < 7 := (nm_pos (4 + k) (by omega)).2.2.2.2
    have ei : (nI (bf_slen.getD (4 + k) 0)).toInt = (sln (4 + k) : Int) := nI_toInt (by unfold sln at hs; omega)
    refine ⟨fun h => ⟨by rw [h.1]; exact ei, fun j hj => h.2 j hj⟩, fun h => ⟨Int32.toInt_inj.mp (by rw [ei]; exact h.1), fun j hj => h.2 j hj⟩⟩
  have hE : RWE (b4g_octets (b8g_tape S)) (b4g_count (b8g_tape S)) r := by
    rcases hr with ⟨k, hk, e, h, _⟩ | ⟨e, h⟩
    · exact Or.inl ⟨k, hk, by rw [e]; exact nI_toInt (by omega), (sp k hk).mp h⟩
    · exact Or.inr ⟨by rw [e]; rfl, fun k hk hh => h k hk ((sp k hk).mpr hh)⟩
  have t1 : (b4g_count (b8g_tape S1)).toInt = 0 := by rw [e1]; first | done | rfl
  have z1 : ∀ T : Nat → Int32, TPE (b8g_tape S1) T := fun T j hj => by rw [t1] at hj; omega
  refine ⟨fun _ => hq _ _ hJ1 (by rw [e1]; exact ⟨rfl, rfl, rfl, rfl, rfl, rfl, rfl, rfl, rfl⟩) t1 hE z1, fun _ S2 e2 => hq _ _ ?_ (by rw [e2, e1]; exact ⟨rfl, rfl, rfl, rfl, rfl, rfl, rfl, rfl, rfl⟩) ?_ hE ?_⟩
  · rw [e2]
    exact J8s_chosenRow hJ1
  · rw [e2]
    exact t1
  · rw [e2]
    exact z1
def F_X8_keys (S u : bT8) : Prop := (b3g_values (b2g_told (b8g_now u))) = (b3g_values (b2g_told (b8g_now S))) ∧ (b3g_mode (b2g_told (b8g_now u))) = (b3g_mode (b2g_told (b8g_now S))) ∧ (b2g_built (b8g_now u)) = (b2g_built (b8g_now S)) ∧ (b2g_questions (b8g_now u)) = (b2g_questions (b8g_now S)) ∧ (b2g_answers (b8g_now u)) = (b2g_answers (b8g_now S)) ∧ (b2g_draws (b8g_now u)) = (b2g_draws (b8g_now S)) ∧ (b8g_kept u) = (b8g_kept S) ∧ (b8g_isKept u) = (b8g_isKept S) ∧ (b8g_leaves u) = (b8g_leaves S) ∧ (b8g_tree u) = (b8g_tree S) ∧ (b8g_tuning u) = (b8g_tuning S) ∧ (b4g_octets (b8g_tape u)) = (b4g_octets (b8g_tape S)) ∧ (b8g_text u) = (b8g_text S) ∧ (b8g_chosenRow u) = (b8g_chosenRow S)
set_option maxRecDepth 20000 in
set_option maxHeartbeats 1000000 in
theorem sf_X8_keys {S : bT8} (hJ : J8 S) {Q : Int32 → (bT8) → Prop} (hq : ∀ (r : Int32) (u : bT8), (J8 u) → F_X8_keys S u → ((b4g_count (b8g_tape u)).toInt = 0) → (∀ T : Nat → Int32, TPE (b8g_tape u) T) → Q r u) : wp_X8_keys S Q := by
  unfold wp_X8_keys
  have hFS : F_X8_keys S S := ⟨rfl, rfl, rfl, rfl, rfl, rfl, rfl, rfl, rfl, rfl, rfl, rfl, rfl, rfl⟩
  have jf1 := J0g_count (J3g_members (J2g_told (J8g_now hJ)))
  have jf2 := J0g_count (J8g_trial hJ)
  have jf3 := J4g_count (J8g_tape hJ)
  refine sf_X0_copyFrom (S := ((b8g_trial S), (b3g_members (b2g_told (b8g_now S))))) ⟨(J8g_trial hJ), (J3g_members (J2g_told (J8g_now hJ)))⟩ (fun u2 hJu2 hfu2 hr1_0 => ?_)
  have je5 : ((b0g_count u2.2)).toInt = ((b0g_count (b3g_members (b2g_told (b8g_now S))))).toInt := congrArg (fun z => ((b0g_count z)).toInt) hfu2
  try simp (disch := first | ((try simp (disch := first | ((try simp only [pn]) <;> omega) | fail) only [pn, pq]) <;> omega) | fail) only [pn, pq] at hr1_0
  intro S3 eS3
  have hGS3 : F_X8_keys S S3 := by
    rw [eS3]
    exact ⟨hFS.1, hFS.2.1, hFS.2.2.1, hFS.2.2.2.1, hFS.2.2.2.2.1, hFS.2.2.2.2.2.1, hFS.2.2.2.2.2.2.1, hFS.2.2.2.2.2.2.2.1, hFS.2.2.2.2.2.2.2.2.1, hFS.2.2.2.2.2.2.2.2.2.1, hFS.2.2.2.2.2.2.2.2.2.2.1, hFS.2.2.2.2.2.2.2.2.2.2.2.1, hFS.2.2.2.2.2.2.2.2.2.2.2.2.1, hFS.2.2.2.2.2.2.2.2.2.2.2.2.2⟩
  have hJS3 : J8 S3 := by rw [eS3]; exact (J8s_now (J8s_trial hJ hJu2.1) (J2s_told (J8g_now (J8s_trial hJ hJu2.1)) (J3s_members (J2g_told (J8g_now (J8s_trial hJ hJu2.1))) hJu2.2)))
  have hFS3 : F_X8_keys S S3 := hGS3
  have je6 : ((b0g_count (b3g_members (b2g_told (b8g_now S3))))).toInt = ((b0g_count u2.2)).toInt := by rw [eS3]
  try simp (disch := first | ((try simp (disch := first | ((try simp only [pn]) <;> omega) | fail) only [pn, pq]) <;> omega) | fail) only [pn, pq] at je6
  have jf7 := J0g_count (J3g_members (J2g_told (J8g_now hJS3)))
  have je8 : ((b0g_count (b8g_trial S3))).toInt = ((b0g_count u2.1)).toInt := by rw [eS3]
  try simp (disch := first | ((try simp (disch := first | ((try simp only [pn]) <;> omega) | fail) only [pn, pq]) <;> omega) | fail) only [pn, pq] at je8
  have jf9 := J0g_count (J8g_trial hJS3)
  have je10 : ((b4g_count (b8g_tape S3))).toInt = ((b4g_count (b8g_tape S))).toInt := by rw [eS3]
  have jf11 := J4g_count (J8g_tape hJS3)
  refine sf_X4_readInto (S := ((b8g_tape S3), (b8g_trial S3))) ⟨(J8g_tape hJS3), (J8g_trial hJS3)⟩ (fun r4 u5 hJu5 hfu5 hzr4  => ?_)
  have je13 : ((b4g_count u5.1)).toInt = ((b4g_count (b8g_tape S3))).toInt := congrArg (fun z => ((b4g_count z)).toInt) hfu5
  intro S6 eS6
  have hGS6 : F_X8_keys S S6 := by
    rw [eS6]
    exact ⟨hFS3.1, hFS3.2.1, hFS3.2.2.1, hFS3.2.2.2.1, hFS3.2.2.2.2.1, hFS3.2.2.2.2.2.1, hFS3.2.2.2.2.2.2.1, hFS3.2.2.2.2.2.2.2.1, hFS3.2.2.2.2.2.2.2.2.1, hFS3.2.2.2.2.2.2.2.2.2.1, hFS3.2.2.2.2.2.2.2.2.2.2.1, (congrArg (fun z => (b4g_octets z)) hfu5).trans hFS3.2.2.2.2.2.2.2.2.2.2.2.1, hFS3.2.2.2.2.2.2.2.2.2.2.2.2.1, hFS3.2.2.2.2.2.2.2.2.2.2.2.2.2⟩
  have hJS6 : J8 S6 := by rw [eS6]; exact (J8s_trial (J8s_tape hJS3 hJu5.1) hJu5.2)
  have hFS6 : F_X8_keys S S6 := hGS6
  have je14 : ((b0g_count (b3g_members (b2g_told (b8g_now S6))))).toInt = ((b0g_count (b3g_members (b2g_told (b8g_now S3))))).toInt := by rw [eS6]
  have jf15 := J0g_count (J3g_members (J2g_told (J8g_now hJS6)))
  have je16 : ((b0g_count (b8g_trial S6))).toInt = ((b0g_count u5.2)).toInt := by rw [eS6]
  try simp (disch := first | ((try simp (disch := first | ((try simp only [pn]) <;> omega) | fail) only [pn, pq]) <;> omega) | fail) only [pn, pq] at je16
  have jf17 := J0g_count (J8g_trial hJS6)
  have je18 : ((b4g_count (b8g_tape S6))).toInt = ((b4g_count u5.1)).toInt := by rw [eS6]
  try simp (disch := first | ((try simp (disch := first | ((try simp only [pn]) <;> omega) | fail) only [pn, pq]) <;> omega) | fail) only [pn, pq] at je18
  have jf19 := J4g_count (J8g_tape hJS6)
  intro S7 eS7
  have hJS7 : J8 S7 := by rw [eS7]; exact (J8s_tape hJS6 (J4s_count (J8g_tape hJS6) ⟨(by (try simp (disch := first | ((try simp (disch := first | ((try simp only [pn]) <;> omega) | fail) only [pn, pq]) <;> omega) | fail) only [pn, pq]) <;> (intros; (try simp (disch := first | ((try simp (disch := first | ((try simp only [pn]) <;> omega) | fail) only [pn, pq]) <;> omega) | fail) only [pn, pq]) <;> omega)), (by (try simp (disch := first | ((try simp (disch := first | ((try simp only [pn]) <;> omega) | fail) only [pn, pq]) <;> omega) | fail) only [pn, pq]) <;> (intros; (try simp (disch := first | ((try simp (disch := first | ((try simp only [pn]) <;> omega) | fail) only [pn, pq]) <;> omega) | fail) only [pn, pq]) <;> omega))⟩))
  have hFS7 : F_X8_keys S S7 := by rw [eS7]; exact hFS6
  have je20 : ((b0g_count (b3g_members (b2g_told (b8g_now S7))))).toInt = ((b0g_count (b3g_members (b2g_told (b8g_now S6))))).toInt := by rw [eS7]
  have jf21 := J0g_count (J3g_members (J2g_told (J8g_now hJS7)))
  have je22 : ((b0g_count (b8g_trial S7))).toInt = ((b0g_count (b8g_trial S6))).toInt := by rw [eS7]
  have jf23 := J0g_count (J8g_trial hJS7)
  have je24 : ((b4g_count (b8g_tape S7))).toInt = ((0 : Int32)).toInt := by rw [eS7]
  try simp (disch := first | ((try simp (disch := first | ((try simp only [pn]) <;> omega) | fail) only [pn, pq]) <;> omega) | fail) only [pn, pq] at je24
  have jf25 := J4g_count (J8g_tape hJS7)
  refine ⟨fun c8 => ?_, fun c8 => ?_⟩
  · try simp (disch := first | ((try simp (disch := first | ((try simp only [pn]) <;> omega) | fail) only [pn, pq]) <;> omega) | fail) only [pn, pq] at c8
    intro v9 ev9
    have nv9 := congrArg Int32.toInt ev9
    try simp (disch := first | ((try simp (disch := first | ((try simp only [pn]) <;> omega) | fail) only [pn, pq]) <;> omega) | fail) only [pn, pq] at nv9
    refine sf_X0_copyFrom (S := ((b3g_members (b2g_told (b8g_now S7))), (b8g_trial S7))) ⟨(J3g_members (J2g_told (J8g_now hJS7))), (J8g_trial hJS7)⟩ (fun u11 hJu11 hfu11 hr10_0 => ?_)
    have je27 : ((b0g_count u11.2)).toInt = ((b0g_count (b8g_trial S7))).toInt := congrArg (fun z => ((b0g_count z)).toInt) hfu11
    try simp (disch := first | ((try simp (disch := first | ((try simp only [pn]) <;> omega) | fail) only [pn, pq]) <;> omega) | fail) only [pn, pq] at hr10_0
    intro S12 eS12
    have hGS12 : F_X8_keys S S12 := by
      rw [eS12]
      exact ⟨hFS7.1, hFS7.2.1, hFS7.2.2.1, hFS7.2.2.2.1, hFS7.2.2.2.2.1, hFS7.2.2.2.2.2.1, hFS7.2.2.2.2.2.2.1, hFS7.2.2.2.2.2.2.2.1, hFS7.2.2.2.2.2.2.2.2.1, hFS7.2.2.2.2.2.2.2.2.2.1, hFS7.2.2.2.2.2.2.2.2.2.2.1, hFS7.2.2.2.2.2.2.2.2.2.2.2.1, hFS7.2.2.2.2.2.2.2.2.2.2.2.2.1, hFS7.2.2.2.2.2.2.2.2.2.2.2.2.2⟩
    have hJS12 : J8 S12 := by rw [eS12]; exact (J8s_trial (J8s_now hJS7 (J2s_told (J8g_now hJS7) (J3s_members (J2g_told (J8g_now hJS7)) hJu11.1))) hJu11.2)
    have hFS12 : F_X8_keys S S12 := hGS12
    have je28 : ((b0g_count (b3g_members (b2g_told (b8g_now S12))))).toInt = ((b0g_count u11.1)).toInt := by rw [eS12]
    try simp (disch := first | ((try simp (disch := first | ((try simp only [pn]) <;> omega) | fail) only [pn, pq]) <;> omega) | fail) only [pn, pq] at je28
    have jf29 := J0g_count (J3g_members (J2g_told (J8g_now hJS12)))
    have je30 : ((b0g_count (b8g_trial S12))).toInt = ((b0g_count u11.2)).toInt := by rw [eS12]
    try simp (disch := first | ((try simp (disch := first | ((try simp only [pn]) <;> omega) | fail) only [pn, pq]) <;> omega) | fail) only [pn, pq] at je30
    have jf31 := J0g_count (J8g_trial hJS12)
    have je32 : ((b4g_count (b8g_tape S12))).toInt = ((b4g_count (b8g_tape S7))).toInt := by rw [eS12]
    have jf33 := J4g_count (J8g_tape hJS12)
    exact hq _ _ hJS12 hFS12 (by (try simp (disch := first | ((try simp (disch := first | ((try simp only [pn]) <;> omega) | fail) only [pn, pq]) <;> omega) | fail) only [pn, pq]) <;> (intros; (try simp (disch := first | ((try simp (disch := first | ((try simp only [pn]) <;> omega) | fail) only [pn, pq]) <;> omega) | fail) only [pn, pq]) <;> omega)) (by (intro T j hj; exfalso; omega))
  · try simp (disch := first | ((try simp (disch := first | ((try simp only [pn]) <;> omega) | fail) only [pn, pq]) <;> omega) | fail) only [pn, pq] at c8
    exact hq _ _ hJS7 hFS7 (by (try simp (disch := first | ((try simp (disch := first | ((try simp only [pn]) <;> omega) | fail) only [pn, pq]) <;> omega) | fail) only [pn, pq]) <;> (intros; (try simp (disch := first | ((try simp (disch := first | ((try simp only [pn]) <;> omega) | fail) only [pn, pq]) <;> omega) | fail) only [pn, pq]) <;> omega)) (by (intro T j hj; exfalso; omega))
def F_X8_set (S u : bT8) : Prop := (b3g_members (b2g_told (b8g_now u))) = (b3g_members (b2g_told (b8g_now S))) ∧ (b3g_mode (b2g_told (b8g_now u))) = (b3g_mode (b2g_told (b8g_now S))) ∧ (b2g_built (b8g_now u)) = (b2g_built (b8g_now S)) ∧ (b2g_questions (b8g_now u)) = (b2g_questions (b8g_now S)) ∧ (b2g_answers (b8g_now u)) = (b2g_answers (b8g_now S)) ∧ (b2g_draws (b8g_now u)) = (b2g_draws (b8g_now S)) ∧ (b8g_kept u) = (b8g_kept S) ∧ (b8g_isKept u) = (b8g_isKept S) ∧ (b8g_leaves u) = (b8g_leaves S) ∧ (b8g_tree u) = (b8g_tree S) ∧ (b8g_tuning u) = (b8g_tuning S) ∧ (b8g_trial u) = (b8g_trial S) ∧ (b8g_tape u) = (b8g_tape S) ∧ (b8g_text u) = (b8g_text S) ∧ (b8g_chosenRow u) = (b8g_chosenRow S)
theorem sf_X8_set {S : bT8} (hJ : J8 S) {a1 : Int32} {a2 : Int32} {Q : Int32 → (bT8) → Prop} (hq : ∀ (r : Int32) (u : bT8), (J8 u) → F_X8_set S u → bf_bool r → ((r.toInt = 1 ∧ ((a1.toInt = 0 ∧ 0 ≤ a2.toInt ∧ a2.toInt ≤ 8) ∨ (a1.toInt = 1 ∧ 0 ≤ a2.toInt ∧ a2.toInt ≤ 8) ∨ (a1.toInt = 2 ∧ 0 ≤ a2.toInt ∧ a2.toInt ≤ 9) ∨ (a1.toInt = 3 ∧ 1 ≤ a2.toInt ∧ a2.toInt ≤ 64) ∨ (a1.toInt = 4 ∧ 1 ≤ a2.toInt ∧ a2.toInt ≤ 256) ∨ a1.toInt = 5)) ∨ (r.toInt = 0 ∧ ¬ ((a1.toInt = 0 ∧ 0 ≤ a2.toInt ∧ a2.toInt ≤ 8) ∨ (a1.toInt = 1 ∧ 0 ≤ a2.toInt ∧ a2.toInt ≤ 8) ∨ (a1.toInt = 2 ∧ 0 ≤ a2.toInt ∧ a2.toInt ≤ 9) ∨ (a1.toInt = 3 ∧ 1 ≤ a2.toInt ∧ a2.toInt ≤ 64) ∨ (a1.toInt = 4 ∧ 1 ≤ a2.toInt ∧ a2.toInt ≤ 256) ∨ a1.toInt = 5))) → Q r u) : wp_X8_set S a1 a2 Q := by
  unfold wp_X8_set
  have rg1 := pt_rg a1
  have rg2 := pt_rg a2
  have tab : ∀ k : Nat, k < 6 → a1.toInt = k → (bf_at6 bf_least a1).toInt = (bf_least.getD k 0).toInt ∧ (bf_at6 bf_most a1).toInt = (bf_most.getD k 0).toInt := by
    intro k hk e
    have c := pt_clamp (i := a1) (by omega)
    have ek : a1.toNatClampNeg = k := by omega
    have n1 : ¬ a1 < 0 := by rw [Int32.lt_iff_toInt_lt, pl_0]; omega
    have n2 : ¬ (6 : Int32) ≤ a1 := by rw [Int32.le_iff_toInt_le, pl_6]; omega
    unfold bf_at6
    rw [if_neg n1, if_neg n2, if_neg n1, if_neg n2, ek]
    exact ⟨rfl, rfl⟩
  have t0 := tab 0 (by decide)
  have t1 := tab 1 (by decide)
  have t2 := tab 2 (by decide)
  have t3 := tab 3 (by decide)
  have t4 := tab 4 (by decide)
  have t5 := tab 5 (by decide)
  have l0 : (bf_least.getD 0 0).toInt = 0 ∧ (bf_most.getD 0 0).toInt = 8 := ⟨rfl, rfl⟩
  have l1 : (bf_least.getD 1 0).toInt = 0 ∧ (bf_most.getD 1 0).toInt = 8 := ⟨rfl, rfl⟩
  have l2 : (bf_least.getD 2 0).toInt = 0 ∧ (bf_most.getD 2 0).toInt = 9 := ⟨rfl, rfl⟩
  have l3 : (bf_least.getD 3 0).toInt = 1 ∧ (bf_most.getD 3 0).toInt = 64 := ⟨rfl, rfl⟩
  have l4 : (bf_least.getD 4 0).toInt = 1 ∧ (bf_most.getD 4 0).toInt = 256 := ⟨rfl, rfl⟩
  have l5 : (bf_least.getD 5 0).toInt = -2147483648 ∧ (bf_most.getD 5 0).toInt = 2147483647 := ⟨rfl, rfl⟩
  refine ⟨fun c => ?_, fun c1 c2 c3 c4 => ⟨?_, fun S2 e2 => ?_⟩⟩
  · simp only [pn] at c
    refine hq _ _ hJ ⟨rfl, rfl, rfl, rfl, rfl, rfl, rfl, rfl, rfl, rfl, rfl, rfl, rfl, rfl, rfl⟩ rfl (Or.inr ⟨rfl, ?_⟩)
    omega
  · simp only [pn] at c1 c2
    exact pt_in (by omega) (by omega)
  · simp only [pn] at c1 c2 c3 c4
    refine hq _ _ ?_ ?_ rfl (Or.inl ⟨rfl, ?_⟩)
    · rw [e2]
      exact J8s_now hJ (J2s_told (J8g_now hJ) (J3s_values (J2g_told (J8g_now hJ))))
    · rw [e2]
      exact ⟨rfl, rfl, rfl, rfl, rfl, rfl, rfl, rfl, rfl, rfl, rfl, rfl, rfl, rfl, rfl⟩
    · omega
def F_X8_state (S u : bT8) : Prop := (b2g_told (b8g_now u)) = (b2g_told (b8g_now S)) ∧ (b2g_built (b8g_now u)) = (b2g_built (b8g_now S)) ∧ (b2g_questions (b8g_now u)) = (b2g_questions (b8g_now S)) ∧ (b2g_answers (b8g_now u)) = (b2g_answers (b8g_now S)) ∧ (b8g_kept u) = (b8g_kept S) ∧ (b8g_isKept u) = (b8g_isKept S) ∧ (b8g_leaves u) = (b8g_leaves S) ∧ (b8g_tree u) = (b8g_tree S) ∧ (b8g_tuning u) = (b8g_tuning S) ∧ (b8g_trial u) = (b8g_trial S) ∧ (b8g_tape u) = (b8g_tape S) ∧ (b8g_text u) = (b8g_text S) ∧ (b8g_chosenRow u) = (b8g_chosenRow S)
set_option maxRecDepth 20000 in
set_option maxHeartbeats 1000000 in
theorem sf_X8_state {S : bT8} (hJ : J8 S) {a1 : Int32} {Q : Int32 → (bT8) → Prop} (hq : ∀ (r : Int32) (u : bT8), (J8 u) → F_X8_state S u → (r.toInt = (b2g_draws (b8g_now S)).toInt) → ((b2g_draws (b8g_now u)).toInt = a1.toInt) → Q r u) : wp_X8_state S a1 Q := by
  unfold wp_X8_state
  have hFS : F_X8_state S S := ⟨rfl, rfl, rfl, rfl, rfl, rfl, rfl, rfl, rfl, rfl, rfl, rfl, rfl⟩
  have rga1 := pt_rg a1
  intro S1 eS1
  have hJS1 : J8 S1 := by rw [eS1]; exact (J8s_now hJ (J2s_draws (J8g_now hJ)))
  have hFS1 : F_X8_state S S1 := by rw [eS1]; exact hFS
  have je1 : ((b2g_draws (b8g_now S1))).toInt = (a1).toInt := by rw [eS1]
  try simp (disch := first | ((try simp (disch := first | ((try simp only [pn]) <;> omega) | fail) only [pn, pq]) <;> omega) | fail) only [pn, pq] at je1
  exact hq _ _ hJS1 hFS1 (by (try simp (disch := first | ((try simp (disch := first | ((try simp only [pn]) <;> omega) | fail) only [pn, pq]) <;> omega) | fail) only [pn, pq]) <;> (intros; (try simp (disch := first | ((try simp (disch := first | ((try simp only [pn]) <;> omega) | fail) only [pn, pq]) <;> omega) | fail) only [pn, pq]) <;> omega)) (by (try simp (disch := first | ((try simp (disch := first | ((try simp only [pn]) <;> omega) | fail) only [pn, pq]) <;> omega) | fail) only [pn, pq]) <;> (intros; (try simp (disch := first | ((try simp (disch := first | ((try simp only [pn]) <;> omega) | fail) only [pn, pq]) <;> omega) | fail) only [pn, pq]) <;> omega))
theorem sf_X8_keyOf {a0 : Int32} {a1 : Int32} {a2 : Int32} {Q : Int64 → Prop} (hq : ∀ r : Int64, (1 ≤ a2.toInt → a2.toInt ≤ 8 → r = KEY a0 a1 a2) → Q r) : wp_X8_keyOf a0 a1 a2 Q := by
  unfold wp_X8_keyOf
  refine sf_X8_front (fun r1 h1 => hq _ (fun h2 h3 => ?_))
  rw [h1 h2 h3]
  exact key_eq h2 h3
def F_X8_add (S u : bT8) : Prop := (b3g_values (b2g_told (b8g_now u))) = (b3g_values (b2g_told (b8g_now S))) ∧ (b3g_mode (b2g_told (b8g_now u))) = (b3g_mode (b2g_told (b8g_now S))) ∧ (b2g_built (b8g_now u)) = (b2g_built (b8g_now S)) ∧ (b2g_questions (b8g_now u)) = (b2g_questions (b8g_now S)) ∧ (b2g_answers (b8g_now u)) = (b2g_answers (b8g_now S)) ∧ (b2g_draws (b8g_now u)) = (b2g_draws (b8g_now S)) ∧ (b8g_kept u) = (b8g_kept S) ∧ (b8g_isKept u) = (b8g_isKept S) ∧ (b8g_leaves u) = (b8g_leaves S) ∧ (b8g_tree u) = (b8g_tree S) ∧ (b8g_tuning u) = (b8g_tuning S) ∧ (b8g_trial u) = (b8g_trial S) ∧ (b8g_tape u) = (b8g_tape S) ∧ (b8g_text u) = (b8g_text S) ∧ (b8g_chosenRow u) = (b8g_chosenRow S)
theorem sf_X8_add {S : bT8} (hJ : J8 S) {a1 : Int32} {a2 : Int32} {a3 : Int32} {Q : Int32 → (bT8) → Prop} (hq : ∀ (r : Int32) (u : bT8), (J8 u) → F_X8_add S u → (SRT (b0g_bytes (b3g_members (b2g_told (b8g_now S)))) (b0g_lengths (b3g_members (b2g_told (b8g_now S)))) (b0g_count (b3g_members (b2g_told (b8g_now S)))).toInt → (1 ≤ a3.toInt ∧ a3.toInt ≤ 8 → INS (b0g_bytes (b3g_members (b2g_told (b8g_now S)))) (b0g_lengths (b3g_members (b2g_told (b8g_now S)))) (b0g_count (b3g_members (b2g_told (b8g_now S)))).toInt (KEY a1 a2 a3) a3 r.toInt (b0g_bytes (b3g_members (b2g_told (b8g_now u)))) (b0g_lengths (b3g_members (b2g_told (b8g_now u)))) (b0g_count (b3g_members (b2g_told (b8g_now u)))).toInt) ∧ (¬ (1 ≤ a3.toInt ∧ a3.toInt ≤ 8) → r.toInt = -1 ∧ u = S)) → Q r u) : wp_X8_add S a1 a2 a3 Q := by
  have hm := J3g_members (J2g_told (J8g_now hJ))
  unfold wp_X8_add
  refine sf_X8_isLength (fun r1 hz h1 => ⟨fun c => ?_, fun c => ?_⟩)
  · simp only [pn] at c
    have hn : 1 ≤ a3.toInt ∧ a3.toInt ≤ 8 := by omega
    refine sf_X8_keyOf (fun r3 h3 => ?_)
    have e3 := h3 hn.1 hn.2
    refine sf_X0_insert hm (fun r5 u6 hJ6 hf6 hI => ?_)
    intro S7 e7
    have em : b3g_members (b2g_told (b8g_now S7)) = u6 := by rw [e7]
    refine hq _ _ ?_ ?_ (fun hs => ⟨fun h => ?_, fun h => absurd hn h⟩)
    · rw [e7]
      exact J8s_now hJ (J2s_told (J8g_now hJ) (J3s_members (J2g_told (J8g_now hJ)) hJ6))
    · rw [e7]
      exact ⟨rfl, rfl, rfl, rfl, rfl, rfl, rfl, rfl, rfl, rfl, rfl, rfl, rfl, rfl, rfl⟩
    · rw [em, ← e3]
      exact hI hs h
  · simp only [pn] at c
    exact hq _ _ hJ ⟨rfl, rfl, rfl, rfl, rfl, rfl, rfl, rfl, rfl, rfl, rfl, rfl, rfl, rfl, rfl⟩ (fun _ => ⟨fun h => by omega, fun _ => ⟨rfl, rfl⟩⟩)
def F_X8_remove (S u : bT8) : Prop := (b3g_values (b2g_told (b8g_now u))) = (b3g_values (b2g_told (b8g_now S))) ∧ (b3g_mode (b2g_told (b8g_now u))) = (b3g_mode (b2g_told (b8g_now S))) ∧ (b2g_built (b8g_now u)) = (b2g_built (b8g_now S)) ∧ (b2g_questions (b8g_now u)) = (b2g_questions (b8g_now S)) ∧ (b2g_answers (b8g_now u)) = (b2g_answers (b8g_now S)) ∧ (b2g_draws (b8g_now u)) = (b2g_draws (b8g_now S)) ∧ (b8g_kept u) = (b8g_kept S) ∧ (b8g_isKept u) = (b8g_isKept S) ∧ (b8g_leaves u) = (b8g_leaves S) ∧ (b8g_tree u) = (b8g_tree S) ∧ (b8g_tuning u) = (b8g_tuning S) ∧ (b8g_trial u) = (b8g_trial S) ∧ (b8g_tape u) = (b8g_tape S) ∧ (b8g_text u) = (b8g_text S) ∧ (b8g_chosenRow u) = (b8g_chosenRow S)
theorem sf_X8_remove {S : bT8} (hJ : J8 S) {a1 : Int32} {a2 : Int32} {a3 : Int32} {Q : Int32 → (bT8) → Prop} (hq : ∀ (r : Int32) (u : bT8), (J8 u) → F_X8_remove S u → (SRT (b0g_bytes (b3g_members (b2g_told (b8g_now S)))) (b0g_lengths (b3g_members (b2g_told (b8g_now S)))) (b0g_count (b3g_members (b2g_told (b8g_now S)))).toInt → (1 ≤ a3.toInt ∧ a3.toInt ≤ 8 → NUM (b0g_bytes (b3g_members (b2g_told (b8g_now S)))) (b0g_lengths (b3g_members (b2g_told (b8g_now S)))) (b0g_count (b3g_members (b2g_told (b8g_now S)))).toInt (KEY a1 a2 a3) a3 r.toInt) ∧ (¬ (1 ≤ a3.toInt ∧ a3.toInt ≤ 8) → r.toInt = -1)) → (DRP (b0g_bytes (b3g_members (b2g_told (b8g_now S)))) (b0g_lengths (b3g_members (b2g_told (b8g_now S)))) (b0g_count (b3g_members (b2g_told (b8g_now S)))).toInt r.toInt (b0g_bytes (b3g_members (b2g_told (b8g_now u)))) (b0g_lengths (b3g_members (b2g_told (b8g_now u)))) (b0g_count (b3g_members (b2g_told (b8g_now u)))).toInt) → Q r u) : wp_X8_remove S a1 a2 a3 Q := by
  have hm := J3g_members (J2g_told (J8g_now hJ))
  unfold wp_X8_remove
  refine sf_X8_isLength (fun r1 hz h1 => ⟨fun c => ?_, fun c => ?_⟩)
  · simp only [pn] at c
    have hn : 1 ≤ a3.toInt ∧ a3.toInt ≤ 8 := by omega
    refine sf_X8_keyOf (fun r3 h3 => ?_)
    have e3 := h3 hn.1 hn.2
    refine fx_numberOf hm (fun r5 h5 h6 hN => ?_)
    refine sf_X0_drop hm (fun u8 hJ8 hf8 hD => ?_)
    intro S9 e9
    have em : b3g_members (b2g_told (b8g_now S9)) = u8 := by rw [e9]
    refine hq _ _ ?_ ?_ (fun hs => ⟨fun h => ?_, fun h => absurd hn h⟩) ?_
    · rw [e9]
      exact J8s_now hJ (J2s_told (J8g_now hJ) (J3s_members (J2g_told (J8g_now hJ)) hJ8))
    · rw [e9]
      exact ⟨rfl, rfl, rfl, rfl, rfl, rfl, rfl, rfl, rfl, rfl, rfl, rfl, rfl, rfl, rfl⟩
    · rw [← e3]
      exact hN hs h
    · rw [em]
      exact hD
  · simp only [pn] at c
    exact hq _ _ hJ ⟨rfl, rfl, rfl, rfl, rfl, rfl, rfl, rfl, rfl, rfl, rfl, rfl, rfl, rfl, rfl⟩ (fun _ => ⟨fun h => by omega, fun _ => rfl⟩) (Or.inl ⟨by rw [pl_m1]; omega, rfl, fun j hj => ⟨rfl, rfl⟩⟩)
