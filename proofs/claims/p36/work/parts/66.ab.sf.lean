def F_X6_findNodesOf (S u : bT6 × bT1) : Prop := (b6g_edgeStarts u.1) = (b6g_edgeStarts S.1) ∧ (b6g_edgeNodes u.1) = (b6g_edgeNodes S.1) ∧ (b6g_edgeOctets u.1) = (b6g_edgeOctets S.1) ∧ (b6g_edgeLeaves u.1) = (b6g_edgeLeaves S.1) ∧ (b6g_edgeChildren u.1) = (b6g_edgeChildren S.1) ∧ (b6g_levelStarts u.1) = (b6g_levelStarts S.1) ∧ (b6g_places u.1) = (b6g_places S.1) ∧ (b6g_leavesByPlace u.1) = (b6g_leavesByPlace S.1) ∧ (b6g_leafNodes u.1) = (b6g_leafNodes S.1) ∧ (b6g_edges u.1) = (b6g_edges S.1) ∧ (b6g_children u.1) = (b6g_children S.1) ∧ (b6g_levels u.1) = (b6g_levels S.1) ∧ (b6g_upper u.1) = (b6g_upper S.1) ∧ (b6g_upperNodes u.1) = (b6g_upperNodes S.1) ∧ (b6g_itemStart u.1) = (b6g_itemStart S.1) ∧ u.2 = S.2
set_option maxRecDepth 20000 in
set_option maxHeartbeats 8000000 in
theorem sf_X6_findNodesOf {S : bT6 × bT1} (hJ : J6 S.1 ∧ J1 S.2) {a1 : Int32} {Q : (bT6 × bT1) → Prop} (hq : ∀ u : bT6 × bT1, (J6 u.1 ∧ J1 u.2) → F_X6_findNodesOf S u → Q u) : wp_X6_findNodesOf S a1 Q := by
  unfold wp_X6_findNodesOf
  have hFS : F_X6_findNodesOf S S := ⟨rfl, rfl, rfl, rfl, rfl, rfl, rfl, rfl, rfl, rfl, rfl, rfl, rfl, rfl, rfl, rfl⟩
  have jf1 := J6g_nodes hJ.1
  have jf2 := J0g_count (J1g_owners hJ.2)
  have rga1 := pt_rg a1
  refine ⟨fun n x1q1 x3q1 x4q1 Sq1 => (J6 Sq1.1 ∧ J1 Sq1.2) ∧ (F_X6_findNodesOf S Sq1) ∧ (x1q1 = a1) ∧ (0 ≤ (x4q1).toInt) ∧ n = ((b0g_count (b1g_owners Sq1.2)).toInt + 1 - (x4q1).toInt).toNat, ⟨_, hJ, hFS, rfl, (by (try simp (disch := first | ((try simp (disch := first | ((try simp only [pn]) <;> omega) | fail) only [pn, pq]) <;> omega) | fail) only [pn, pq]) <;> (intros; (try simp (disch := first | ((try simp (disch := first | ((try simp only [pn]) <;> omega) | fail) only [pn, pq]) <;> omega) | fail) only [pn, pq]) <;> omega)), rfl⟩, ?_⟩
  rintro n2 x1q1 x3q1 x4q1 Sq1 ⟨hJSq1, hFSq1, hkq1_0, hiq1_0, hn2⟩
  subst hkq1_0
  have rgx1q1 := pt_rg x1q1
  have rgx3q1 := pt_rg x3q1
  have rgx4q1 := pt_rg x4q1
  unfold wp_X6_findNodesOf_5b
  have jf3 := J6g_nodes hJSq1.1
  have je5 : ((b0g_count (b1g_owners Sq1.2))).toInt = ((b0g_count (b1g_owners S.2))).toInt := congrArg (fun z => ((b0g_count (b1g_owners z))).toInt) hFSq1.2.2.2.2.2.2.2.2.2.2.2.2.2.2.2
  refine sf_X1_count hJSq1.2 (fun r3 hr3_0 => ?_)
  have rgr3 := pt_rg r3
  try simp (disch := first | ((try simp (disch := first | ((try simp only [pn]) <;> omega) | fail) only [pn, pq]) <;> omega) | fail) only [pn, pq] at hr3_0
  refine ⟨fun c5 => ?_, fun c5 => ?_⟩
  · try simp (disch := first | ((try simp (disch := first | ((try simp only [pn]) <;> omega) | fail) only [pn, pq]) <;> omega) | fail) only [pn, pq] at c5
    exact hq _ hJSq1 hFSq1 
  · try simp (disch := first | ((try simp (disch := first | ((try simp only [pn]) <;> omega) | fail) only [pn, pq]) <;> omega) | fail) only [pn, pq] at c5
    refine sf_X1_lengthAt hJSq1.2 (fun r6 hr6_0 => ?_)
    have rgr6 := pt_rg r6
    try simp (disch := first | ((try simp (disch := first | ((try simp only [pn]) <;> omega) | fail) only [pn, pq]) <;> omega) | fail) only [pn, pq] at hr6_0
    refine ⟨fun c8 => ?_, fun c8 => ?_⟩
    · try simp (disch := first | ((try simp (disch := first | ((try simp only [pn]) <;> omega) | fail) only [pn, pq]) <;> omega) | fail) only [pn, pq] at c8
      unfold wp_X6_findNodesOf_43
      unfold wp_X6_findNodesOf_48
      refine ⟨fun c9 => ?_, fun c9 => ?_⟩
      · exact absurd c9 (by decide)
      · skip
        refine sf_X0_bytesAt (J1g_owners hJSq1.2) (fun r10  => ?_)
        refine sf_X0_bytesAt (J1g_owners hJSq1.2) (fun r12  => ?_)
        refine ⟨fun c14 => ?_, fun c14 => ?_⟩
        · try simp (disch := first | ((try simp (disch := first | ((try simp only [pn]) <;> omega) | fail) only [pn, pq]) <;> omega) | fail) only [pn, pq] at c14
          unfold wp_X6_findNodesOf_92
          refine sf_X6_addNode hJSq1.1 (fun u16 hJu16 hfu16  => ?_)
          intro S17 eS17
          have hGS17 : F_X6_findNodesOf S S17 := by
            rw [eS17]
            exact ⟨(congrArg (fun z => z) hfu16.1).trans hFSq1.1, (congrArg (fun z => z) hfu16.2.1).trans hFSq1.2.1, (congrArg (fun z => z) hfu16.2.2.1).trans hFSq1.2.2.1, (congrArg (fun z => z) hfu16.2.2.2.1).trans hFSq1.2.2.2.1, (congrArg (fun z => z) hfu16.2.2.2.2.1).trans hFSq1.2.2.2.2.1, (congrArg (fun z => z) hfu16.2.2.2.2.2.1).trans hFSq1.2.2.2.2.2.1, (congrArg (fun z => z) hfu16.2.2.2.2.2.2.1).trans hFSq1.2.2.2.2.2.2.1, (congrArg (fun z => z) hfu16.2.2.2.2.2.2.2.1).trans hFSq1.2.2.2.2.2.2.2.1, (congrArg (fun z => z) hfu16.2.2.2.2.2.2.2.2.1).trans hFSq1.2.2.2.2.2.2.2.2.1, (congrArg (fun z => z) hfu16.2.2.2.2.2.2.2.2.2.1).trans hFSq1.2.2.2.2.2.2.2.2.2.1, (congrArg (fun z => z) hfu16.2.2.2.2.2.2.2.2.2.2.1).trans hFSq1.2.2.2.2.2.2.2.2.2.2.1, (congrArg (fun z => z) hfu16.2.2.2.2.2.2.2.2.2.2.2.1).trans hFSq1.2.2.2.2.2.2.2.2.2.2.2.1, (congrArg (fun z => z) hfu16.2.2.2.2.2.2.2.2.2.2.2.2.1).trans hFSq1.2.2.2.2.2.2.2.2.2.2.2.2.1, (congrArg (fun z => z) hfu16.2.2.2.2.2.2.2.2.2.2.2.2.2.1).trans hFSq1.2.2.2.2.2.2.2.2.2.2.2.2.2.1, (congrArg (fun z => z) hfu16.2.2.2.2.2.2.2.2.2.2.2.2.2.2).trans hFSq1.2.2.2.2.2.2.2.2.2.2.2.2.2.2.1, hFSq1.2.2.2.2.2.2.2.2.2.2.2.2.2.2.2⟩
          have hJS17 : J6 S17.1 ∧ J1 S17.2 := by rw [eS17]; exact ⟨hJu16, hJSq1.2⟩
          have hFS17 : F_X6_findNodesOf S S17 := hGS17
          have je6 : ((b6g_nodes S17.1)).toInt = ((b6g_nodes u16)).toInt := by rw [eS17]
          try simp (disch := first | ((try simp (disch := first | ((try simp only [pn]) <;> omega) | fail) only [pn, pq]) <;> omega) | fail) only [pn, pq] at je6
          have jf7 := J6g_nodes hJS17.1
          have je9 : ((b0g_count (b1g_owners S17.2))).toInt = ((b0g_count (b1g_owners S.2))).toInt := congrArg (fun z => ((b0g_count (b1g_owners z))).toInt) hFS17.2.2.2.2.2.2.2.2.2.2.2.2.2.2.2
          unfold wp_X6_findNodesOf_99
          refine ⟨fun c18 => ?_, fun c18 => ?_⟩
          · try simp (disch := first | ((try simp (disch := first | ((try simp only [pn]) <;> omega) | fail) only [pn, pq]) <;> omega) | fail) only [pn, pq] at c18
            unfold wp_X6_findNodesOf_131
            unfold wp_X6_findNodesOf_134
            refine ⟨_, ?_, ?_, ?_, ?_, ?_, rfl⟩
            · (try simp (disch := first | ((try simp (disch := first | ((try simp only [pn]) <;> omega) | fail) only [pn, pq]) <;> omega) | fail) only [pn, pq]) <;> (intros; (try simp (disch := first | ((try simp (disch := first | ((try simp only [pn]) <;> omega) | fail) only [pn, pq]) <;> omega) | fail) only [pn, pq]) <;> omega)
            · exact hJS17
            · exact hFS17
            · first | rfl | assumption
            · (try simp (disch := first | ((try simp (disch := first | ((try simp only [pn]) <;> omega) | fail) only [pn, pq]) <;> omega) | fail) only [pn, pq]) <;> (intros; (try simp (disch := first | ((try simp (disch := first | ((try simp only [pn]) <;> omega) | fail) only [pn, pq]) <;> omega) | fail) only [pn, pq]) <;> omega)
          · try simp (disch := first | ((try simp (disch := first | ((try simp only [pn]) <;> omega) | fail) only [pn, pq]) <;> omega) | fail) only [pn, pq] at c18
            refine ⟨fun c19 => ?_, fun c19 => ?_⟩
            · try simp (disch := first | ((try simp (disch := first | ((try simp only [pn]) <;> omega) | fail) only [pn, pq]) <;> omega) | fail) only [pn, pq] at c19
              unfold wp_X6_findNodesOf_131
              unfold wp_X6_findNodesOf_134
              refine ⟨_, ?_, ?_, ?_, ?_, ?_, rfl⟩
              · (try simp (disch := first | ((try simp (disch := first | ((try simp only [pn]) <;> omega) | fail) only [pn, pq]) <;> omega) | fail) only [pn, pq]) <;> (intros; (try simp (disch := first | ((try simp (disch := first | ((try simp only [pn]) <;> omega) | fail) only [pn, pq]) <;> omega) | fail) only [pn, pq]) <;> omega)
              · exact hJS17
              · exact hFS17
              · first | rfl | assumption
              · (try simp (disch := first | ((try simp (disch := first | ((try simp only [pn]) <;> omega) | fail) only [pn, pq]) <;> omega) | fail) only [pn, pq]) <;> (intros; (try simp (disch := first | ((try simp (disch := first | ((try simp only [pn]) <;> omega) | fail) only [pn, pq]) <;> omega) | fail) only [pn, pq]) <;> omega)
            · try simp (disch := first | ((try simp (disch := first | ((try simp only [pn]) <;> omega) | fail) only [pn, pq]) <;> omega) | fail) only [pn, pq] at c19
              refine ⟨pt_in (by (try simp (disch := first | ((try simp (disch := first | ((try simp only [pn]) <;> omega) | fail) only [pn, pq]) <;> omega) | fail) only [pn, pq]) <;> (intros; (try simp (disch := first | ((try simp (disch := first | ((try simp only [pn]) <;> omega) | fail) only [pn, pq]) <;> omega) | fail) only [pn, pq]) <;> omega)) (by (try simp (disch := first | ((try simp (disch := first | ((try simp only [pn]) <;> omega) | fail) only [pn, pq]) <;> omega) | fail) only [pn, pq]) <;> (intros; (try simp (disch := first | ((try simp (disch := first | ((try simp only [pn]) <;> omega) | fail) only [pn, pq]) <;> omega) | fail) only [pn, pq]) <;> omega)), ?_⟩
              intro v20 ev20
              have nv20 := congrArg Int32.toInt ev20
              try simp (disch := first | ((try simp (disch := first | ((try simp only [pn]) <;> omega) | fail) only [pn, pq]) <;> omega) | fail) only [pn, pq] at nv20
              refine ⟨pt_in (by (try simp (disch := first | ((try simp (disch := first | ((try simp only [pn]) <;> omega) | fail) only [pn, pq]) <;> omega) | fail) only [pn, pq]) <;> (intros; (try simp (disch := first | ((try simp (disch := first | ((try simp only [pn]) <;> omega) | fail) only [pn, pq]) <;> omega) | fail) only [pn, pq]) <;> omega)) (by (try simp (disch := first | ((try simp (disch := first | ((try simp only [pn]) <;> omega) | fail) only [pn, pq]) <;> omega) | fail) only [pn, pq]) <;> (intros; (try simp (disch := first | ((try simp (disch := first | ((try simp only [pn]) <;> omega) | fail) only [pn, pq]) <;> omega) | fail) only [pn, pq]) <;> omega)), ?_⟩
              intro S21 eS21
              have hJS21 : J6 S21.1 ∧ J1 S21.2 := by rw [eS21]; exact ⟨(J6s_leafCounts hJS17.1), hJS17.2⟩
              have hFS21 : F_X6_findNodesOf S S21 := by rw [eS21]; exact hFS17
              have je11 : ((b6g_nodes S21.1)).toInt = ((b6g_nodes S17.1)).toInt := by rw [eS21]
              have jf12 := J6g_nodes hJS21.1
              have je14 : ((b0g_count (b1g_owners S21.2))).toInt = ((b0g_count (b1g_owners S.2))).toInt := congrArg (fun z => ((b0g_count (b1g_owners z))).toInt) hFS21.2.2.2.2.2.2.2.2.2.2.2.2.2.2.2
              have ja15 : ((b6g_leafCounts S21.1) (((b6g_nodes S17.1) - (1 : Int32))).toNatClampNeg).toInt = (v20).toInt := by rw [eS21]; exact pt_upds
              try simp (disch := first | ((try simp (disch := first | ((try simp only [pn]) <;> omega) | fail) only [pn, pq]) <;> omega) | fail) only [pn, pq] at ja15
              unfold wp_X6_findNodesOf_131
              unfold wp_X6_findNodesOf_134
              refine ⟨_, ?_, ?_, ?_, ?_, ?_, rfl⟩
              · (try simp (disch := first | ((try simp (disch := first | ((try simp only [pn]) <;> omega) | fail) only [pn, pq]) <;> omega) | fail) only [pn, pq]) <;> (intros; (try simp (disch := first | ((try simp (disch := first | ((try simp only [pn]) <;> omega) | fail) only [pn, pq]) <;> omega) | fail) only [pn, pq]) <;> omega)
              · exact hJS21
              · exact hFS21
              · first | rfl | assumption
              · (try simp (disch := first | ((try simp (disch := first | ((try simp only [pn]) <;> omega) | fail) only [pn, pq]) <;> omega) | fail) only [pn, pq]) <;> (intros; (try simp (disch := first | ((try simp (disch := first | ((try simp only [pn]) <;> omega) | fail) only [pn, pq]) <;> omega) | fail) only [pn, pq]) <;> omega)
        · try simp (disch := first | ((try simp (disch := first | ((try simp only [pn]) <;> omega) | fail) only [pn, pq]) <;> omega) | fail) only [pn, pq] at c14
          refine sf_X8_front  (fun r22 hr22_0 => ?_)
          refine ⟨fun c24 => ?_, fun c24 => ?_⟩
          · try simp (disch := first | ((try simp (disch := first | ((try simp only [pn]) <;> omega) | fail) only [pn, pq]) <;> omega) | fail) only [pn, pq] at c24
            unfold wp_X6_findNodesOf_99
            refine ⟨fun c25 => ?_, fun c25 => ?_⟩
            · try simp (disch := first | ((try simp (disch := first | ((try simp only [pn]) <;> omega) | fail) only [pn, pq]) <;> omega) | fail) only [pn, pq] at c25
              unfold wp_X6_findNodesOf_131
              unfold wp_X6_findNodesOf_134
              refine ⟨_, ?_, ?_, ?_, ?_, ?_, rfl⟩
              · (try simp (disch := first | ((try simp (disch := first | ((try simp only [pn]) <;> omega) | fail) only [pn, pq]) <;> omega) | fail) only [pn, pq]) <;> (intros; (try simp (disch := first | ((try simp (disch := first | ((try simp only [pn]) <;> omega) | fail) only [pn, pq]) <;> omega) | fail) only [pn, pq]) <;> omega)
              · exact hJSq1
              · exact hFSq1
              · first | rfl | assumption
              · (try simp (disch := first | ((try simp (disch := first | ((try simp only [pn]) <;> omega) | fail) only [pn, pq]) <;> omega) | fail) only [pn, pq]) <;> (intros; (try simp (disch := first | ((try simp (disch := first | ((try simp only [pn]) <;> omega) | fail) only [pn, pq]) <;> omega) | fail) only [pn, pq]) <;> omega)
            · try simp (disch := first | ((try simp (disch := first | ((try simp only [pn]) <;> omega) | fail) only [pn, pq]) <;> omega) | fail) only [pn, pq] at c25
              refine ⟨fun c26 => ?_, fun c26 => ?_⟩
              · try simp (disch := first | ((try simp (disch := first | ((try simp only [pn]) <;> omega) | fail) only [pn, pq]) <;> omega) | fail) only [pn, pq] at c26
                unfold wp_X6_findNodesOf_131
                unfold wp_X6_findNodesOf_134
                refine ⟨_, ?_, ?_, ?_, ?_, ?_, rfl⟩
                · (try simp (disch := first | ((try simp (disch := first | ((try simp only [pn]) <;> omega) | fail) only [pn, pq]) <;> omega) | fail) only [pn, pq]) <;> (intros; (try simp (disch := first | ((try simp (disch := first | ((try simp only [pn]) <;> omega) | fail) only [pn, pq]) <;> omega) | fail) only [pn, pq]) <;> omega)
                · exact hJSq1
                · exact hFSq1
                · first | rfl | assumption
                · (try simp (disch := first | ((try simp (disch := first | ((try simp only [pn]) <;> omega) | fail) only [pn, pq]) <;> omega) | fail) only [pn, pq]) <;> (intros; (try simp (disch := first | ((try simp (disch := first | ((try simp only [pn]) <;> omega) | fail) only [pn, pq]) <;> omega) | fail) only [pn, pq]) <;> omega)
              · try simp (disch := first | ((try simp (disch := first | ((try simp only [pn]) <;> omega) | fail) only [pn, pq]) <;> omega) | fail) only [pn, pq] at c26
                refine ⟨pt_in (by (try simp (disch := first | ((try simp (disch := first | ((try simp only [pn]) <;> omega) | fail) only [pn, pq]) <;> omega) | fail) only [pn, pq]) <;> (intros; (try simp (disch := first | ((try simp (disch := first | ((try simp only [pn]) <;> omega) | fail) only [pn, pq]) <;> omega) | fail) only [pn, pq]) <;> omega)) (by (try simp (disch := first | ((try simp (disch := first | ((try simp only [pn]) <;> omega) | fail) only [pn, pq]) <;> omega) | fail) only [pn, pq]) <;> (intros; (try simp (disch := first | ((try simp (disch := first | ((try simp only [pn]) <;> omega) | fail) only [pn, pq]) <;> omega) | fail) only [pn, pq]) <;> omega)), ?_⟩
                intro v27 ev27
                have nv27 := congrArg Int32.toInt ev27
                try simp (disch := first | ((try simp (disch := first | ((try simp only [pn]) <;> omega) | fail) only [pn, pq]) <;> omega) | fail) only [pn, pq] at nv27
                refine ⟨pt_in (by (try simp (disch := first | ((try simp (disch := first | ((try simp only [pn]) <;> omega) | fail) only [pn, pq]) <;> omega) | fail) only [pn, pq]) <;> (intros; (try simp (disch := first | ((try simp (disch := first | ((try simp only [pn]) <;> omega) | fail) only [pn, pq]) <;> omega) | fail) only [pn, pq]) <;> omega)) (by (try simp (disch := first | ((try simp (disch := first | ((try simp only [pn]) <;> omega) | fail) only [pn, pq]) <;> omega) | fail) only [pn, pq]) <;> (intros; (try simp (disch := first | ((try simp (disch := first | ((try simp only [pn]) <;> omega) | fail) only [pn, pq]) <;> omega) | fail) only [pn, pq]) <;> omega)), ?_⟩
                intro S28 eS28
                have hJS28 : J6 S28.1 ∧ J1 S28.2 := by rw [eS28]; exact ⟨(J6s_leafCounts hJSq1.1), hJSq1.2⟩
                have hFS28 : F_X6_findNodesOf S S28 := by rw [eS28]; exact hFSq1
                have je17 : ((b6g_nodes S28.1)).toInt = ((b6g_nodes Sq1.1)).toInt := by rw [eS28]
                have jf18 := J6g_nodes hJS28.1
                have je20 : ((b0g_count (b1g_owners S28.2))).toInt = ((b0g_count (b1g_owners S.2))).toInt := congrArg (fun z => ((b0g_count (b1g_owners z))).toInt) hFS28.2.2.2.2.2.2.2.2.2.2.2.2.2.2.2
                have ja21 : ((b6g_leafCounts S28.1) (((b6g_nodes Sq1.1) - (1 : Int32))).toNatClampNeg).toInt = (v27).toInt := by rw [eS28]; exact pt_upds
                try simp (disch := first | ((try simp (disch := first | ((try simp only [pn]) <;> omega) | fail) only [pn, pq]) <;> omega) | fail) only [pn, pq] at ja21
                unfold wp_X6_findNodesOf_131
                unfold wp_X6_findNodesOf_134
                refine ⟨_, ?_, ?_, ?_, ?_, ?_, rfl⟩
                · (try simp (disch := first | ((try simp (disch := first | ((try simp only [pn]) <;> omega) | fail) only [pn, pq]) <;> omega) | fail) only [pn, pq]) <;> (intros; (try simp (disch := first | ((try simp (disch := first | ((try simp only [pn]) <;> omega) | fail) only [pn, pq]) <;> omega) | fail) only [pn, pq]) <;> omega)
                · exact hJS28
                · exact hFS28
                · first | rfl | assumption
                · (try simp (disch := first | ((try simp (disch := first | ((try simp only [pn]) <;> omega) | fail) only [pn, pq]) <;> omega) | fail) only [pn, pq]) <;> (intros; (try simp (disch := first | ((try simp (disch := first | ((try simp only [pn]) <;> omega) | fail) only [pn, pq]) <;> omega) | fail) only [pn, pq]) <;> omega)
          · try simp (disch := first | ((try simp (disch := first | ((try simp only [pn]) <;> omega) | fail) only [pn, pq]) <;> omega) | fail) only [pn, pq] at c24
            unfold wp_X6_findNodesOf_92
            refine sf_X6_addNode hJSq1.1 (fun u30 hJu30 hfu30  => ?_)
            intro S31 eS31
            have hGS31 : F_X6_findNodesOf S S31 := by
              rw [eS31]
              exact ⟨(congrArg (fun z => z) hfu30.1).trans hFSq1.1, (congrArg (fun z => z) hfu30.2.1).trans hFSq1.2.1, (congrArg (fun z => z) hfu30.2.2.1).trans hFSq1.2.2.1, (congrArg (fun z => z) hfu30.2.2.2.1).trans hFSq1.2.2.2.1, (congrArg (fun z => z) hfu30.2.2.2.2.1).trans hFSq1.2.2.2.2.1, (congrArg (fun z => z) hfu30.2.2.2.2.2.1).trans hFSq1.2.2.2.2.2.1, (congrArg (fun z => z) hfu30.2.2.2.2.2.2.1).trans hFSq1.2.2.2.2.2.2.1, (congrArg (fun z => z) hfu30.2.2.2.2.2.2.2.1).trans hFSq1.2.2.2.2.2.2.2.1, (congrArg (fun z => z) hfu30.2.2.2.2.2.2.2.2.1).trans hFSq1.2.2.2.2.2.2.2.2.1, (congrArg (fun z => z) hfu30.2.2.2.2.2.2.2.2.2.1).trans hFSq1.2.2.2.2.2.2.2.2.2.1, (congrArg (fun z => z) hfu30.2.2.2.2.2.2.2.2.2.2.1).trans hFSq1.2.2.2.2.2.2.2.2.2.2.1, (congrArg (fun z => z) hfu30.2.2.2.2.2.2.2.2.2.2.2.1).trans hFSq1.2.2.2.2.2.2.2.2.2.2.2.1, (congrArg (fun z => z) hfu30.2.2.2.2.2.2.2.2.2.2.2.2.1).trans hFSq1.2.2.2.2.2.2.2.2.2.2.2.2.1, (congrArg (fun z => z) hfu30.2.2.2.2.2.2.2.2.2.2.2.2.2.1).trans hFSq1.2.2.2.2.2.2.2.2.2.2.2.2.2.1, (congrArg (fun z => z) hfu30.2.2.2.2.2.2.2.2.2.2.2.2.2.2).trans hFSq1.2.2.2.2.2.2.2.2.2.2.2.2.2.2.1, hFSq1.2.2.2.2.2.2.2.2.2.2.2.2.2.2.2⟩
            have hJS31 : J6 S31.1 ∧ J1 S31.2 := by rw [eS31]; exact ⟨hJu30, hJSq1.2⟩
            have hFS31 : F_X6_findNodesOf S S31 := hGS31
            have je22 : ((b6g_nodes S31.1)).toInt = ((b6g_nodes u30)).toInt := by rw [eS31]
            try simp (disch := first | ((try simp (disch := first | ((try simp only [pn]) <;> omega) | fail) only [pn, pq]) <;> omega) | fail) only [pn, pq] at je22
            have jf23 := J6g_nodes hJS31.1
            have je25 : ((b0g_count (b1g_owners S31.2))).toInt = ((b0g_count (b1g_owners S.2))).toInt := congrArg (fun z => ((b0g_count (b1g_owners z))).toInt) hFS31.2.2.2.2.2.2.2.2.2.2.2.2.2.2.2
            unfold wp_X6_findNodesOf_99
            refine ⟨fun c32 => ?_, fun c32 => ?_⟩
            · try simp (disch := first | ((try simp (disch := first | ((try simp only [pn]) <;> omega) | fail) only [pn, pq]) <;> omega) | fail) only [pn, pq] at c32
              unfold wp_X6_findNodesOf_131
              unfold wp_X6_findNodesOf_134
              refine ⟨_, ?_, ?_, ?_, ?_, ?_, rfl⟩
              · (try simp (disch := first | ((try simp (disch := first | ((try simp only [pn]) <;> omega) | fail) only [pn, pq]) <;> omega) | fail) only [pn, pq]) <;> (intros; (try simp (disch := first | ((try simp (disch := first | ((try simp only [pn]) <;> omega) | fail) only [pn, pq]) <;> omega) | fail) only [pn, pq]) <;> omega)
              · exact hJS31
              · exact hFS31
              · first | rfl | assumption
              · (try simp (disch := first | ((try simp (disch := first | ((try simp only [pn]) <;> omega) | fail) only [pn, pq]) <;> omega) | fail) only [pn, pq]) <;> (intros; (try simp (disch := first | ((try simp (disch := first | ((try simp only [pn]) <;> omega) | fail) only [pn, pq]) <;> omega) | fail) only [pn, pq]) <;> omega)
            · try simp (disch := first | ((try simp (disch := first | ((try simp only [pn]) <;> omega) | fail) only [pn, pq]) <;> omega) | fail) only [pn, pq] at c32
              refine ⟨fun c33 => ?_, fun c33 => ?_⟩
              · try simp (disch := first | ((try simp (disch := first | ((try simp only [pn]) <;> omega) | fail) only [pn, pq]) <;> omega) | fail) only [pn, pq] at c33
                unfold wp_X6_findNodesOf_131
                unfold wp_X6_findNodesOf_134
                refine ⟨_, ?_, ?_, ?_, ?_, ?_, rfl⟩
                · (try simp (disch := first | ((try simp (disch := first | ((try simp only [pn]) <;> omega) | fail) only [pn, pq]) <;> omega) | fail) only [pn, pq]) <;> (intros; (try simp (disch := first | ((try simp (disch := first | ((try simp only [pn]) <;> omega) | fail) only [pn, pq]) <;> omega) | fail) only [pn, pq]) <;> omega)
                · exact hJS31
                · exact hFS31
                · first | rfl | assumption
                · (try simp (disch := first | ((try simp (disch := first | ((try simp only [pn]) <;> omega) | fail) only [pn, pq]) <;> omega) | fail) only [pn, pq]) <;> (intros; (try simp (disch := first | ((try simp (disch := first | ((try simp only [pn]) <;> omega) | fail) only [pn, pq]) <;> omega) | fail) only [pn, pq]) <;> omega)
              · try simp (disch := first | ((try simp (disch := first | ((try simp only [pn]) <;> omega) | fail) only [pn, pq]) <;> omega) | fail) only [pn, pq] at c33
                refine ⟨pt_in (by (try simp (disch := first | ((try simp (disch := first | ((try simp only [pn]) <;> omega) | fail) only [pn, pq]) <;> omega) | fail) only [pn, pq]) <;> (intros; (try simp (disch := first | ((try simp (disch := first | ((try simp only [pn]) <;> omega) | fail) only [pn, pq]) <;> omega) | fail) only [pn, pq]) <;> omega)) (by (try simp (disch := first | ((try simp (disch := first | ((try simp only [pn]) <;> omega) | fail) only [pn, pq]) <;> omega) | fail) only [pn, pq]) <;> (intros; (try simp (disch := first | ((try simp (disch := first | ((try simp only [pn]) <;> omega) | fail) only [pn, pq]) <;> omega) | fail) only [pn, pq]) <;> omega)), ?_⟩
                intro v34 ev34
                have nv34 := congrArg Int32.toInt ev34
                try simp (disch := first | ((try simp (disch := first | ((try simp only [pn]) <;> omega) | fail) only [pn, pq]) <;> omega) | fail) only [pn, pq] at nv34
                refine ⟨pt_in (by (try simp (disch := first | ((try simp (disch := first | ((try simp only [pn]) <;> omega) | fail) only [pn, pq]) <;> omega) | fail) only [pn, pq]) <;> (intros; (try simp (disch := first | ((try simp (disch := first | ((try simp only [pn]) <;> omega) | fail) only [pn, pq]) <;> omega) | fail) only [pn, pq]) <;> omega)) (by (try simp (disch := first | ((try simp (disch := first | ((try simp only [pn]) <;> omega) | fail) only [pn, pq]) <;> omega) | fail) only [pn, pq]) <;> (intros; (try simp (disch := first | ((try simp (disch := first | ((try simp only [pn]) <;> omega) | fail) only [pn, pq]) <;> omega) | fail) only [pn, pq]) <;> omega)), ?_⟩
                intro S35 eS35
                have hJS35 : J6 S35.1 ∧ J1 S35.2 := by rw [eS35]; exact ⟨(J6s_leafCounts hJS31.1), hJS31.2⟩
                have hFS35 : F_X6_findNodesOf S S35 := by rw [eS35]; exact hFS31
                have je27 : ((b6g_nodes S35.1)).toInt = ((b6g_nodes S31.1)).toInt := by rw [eS35]
                have jf28 := J6g_nodes hJS35.1
                have je30 : ((b0g_count (b1g_owners S35.2))).toInt = ((b0g_count (b1g_owners S.2))).toInt := congrArg (fun z => ((b0g_count (b1g_owners z))).toInt) hFS35.2.2.2.2.2.2.2.2.2.2.2.2.2.2.2
                have ja31 : ((b6g_leafCounts S35.1) (((b6g_nodes S31.1) - (1 : Int32))).toNatClampNeg).toInt = (v34).toInt := by rw [eS35]; exact pt_upds
                try simp (disch := first | ((try simp (disch := first | ((try simp only [pn]) <;> omega) | fail) only [pn, pq]) <;> omega) | fail) only [pn, pq] at ja31
                unfold wp_X6_findNodesOf_131
                unfold wp_X6_findNodesOf_134
                refine ⟨_, ?_, ?_, ?_, ?_, ?_, rfl⟩
                · (try simp (disch := first | ((try simp (disch := first | ((try simp only [pn]) <;> omega) | fail) only [pn, pq]) <;> omega) | fail) only [pn, pq]) <;> (intros; (try simp (disch := first | ((try simp (disch := first | ((try simp only [pn]) <;> omega) | fail) only [pn, pq]) <;> omega) | fail) only [pn, pq]) <;> omega)
                · exact hJS35
                · exact hFS35
                · first | rfl | assumption
                · (try simp (disch := first | ((try simp (disch := first | ((try simp only [pn]) <;> omega) | fail) only [pn, pq]) <;> omega) | fail) only [pn, pq]) <;> (intros; (try simp (disch := first | ((try simp (disch := first | ((try simp only [pn]) <;> omega) | fail) only [pn, pq]) <;> omega) | fail) only [pn, pq]) <;> omega)
    · try simp (disch := first | ((try simp (disch := first | ((try simp only [pn]) <;> omega) | fail) only [pn, pq]) <;> omega) | fail) only [pn, pq] at c8
      refine sf_X1_isEnded hJSq1.2 (fun r36 hzr36  => ?_)
      refine ⟨fun c38 => ?_, fun c38 => ?_⟩
      · try simp (disch := first | ((try simp (disch := first | ((try simp only [pn]) <;> omega) | fail) only [pn, pq]) <;> omega) | fail) only [pn, pq] at c38
        unfold wp_X6_findNodesOf_47
        unfold wp_X6_findNodesOf_48
        refine ⟨fun c39 => ?_, fun c39 => ?_⟩
        · skip
          unfold wp_X6_findNodesOf_134
          refine ⟨_, ?_, ?_, ?_, ?_, ?_, rfl⟩
          · (try simp (disch := first | ((try simp (disch := first | ((try simp only [pn]) <;> omega) | fail) only [pn, pq]) <;> omega) | fail) only [pn, pq]) <;> (intros; (try simp (disch := first | ((try simp (disch := first | ((try simp only [pn]) <;> omega) | fail) only [pn, pq]) <;> omega) | fail) only [pn, pq]) <;> omega)
          · exact hJSq1
          · exact hFSq1
          · first | rfl | assumption
          · (try simp (disch := first | ((try simp (disch := first | ((try simp only [pn]) <;> omega) | fail) only [pn, pq]) <;> omega) | fail) only [pn, pq]) <;> (intros; (try simp (disch := first | ((try simp (disch := first | ((try simp only [pn]) <;> omega) | fail) only [pn, pq]) <;> omega) | fail) only [pn, pq]) <;> omega)
        · exact absurd c39 (by decide)
      · try simp (disch := first | ((try simp (disch := first | ((try simp only [pn]) <;> omega) | fail) only [pn, pq]) <;> omega) | fail) only [pn, pq] at c38
        refine sf_X1_lengthAt hJSq1.2 (fun r40 hr40_0 => ?_)
        have rgr40 := pt_rg r40
        try simp (disch := first | ((try simp (disch := first | ((try simp only [pn]) <;> omega) | fail) only [pn, pq]) <;> omega) | fail) only [pn, pq] at hr40_0
        refine ⟨fun c42 => ?_, fun c42 => ?_⟩
        · try simp (disch := first | ((try simp (disch := first | ((try simp only [pn]) <;> omega) | fail) only [pn, pq]) <;> omega) | fail) only [pn, pq] at c42
          unfold wp_X6_findNodesOf_47
          unfold wp_X6_findNodesOf_48
          refine ⟨fun c43 => ?_, fun c43 => ?_⟩
          · skip
            unfold wp_X6_findNodesOf_134
            refine ⟨_, ?_, ?_, ?_, ?_, ?_, rfl⟩
            · (try simp (disch := first | ((try simp (disch := first | ((try simp only [pn]) <;> omega) | fail) only [pn, pq]) <;> omega) | fail) only [pn, pq]) <;> (intros; (try simp (disch := first | ((try simp (disch := first | ((try simp only [pn]) <;> omega) | fail) only [pn, pq]) <;> omega) | fail) only [pn, pq]) <;> omega)
            · exact hJSq1
            · exact hFSq1
            · first | rfl | assumption
            · (try simp (disch := first | ((try simp (disch := first | ((try simp only [pn]) <;> omega) | fail) only [pn, pq]) <;> omega) | fail) only [pn, pq]) <;> (intros; (try simp (disch := first | ((try simp (disch := first | ((try simp only [pn]) <;> omega) | fail) only [pn, pq]) <;> omega) | fail) only [pn, pq]) <;> omega)
          · exact absurd c43 (by decide)
        · try simp (disch := first | ((try simp (disch := first | ((try simp only [pn]) <;> omega) | fail) only [pn, pq]) <;> omega) | fail) only [pn, pq] at c42
          unfold wp_X6_findNodesOf_43
          unfold wp_X6_findNodesOf_48
          refine ⟨fun c44 => ?_, fun c44 => ?_⟩
          · exact absurd c44 (by decide)
          · skip
            refine sf_X0_bytesAt (J1g_owners hJSq1.2) (fun r45  => ?_)
            refine sf_X0_bytesAt (J1g_owners hJSq1.2) (fun r47  => ?_)
            refine ⟨fun c49 => ?_, fun c49 => ?_⟩
            · try simp (disch := first | ((try simp (disch := first | ((try simp only [pn]) <;> omega) | fail) only [pn, pq]) <;> omega) | fail) only [pn, pq] at c49
              unfold wp_X6_findNodesOf_92
              refine sf_X6_addNode hJSq1.1 (fun u51 hJu51 hfu51  => ?_)
              intro S52 eS52
              have hGS52 : F_X6_findNodesOf S S52 := by
                rw [eS52]
                exact ⟨(congrArg (fun z => z) hfu51.1).trans hFSq1.1, (congrArg (fun z => z) hfu51.2.1).trans hFSq1.2.1, (congrArg (fun z => z) hfu51.2.2.1).trans hFSq1.2.2.1, (congrArg (fun z => z) hfu51.2.2.2.1).trans hFSq1.2.2.2.1, (congrArg (fun z => z) hfu51.2.2.2.2.1).trans hFSq1.2.2.2.2.1, (congrArg (fun z => z) hfu51.2.2.2.2.2.1).trans hFSq1.2.2.2.2.2.1, (congrArg (fun z => z) hfu51.2.2.2.2.2.2.1).trans hFSq1.2.2.2.2.2.2.1, (congrArg (fun z => z) hfu51.2.2.2.2.2.2.2.1).trans hFSq1.2.2.2.2.2.2.2.1, (congrArg (fun z => z) hfu51.2.2.2.2.2.2.2.2.1).trans hFSq1.2.2.2.2.2.2.2.2.1, (congrArg (fun z => z) hfu51.2.2.2.2.2.2.2.2.2.1).trans hFSq1.2.2.2.2.2.2.2.2.2.1, (congrArg (fun z => z) hfu51.2.2.2.2.2.2.2.2.2.2.1).trans hFSq1.2.2.2.2.2.2.2.2.2.2.1, (congrArg (fun z => z) hfu51.2.2.2.2.2.2.2.2.2.2.2.1).trans hFSq1.2.2.2.2.2.2.2.2.2.2.2.1, (congrArg (fun z => z) hfu51.2.2.2.2.2.2.2.2.2.2.2.2.1).trans hFSq1.2.2.2.2.2.2.2.2.2.2.2.2.1, (congrArg (fun z => z) hfu51.2.2.2.2.2.2.2.2.2.2.2.2.2.1).trans hFSq1.2.2.2.2.2.2.2.2.2.2.2.2.2.1, (congrArg (fun z => z) hfu51.2.2.2.2.2.2.2.2.2.2.2.2.2.2).trans hFSq1.2.2.2.2.2.2.2.2.2.2.2.2.2.2.1, hFSq1.2.2.2.2.2.2.2.2.2.2.2.2.2.2.2⟩
              have hJS52 : J6 S52.1 ∧ J1 S52.2 := by rw [eS52]; exact ⟨hJu51, hJSq1.2⟩
              have hFS52 : F_X6_findNodesOf S S52 := hGS52
              have je32 : ((b6g_nodes S52.1)).toInt = ((b6g_nodes u51)).toInt := by rw [eS52]
              try simp (disch := first | ((try simp (disch := first | ((try simp only [pn]) <;> omega) | fail) only [pn, pq]) <;> omega) | fail) only [pn, pq] at je32
              have jf33 := J6g_nodes hJS52.1
              have je35 : ((b0g_count (b1g_owners S52.2))).toInt = ((b0g_count (b1g_owners S.2))).toInt := congrArg (fun z => ((b0g_count (b1g_owners z))).toInt) hFS52.2.2.2.2.2.2.2.2.2.2.2.2.2.2.2
              unfold wp_X6_findNodesOf_99
              refine ⟨fun c53 => ?_, fun c53 => ?_⟩
              · try simp (disch := first | ((try simp (disch := first | ((try simp only [pn]) <;> omega) | fail) only [pn, pq]) <;> omega) | fail) only [pn, pq] at c53
                unfold wp_X6_findNodesOf_131
                unfold wp_X6_findNodesOf_134
                refine ⟨_, ?_, ?_, ?_, ?_, ?_, rfl⟩
                · (try simp (disch := first | ((try simp (disch := first | ((try simp only [pn]) <;> omega) | fail) only [pn, pq]) <;> omega) | fail) only [pn, pq]) <;> (intros; (try simp (disch := first | ((try simp (disch := first | ((try simp only [pn]) <;> omega) | fail) only [pn, pq]) <;> omega) | fail) only [pn, pq]) <;> omega)
                · exact hJS52
                · exact hFS52
                · first | rfl | assumption
                · (try simp (disch := first | ((try simp (disch := first | ((try simp only [pn]) <;> omega) | fail) only [pn, pq]) <;> omega) | fail) only [pn, pq]) <;> (intros; (try simp (disch := first | ((try simp (disch := first | ((try simp only [pn]) <;> omega) | fail) only [pn, pq]) <;> omega) | fail) only [pn, pq]) <;> omega)
              · try simp (disch := first | ((try simp (disch := first | ((try simp only [pn]) <;> omega) | fail) only [pn, pq]) <;> omega) | fail) only [pn, pq] at c53
                refine ⟨fun c54 => ?_, fun c54 => ?_⟩
                · try simp (disch := first | ((try simp (disch := first | ((try simp only [pn]) <;> omega) | fail) only [pn, pq]) <;> omega) | fail) only [pn, pq] at c54
                  unfold wp_X6_findNodesOf_131
                  unfold wp_X6_findNodesOf_134
                  refine ⟨_, ?_, ?_, ?_, ?_, ?_, rfl⟩
                  · (try simp (disch := first | ((try simp (disch := first | ((try simp only [pn]) <;> omega) | fail) only [pn, pq]) <;> omega) | fail) only [pn, pq]) <;> (intros; (try simp (disch := first | ((try simp (disch := first | ((try simp only [pn]) <;> omega) | fail) only [pn, pq]) <;> omega) | fail) only [pn, pq]) <;> omega)
                  · exact hJS52
                  · exact hFS52
                  · first | rfl | assumption
                  · (try simp (disch := first | ((try simp (disch := first | ((try simp only [pn]) <;> omega) | fail) only [pn, pq]) <;> omega) | fail) only [pn, pq]) <;> (intros; (try simp (disch := first | ((try simp (disch := first | ((try simp only [pn]) <;> omega) | fail) only [pn, pq]) <;> omega) | fail) only [pn, pq]) <;> omega)
                · try simp (disch := first | ((try simp (disch := first | ((try simp only [pn]) <;> omega) | fail) only [pn, pq]) <;> omega) | fail) only [pn, pq] at c54
                  refine ⟨pt_in (by (try simp (disch := first | ((try simp (disch := first | ((try simp only [pn]) <;> omega) | fail) only [pn, pq]) <;> omega) | fail) only [pn, pq]) <;> (intros; (try simp (disch := first | ((try simp (disch := first | ((try simp only [pn]) <;> omega) | fail) only [pn, pq]) <;> omega) | fail) only [pn, pq]) <;> omega)) (by (try simp (disch := first | ((try simp (disch := first | ((try simp only [pn]) <;> omega) | fail) only [pn, pq]) <;> omega) | fail) only [pn, pq]) <;> (intros; (try simp (disch := first | ((try simp (disch := first | ((try simp only [pn]) <;> omega) | fail) only [pn, pq]) <;> omega) | fail) only [pn, pq]) <;> omega)), ?_⟩
                  intro v55 ev55
                  have nv55 := congrArg Int32.toInt ev55
                  try simp (disch := first | ((try simp (disch := first | ((try simp only [pn]) <;> omega) | fail) only [pn, pq]) <;> omega) | fail) only [pn, pq] at nv55
                  refine ⟨pt_in (by (try simp (disch := first | ((try simp (disch := first | ((try simp only [pn]) <;> omega) | fail) only [pn, pq]) <;> omega) | fail) only [pn, pq]) <;> (intros; (try simp (disch := first | ((try simp (disch := first | ((try simp only [pn]) <;> omega) | fail) only [pn, pq]) <;> omega) | fail) only [pn, pq]) <;> omega)) (by (try simp (disch := first | ((try simp (disch := first | ((try simp only [pn]) <;> omega) | fail) only [pn, pq]) <;> omega) | fail) only [pn, pq]) <;> (intros; (try simp (disch := first | ((try simp (disch := first | ((try simp only [pn]) <;> omega) | fail) only [pn, pq]) <;> omega) | fail) only [pn, pq]) <;> omega)), ?_⟩
                  intro S56 eS56
                  have hJS56 : J6 S56.1 ∧ J1 S56.2 := by rw [eS56]; exact ⟨(J6s_leafCounts hJS52.1), hJS52.2⟩
                  have hFS56 : F_X6_findNodesOf S S56 := by rw [eS56]; exact hFS52
                  have je37 : ((b6g_nodes S56.1)).toInt = ((b6g_nodes S52.1)).toInt := by rw [eS56]
                  have jf38 := J6g_nodes hJS56.1
                  have je40 : ((b0g_count (b1g_owners S56.2))).toInt = ((b0g_count (b1g_owners S.2))).toInt := congrArg (fun z => ((b0g_count (b1g_owners z))).toInt) hFS56.2.2.2.2.2.2.2.2.2.2.2.2.2.2.2
                  have ja41 : ((b6g_leafCounts S56.1) (((b6g_nodes S52.1) - (1 : Int32))).toNatClampNeg).toInt = (v55).toInt := by rw [eS56]; exact pt_upds
                  try simp (disch := first | ((try simp (disch := first | ((try simp only [pn]) <;> omega) | fail) only [pn, pq]) <;> omega) | fail) only [pn, pq] at ja41
                  unfold wp_X6_findNodesOf_131
                  unfold wp_X6_findNodesOf_134
                  refine ⟨_, ?_, ?_, ?_, ?_, ?_, rfl⟩
                  · (try simp (disch := first | ((try simp (disch := first | ((try simp only [pn]) <;> omega) | fail) only [pn, pq]) <;> omega) | fail) only [pn, pq]) <;> (intros; (try simp (disch := first | ((try simp (disch := first | ((try simp only [pn]) <;> omega) | fail) only [pn, pq]) <;> omega) | fail) only [pn, pq]) <;> omega)
                  · exact hJS56
                  · exact hFS56
                  · first | rfl | assumption
                  · (try simp (disch := first | ((try simp (disch := first | ((try simp only [pn]) <;> omega) | fail) only [pn, pq]) <;> omega) | fail) only [pn, pq]) <;> (intros; (try simp (disch := first | ((try simp (disch := first | ((try simp only [pn]) <;> omega) | fail) only [pn, pq]) <;> omega) | fail) only [pn, pq]) <;> omega)
            · try simp (disch := first | ((try simp (disch := first | ((try simp only [pn]) <;> omega) | fail) only [pn, pq]) <;> omega) | fail) only [pn, pq] at c49
              refine sf_X8_front  (fun r57 hr57_0 => ?_)
              refine ⟨fun c59 => ?_, fun c59 => ?_⟩
              · try simp (disch := first | ((try simp (disch := first | ((try simp only [pn]) <;> omega) | fail) only [pn, pq]) <;> omega) | fail) only [pn, pq] at c59
                unfold wp_X6_findNodesOf_99
                refine ⟨fun c60 => ?_, fun c60 => ?_⟩
                · try simp (disch := first | ((try simp (disch := first | ((try simp only [pn]) <;> omega) | fail) only [pn, pq]) <;> omega) | fail) only [pn, pq] at c60
                  unfold wp_X6_findNodesOf_131
                  unfold wp_X6_findNodesOf_134
                  refine ⟨_, ?_, ?_, ?_, ?_, ?_, rfl⟩
                  · (try simp (disch := first | ((try simp (disch := first | ((try simp only [pn]) <;> omega) | fail) only [pn, pq]) <;> omega) | fail) only [pn, pq]) <;> (intros; (try simp (disch := first | ((try simp (disch := first | ((try simp only [pn]) <;> omega) | fail) only [pn, pq]) <;> omega) | fail) only [pn, pq]) <;> omega)
                  · exact hJSq1
                  · exact hFSq1
                  · first | rfl | assumption
                  · (try simp (disch := first | ((try simp (disch := first | ((try simp only [pn]) <;> omega) | fail) only [pn, pq]) <;> omega) | fail) only [pn, pq]) <;> (intros; (try simp (disch := first | ((try simp (disch := first | ((try simp only [pn]) <;> omega) | fail) only [pn, pq]) <;> omega) | fail) only [pn, pq]) <;> omega)
                · try simp (disch := first | ((try simp (disch := first | ((try simp only [pn]) <;> omega) | fail) only [pn, pq]) <;> omega) | fail) only [pn, pq] at c60
                  refine ⟨fun c61 => ?_, fun c61 => ?_⟩
                  · try simp (disch := first | ((try simp (disch := first | ((try simp only [pn]) <;> omega) | fail) only [pn, pq]) <;> omega) | fail) only [pn, pq] at c61
                    unfold wp_X6_findNodesOf_131
                    unfold wp_X6_findNodesOf_134
                    refine ⟨_, ?_, ?_, ?_, ?_, ?_, rfl⟩
                    · (try simp (disch := first | ((try simp (disch := first | ((try simp only [pn]) <;> omega) | fail) only [pn, pq]) <;> omega) | fail) only [pn, pq]) <;> (intros; (try simp (disch := first | ((try simp (disch := first | ((try simp only [pn]) <;> omega) | fail) only [pn, pq]) <;> omega) | fail) only [pn, pq]) <;> omega)
                    · exact hJSq1
                    · exact hFSq1
                    · first | rfl | assumption
                    · (try simp (disch := first | ((try simp (disch := first | ((try simp only [pn]) <;> omega) | fail) only [pn, pq]) <;> omega) | fail) only [pn, pq]) <;> (intros; (try simp (disch := first | ((try simp (disch := first | ((try simp only [pn]) <;> omega) | fail) only [pn, pq]) <;> omega) | fail) only [pn, pq]) <;> omega)
                  · try simp (disch := first | ((try simp (disch := first | ((try simp only [pn]) <;> omega) | fail) only [pn, pq]) <;> omega) | fail) only [pn, pq] at c61
                    refine ⟨pt_in (by (try simp (disch := first | ((try simp (disch := first | ((try simp only [pn]) <;> omega) | fail) only [pn, pq]) <;> omega) | fail) only [pn, pq]) <;> (intros; (try simp (disch := first | ((try simp (disch := first | ((try simp only [pn]) <;> omega) | fail) only [pn, pq]) <;> omega) | fail) only [pn, pq]) <;> omega)) (by (try simp (disch := first | ((try simp (disch := first | ((try simp only [pn]) <;> omega) | fail) only [pn, pq]) <;> omega) | fail) only [pn, pq]) <;> (intros; (try simp (disch := first | ((try simp (disch := first | ((try simp only [pn]) <;> omega) | fail) only [pn, pq]) <;> omega) | fail) only [pn, pq]) <;> omega)), ?_⟩
                    intro v62 ev62
                    have nv62 := congrArg Int32.toInt ev62
                    try simp (disch := first | ((try simp (disch := first | ((try simp only [pn]) <;> omega) | fail) only [pn, pq]) <;> omega) | fail) only [pn, pq] at nv62
                    refine ⟨pt_in (by (try simp (disch := first | ((try simp (disch := first | ((try simp only [pn]) <;> omega) | fail) only [pn, pq]) <;> omega) | fail) only [pn, pq]) <;> (intros; (try simp (disch := first | ((try simp (disch := first | ((try simp only [pn]) <;> omega) | fail) only [pn, pq]) <;> omega) | fail) only [pn, pq]) <;> omega)) (by (try simp (disch := first | ((try simp (disch := first | ((try simp only [pn]) <;> omega) | fail) only [pn, pq]) <;> omega) | fail) only [pn, pq]) <;> (intros; (try simp (disch := first | ((try simp (disch := first | ((try simp only [pn]) <;> omega) | fail) only [pn, pq]) <;> omega) | fail) only [pn, pq]) <;> omega)), ?_⟩
                    intro S63 eS63
                    have hJS63 : J6 S63.1 ∧ J1 S63.2 := by rw [eS63]; exact ⟨(J6s_leafCounts hJSq1.1), hJSq1.2⟩
                    have hFS63 : F_X6_findNodesOf S S63 := by rw [eS63]; exact hFSq1
                    have je43 : ((b6g_nodes S63.1)).toInt = ((b6g_nodes Sq1.1)).toInt := by rw [eS63]
                    have jf44 := J6g_nodes hJS63.1
                    have je46 : ((b0g_count (b1g_owners S63.2))).toInt = ((b0g_count (b1g_owners S.2))).toInt := congrArg (fun z => ((b0g_count (b1g_owners z))).toInt) hFS63.2.2.2.2.2.2.2.2.2.2.2.2.2.2.2
                    have ja47 : ((b6g_leafCounts S63.1) (((b6g_nodes Sq1.1) - (1 : Int32))).toNatClampNeg).toInt = (v62).toInt := by rw [eS63]; exact pt_upds
                    try simp (disch := first | ((try simp (disch := first | ((try simp only [pn]) <;> omega) | fail) only [pn, pq]) <;> omega) | fail) only [pn, pq] at ja47
                    unfold wp_X6_findNodesOf_131
                    unfold wp_X6_findNodesOf_134
                    refine ⟨_, ?_, ?_, ?_, ?_, ?_, rfl⟩
                    · (try simp (disch := first | ((try simp (disch := first | ((try simp only [pn]) <;> omega) | fail) only [pn, pq]) <;> omega) | fail) only [pn, pq]) <;> (intros; (try simp (disch := first | ((try simp (disch := first | ((try simp only [pn]) <;> omega) | fail) only [pn, pq]) <;> omega) | fail) only [pn, pq]) <;> omega)
                    · exact hJS63
                    · exact hFS63
                    · first | rfl | assumption
                    · (try simp (disch := first | ((try simp (disch := first | ((try simp only [pn]) <;> omega) | fail) only [pn, pq]) <;> omega) | fail) only [pn, pq]) <;> (intros; (try simp (disch := first | ((try simp (disch := first | ((try simp only [pn]) <;> omega) | fail) only [pn, pq]) <;> omega) | fail) only [pn, pq]) <;> omega)
              · try simp (disch := first | ((try simp (disch := first | ((try simp only [pn]) <;> omega) | fail) only [pn, pq]) <;> omega) | fail) only [pn, pq] at c59
                unfold wp_X6_findNodesOf_92
                refine sf_X6_addNode hJSq1.1 (fun u65 hJu65 hfu65  => ?_)
                intro S66 eS66
                have hGS66 : F_X6_findNodesOf S S66 := by
                  rw [eS66]
                  exact ⟨(congrArg (fun z => z) hfu65.1).trans hFSq1.1, (congrArg (fun z => z) hfu65.2.1).trans hFSq1.2.1, (congrArg (fun z => z) hfu65.2.2.1).trans hFSq1.2.2.1, (congrArg (fun z => z) hfu65.2.2.2.1).trans hFSq1.2.2.2.1, (congrArg (fun z => z) hfu65.2.2.2.2.1).trans hFSq1.2.2.2.2.1, (congrArg (fun z => z) hfu65.2.2.2.2.2.1).trans hFSq1.2.2.2.2.2.1, (congrArg (fun z => z) hfu65.2.2.2.2.2.2.1).trans hFSq1.2.2.2.2.2.2.1, (congrArg (fun z => z) hfu65.2.2.2.2.2.2.2.1).trans hFSq1.2.2.2.2.2.2.2.1, (congrArg (fun z => z) hfu65.2.2.2.2.2.2.2.2.1).trans hFSq1.2.2.2.2.2.2.2.2.1, (congrArg (fun z => z) hfu65.2.2.2.2.2.2.2.2.2.1).trans hFSq1.2.2.2.2.2.2.2.2.2.1, (congrArg (fun z => z) hfu65.2.2.2.2.2.2.2.2.2.2.1).trans hFSq1.2.2.2.2.2.2.2.2.2.2.1, (congrArg (fun z => z) hfu65.2.2.2.2.2.2.2.2.2.2.2.1).trans hFSq1.2.2.2.2.2.2.2.2.2.2.2.1, (congrArg (fun z => z) hfu65.2.2.2.2.2.2.2.2.2.2.2.2.1).trans hFSq1.2.2.2.2.2.2.2.2.2.2.2.2.1, (congrArg (fun z => z) hfu65.2.2.2.2.2.2.2.2.2.2.2.2.2.1).trans hFSq1.2.2.2.2.2.2.2.2.2.2.2.2.2.1, (congrArg (fun z => z) hfu65.2.2.2.2.2.2.2.2.2.2.2.2.2.2).trans hFSq1.2.2.2.2.2.2.2.2.2.2.2.2.2.2.1, hFSq1.2.2.2.2.2.2.2.2.2.2.2.2.2.2.2⟩
                have hJS66 : J6 S66.1 ∧ J1 S66.2 := by rw [eS66]; exact ⟨hJu65, hJSq1.2⟩
                have hFS66 : F_X6_findNodesOf S S66 := hGS66
                have je48 : ((b6g_nodes S66.1)).toInt = ((b6g_nodes u65)).toInt := by rw [eS66]
                try simp (disch := first | ((try simp (disch := first | ((try simp only [pn]) <;> omega) | fail) only [pn, pq]) <;> omega) | fail) only [pn, pq] at je48
                have jf49 := J6g_nodes hJS66.1
                have je51 : ((b0g_count (b1g_owners S66.2))).toInt = ((b0g_count (b1g_owners S.2))).toInt := congrArg (fun z => ((b0g_count (b1g_owners z))).toInt) hFS66.2.2.2.2.2.2.2.2.2.2.2.2.2.2.2
                unfold wp_X6_findNodesOf_99
                refine ⟨fun c67 => ?_, fun c67 => ?_⟩
                · try simp (disch := first | ((try simp (disch := first | ((try simp only [pn]) <;> omega) | fail) only [pn, pq]) <;> omega) | fail) only [pn, pq] at c67
                  unfold wp_X6_findNodesOf_131
                  unfold wp_X6_findNodesOf_134
                  refine ⟨_, ?_, ?_, ?_, ?_, ?_, rfl⟩
                  · (try simp (disch := first | ((try simp (disch := first | ((try simp only [pn]) <;> omega) | fail) only [pn, pq]) <;> omega) | fail) only [pn, pq]) <;> (intros; (try simp (disch := first | ((try simp (disch := first | ((try simp only [pn]) <;> omega) | fail) only [pn, pq]) <;> omega) | fail) only [pn, pq]) <;> omega)
                  · exact hJS66
                  · exact hFS66
                  · first | rfl | assumption
                  · (try simp (disch := first | ((try simp (disch := first | ((try simp only [pn]) <;> omega) | fail) only [pn, pq]) <;> omega) | fail) only [pn, pq]) <;> (intros; (try simp (disch := first | ((try simp (disch := first | ((try simp only [pn]) <;> omega) | fail) only [pn, pq]) <;> omega) | fail) only [pn, pq]) <;> omega)
                · try simp (disch := first | ((try simp (disch := first | ((try simp only [pn]) <;> omega) | fail) only [pn, pq]) <;> omega) | fail) only [pn, pq] at c67
                  refine ⟨fun c68 => ?_, fun c68 => ?_⟩
                  · try simp (disch := first | ((try simp (disch := first | ((try simp only [pn]) <;> omega) | fail) only [pn, pq]) <;> omega) | fail) only [pn, pq] at c68
                    unfold wp_X6_findNodesOf_131
                    unfold wp_X6_findNodesOf_134
                    refine ⟨_, ?_, ?_, ?_, ?_, ?_, rfl⟩
                    · (try simp (disch := first | ((try simp (disch := first | ((try simp only [pn]) <;> omega) | fail) only [pn, pq]) <;> omega) | fail) only [pn, pq]) <;> (intros; (try simp (disch := first | ((try simp (disch := first | ((try simp only [pn]) <;> omega) | fail) only [pn, pq]) <;> omega) | fail) only [pn, pq]) <;> omega)
                    · exact hJS66
                    · exact hFS66
                    · first | rfl | assumption
                    · (try simp (disch := first | ((try simp (disch := first | ((try simp only [pn]) <;> omega) | fail) only [pn, pq]) <;> omega) | fail) only [pn, pq]) <;> (intros; (try simp (disch := first | ((try simp (disch := first | ((try simp only [pn]) <;> omega) | fail) only [pn, pq]) <;> omega) | fail) only [pn, pq]) <;> omega)
                  · try simp (disch := first | ((try simp (disch := first | ((try simp only [pn]) <;> omega) | fail) only [pn, pq]) <;> omega) | fail) only [pn, pq] at c68
                    refine ⟨pt_in (by (try simp (disch := first | ((try simp (disch := first | ((try simp only [pn]) <;> omega) | fail) only [pn, pq]) <;> omega) | fail) only [pn, pq]) <;> (intros; (try simp (disch := first | ((try simp (disch := first | ((try simp only [pn]) <;> omega) | fail) only [pn, pq]) <;> omega) | fail) only [pn, pq]) <;> omega)) (by (try simp (disch := first | ((try simp (disch := first | ((try simp only [pn]) <;> omega) | fail) only [pn, pq]) <;> omega) | fail) only [pn, pq]) <;> (intros; (try simp (disch := first | ((try simp (disch := first | ((try simp only [pn]) <;> omega) | fail) only [pn, pq]) <;> omega) | fail) only [pn, pq]) <;> omega)), ?_⟩
                    intro v69 ev69
                    have nv69 := congrArg Int32.toInt ev69
                    try simp (disch := first | ((try simp (disch := first | ((try simp only [pn]) <;> omega) | fail) only [pn, pq]) <;> omega) | fail) only [pn, pq] at nv69
                    refine ⟨pt_in (by (try simp (disch := first | ((try simp (disch := first | ((try simp only [pn]) <;> omega) | fail) only [pn, pq]) <;> omega) | fail) only [pn, pq]) <;> (intros; (try simp (disch := first | ((try simp (disch := first | ((try simp only [pn]) <;> omega) | fail) only [pn, pq]) <;> omega) | fail) only [pn, pq]) <;> omega)) (by (try simp (disch := first | ((try simp (disch := first | ((try simp only [pn]) <;> omega) | fail) only [pn, pq]) <;> omega) | fail) only [pn, pq]) <;> (intros; (try simp (disch := first | ((try simp (disch := first | ((try simp only [pn]) <;> omega) | fail) only [pn, pq]) <;> omega) | fail) only [pn, pq]) <;> omega)), ?_⟩
                    intro S70 eS70
                    have hJS70 : J6 S70.1 ∧ J1 S70.2 := by rw [eS70]; exact ⟨(J6s_leafCounts hJS66.1), hJS66.2⟩
                    have hFS70 : F_X6_findNodesOf S S70 := by rw [eS70]; exact hFS66
                    have je53 : ((b6g_nodes S70.1)).toInt = ((b6g_nodes S66.1)).toInt := by rw [eS70]
                    have jf54 := J6g_nodes hJS70.1
                    have je56 : ((b0g_count (b1g_owners S70.2))).toInt = ((b0g_count (b1g_owners S.2))).toInt := congrArg (fun z => ((b0g_count (b1g_owners z))).toInt) hFS70.2.2.2.2.2.2.2.2.2.2.2.2.2.2.2
                    have ja57 : ((b6g_leafCounts S70.1) (((b6g_nodes S66.1) - (1 : Int32))).toNatClampNeg).toInt = (v69).toInt := by rw [eS70]; exact pt_upds
                    try simp (disch := first | ((try simp (disch := first | ((try simp only [pn]) <;> omega) | fail) only [pn, pq]) <;> omega) | fail) only [pn, pq] at ja57
                    unfold wp_X6_findNodesOf_131
                    unfold wp_X6_findNodesOf_134
                    refine ⟨_, ?_, ?_, ?_, ?_, ?_, rfl⟩
                    · (try simp (disch := first | ((try simp (disch := first | ((try simp only [pn]) <;> omega) | fail) only [pn, pq]) <;> omega) | fail) only [pn, pq]) <;> (intros; (try simp (disch := first | ((try simp (disch := first | ((try simp only [pn]) <;> omega) | fail) only [pn, pq]) <;> omega) | fail) only [pn, pq]) <;> omega)
                    · exact hJS70
                    · exact hFS70
                    · first | rfl | assumption
                    · (try simp (disch := first | ((try simp (disch := first | ((try simp only [pn]) <;> omega) | fail) only [pn, pq]) <;> omega) | fail) only [pn, pq]) <;> (intros; (try simp (disch := first | ((try simp (disch := first | ((try simp only [pn]) <;> omega) | fail) only [pn, pq]) <;> omega) | fail) only [pn, pq]) <;> omega)
def F_X6_findNodes (S u : bT6 × bT1) : Prop := (b6g_edgeStarts u.1) = (b6g_edgeStarts S.1) ∧ (b6g_edgeNodes u.1) = (b6g_edgeNodes S.1) ∧ (b6g_edgeOctets u.1) = (b6g_edgeOctets S.1) ∧ (b6g_edgeLeaves u.1) = (b6g_edgeLeaves S.1) ∧ (b6g_edgeChildren u.1) = (b6g_edgeChildren S.1) ∧ (b6g_places u.1) = (b6g_places S.1) ∧ (b6g_leavesByPlace u.1) = (b6g_leavesByPlace S.1) ∧ (b6g_leafNodes u.1) = (b6g_leafNodes S.1) ∧ (b6g_edges u.1) = (b6g_edges S.1) ∧ (b6g_children u.1) = (b6g_children S.1) ∧ (b6g_upper u.1) = (b6g_upper S.1) ∧ (b6g_upperNodes u.1) = (b6g_upperNodes S.1) ∧ (b6g_itemStart u.1) = (b6g_itemStart S.1) ∧ u.2 = S.2
set_option maxRecDepth 20000 in
set_option maxHeartbeats 8000000 in
theorem sf_X6_findNodes {S : bT6 × bT1} (hJ : J6 S.1 ∧ J1 S.2) {Q : (bT6 × bT1) → Prop} (hq : ∀ u : bT6 × bT1, (J6 u.1 ∧ J1 u.2) → F_X6_findNodes S u → Q u) : wp_X6_findNodes S Q := by
  unfold wp_X6_findNodes
  have hFS : F_X6_findNodes S S := ⟨rfl, rfl, rfl, rfl, rfl, rfl, rfl, rfl, rfl, rfl, rfl, rfl, rfl, rfl⟩
  have jf1 := J6g_nodes hJ.1
  intro S1 eS1
  have hJS1 : J6 S1.1 ∧ J1 S1.2 := by rw [eS1]; exact ⟨(J6s_nodes hJ.1 ⟨(by (try simp (disch := first | ((try simp (disch := first | ((try simp only [pn]) <;> omega) | fail) only [pn, pq]) <;> omega) | fail) only [pn, pq]) <;> (intros; (try simp (disch := first | ((try simp (disch := first | ((try simp only [pn]) <;> omega) | fail) only [pn, pq]) <;> omega) | fail) only [pn, pq]) <;> omega)), (by (try simp (disch := first | ((try simp (disch := first | ((try simp only [pn]) <;> omega) | fail) only [pn, pq]) <;> omega) | fail) only [pn, pq]) <;> (intros; (try simp (disch := first | ((try simp (disch := first | ((try simp only [pn]) <;> omega) | fail) only [pn, pq]) <;> omega) | fail) only [pn, pq]) <;> omega))⟩), hJ.2⟩
  have hFS1 : F_X6_findNodes S S1 := by rw [eS1]; exact hFS
  have je2 : ((b6g_nodes S1.1)).toInt = ((0 : Int32)).toInt := by rw [eS1]
  try simp (disch := first | ((try simp (disch := first | ((try simp only [pn]) <;> omega) | fail) only [pn, pq]) <;> omega) | fail) only [pn, pq] at je2
  have jf3 := J6g_nodes hJS1.1
  intro S2 eS2
  have hJS2 : J6 S2.1 ∧ J1 S2.2 := by rw [eS2]; exact ⟨(J6s_levels hJS1.1 ⟨(by (try simp (disch := first | ((try simp (disch := first | ((try simp only [pn]) <;> omega) | fail) only [pn, pq]) <;> omega) | fail) only [pn, pq]) <;> (intros; (try simp (disch := first | ((try simp (disch := first | ((try simp only [pn]) <;> omega) | fail) only [pn, pq]) <;> omega) | fail) only [pn, pq]) <;> omega)), (by (try simp (disch := first | ((try simp (disch := first | ((try simp only [pn]) <;> omega) | fail) only [pn, pq]) <;> omega) | fail) only [pn, pq]) <;> (intros; (try simp (disch := first | ((try simp (disch := first | ((try simp only [pn]) <;> omega) | fail) only [pn, pq]) <;> omega) | fail) only [pn, pq]) <;> omega))⟩), hJS1.2⟩
  have hFS2 : F_X6_findNodes S S2 := by rw [eS2]; exact hFS1
  have je4 : ((b6g_nodes S2.1)).toInt = ((b6g_nodes S1.1)).toInt := by rw [eS2]
  have jf5 := J6g_nodes hJS2.1
  refine ⟨fun n x2q3 Sq3 => (J6 Sq3.1 ∧ J1 Sq3.2) ∧ (F_X6_findNodes S Sq3) ∧ (0 ≤ (x2q3).toInt) ∧ n = (8 + 1 - (x2q3).toInt).toNat, ⟨_, hJS2, hFS2, (by (try simp (disch := first | ((try simp (disch := first | ((try simp only [pn]) <;> omega) | fail) only [pn, pq]) <;> omega) | fail) only [pn, pq]) <;> (intros; (try simp (disch := first | ((try simp (disch := first | ((try simp only [pn]) <;> omega) | fail) only [pn, pq]) <;> omega) | fail) only [pn, pq]) <;> omega)), rfl⟩, ?_⟩
  rintro n4 x2q3 Sq3 ⟨hJSq3, hFSq3, hiq3_0, hn4⟩
  have rgx2q3 := pt_rg x2q3
  unfold wp_X6_findNodes_12b
  have jf6 := J6g_nodes hJSq3.1
  refine ⟨fun c5 => ?_, fun c5 => ?_⟩
  · try simp (disch := first | ((try simp (disch := first | ((try simp only [pn]) <;> omega) | fail) only [pn, pq]) <;> omega) | fail) only [pn, pq] at c5
    refine ⟨pt_in (by (try simp (disch := first | ((try simp (disch := first | ((try simp only [pn]) <;> omega) | fail) only [pn, pq]) <;> omega) | fail) only [pn, pq]) <;> (intros; (try simp (disch := first | ((try simp (disch := first | ((try simp only [pn]) <;> omega) | fail) only [pn, pq]) <;> omega) | fail) only [pn, pq]) <;> omega)) (by (try simp (disch := first | ((try simp (disch := first | ((try simp only [pn]) <;> omega) | fail) only [pn, pq]) <;> omega) | fail) only [pn, pq]) <;> (intros; (try simp (disch := first | ((try simp (disch := first | ((try simp only [pn]) <;> omega) | fail) only [pn, pq]) <;> omega) | fail) only [pn, pq]) <;> omega)), ?_⟩
    intro S6 eS6
    have hJS6 : J6 S6.1 ∧ J1 S6.2 := by rw [eS6]; exact ⟨(J6s_levelStarts hJSq3.1), hJSq3.2⟩
    have hFS6 : F_X6_findNodes S S6 := by rw [eS6]; exact hFSq3
    have je7 : ((b6g_nodes S6.1)).toInt = ((b6g_nodes Sq3.1)).toInt := by rw [eS6]
    have jf8 := J6g_nodes hJS6.1
    have ja9 : ((b6g_levelStarts S6.1) ((8 : Int32)).toNatClampNeg).toInt = ((b6g_nodes Sq3.1)).toInt := by rw [eS6]; exact pt_upds
    try simp (disch := first | ((try simp (disch := first | ((try simp only [pn]) <;> omega) | fail) only [pn, pq]) <;> omega) | fail) only [pn, pq] at ja9
    exact hq _ hJS6 hFS6 
  · try simp (disch := first | ((try simp (disch := first | ((try simp only [pn]) <;> omega) | fail) only [pn, pq]) <;> omega) | fail) only [pn, pq] at c5
    refine ⟨pt_in (by (try simp (disch := first | ((try simp (disch := first | ((try simp only [pn]) <;> omega) | fail) only [pn, pq]) <;> omega) | fail) only [pn, pq]) <;> (intros; (try simp (disch := first | ((try simp (disch := first | ((try simp only [pn]) <;> omega) | fail) only [pn, pq]) <;> omega) | fail) only [pn, pq]) <;> omega)) (by (try simp (disch := first | ((try simp (disch := first | ((try simp only [pn]) <;> omega) | fail) only [pn, pq]) <;> omega) | fail) only [pn, pq]) <;> (intros; (try simp (disch := first | ((try simp (disch := first | ((try simp only [pn]) <;> omega) | fail) only [pn, pq]) <;> omega) | fail) only [pn, pq]) <;> omega)), ?_⟩
    intro S7 eS7
    have hJS7 : J6 S7.1 ∧ J1 S7.2 := by rw [eS7]; exact ⟨(J6s_levelStarts hJSq3.1), hJSq3.2⟩
    have hFS7 : F_X6_findNodes S S7 := by rw [eS7]; exact hFSq3
    have je10 : ((b6g_nodes S7.1)).toInt = ((b6g_nodes Sq3.1)).toInt := by rw [eS7]
    have jf11 := J6g_nodes hJS7.1
    have ja12 : ((b6g_levelStarts S7.1) (x2q3).toNatClampNeg).toInt = ((b6g_nodes Sq3.1)).toInt := by rw [eS7]; exact pt_upds
    try simp (disch := first | ((try simp (disch := first | ((try simp only [pn]) <;> omega) | fail) only [pn, pq]) <;> omega) | fail) only [pn, pq] at ja12
    refine sf_X6_findNodesOf (S := S7) ⟨hJS7.1, hJS7.2⟩ (fun u9 hJu9 hfu9  => ?_)
    have hFu9 : F_X6_findNodes S u9 := ⟨(congrArg (fun z => z) hfu9.1).trans hFS7.1, (congrArg (fun z => z) hfu9.2.1).trans hFS7.2.1, (congrArg (fun z => z) hfu9.2.2.1).trans hFS7.2.2.1, (congrArg (fun z => z) hfu9.2.2.2.1).trans hFS7.2.2.2.1, (congrArg (fun z => z) hfu9.2.2.2.2.1).trans hFS7.2.2.2.2.1, (congrArg (fun z => z) hfu9.2.2.2.2.2.2.1).trans hFS7.2.2.2.2.2.1, (congrArg (fun z => z) hfu9.2.2.2.2.2.2.2.1).trans hFS7.2.2.2.2.2.2.1, (congrArg (fun z => z) hfu9.2.2.2.2.2.2.2.2.1).trans hFS7.2.2.2.2.2.2.2.1, (congrArg (fun z => z) hfu9.2.2.2.2.2.2.2.2.2.1).trans hFS7.2.2.2.2.2.2.2.2.1, (congrArg (fun z => z) hfu9.2.2.2.2.2.2.2.2.2.2.1).trans hFS7.2.2.2.2.2.2.2.2.2.1, (congrArg (fun z => z) hfu9.2.2.2.2.2.2.2.2.2.2.2.2.1).trans hFS7.2.2.2.2.2.2.2.2.2.2.1, (congrArg (fun z => z) hfu9.2.2.2.2.2.2.2.2.2.2.2.2.2.1).trans hFS7.2.2.2.2.2.2.2.2.2.2.2.1, (congrArg (fun z => z) hfu9.2.2.2.2.2.2.2.2.2.2.2.2.2.2.1).trans hFS7.2.2.2.2.2.2.2.2.2.2.2.2.1, (congrArg (fun z => z) hfu9.2.2.2.2.2.2.2.2.2.2.2.2.2.2.2).trans hFS7.2.2.2.2.2.2.2.2.2.2.2.2.2⟩
    have jf13 := J6g_nodes hJu9.1
    refine ⟨pt_in (by (try simp (disch := first | ((try simp (disch := first | ((try simp only [pn]) <;> omega) | fail) only [pn, pq]) <;> omega) | fail) only [pn, pq]) <;> (intros; (try simp (disch := first | ((try simp (disch := first | ((try simp only [pn]) <;> omega) | fail) only [pn, pq]) <;> omega) | fail) only [pn, pq]) <;> omega)) (by (try simp (disch := first | ((try simp (disch := first | ((try simp only [pn]) <;> omega) | fail) only [pn, pq]) <;> omega) | fail) only [pn, pq]) <;> (intros; (try simp (disch := first | ((try simp (disch := first | ((try simp only [pn]) <;> omega) | fail) only [pn, pq]) <;> omega) | fail) only [pn, pq]) <;> omega)), ?_⟩
    refine ⟨fun c10 => ?_, fun c10 => ?_⟩
    · try simp (disch := first | ((try simp (disch := first | ((try simp only [pn]) <;> omega) | fail) only [pn, pq]) <;> omega) | fail) only [pn, pq] at c10
      unfold wp_X6_findNodes_54
      refine ⟨_, ?_, ?_, ?_, ?_, rfl⟩
      · (try simp (disch := first | ((try simp (disch := first | ((try simp only [pn]) <;> omega) | fail) only [pn, pq]) <;> omega) | fail) only [pn, pq]) <;> (intros; (try simp (disch := first | ((try simp (disch := first | ((try simp only [pn]) <;> omega) | fail) only [pn, pq]) <;> omega) | fail) only [pn, pq]) <;> omega)
      · exact hJu9
      · exact hFu9
      · (try simp (disch := first | ((try simp (disch := first | ((try simp only [pn]) <;> omega) | fail) only [pn, pq]) <;> omega) | fail) only [pn, pq]) <;> (intros; (try simp (disch := first | ((try simp (disch := first | ((try simp only [pn]) <;> omega) | fail) only [pn, pq]) <;> omega) | fail) only [pn, pq]) <;> omega)
    · try simp (disch := first | ((try simp (disch := first | ((try simp only [pn]) <;> omega) | fail) only [pn, pq]) <;> omega) | fail) only [pn, pq] at c10
      intro S11 eS11
      have hJS11 : J6 S11.1 ∧ J1 S11.2 := by rw [eS11]; exact ⟨(J6s_levels hJu9.1 ⟨(by (try simp (disch := first | ((try simp (disch := first | ((try simp only [pn]) <;> omega) | fail) only [pn, pq]) <;> omega) | fail) only [pn, pq]) <;> (intros; (try simp (disch := first | ((try simp (disch := first | ((try simp only [pn]) <;> omega) | fail) only [pn, pq]) <;> omega) | fail) only [pn, pq]) <;> omega)), (by (try simp (disch := first | ((try simp (disch := first | ((try simp only [pn]) <;> omega) | fail) only [pn, pq]) <;> omega) | fail) only [pn, pq]) <;> (intros; (try simp (disch := first | ((try simp (disch := first | ((try simp only [pn]) <;> omega) | fail) only [pn, pq]) <;> omega) | fail) only [pn, pq]) <;> omega))⟩), hJu9.2⟩
      have hFS11 : F_X6_findNodes S S11 := by rw [eS11]; exact hFu9
      have je15 : ((b6g_nodes S11.1)).toInt = ((b6g_nodes u9.1)).toInt := by rw [eS11]
      have jf16 := J6g_nodes hJS11.1
      unfold wp_X6_findNodes_54
      refine ⟨_, ?_, ?_, ?_, ?_, rfl⟩
      · (try simp (disch := first | ((try simp (disch := first | ((try simp only [pn]) <;> omega) | fail) only [pn, pq]) <;> omega) | fail) only [pn, pq]) <;> (intros; (try simp (disch := first | ((try simp (disch := first | ((try simp only [pn]) <;> omega) | fail) only [pn, pq]) <;> omega) | fail) only [pn, pq]) <;> omega)
      · exact hJS11
      · exact hFS11
      · (try simp (disch := first | ((try simp (disch := first | ((try simp only [pn]) <;> omega) | fail) only [pn, pq]) <;> omega) | fail) only [pn, pq]) <;> (intros; (try simp (disch := first | ((try simp (disch := first | ((try simp only [pn]) <;> omega) | fail) only [pn, pq]) <;> omega) | fail) only [pn, pq]) <;> omega)
def F_X6_findPlaces (S u : bT6) : Prop := (b6g_nodeLevels u) = (b6g_nodeLevels S) ∧ (b6g_firstLeaves u) = (b6g_firstLeaves S) ∧ (b6g_leafCounts u) = (b6g_leafCounts S) ∧ (b6g_edgeStarts u) = (b6g_edgeStarts S) ∧ (b6g_edgeNodes u) = (b6g_edgeNodes S) ∧ (b6g_edgeOctets u) = (b6g_edgeOctets S) ∧ (b6g_edgeLeaves u) = (b6g_edgeLeaves S) ∧ (b6g_edgeChildren u) = (b6g_edgeChildren S) ∧ (b6g_levelStarts u) = (b6g_levelStarts S) ∧ (b6g_nodes u) = (b6g_nodes S) ∧ (b6g_edges u) = (b6g_edges S) ∧ (b6g_children u) = (b6g_children S) ∧ (b6g_levels u) = (b6g_levels S) ∧ (b6g_upper u) = (b6g_upper S) ∧ (b6g_upperNodes u) = (b6g_upperNodes S) ∧ (b6g_itemStart u) = (b6g_itemStart S)
set_option maxRecDepth 20000 in
set_option maxHeartbeats 8000000 in
theorem sf_X6_findPlaces {S : bT6} (hJ : J6 S) {Q : (bT6) → Prop} (hq : ∀ u : bT6, (J6 u) → F_X6_findPlaces S u → Q u) : wp_X6_findPlaces S Q := by
  unfold wp_X6_findPlaces
  have hFS : F_X6_findPlaces S S := ⟨rfl, rfl, rfl, rfl, rfl, rfl, rfl, rfl, rfl, rfl, rfl, rfl, rfl, rfl, rfl, rfl⟩
  have jf1 := J6g_edges hJ
  refine ⟨fun n x1q1 x2q1 Sq1 => (J6 Sq1) ∧ (F_X6_findPlaces S Sq1) ∧ (0 ≤ (x1q1).toInt) ∧ (0 ≤ (x2q1).toInt) ∧ n = ((b6g_edges Sq1).toInt + 1 - (x2q1).toInt).toNat, ⟨_, hJ, hFS, (by (try simp (disch := first | ((try simp (disch := first | ((try simp only [pn]) <;> omega) | fail) only [pn, pq]) <;> omega) | fail) only [pn, pq]) <;> (intros; (try simp (disch := first | ((try simp (disch := first | ((try simp only [pn]) <;> omega) | fail) only [pn, pq]) <;> omega) | fail) only [pn, pq]) <;> omega)), (by (try simp (disch := first | ((try simp (disch := first | ((try simp only [pn]) <;> omega) | fail) only [pn, pq]) <;> omega) | fail) only [pn, pq]) <;> (intros; (try simp (disch := first | ((try simp (disch := first | ((try simp only [pn]) <;> omega) | fail) only [pn, pq]) <;> omega) | fail) only [pn, pq]) <;> omega)), rfl⟩, ?_⟩
  rintro n2 x1q1 x2q1 Sq1 ⟨hJSq1, hFSq1, hiq1_0, hiq1_1, hn2⟩
  have rgx1q1 := pt_rg x1q1
  have rgx2q1 := pt_rg x2q1
  unfold wp_X6_findPlaces_4b
  have je3 : ((b6g_edges Sq1)).toInt = ((b6g_edges S)).toInt := congrArg (fun z => (z).toInt) hFSq1.2.2.2.2.2.2.2.2.2.2.1
  refine ⟨fun c3 => ?_, fun c3 => ?_⟩
  · try simp (disch := first | ((try simp (disch := first | ((try simp only [pn]) <;> omega) | fail) only [pn, pq]) <;> omega) | fail) only [pn, pq] at c3
    exact hq _ hJSq1 hFSq1 
  · try simp (disch := first | ((try simp (disch := first | ((try simp only [pn]) <;> omega) | fail) only [pn, pq]) <;> omega) | fail) only [pn, pq] at c3
    refine sf_X8_at (by decide) (fun r4 hr4_0 => ?_)
    have rgr4 := pt_rg r4
    try simp (disch := first | ((try simp (disch := first | ((try simp only [pn]) <;> omega) | fail) only [pn, pq]) <;> omega) | fail) only [pn, pq] at hr4_0
    refine ⟨fun c6 => ?_, fun c6 => ?_⟩
    · try simp (disch := first | ((try simp (disch := first | ((try simp only [pn]) <;> omega) | fail) only [pn, pq]) <;> omega) | fail) only [pn, pq] at c6
      unfold wp_X6_findPlaces_68
      refine ⟨_, ?_, ?_, ?_, ?_, ?_, rfl⟩
      · (try simp (disch := first | ((try simp (disch := first | ((try simp only [pn]) <;> omega) | fail) only [pn, pq]) <;> omega) | fail) only [pn, pq]) <;> (intros; (try simp (disch := first | ((try simp (disch := first | ((try simp only [pn]) <;> omega) | fail) only [pn, pq]) <;> omega) | fail) only [pn, pq]) <;> omega)
      · exact hJSq1
      · exact hFSq1
      · (try simp (disch := first | ((try simp (disch := first | ((try simp only [pn]) <;> omega) | fail) only [pn, pq]) <;> omega) | fail) only [pn, pq]) <;> (intros; (try simp (disch := first | ((try simp (disch := first | ((try simp only [pn]) <;> omega) | fail) only [pn, pq]) <;> omega) | fail) only [pn, pq]) <;> omega)
      · (try simp (disch := first | ((try simp (disch := first | ((try simp only [pn]) <;> omega) | fail) only [pn, pq]) <;> omega) | fail) only [pn, pq]) <;> (intros; (try simp (disch := first | ((try simp (disch := first | ((try simp only [pn]) <;> omega) | fail) only [pn, pq]) <;> omega) | fail) only [pn, pq]) <;> omega)
    · try simp (disch := first | ((try simp (disch := first | ((try simp only [pn]) <;> omega) | fail) only [pn, pq]) <;> omega) | fail) only [pn, pq] at c6
      refine ⟨fun c7 => ?_, fun c7 => ?_⟩
      · try simp (disch := first | ((try simp (disch := first | ((try simp only [pn]) <;> omega) | fail) only [pn, pq]) <;> omega) | fail) only [pn, pq] at c7
        unfold wp_X6_findPlaces_68
        refine ⟨_, ?_, ?_, ?_, ?_, ?_, rfl⟩
        · (try simp (disch := first | ((try simp (disch := first | ((try simp only [pn]) <;> omega) | fail) only [pn, pq]) <;> omega) | fail) only [pn, pq]) <;> (intros; (try simp (disch := first | ((try simp (disch := first | ((try simp only [pn]) <;> omega) | fail) only [pn, pq]) <;> omega) | fail) only [pn, pq]) <;> omega)
        · exact hJSq1
        · exact hFSq1
        · (try simp (disch := first | ((try simp (disch := first | ((try simp only [pn]) <;> omega) | fail) only [pn, pq]) <;> omega) | fail) only [pn, pq]) <;> (intros; (try simp (disch := first | ((try simp (disch := first | ((try simp only [pn]) <;> omega) | fail) only [pn, pq]) <;> omega) | fail) only [pn, pq]) <;> omega)
        · (try simp (disch := first | ((try simp (disch := first | ((try simp only [pn]) <;> omega) | fail) only [pn, pq]) <;> omega) | fail) only [pn, pq]) <;> (intros; (try simp (disch := first | ((try simp (disch := first | ((try simp only [pn]) <;> omega) | fail) only [pn, pq]) <;> omega) | fail) only [pn, pq]) <;> omega)
      · try simp (disch := first | ((try simp (disch := first | ((try simp only [pn]) <;> omega) | fail) only [pn, pq]) <;> omega) | fail) only [pn, pq] at c7
        refine ⟨fun c8 => ?_, fun c8 => ?_⟩
        · try simp (disch := first | ((try simp (disch := first | ((try simp only [pn]) <;> omega) | fail) only [pn, pq]) <;> omega) | fail) only [pn, pq] at c8
          unfold wp_X6_findPlaces_68
          refine ⟨_, ?_, ?_, ?_, ?_, ?_, rfl⟩
          · (try simp (disch := first | ((try simp (disch := first | ((try simp only [pn]) <;> omega) | fail) only [pn, pq]) <;> omega) | fail) only [pn, pq]) <;> (intros; (try simp (disch := first | ((try simp (disch := first | ((try simp only [pn]) <;> omega) | fail) only [pn, pq]) <;> omega) | fail) only [pn, pq]) <;> omega)
          · exact hJSq1
          · exact hFSq1
          · (try simp (disch := first | ((try simp (disch := first | ((try simp only [pn]) <;> omega) | fail) only [pn, pq]) <;> omega) | fail) only [pn, pq]) <;> (intros; (try simp (disch := first | ((try simp (disch := first | ((try simp only [pn]) <;> omega) | fail) only [pn, pq]) <;> omega) | fail) only [pn, pq]) <;> omega)
          · (try simp (disch := first | ((try simp (disch := first | ((try simp only [pn]) <;> omega) | fail) only [pn, pq]) <;> omega) | fail) only [pn, pq]) <;> (intros; (try simp (disch := first | ((try simp (disch := first | ((try simp only [pn]) <;> omega) | fail) only [pn, pq]) <;> omega) | fail) only [pn, pq]) <;> omega)
        · try simp (disch := first | ((try simp (disch := first | ((try simp only [pn]) <;> omega) | fail) only [pn, pq]) <;> omega) | fail) only [pn, pq] at c8
          refine ⟨pt_in (by (try simp (disch := first | ((try simp (disch := first | ((try simp only [pn]) <;> omega) | fail) only [pn, pq]) <;> omega) | fail) only [pn, pq]) <;> (intros; (try simp (disch := first | ((try simp (disch := first | ((try simp only [pn]) <;> omega) | fail) only [pn, pq]) <;> omega) | fail) only [pn, pq]) <;> omega)) (by (try simp (disch := first | ((try simp (disch := first | ((try simp only [pn]) <;> omega) | fail) only [pn, pq]) <;> omega) | fail) only [pn, pq]) <;> (intros; (try simp (disch := first | ((try simp (disch := first | ((try simp only [pn]) <;> omega) | fail) only [pn, pq]) <;> omega) | fail) only [pn, pq]) <;> omega)), ?_⟩
          intro S9 eS9
          have hJS9 : J6 S9 := by rw [eS9]; exact (J6s_places hJSq1)
          have hFS9 : F_X6_findPlaces S S9 := by rw [eS9]; exact hFSq1
          have je5 : ((b6g_edges S9)).toInt = ((b6g_edges S)).toInt := congrArg (fun z => (z).toInt) hFS9.2.2.2.2.2.2.2.2.2.2.1
          refine ⟨pt_in (by (try simp (disch := first | ((try simp (disch := first | ((try simp only [pn]) <;> omega) | fail) only [pn, pq]) <;> omega) | fail) only [pn, pq]) <;> (intros; (try simp (disch := first | ((try simp (disch := first | ((try simp only [pn]) <;> omega) | fail) only [pn, pq]) <;> omega) | fail) only [pn, pq]) <;> omega)) (by (try simp (disch := first | ((try simp (disch := first | ((try simp only [pn]) <;> omega) | fail) only [pn, pq]) <;> omega) | fail) only [pn, pq]) <;> (intros; (try simp (disch := first | ((try simp (disch := first | ((try simp only [pn]) <;> omega) | fail) only [pn, pq]) <;> omega) | fail) only [pn, pq]) <;> omega)), ?_⟩
          intro S10 eS10
          have hJS10 : J6 S10 := by rw [eS10]; exact (J6s_leavesByPlace hJS9)
          have hFS10 : F_X6_findPlaces S S10 := by rw [eS10]; exact hFS9
          have je7 : ((b6g_edges S10)).toInt = ((b6g_edges S)).toInt := congrArg (fun z => (z).toInt) hFS10.2.2.2.2.2.2.2.2.2.2.1
          refine sf_X8_at (by decide) (fun r11 hr11_0 => ?_)
          have rgr11 := pt_rg r11
          try simp (disch := first | ((try simp (disch := first | ((try simp only [pn]) <;> omega) | fail) only [pn, pq]) <;> omega) | fail) only [pn, pq] at hr11_0
          refine ⟨pt_in (by (try simp (disch := first | ((try simp (disch := first | ((try simp only [pn]) <;> omega) | fail) only [pn, pq]) <;> omega) | fail) only [pn, pq]) <;> (intros; (try simp (disch := first | ((try simp (disch := first | ((try simp only [pn]) <;> omega) | fail) only [pn, pq]) <;> omega) | fail) only [pn, pq]) <;> omega)) (by (try simp (disch := first | ((try simp (disch := first | ((try simp only [pn]) <;> omega) | fail) only [pn, pq]) <;> omega) | fail) only [pn, pq]) <;> (intros; (try simp (disch := first | ((try simp (disch := first | ((try simp only [pn]) <;> omega) | fail) only [pn, pq]) <;> omega) | fail) only [pn, pq]) <;> omega)), ?_⟩
          intro S13 eS13
          have hJS13 : J6 S13 := by rw [eS13]; exact (J6s_leafNodes hJS10)
          have hFS13 : F_X6_findPlaces S S13 := by rw [eS13]; exact hFS10
          have je9 : ((b6g_edges S13)).toInt = ((b6g_edges S)).toInt := congrArg (fun z => (z).toInt) hFS13.2.2.2.2.2.2.2.2.2.2.1
          unfold wp_X6_findPlaces_68
          refine ⟨_, ?_, ?_, ?_, ?_, ?_, rfl⟩
          · (try simp (disch := first | ((try simp (disch := first | ((try simp only [pn]) <;> omega) | fail) only [pn, pq]) <;> omega) | fail) only [pn, pq]) <;> (intros; (try simp (disch := first | ((try simp (disch := first | ((try simp only [pn]) <;> omega) | fail) only [pn, pq]) <;> omega) | fail) only [pn, pq]) <;> omega)
          · exact hJS13
          · exact hFS13
          · (try simp (disch := first | ((try simp (disch := first | ((try simp only [pn]) <;> omega) | fail) only [pn, pq]) <;> omega) | fail) only [pn, pq]) <;> (intros; (try simp (disch := first | ((try simp (disch := first | ((try simp only [pn]) <;> omega) | fail) only [pn, pq]) <;> omega) | fail) only [pn, pq]) <;> omega)
          · (try simp (disch := first | ((try simp (disch := first | ((try simp only [pn]) <;> omega) | fail) only [pn, pq]) <;> omega) | fail) only [pn, pq]) <;> (intros; (try simp (disch := first | ((try simp (disch := first | ((try simp only [pn]) <;> omega) | fail) only [pn, pq]) <;> omega) | fail) only [pn, pq]) <;> omega)
set_option maxRecDepth 20000 in
set_option maxHeartbeats 8000000 in
theorem sf_X6_edgesAmong {S : bT6} (hJ : J6 S) {a1 : Int32} {a2 : Int32} {Q : Int32 → Prop} (hq : ∀ r : Int32, Q r) : wp_X6_edgesAmong S a1 a2 Q := by
  unfold wp_X6_edgesAmong
  have rga1 := pt_rg a1
  have rga2 := pt_rg a2
  have jr1 := atf_rng (N := 233) (J6g_edgeStarts hJ) (a2) (by decide) (by decide)
  refine sf_X8_at (by decide) (fun r1 hr1_0 => ?_)
  have rgr1 := pt_rg r1
  try simp (disch := first | ((try simp (disch := first | ((try simp only [pn]) <;> omega) | fail) only [pn, pq]) <;> omega) | fail) only [pn, pq] at hr1_0
  have jr2 := atf_rng (N := 233) (J6g_edgeStarts hJ) (a1) (by decide) (by decide)
  refine sf_X8_at (by decide) (fun r3 hr3_0 => ?_)
  have rgr3 := pt_rg r3
  try simp (disch := first | ((try simp (disch := first | ((try simp only [pn]) <;> omega) | fail) only [pn, pq]) <;> omega) | fail) only [pn, pq] at hr3_0
  exact hq _ 
set_option maxRecDepth 20000 in
set_option maxHeartbeats 8000000 in
theorem sf_X6_bitsBy {S : bT6} (hJ : J6 S) {a1 : Int32} {Q : Int32 → Prop} (hq : ∀ r : Int32, Q r) : wp_X6_bitsBy S a1 Q := by
  unfold wp_X6_bitsBy
  have jf1 := J6g_nodes hJ
  have rga1 := pt_rg a1
  refine sf_X8_at (by decide) (fun r1 hr1_0 => ?_)
  have rgr1 := pt_rg r1
  try simp (disch := first | ((try simp (disch := first | ((try simp only [pn]) <;> omega) | fail) only [pn, pq]) <;> omega) | fail) only [pn, pq] at hr1_0
  refine sf_X6_edgesAmong hJ (fun r3  => ?_)
  have rgr3 := pt_rg r3
  exact hq _ 
set_option maxRecDepth 20000 in
set_option maxHeartbeats 8000000 in
theorem sf_X6_upperBy {S : bT6} (hJ : J6 S) {a1 : Int32} {Q : Int32 → Prop} (hq : ∀ r : Int32, Q r) : wp_X6_upperBy S a1 Q := by
  unfold wp_X6_upperBy
  have jf1 := J6g_levels hJ
  have rga1 := pt_rg a1
  refine ⟨fun n x1q1 x2q1 x3q1 => (x1q1 = a1) ∧ (0 ≤ (x3q1).toInt) ∧ n = (((b6g_levels S)).toInt + 1 - (x3q1).toInt).toNat, ⟨_, rfl, (by (try simp (disch := first | ((try simp (disch := first | ((try simp only [pn]) <;> omega) | fail) only [pn, pq]) <;> omega) | fail) only [pn, pq]) <;> (intros; (try simp (disch := first | ((try simp (disch := first | ((try simp only [pn]) <;> omega) | fail) only [pn, pq]) <;> omega) | fail) only [pn, pq]) <;> omega)), rfl⟩, ?_⟩
  rintro n2 x1q1 x2q1 x3q1 ⟨hkq1_0, hiq1_0, hn2⟩
  subst hkq1_0
  have rgx1q1 := pt_rg x1q1
  have rgx2q1 := pt_rg x2q1
  have rgx3q1 := pt_rg x3q1
  unfold wp_X6_upperBy_4b
  refine ⟨fun c3 => ?_, fun c3 => ?_⟩
  · try simp (disch := first | ((try simp (disch := first | ((try simp only [pn]) <;> omega) | fail) only [pn, pq]) <;> omega) | fail) only [pn, pq] at c3
    exact hq _ 
  · try simp (disch := first | ((try simp (disch := first | ((try simp only [pn]) <;> omega) | fail) only [pn, pq]) <;> omega) | fail) only [pn, pq] at c3
    refine sf_X8_at (by decide) (fun r4 hr4_0 => ?_)
    have rgr4 := pt_rg r4
    try simp (disch := first | ((try simp (disch := first | ((try simp only [pn]) <;> omega) | fail) only [pn, pq]) <;> omega) | fail) only [pn, pq] at hr4_0
    intro v6 ev6
    have nv6 := congrArg Int32.toInt ev6
    try simp (disch := first | ((try simp (disch := first | ((try simp only [pn]) <;> omega) | fail) only [pn, pq]) <;> omega) | fail) only [pn, pq] at nv6
    refine sf_X6_bitsBy hJ (fun r7  => ?_)
    have rgr7 := pt_rg r7
    refine ⟨fun c9 => ?_, fun c9 => ?_⟩
    · try simp (disch := first | ((try simp (disch := first | ((try simp only [pn]) <;> omega) | fail) only [pn, pq]) <;> omega) | fail) only [pn, pq] at c9
      unfold wp_X6_upperBy_43
      refine ⟨_, ?_, ?_, ?_, rfl⟩
      · (try simp (disch := first | ((try simp (disch := first | ((try simp only [pn]) <;> omega) | fail) only [pn, pq]) <;> omega) | fail) only [pn, pq]) <;> (intros; (try simp (disch := first | ((try simp (disch := first | ((try simp only [pn]) <;> omega) | fail) only [pn, pq]) <;> omega) | fail) only [pn, pq]) <;> omega)
      · first | rfl | assumption
      · (try simp (disch := first | ((try simp (disch := first | ((try simp only [pn]) <;> omega) | fail) only [pn, pq]) <;> omega) | fail) only [pn, pq]) <;> (intros; (try simp (disch := first | ((try simp (disch := first | ((try simp only [pn]) <;> omega) | fail) only [pn, pq]) <;> omega) | fail) only [pn, pq]) <;> omega)
    · try simp (disch := first | ((try simp (disch := first | ((try simp only [pn]) <;> omega) | fail) only [pn, pq]) <;> omega) | fail) only [pn, pq] at c9
      unfold wp_X6_upperBy_43
      refine ⟨_, ?_, ?_, ?_, rfl⟩
      · (try simp (disch := first | ((try simp (disch := first | ((try simp only [pn]) <;> omega) | fail) only [pn, pq]) <;> omega) | fail) only [pn, pq]) <;> (intros; (try simp (disch := first | ((try simp (disch := first | ((try simp only [pn]) <;> omega) | fail) only [pn, pq]) <;> omega) | fail) only [pn, pq]) <;> omega)
      · first | rfl | assumption
      · (try simp (disch := first | ((try simp (disch := first | ((try simp only [pn]) <;> omega) | fail) only [pn, pq]) <;> omega) | fail) only [pn, pq]) <;> (intros; (try simp (disch := first | ((try simp (disch := first | ((try simp only [pn]) <;> omega) | fail) only [pn, pq]) <;> omega) | fail) only [pn, pq]) <;> omega)
def F_X6_make (S u : bT6 × bT1) : Prop := u.2 = S.2
set_option maxRecDepth 20000 in
set_option maxHeartbeats 8000000 in
theorem sf_X6_make {S : bT6 × bT1} (hJ : J6 S.1 ∧ J1 S.2) {a2 : Int32} {a3 : Int32} {Q : (bT6 × bT1) → Prop} (hq : ∀ u : bT6 × bT1, (J6 u.1 ∧ J1 u.2) → F_X6_make S u → Q u) : wp_X6_make S a2 a3 Q := by
  unfold wp_X6_make
  have hFS : F_X6_make S S := rfl
  have jf1 := J6g_levels hJ.1
  have rga2 := pt_rg a2
  have rga3 := pt_rg a3
  refine sf_X6_findNodes (S := S) ⟨hJ.1, hJ.2⟩ (fun u2 hJu2 hfu2  => ?_)
  have hFu2 : F_X6_make S u2 := (congrArg (fun z => z) hfu2.2.2.2.2.2.2.2.2.2.2.2.2.2).trans hFS
  have jf2 := J6g_levels hJu2.1
  have je3 : ((b6g_upper u2.1)).toInt = ((b6g_upper S.1)).toInt := congrArg (fun z => (z).toInt) hfu2.2.2.2.2.2.2.2.2.2.2.1
  have je4 : ((b6g_upperNodes u2.1)).toInt = ((b6g_upperNodes S.1)).toInt := congrArg (fun z => (z).toInt) hfu2.2.2.2.2.2.2.2.2.2.2.2.1
  refine sf_X6_findEdges (S := u2) ⟨hJu2.1, hJu2.2⟩ (fun u4 hJu4 hfu4  => ?_)
  have hFu4 : F_X6_make S u4 := (congrArg (fun z => z) hfu4.2.2.2.2.2.2.2.2.2.2.2.2).trans hFu2
  have je5 : ((b6g_levels u4.1)).toInt = ((b6g_levels u2.1)).toInt := congrArg (fun z => (z).toInt) hfu4.2.2.2.2.2.2.2.2.1
  have jf6 := J6g_levels hJu4.1
  have je7 : ((b6g_upper u4.1)).toInt = ((b6g_upper u2.1)).toInt := congrArg (fun z => (z).toInt) hfu4.2.2.2.2.2.2.2.2.2.1
  have je8 : ((b6g_upperNodes u4.1)).toInt = ((b6g_upperNodes u2.1)).toInt := congrArg (fun z => (z).toInt) hfu4.2.2.2.2.2.2.2.2.2.2.1
  refine sf_X6_findPlaces hJu4.1 (fun u6 hJu6 hfu6  => ?_)
  have je10 : ((b6g_levels u6)).toInt = ((b6g_levels u4.1)).toInt := congrArg (fun z => (z).toInt) hfu6.2.2.2.2.2.2.2.2.2.2.2.2.1
  have je12 : ((b6g_upper u6)).toInt = ((b6g_upper u4.1)).toInt := congrArg (fun z => (z).toInt) hfu6.2.2.2.2.2.2.2.2.2.2.2.2.2.1
  have je14 : ((b6g_upperNodes u6)).toInt = ((b6g_upperNodes u4.1)).toInt := congrArg (fun z => (z).toInt) hfu6.2.2.2.2.2.2.2.2.2.2.2.2.2.2.1
  intro S7 eS7
  have hGS7 : F_X6_make S S7 := by
    rw [eS7]
    exact hFu4
  have hJS7 : J6 S7.1 ∧ J1 S7.2 := by rw [eS7]; exact ⟨hJu6, hJu4.2⟩
  have hFS7 : F_X6_make S S7 := hGS7
  have je15 : ((b6g_levels S7.1)).toInt = ((b6g_levels u6)).toInt := by rw [eS7]
  try simp (disch := first | ((try simp (disch := first | ((try simp only [pn]) <;> omega) | fail) only [pn, pq]) <;> omega) | fail) only [pn, pq] at je15
  have jf16 := J6g_levels hJS7.1
  have je17 : ((b6g_upper S7.1)).toInt = ((b6g_upper u6)).toInt := by rw [eS7]
  try simp (disch := first | ((try simp (disch := first | ((try simp only [pn]) <;> omega) | fail) only [pn, pq]) <;> omega) | fail) only [pn, pq] at je17
  have je18 : ((b6g_upperNodes S7.1)).toInt = ((b6g_upperNodes u6)).toInt := by rw [eS7]
  try simp (disch := first | ((try simp (disch := first | ((try simp only [pn]) <;> omega) | fail) only [pn, pq]) <;> omega) | fail) only [pn, pq] at je18
  refine ⟨fun c8 => ?_, fun c8 => ?_⟩
  · try simp (disch := first | ((try simp (disch := first | ((try simp only [pn]) <;> omega) | fail) only [pn, pq]) <;> omega) | fail) only [pn, pq] at c8
    unfold wp_X6_make_37
    intro S9 eS9
    have hJS9 : J6 S9.1 ∧ J1 S9.2 := by rw [eS9]; exact ⟨(J6s_upper hJS7.1), hJS7.2⟩
    have hFS9 : F_X6_make S S9 := by rw [eS9]; exact hFS7
    have je19 : ((b6g_levels S9.1)).toInt = ((b6g_levels S7.1)).toInt := by rw [eS9]
    have jf20 := J6g_levels hJS9.1
    have je21 : ((b6g_upper S9.1)).toInt = ((if (b6g_levels S7.1) < a2 then (b6g_levels S7.1) else a2)).toInt := by rw [eS9]
    try simp (disch := first | ((try simp (disch := first | ((try simp only [pn]) <;> omega) | fail) only [pn, pq]) <;> omega) | fail) only [pn, pq] at je21
    have je22 : ((b6g_upperNodes S9.1)).toInt = ((b6g_upperNodes S7.1)).toInt := by rw [eS9]
    refine sf_X8_at (by decide) (fun r10 hr10_0 => ?_)
    have rgr10 := pt_rg r10
    try simp (disch := first | ((try simp (disch := first | ((try simp only [pn]) <;> omega) | fail) only [pn, pq]) <;> omega) | fail) only [pn, pq] at hr10_0
    intro S12 eS12
    have hJS12 : J6 S12.1 ∧ J1 S12.2 := by rw [eS12]; exact ⟨(J6s_upperNodes hJS9.1), hJS9.2⟩
    have hFS12 : F_X6_make S S12 := by rw [eS12]; exact hFS9
    have je23 : ((b6g_levels S12.1)).toInt = ((b6g_levels S9.1)).toInt := by rw [eS12]
    have jf24 := J6g_levels hJS12.1
    have je25 : ((b6g_upper S12.1)).toInt = ((b6g_upper S9.1)).toInt := by rw [eS12]
    have je26 : ((b6g_upperNodes S12.1)).toInt = (r10).toInt := by rw [eS12]
    try simp (disch := first | ((try simp (disch := first | ((try simp only [pn]) <;> omega) | fail) only [pn, pq]) <;> omega) | fail) only [pn, pq] at je26
    have jr27 := atf_rng (N := 233) (J6g_edgeStarts hJS12.1) ((b6g_upperNodes S12.1)) (by decide) (by decide)
    refine sf_X8_at (by decide) (fun r13 hr13_0 => ?_)
    have rgr13 := pt_rg r13
    try simp (disch := first | ((try simp (disch := first | ((try simp only [pn]) <;> omega) | fail) only [pn, pq]) <;> omega) | fail) only [pn, pq] at hr13_0
    intro S15 eS15
    have hJS15 : J6 S15.1 ∧ J1 S15.2 := by rw [eS15]; exact ⟨(J6s_itemStart hJS12.1 ⟨(by (try simp (disch := first | ((try simp (disch := first | ((try simp only [pn]) <;> omega) | fail) only [pn, pq]) <;> omega) | fail) only [pn, pq]) <;> (intros; (try simp (disch := first | ((try simp (disch := first | ((try simp only [pn]) <;> omega) | fail) only [pn, pq]) <;> omega) | fail) only [pn, pq]) <;> omega)), (by (try simp (disch := first | ((try simp (disch := first | ((try simp only [pn]) <;> omega) | fail) only [pn, pq]) <;> omega) | fail) only [pn, pq]) <;> (intros; (try simp (disch := first | ((try simp (disch := first | ((try simp only [pn]) <;> omega) | fail) only [pn, pq]) <;> omega) | fail) only [pn, pq]) <;> omega))⟩), hJS12.2⟩
    have hFS15 : F_X6_make S S15 := by rw [eS15]; exact hFS12
    have je28 : ((b6g_levels S15.1)).toInt = ((b6g_levels S12.1)).toInt := by rw [eS15]
    have jf29 := J6g_levels hJS15.1
    have je30 : ((b6g_upper S15.1)).toInt = ((b6g_upper S12.1)).toInt := by rw [eS15]
    have je31 : ((b6g_upperNodes S15.1)).toInt = ((b6g_upperNodes S12.1)).toInt := by rw [eS15]
    exact hq _ hJS15 hFS15 
  · try simp (disch := first | ((try simp (disch := first | ((try simp only [pn]) <;> omega) | fail) only [pn, pq]) <;> omega) | fail) only [pn, pq] at c8
    refine sf_X6_upperBy hJS7.1 (fun r16  => ?_)
    have rgr16 := pt_rg r16
    unfold wp_X6_make_37
    intro S18 eS18
    have hJS18 : J6 S18.1 ∧ J1 S18.2 := by rw [eS18]; exact ⟨(J6s_upper hJS7.1), hJS7.2⟩
    have hFS18 : F_X6_make S S18 := by rw [eS18]; exact hFS7
    have je32 : ((b6g_levels S18.1)).toInt = ((b6g_levels S7.1)).toInt := by rw [eS18]
    have jf33 := J6g_levels hJS18.1
    have je34 : ((b6g_upper S18.1)).toInt = (r16).toInt := by rw [eS18]
    try simp (disch := first | ((try simp (disch := first | ((try simp only [pn]) <;> omega) | fail) only [pn, pq]) <;> omega) | fail) only [pn, pq] at je34
    have je35 : ((b6g_upperNodes S18.1)).toInt = ((b6g_upperNodes S7.1)).toInt := by rw [eS18]
    refine sf_X8_at (by decide) (fun r19 hr19_0 => ?_)
    have rgr19 := pt_rg r19
    try simp (disch := first | ((try simp (disch := first | ((try simp only [pn]) <;> omega) | fail) only [pn, pq]) <;> omega) | fail) only [pn, pq] at hr19_0
    intro S21 eS21
    have hJS21 : J6 S21.1 ∧ J1 S21.2 := by rw [eS21]; exact ⟨(J6s_upperNodes hJS18.1), hJS18.2⟩
    have hFS21 : F_X6_make S S21 := by rw [eS21]; exact hFS18
    have je36 : ((b6g_levels S21.1)).toInt = ((b6g_levels S18.1)).toInt := by rw [eS21]
    have jf37 := J6g_levels hJS21.1
    have je38 : ((b6g_upper S21.1)).toInt = ((b6g_upper S18.1)).toInt := by rw [eS21]
    have je39 : ((b6g_upperNodes S21.1)).toInt = (r19).toInt := by rw [eS21]
    try simp (disch := first | ((try simp (disch := first | ((try simp only [pn]) <;> omega) | fail) only [pn, pq]) <;> omega) | fail) only [pn, pq] at je39
    have jr40 := atf_rng (N := 233) (J6g_edgeStarts hJS21.1) ((b6g_upperNodes S21.1)) (by decide) (by decide)
    refine sf_X8_at (by decide) (fun r22 hr22_0 => ?_)
    have rgr22 := pt_rg r22
    try simp (disch := first | ((try simp (disch := first | ((try simp only [pn]) <;> omega) | fail) only [pn, pq]) <;> omega) | fail) only [pn, pq] at hr22_0
    intro S24 eS24
    have hJS24 : J6 S24.1 ∧ J1 S24.2 := by rw [eS24]; exact ⟨(J6s_itemStart hJS21.1 ⟨(by (try simp (disch := first | ((try simp (disch := first | ((try simp only [pn]) <;> omega) | fail) only [pn, pq]) <;> omega) | fail) only [pn, pq]) <;> (intros; (try simp (disch := first | ((try simp (disch := first | ((try simp only [pn]) <;> omega) | fail) only [pn, pq]) <;> omega) | fail) only [pn, pq]) <;> omega)), (by (try simp (disch := first | ((try simp (disch := first | ((try simp only [pn]) <;> omega) | fail) only [pn, pq]) <;> omega) | fail) only [pn, pq]) <;> (intros; (try simp (disch := first | ((try simp (disch := first | ((try simp only [pn]) <;> omega) | fail) only [pn, pq]) <;> omega) | fail) only [pn, pq]) <;> omega))⟩), hJS21.2⟩
    have hFS24 : F_X6_make S S24 := by rw [eS24]; exact hFS21
    have je41 : ((b6g_levels S24.1)).toInt = ((b6g_levels S21.1)).toInt := by rw [eS24]
    have jf42 := J6g_levels hJS24.1
    have je43 : ((b6g_upper S24.1)).toInt = ((b6g_upper S21.1)).toInt := by rw [eS24]
    have je44 : ((b6g_upperNodes S24.1)).toInt = ((b6g_upperNodes S21.1)).toInt := by rw [eS24]
    exact hq _ hJS24 hFS24 
set_option maxRecDepth 20000 in
set_option maxHeartbeats 8000000 in
theorem sf_X6_items {S : bT6} (hJ : J6 S) {Q : Int32 → Prop} (hq : ∀ r : Int32, Q r) : wp_X6_items S Q := by
  unfold wp_X6_items
  have jf1 := J6g_edges hJ
  have jf2 := J6g_itemStart hJ
  exact hq _ 
set_option maxRecDepth 20000 in
set_option maxHeartbeats 8000000 in
theorem sf_X6_isEnd {S : bT6} (hJ : J6 S) {a1 : Int32} {Q : Int32 → Prop} (hq : ∀ r : Int32, bf_bool r → Q r) : wp_X6_isEnd S a1 Q := by
  unfold wp_X6_isEnd
  have rga1 := pt_rg a1
  refine sf_X8_at (by decide) (fun r1 hr1_0 => ?_)
  have rgr1 := pt_rg r1
  try simp (disch := first | ((try simp (disch := first | ((try simp only [pn]) <;> omega) | fail) only [pn, pq]) <;> omega) | fail) only [pn, pq] at hr1_0
  refine ⟨fun c3 => ?_, fun c3 => ?_⟩
  · try simp (disch := first | ((try simp (disch := first | ((try simp only [pn]) <;> omega) | fail) only [pn, pq]) <;> omega) | fail) only [pn, pq] at c3
    exact ⟨by first | rfl | assumption, hq _ (by first | rfl | assumption) ⟩
  · try simp (disch := first | ((try simp (disch := first | ((try simp only [pn]) <;> omega) | fail) only [pn, pq]) <;> omega) | fail) only [pn, pq] at c3
    exact ⟨by first | rfl | assumption, hq _ (by first | rfl | assumption) ⟩
set_option maxRecDepth 20000 in
set_option maxHeartbeats 8000000 in
theorem sf_X6_hasChild {S : bT6} (hJ : J6 S) {a1 : Int32} {Q : Int32 → Prop} (hq : ∀ r : Int32, bf_bool r → Q r) : wp_X6_hasChild S a1 Q := by
  unfold wp_X6_hasChild
  have rga1 := pt_rg a1
  refine sf_X8_at (by decide) (fun r1 hr1_0 => ?_)
  have rgr1 := pt_rg r1
  try simp (disch := first | ((try simp (disch := first | ((try simp only [pn]) <;> omega) | fail) only [pn, pq]) <;> omega) | fail) only [pn, pq] at hr1_0
  refine ⟨fun c3 => ?_, fun c3 => ?_⟩
  · try simp (disch := first | ((try simp (disch := first | ((try simp only [pn]) <;> omega) | fail) only [pn, pq]) <;> omega) | fail) only [pn, pq] at c3
    exact ⟨by first | rfl | assumption, hq _ (by first | rfl | assumption) ⟩
  · try simp (disch := first | ((try simp (disch := first | ((try simp only [pn]) <;> omega) | fail) only [pn, pq]) <;> omega) | fail) only [pn, pq] at c3
    exact ⟨by first | rfl | assumption, hq _ (by first | rfl | assumption) ⟩
set_option maxRecDepth 20000 in
set_option maxHeartbeats 8000000 in
theorem sf_X6_endsAmong {S : bT6} (hJ : J6 S) {a1 : Int32} {a2 : Int32} {Q : Int32 → Prop} (hq : ∀ r : Int32, Q r) : wp_X6_endsAmong S a1 a2 Q := by
  unfold wp_X6_endsAmong
  have rga1 := pt_rg a1
  have rga2 := pt_rg a2
  have jr1 := atf_rng (N := 233) (J6g_edgeStarts hJ) (a1) (by decide) (by decide)
  refine sf_X8_at (by decide) (fun r1 hr1_0 => ?_)
  have rgr1 := pt_rg r1
  try simp (disch := first | ((try simp (disch := first | ((try simp only [pn]) <;> omega) | fail) only [pn, pq]) <;> omega) | fail) only [pn, pq] at hr1_0
  refine ⟨fun n x2q3 x3q3 x4q3 => (x2q3 = a2) ∧ (-1 ≤ (x4q3).toInt) ∧ ((x4q3).toInt ≤ 296) ∧ n = (300 - (x4q3).toInt).toNat, ⟨_, rfl, (by (try simp (disch := first | ((try simp (disch := first | ((try simp only [pn]) <;> omega) | fail) only [pn, pq]) <;> omega) | fail) only [pn, pq]) <;> (intros; (try simp (disch := first | ((try simp (disch := first | ((try simp only [pn]) <;> omega) | fail) only [pn, pq]) <;> omega) | fail) only [pn, pq]) <;> omega)), (by (try simp (disch := first | ((try simp (disch := first | ((try simp only [pn]) <;> omega) | fail) only [pn, pq]) <;> omega) | fail) only [pn, pq]) <;> (intros; (try simp (disch := first | ((try simp (disch := first | ((try simp only [pn]) <;> omega) | fail) only [pn, pq]) <;> omega) | fail) only [pn, pq]) <;> omega)), rfl⟩, ?_⟩
  rintro n4 x2q3 x3q3 x4q3 ⟨hkq3_0, hiq3_0, hiq3_1, hn4⟩
  subst hkq3_0
  have rgx2q3 := pt_rg x2q3
  have rgx3q3 := pt_rg x3q3
  have rgx4q3 := pt_rg x4q3
  unfold wp_X6_endsAmong_12b
  have jr2 := atf_rng (N := 233) (J6g_edgeStarts hJ) (x2q3) (by decide) (by decide)
  refine sf_X8_at (by decide) (fun r5 hr5_0 => ?_)
  have rgr5 := pt_rg r5
  try simp (disch := first | ((try simp (disch := first | ((try simp only [pn]) <;> omega) | fail) only [pn, pq]) <;> omega) | fail) only [pn, pq] at hr5_0
  refine ⟨fun c7 => ?_, fun c7 => ?_⟩
  · try simp (disch := first | ((try simp (disch := first | ((try simp only [pn]) <;> omega) | fail) only [pn, pq]) <;> omega) | fail) only [pn, pq] at c7
    exact hq _ 
  · try simp (disch := first | ((try simp (disch := first | ((try simp only [pn]) <;> omega) | fail) only [pn, pq]) <;> omega) | fail) only [pn, pq] at c7
    refine sf_X6_isEnd hJ (fun r8 hzr8  => ?_)
    refine ⟨fun c10 => ?_, fun c10 => ?_⟩
    · try simp (disch := first | ((try simp (disch := first | ((try simp only [pn]) <;> omega) | fail) only [pn, pq]) <;> omega) | fail) only [pn, pq] at c10
      unfold wp_X6_endsAmong_40
      refine ⟨_, ?_, ?_, ?_, ?_, rfl⟩
      · (try simp (disch := first | ((try simp (disch := first | ((try simp only [pn]) <;> omega) | fail) only [pn, pq]) <;> omega) | fail) only [pn, pq]) <;> (intros; (try simp (disch := first | ((try simp (disch := first | ((try simp only [pn]) <;> omega) | fail) only [pn, pq]) <;> omega) | fail) only [pn, pq]) <;> omega)
      · first | rfl | assumption
      · (try simp (disch := first | ((try simp (disch := first | ((try simp only [pn]) <;> omega) | fail) only [pn, pq]) <;> omega) | fail) only [pn, pq]) <;> (intros; (try simp (disch := first | ((try simp (disch := first | ((try simp only [pn]) <;> omega) | fail) only [pn, pq]) <;> omega) | fail) only [pn, pq]) <;> omega)
      · (try simp (disch := first | ((try simp (disch := first | ((try simp only [pn]) <;> omega) | fail) only [pn, pq]) <;> omega) | fail) only [pn, pq]) <;> (intros; (try simp (disch := first | ((try simp (disch := first | ((try simp only [pn]) <;> omega) | fail) only [pn, pq]) <;> omega) | fail) only [pn, pq]) <;> omega)
    · try simp (disch := first | ((try simp (disch := first | ((try simp only [pn]) <;> omega) | fail) only [pn, pq]) <;> omega) | fail) only [pn, pq] at c10
      unfold wp_X6_endsAmong_40
      refine ⟨_, ?_, ?_, ?_, ?_, rfl⟩
      · (try simp (disch := first | ((try simp (disch := first | ((try simp only [pn]) <;> omega) | fail) only [pn, pq]) <;> omega) | fail) only [pn, pq]) <;> (intros; (try simp (disch := first | ((try simp (disch := first | ((try simp only [pn]) <;> omega) | fail) only [pn, pq]) <;> omega) | fail) only [pn, pq]) <;> omega)
      · first | rfl | assumption
      · (try simp (disch := first | ((try simp (disch := first | ((try simp only [pn]) <;> omega) | fail) only [pn, pq]) <;> omega) | fail) only [pn, pq]) <;> (intros; (try simp (disch := first | ((try simp (disch := first | ((try simp only [pn]) <;> omega) | fail) only [pn, pq]) <;> omega) | fail) only [pn, pq]) <;> omega)
      · (try simp (disch := first | ((try simp (disch := first | ((try simp only [pn]) <;> omega) | fail) only [pn, pq]) <;> omega) | fail) only [pn, pq]) <;> (intros; (try simp (disch := first | ((try simp (disch := first | ((try simp only [pn]) <;> omega) | fail) only [pn, pq]) <;> omega) | fail) only [pn, pq]) <;> omega)
set_option maxRecDepth 20000 in
set_option maxHeartbeats 8000000 in
theorem sf_X6_branches {S : bT6} (hJ : J6 S) {a1 : Int32} {a2 : Int32} {Q : Int32 → Prop} (hq : ∀ r : Int32, Q r) : wp_X6_branches S a1 a2 Q := by
  unfold wp_X6_branches
  have rga1 := pt_rg a1
  have rga2 := pt_rg a2
  refine sf_X6_edgesAmong hJ (fun r1  => ?_)
  have rgr1 := pt_rg r1
  refine sf_X6_endsAmong hJ (fun r3  => ?_)
  have rgr3 := pt_rg r3
  exact hq _ 
set_option maxRecDepth 20000 in
set_option maxHeartbeats 8000000 in
theorem sf_X6_childrenOf {S : bT6} (hJ : J6 S) {a1 : Int32} {Q : Int32 → Prop} (hq : ∀ r : Int32, Q r) : wp_X6_childrenOf S a1 Q := by
  unfold wp_X6_childrenOf
  have rga1 := pt_rg a1
  have jr1 := atf_rng (N := 233) (J6g_edgeStarts hJ) (a1) (by decide) (by decide)
  refine sf_X8_at (by decide) (fun r1 hr1_0 => ?_)
  have rgr1 := pt_rg r1
  try simp (disch := first | ((try simp (disch := first | ((try simp only [pn]) <;> omega) | fail) only [pn, pq]) <;> omega) | fail) only [pn, pq] at hr1_0
  refine ⟨fun n x1q3 x2q3 x3q3 => (x1q3 = a1) ∧ (-1 ≤ (x3q3).toInt) ∧ ((x3q3).toInt ≤ 296) ∧ n = (300 - (x3q3).toInt).toNat, ⟨_, rfl, (by (try simp (disch := first | ((try simp (disch := first | ((try simp only [pn]) <;> omega) | fail) only [pn, pq]) <;> omega) | fail) only [pn, pq]) <;> (intros; (try simp (disch := first | ((try simp (disch := first | ((try simp only [pn]) <;> omega) | fail) only [pn, pq]) <;> omega) | fail) only [pn, pq]) <;> omega)), (by (try simp (disch := first | ((try simp (disch := first | ((try simp only [pn]) <;> omega) | fail) only [pn, pq]) <;> omega) | fail) only [pn, pq]) <;> (intros; (try simp (disch := first | ((try simp (disch := first | ((try simp only [pn]) <;> omega) | fail) only [pn, pq]) <;> omega) | fail) only [pn, pq]) <;> omega)), rfl⟩, ?_⟩
  rintro n4 x1q3 x2q3 x3q3 ⟨hkq3_0, hiq3_0, hiq3_1, hn4⟩
  subst hkq3_0
  have rgx1q3 := pt_rg x1q3
  have rgx2q3 := pt_rg x2q3
  have rgx3q3 := pt_rg x3q3
  unfold wp_X6_childrenOf_11b
  have jr2 := atf_rng (N := 233) (J6g_edgeStarts hJ) ((x1q3 + (1 : Int32))) (by decide) (by decide)
  refine sf_X8_at (by decide) (fun r5 hr5_0 => ?_)
  have rgr5 := pt_rg r5
  try simp (disch := first | ((try simp (disch := first | ((try simp only [pn]) <;> omega) | fail) only [pn, pq]) <;> omega) | fail) only [pn, pq] at hr5_0
  refine ⟨fun c7 => ?_, fun c7 => ?_⟩
  · try simp (disch := first | ((try simp (disch := first | ((try simp only [pn]) <;> omega) | fail) only [pn, pq]) <;> omega) | fail) only [pn, pq] at c7
    exact hq _ 
  · try simp (disch := first | ((try simp (disch := first | ((try simp only [pn]) <;> omega) | fail) only [pn, pq]) <;> omega) | fail) only [pn, pq] at c7
    refine sf_X6_hasChild hJ (fun r8 hzr8  => ?_)
    refine ⟨fun c10 => ?_, fun c10 => ?_⟩
    · try simp (disch := first | ((try simp (disch := first | ((try simp only [pn]) <;> omega) | fail) only [pn, pq]) <;> omega) | fail) only [pn, pq] at c10
      unfold wp_X6_childrenOf_39
      refine ⟨_, ?_, ?_, ?_, ?_, rfl⟩
      · (try simp (disch := first | ((try simp (disch := first | ((try simp only [pn]) <;> omega) | fail) only [pn, pq]) <;> omega) | fail) only [pn, pq]) <;> (intros; (try simp (disch := first | ((try simp (disch := first | ((try simp only [pn]) <;> omega) | fail) only [pn, pq]) <;> omega) | fail) only [pn, pq]) <;> omega)
      · first | rfl | assumption
      · (try simp (disch := first | ((try simp (disch := first | ((try simp only [pn]) <;> omega) | fail) only [pn, pq]) <;> omega) | fail) only [pn, pq]) <;> (intros; (try simp (disch := first | ((try simp (disch := first | ((try simp only [pn]) <;> omega) | fail) only [pn, pq]) <;> omega) | fail) only [pn, pq]) <;> omega)
      · (try simp (disch := first | ((try simp (disch := first | ((try simp only [pn]) <;> omega) | fail) only [pn, pq]) <;> omega) | fail) only [pn, pq]) <;> (intros; (try simp (disch := first | ((try simp (disch := first | ((try simp only [pn]) <;> omega) | fail) only [pn, pq]) <;> omega) | fail) only [pn, pq]) <;> omega)
    · try simp (disch := first | ((try simp (disch := first | ((try simp only [pn]) <;> omega) | fail) only [pn, pq]) <;> omega) | fail) only [pn, pq] at c10
      unfold wp_X6_childrenOf_39
      refine ⟨_, ?_, ?_, ?_, ?_, rfl⟩
      · (try simp (disch := first | ((try simp (disch := first | ((try simp only [pn]) <;> omega) | fail) only [pn, pq]) <;> omega) | fail) only [pn, pq]) <;> (intros; (try simp (disch := first | ((try simp (disch := first | ((try simp only [pn]) <;> omega) | fail) only [pn, pq]) <;> omega) | fail) only [pn, pq]) <;> omega)
      · first | rfl | assumption
      · (try simp (disch := first | ((try simp (disch := first | ((try simp only [pn]) <;> omega) | fail) only [pn, pq]) <;> omega) | fail) only [pn, pq]) <;> (intros; (try simp (disch := first | ((try simp (disch := first | ((try simp only [pn]) <;> omega) | fail) only [pn, pq]) <;> omega) | fail) only [pn, pq]) <;> omega)
      · (try simp (disch := first | ((try simp (disch := first | ((try simp only [pn]) <;> omega) | fail) only [pn, pq]) <;> omega) | fail) only [pn, pq]) <;> (intros; (try simp (disch := first | ((try simp (disch := first | ((try simp only [pn]) <;> omega) | fail) only [pn, pq]) <;> omega) | fail) only [pn, pq]) <;> omega)
set_option maxRecDepth 20000 in
set_option maxHeartbeats 8000000 in
theorem sf_X6_goneAlong {S : bT6} (hJ : J6 S) {a1 : Int32} {a2 : Int32} {Q : Int32 → Prop} (hq : ∀ r : Int32, Q r) : wp_X6_goneAlong S a1 a2 Q := by
  unfold wp_X6_goneAlong
  have rga1 := pt_rg a1
  have rga2 := pt_rg a2
  have jr1 := atf_rng (N := 233) (J6g_edgeStarts hJ) (a1) (by decide) (by decide)
  refine sf_X8_at (by decide) (fun r1 hr1_0 => ?_)
  have rgr1 := pt_rg r1
  try simp (disch := first | ((try simp (disch := first | ((try simp only [pn]) <;> omega) | fail) only [pn, pq]) <;> omega) | fail) only [pn, pq] at hr1_0
  refine ⟨fun n x1q3 x2q3 x3q3 => (x1q3 = a1) ∧ (x2q3 = a2) ∧ (-1 ≤ (x3q3).toInt) ∧ ((x3q3).toInt ≤ 296) ∧ n = (300 - (x3q3).toInt).toNat, ⟨_, rfl, rfl, (by (try simp (disch := first | ((try simp (disch := first | ((try simp only [pn]) <;> omega) | fail) only [pn, pq]) <;> omega) | fail) only [pn, pq]) <;> (intros; (try simp (disch := first | ((try simp (disch := first | ((try simp only [pn]) <;> omega) | fail) only [pn, pq]) <;> omega) | fail) only [pn, pq]) <;> omega)), (by (try simp (disch := first | ((try simp (disch := first | ((try simp only [pn]) <;> omega) | fail) only [pn, pq]) <;> omega) | fail) only [pn, pq]) <;> (intros; (try simp (disch := first | ((try simp (disch := first | ((try simp only [pn]) <;> omega) | fail) only [pn, pq]) <;> omega) | fail) only [pn, pq]) <;> omega)), rfl⟩, ?_⟩
  rintro n4 x1q3 x2q3 x3q3 ⟨hkq3_0, hkq3_1, hiq3_0, hiq3_1, hn4⟩
  subst hkq3_0
  subst hkq3_1
  have rgx1q3 := pt_rg x1q3
  have rgx2q3 := pt_rg x2q3
  have rgx3q3 := pt_rg x3q3
  unfold wp_X6_goneAlong_9b
  have jr2 := atf_rng (N := 233) (J6g_edgeStarts hJ) ((x1q3 + (1 : Int32))) (by decide) (by decide)
  refine sf_X8_at (by decide) (fun r5 hr5_0 => ?_)
  have rgr5 := pt_rg r5
  try simp (disch := first | ((try simp (disch := first | ((try simp only [pn]) <;> omega) | fail) only [pn, pq]) <;> omega) | fail) only [pn, pq] at hr5_0
  refine ⟨fun c7 => ?_, fun c7 => ?_⟩
  · try simp (disch := first | ((try simp (disch := first | ((try simp only [pn]) <;> omega) | fail) only [pn, pq]) <;> omega) | fail) only [pn, pq] at c7
    exact hq _ 
  · try simp (disch := first | ((try simp (disch := first | ((try simp only [pn]) <;> omega) | fail) only [pn, pq]) <;> omega) | fail) only [pn, pq] at c7
    refine sf_X8_at (by decide) (fun r8 hr8_0 => ?_)
    have rgr8 := pt_rg r8
    try simp (disch := first | ((try simp (disch := first | ((try simp only [pn]) <;> omega) | fail) only [pn, pq]) <;> omega) | fail) only [pn, pq] at hr8_0
    refine ⟨fun c10 => ?_, fun c10 => ?_⟩
    · try simp (disch := first | ((try simp (disch := first | ((try simp only [pn]) <;> omega) | fail) only [pn, pq]) <;> omega) | fail) only [pn, pq] at c10
      refine ⟨_, ?_, ?_, ?_, ?_, ?_, rfl⟩
      · (try simp (disch := first | ((try simp (disch := first | ((try simp only [pn]) <;> omega) | fail) only [pn, pq]) <;> omega) | fail) only [pn, pq]) <;> (intros; (try simp (disch := first | ((try simp (disch := first | ((try simp only [pn]) <;> omega) | fail) only [pn, pq]) <;> omega) | fail) only [pn, pq]) <;> omega)
      · first | rfl | assumption
      · first | rfl | assumption
      · (try simp (disch := first | ((try simp (disch := first | ((try simp only [pn]) <;> omega) | fail) only [pn, pq]) <;> omega) | fail) only [pn, pq]) <;> (intros; (try simp (disch := first | ((try simp (disch := first | ((try simp only [pn]) <;> omega) | fail) only [pn, pq]) <;> omega) | fail) only [pn, pq]) <;> omega)
      · (try simp (disch := first | ((try simp (disch := first | ((try simp only [pn]) <;> omega) | fail) only [pn, pq]) <;> omega) | fail) only [pn, pq]) <;> (intros; (try simp (disch := first | ((try simp (disch := first | ((try simp only [pn]) <;> omega) | fail) only [pn, pq]) <;> omega) | fail) only [pn, pq]) <;> omega)
    · try simp (disch := first | ((try simp (disch := first | ((try simp only [pn]) <;> omega) | fail) only [pn, pq]) <;> omega) | fail) only [pn, pq] at c10
      refine sf_X6_hasChild hJ (fun r11 hzr11  => ?_)
      refine ⟨fun c13 => ?_, fun c13 => ?_⟩
      · try simp (disch := first | ((try simp (disch := first | ((try simp only [pn]) <;> omega) | fail) only [pn, pq]) <;> omega) | fail) only [pn, pq] at c13
        exact hq _ 
      · try simp (disch := first | ((try simp (disch := first | ((try simp only [pn]) <;> omega) | fail) only [pn, pq]) <;> omega) | fail) only [pn, pq] at c13
        refine sf_X8_at (by decide) (fun r14 hr14_0 => ?_)
        have rgr14 := pt_rg r14
        try simp (disch := first | ((try simp (disch := first | ((try simp only [pn]) <;> omega) | fail) only [pn, pq]) <;> omega) | fail) only [pn, pq] at hr14_0
        exact hq _ 
set_option maxRecDepth 20000 in
set_option maxHeartbeats 8000000 in
theorem sf_X6_isOfItems {a0 : Int32} {Q : Int32 → Prop} (hq : ∀ r : Int32, bf_bool r → Q r) : wp_X6_isOfItems a0 Q := by
  unfold wp_X6_isOfItems
  have rga0 := pt_rg a0
  refine ⟨fun c1 => ?_, fun c1 => ?_⟩
  · try simp (disch := first | ((try simp (disch := first | ((try simp only [pn]) <;> omega) | fail) only [pn, pq]) <;> omega) | fail) only [pn, pq] at c1
    unfold wp_X6_isOfItems_15
    exact ⟨by first | rfl | assumption, hq _ (by first | rfl | assumption) ⟩
  · try simp (disch := first | ((try simp (disch := first | ((try simp only [pn]) <;> omega) | fail) only [pn, pq]) <;> omega) | fail) only [pn, pq] at c1
    refine ⟨fun c2 => ?_, fun c2 => ?_⟩
    · try simp (disch := first | ((try simp (disch := first | ((try simp only [pn]) <;> omega) | fail) only [pn, pq]) <;> omega) | fail) only [pn, pq] at c2
      unfold wp_X6_isOfItems_15
      exact ⟨by first | rfl | assumption, hq _ (by first | rfl | assumption) ⟩
    · try simp (disch := first | ((try simp (disch := first | ((try simp only [pn]) <;> omega) | fail) only [pn, pq]) <;> omega) | fail) only [pn, pq] at c2
      refine ⟨fun c3 => ?_, fun c3 => ?_⟩
      · try simp (disch := first | ((try simp (disch := first | ((try simp only [pn]) <;> omega) | fail) only [pn, pq]) <;> omega) | fail) only [pn, pq] at c3
        exact ⟨by first | rfl | assumption, hq _ (by first | rfl | assumption) ⟩
      · try simp (disch := first | ((try simp (disch := first | ((try simp only [pn]) <;> omega) | fail) only [pn, pq]) <;> omega) | fail) only [pn, pq] at c3
        unfold wp_X6_isOfItems_15
        exact ⟨by first | rfl | assumption, hq _ (by first | rfl | assumption) ⟩
set_option maxRecDepth 20000 in
set_option maxHeartbeats 8000000 in
theorem sf_X6_firstEdgeOf {S : bT6} (hJ : J6 S) {a1 : Int32} {Q : Int32 → Prop} (hq : ∀ r : Int32, (-1 ≤ r.toInt) → (r.toInt ≤ 296) → Q r) : wp_X6_firstEdgeOf S a1 Q := by
  unfold wp_X6_firstEdgeOf
  have jf1 := J6g_itemStart hJ
  have rga1 := pt_rg a1
  refine sf_X6_isOfItems  (fun r1 hzr1  => ?_)
  refine ⟨fun c3 => ?_, fun c3 => ?_⟩
  · try simp (disch := first | ((try simp (disch := first | ((try simp only [pn]) <;> omega) | fail) only [pn, pq]) <;> omega) | fail) only [pn, pq] at c3
    exact hq _ (by (try simp (disch := first | ((try simp (disch := first | ((try simp only [pn]) <;> omega) | fail) only [pn, pq]) <;> omega) | fail) only [pn, pq]) <;> (intros; (try simp (disch := first | ((try simp (disch := first | ((try simp only [pn]) <;> omega) | fail) only [pn, pq]) <;> omega) | fail) only [pn, pq]) <;> omega)) (by (try simp (disch := first | ((try simp (disch := first | ((try simp only [pn]) <;> omega) | fail) only [pn, pq]) <;> omega) | fail) only [pn, pq]) <;> (intros; (try simp (disch := first | ((try simp (disch := first | ((try simp only [pn]) <;> omega) | fail) only [pn, pq]) <;> omega) | fail) only [pn, pq]) <;> omega))
  · try simp (disch := first | ((try simp (disch := first | ((try simp only [pn]) <;> omega) | fail) only [pn, pq]) <;> omega) | fail) only [pn, pq] at c3
    exact hq _ (by (try simp (disch := first | ((try simp (disch := first | ((try simp only [pn]) <;> omega) | fail) only [pn, pq]) <;> omega) | fail) only [pn, pq]) <;> (intros; (try simp (disch := first | ((try simp (disch := first | ((try simp only [pn]) <;> omega) | fail) only [pn, pq]) <;> omega) | fail) only [pn, pq]) <;> omega)) (by (try simp (disch := first | ((try simp (disch := first | ((try simp only [pn]) <;> omega) | fail) only [pn, pq]) <;> omega) | fail) only [pn, pq]) <;> (intros; (try simp (disch := first | ((try simp (disch := first | ((try simp only [pn]) <;> omega) | fail) only [pn, pq]) <;> omega) | fail) only [pn, pq]) <;> omega))
set_option maxRecDepth 20000 in
set_option maxHeartbeats 8000000 in
theorem sf_X6_lastEdgeOf {S : bT6} (hJ : J6 S) {a1 : Int32} {Q : Int32 → Prop} (hq : ∀ r : Int32, (-2 ≤ r.toInt) → (r.toInt ≤ 295) → Q r) : wp_X6_lastEdgeOf S a1 Q := by
  unfold wp_X6_lastEdgeOf
  have jf1 := J6g_edges hJ
  have jf2 := J6g_itemStart hJ
  have rga1 := pt_rg a1
  refine sf_X6_isOfItems  (fun r1 hzr1  => ?_)
  refine ⟨fun c3 => ?_, fun c3 => ?_⟩
  · try simp (disch := first | ((try simp (disch := first | ((try simp only [pn]) <;> omega) | fail) only [pn, pq]) <;> omega) | fail) only [pn, pq] at c3
    exact hq _ (by (try simp (disch := first | ((try simp (disch := first | ((try simp only [pn]) <;> omega) | fail) only [pn, pq]) <;> omega) | fail) only [pn, pq]) <;> (intros; (try simp (disch := first | ((try simp (disch := first | ((try simp only [pn]) <;> omega) | fail) only [pn, pq]) <;> omega) | fail) only [pn, pq]) <;> omega)) (by (try simp (disch := first | ((try simp (disch := first | ((try simp only [pn]) <;> omega) | fail) only [pn, pq]) <;> omega) | fail) only [pn, pq]) <;> (intros; (try simp (disch := first | ((try simp (disch := first | ((try simp only [pn]) <;> omega) | fail) only [pn, pq]) <;> omega) | fail) only [pn, pq]) <;> omega))
  · try simp (disch := first | ((try simp (disch := first | ((try simp only [pn]) <;> omega) | fail) only [pn, pq]) <;> omega) | fail) only [pn, pq] at c3
    exact hq _ (by (try simp (disch := first | ((try simp (disch := first | ((try simp only [pn]) <;> omega) | fail) only [pn, pq]) <;> omega) | fail) only [pn, pq]) <;> (intros; (try simp (disch := first | ((try simp (disch := first | ((try simp only [pn]) <;> omega) | fail) only [pn, pq]) <;> omega) | fail) only [pn, pq]) <;> omega)) (by (try simp (disch := first | ((try simp (disch := first | ((try simp only [pn]) <;> omega) | fail) only [pn, pq]) <;> omega) | fail) only [pn, pq]) <;> (intros; (try simp (disch := first | ((try simp (disch := first | ((try simp only [pn]) <;> omega) | fail) only [pn, pq]) <;> omega) | fail) only [pn, pq]) <;> omega))
set_option maxRecDepth 20000 in
set_option maxHeartbeats 8000000 in
theorem sf_X6_rowLength {S : bT6} (hJ : J6 S) {a1 : Int32} {Q : Int32 → Prop} (hq : ∀ r : Int32, Q r) : wp_X6_rowLength S a1 Q := by
  unfold wp_X6_rowLength
  have rga1 := pt_rg a1
  refine ⟨fun c1 => ?_, fun c1 => ?_⟩
  · try simp (disch := first | ((try simp (disch := first | ((try simp only [pn]) <;> omega) | fail) only [pn, pq]) <;> omega) | fail) only [pn, pq] at c1
    unfold wp_X6_rowLength_9
    exact hq _ 
  · try simp (disch := first | ((try simp (disch := first | ((try simp only [pn]) <;> omega) | fail) only [pn, pq]) <;> omega) | fail) only [pn, pq] at c1
    refine ⟨fun c2 => ?_, fun c2 => ?_⟩
    · try simp (disch := first | ((try simp (disch := first | ((try simp only [pn]) <;> omega) | fail) only [pn, pq]) <;> omega) | fail) only [pn, pq] at c2
      refine ⟨fun c3 => ?_, fun c3 => ?_⟩
      · try simp (disch := first | ((try simp (disch := first | ((try simp only [pn]) <;> omega) | fail) only [pn, pq]) <;> omega) | fail) only [pn, pq] at c3
        refine sf_X6_items hJ (fun r4  => ?_)
        have rgr4 := pt_rg r4
        exact hq _ 
      · try simp (disch := first | ((try simp (disch := first | ((try simp only [pn]) <;> omega) | fail) only [pn, pq]) <;> omega) | fail) only [pn, pq] at c3
        exact hq _ 
    · try simp (disch := first | ((try simp (disch := first | ((try simp only [pn]) <;> omega) | fail) only [pn, pq]) <;> omega) | fail) only [pn, pq] at c2
      unfold wp_X6_rowLength_9
      exact hq _ 
set_option maxRecDepth 20000 in
set_option maxHeartbeats 8000000 in
theorem sf_X6_oneOf {S : bT6} (hJ : J6 S) {a1 : Int32} {a2 : Int32} {Q : Int32 → Prop} (hq : ∀ r : Int32, Q r) : wp_X6_oneOf S a1 a2 Q := by
  unfold wp_X6_oneOf
  have jf1 := J6g_itemStart hJ
  have rga1 := pt_rg a1
  have rga2 := pt_rg a2
  refine sf_X8_at (by decide) (fun r1 hr1_0 => ?_)
  have rgr1 := pt_rg r1
  try simp (disch := first | ((try simp (disch := first | ((try simp only [pn]) <;> omega) | fail) only [pn, pq]) <;> omega) | fail) only [pn, pq] at hr1_0
  refine ⟨fun c => ?_, fun c => ?_, fun c => ?_, fun c => ?_, fun c => ?_, fun c => ?_⟩
  · skip
    have jr2 := atf_rng (N := 233) (J6g_edgeStarts hJ) (r1) (by decide) (by decide)
    refine sf_X8_at (by decide) (fun r3 hr3_0 => ?_)
    have rgr3 := pt_rg r3
    try simp (disch := first | ((try simp (disch := first | ((try simp only [pn]) <;> omega) | fail) only [pn, pq]) <;> omega) | fail) only [pn, pq] at hr3_0
    refine ⟨fun c5 => ?_, fun c5 => ?_⟩
    · try simp (disch := first | ((try simp (disch := first | ((try simp only [pn]) <;> omega) | fail) only [pn, pq]) <;> omega) | fail) only [pn, pq] at c5
      exact hq _ 
    · try simp (disch := first | ((try simp (disch := first | ((try simp only [pn]) <;> omega) | fail) only [pn, pq]) <;> omega) | fail) only [pn, pq] at c5
      exact hq _ 
  · skip
    refine sf_X6_isEnd hJ (fun r6 hzr6  => ?_)
    refine ⟨fun c8 => ?_, fun c8 => ?_⟩
    · try simp (disch := first | ((try simp (disch := first | ((try simp only [pn]) <;> omega) | fail) only [pn, pq]) <;> omega) | fail) only [pn, pq] at c8
      refine sf_X8_at (by decide) (fun r9 hr9_0 => ?_)
      have rgr9 := pt_rg r9
      try simp (disch := first | ((try simp (disch := first | ((try simp only [pn]) <;> omega) | fail) only [pn, pq]) <;> omega) | fail) only [pn, pq] at hr9_0
      exact hq _ 
    · try simp (disch := first | ((try simp (disch := first | ((try simp only [pn]) <;> omega) | fail) only [pn, pq]) <;> omega) | fail) only [pn, pq] at c8
      exact hq _ 
  · skip
    refine sf_X6_hasChild hJ (fun r11 hzr11  => ?_)
    refine ⟨fun c13 => ?_, fun c13 => ?_⟩
    · try simp (disch := first | ((try simp (disch := first | ((try simp only [pn]) <;> omega) | fail) only [pn, pq]) <;> omega) | fail) only [pn, pq] at c13
      exact hq _ 
    · try simp (disch := first | ((try simp (disch := first | ((try simp only [pn]) <;> omega) | fail) only [pn, pq]) <;> omega) | fail) only [pn, pq] at c13
      refine sf_X8_at (by decide) (fun r14 hr14_0 => ?_)
      have rgr14 := pt_rg r14
      try simp (disch := first | ((try simp (disch := first | ((try simp only [pn]) <;> omega) | fail) only [pn, pq]) <;> omega) | fail) only [pn, pq] at hr14_0
      exact hq _ 
  · skip
    refine sf_X6_isEnd hJ (fun r16 hzr16  => ?_)
    refine ⟨fun c18 => ?_, fun c18 => ?_⟩
    · try simp (disch := first | ((try simp (disch := first | ((try simp only [pn]) <;> omega) | fail) only [pn, pq]) <;> omega) | fail) only [pn, pq] at c18
      exact hq _ 
    · try simp (disch := first | ((try simp (disch := first | ((try simp only [pn]) <;> omega) | fail) only [pn, pq]) <;> omega) | fail) only [pn, pq] at c18
      exact hq _ 
  · skip
    refine sf_X6_isEnd hJ (fun r19 hzr19  => ?_)
    refine ⟨fun c21 => ?_, fun c21 => ?_⟩
    · try simp (disch := first | ((try simp (disch := first | ((try simp only [pn]) <;> omega) | fail) only [pn, pq]) <;> omega) | fail) only [pn, pq] at c21
      exact hq _ 
    · try simp (disch := first | ((try simp (disch := first | ((try simp only [pn]) <;> omega) | fail) only [pn, pq]) <;> omega) | fail) only [pn, pq] at c21
      exact hq _ 
  · skip
    refine sf_X6_hasChild hJ (fun r22 hzr22  => ?_)
    refine ⟨fun c24 => ?_, fun c24 => ?_⟩
    · try simp (disch := first | ((try simp (disch := first | ((try simp only [pn]) <;> omega) | fail) only [pn, pq]) <;> omega) | fail) only [pn, pq] at c24
      exact hq _ 
    · try simp (disch := first | ((try simp (disch := first | ((try simp only [pn]) <;> omega) | fail) only [pn, pq]) <;> omega) | fail) only [pn, pq] at c24
      exact hq _ 
set_option maxRecDepth 20000 in
set_option maxHeartbeats 8000000 in
theorem sf_X6_onesAhead {S : bT6} (hJ : J6 S) {a1 : Int32} {a2 : Int32} {Q : Int32 → Prop} (hq : ∀ r : Int32, Q r) : wp_X6_onesAhead S a1 a2 Q := by
  unfold wp_X6_onesAhead
  have rga1 := pt_rg a1
  have rga2 := pt_rg a2
  refine sf_X6_lastEdgeOf hJ (fun r1 hr1_0 hr1_1 => ?_)
  have rgr1 := pt_rg r1
  try simp (disch := first | ((try simp (disch := first | ((try simp only [pn]) <;> omega) | fail) only [pn, pq]) <;> omega) | fail) only [pn, pq] at hr1_0
  try simp (disch := first | ((try simp (disch := first | ((try simp only [pn]) <;> omega) | fail) only [pn, pq]) <;> omega) | fail) only [pn, pq] at hr1_1
  refine sf_X6_firstEdgeOf hJ (fun r3 hr3_0 hr3_1 => ?_)
  have rgr3 := pt_rg r3
  try simp (disch := first | ((try simp (disch := first | ((try simp only [pn]) <;> omega) | fail) only [pn, pq]) <;> omega) | fail) only [pn, pq] at hr3_0
  try simp (disch := first | ((try simp (disch := first | ((try simp only [pn]) <;> omega) | fail) only [pn, pq]) <;> omega) | fail) only [pn, pq] at hr3_1
  refine ⟨fun n x1q5 x2q5 x3q5 x4q5 x5q5 => (x1q5 = a1) ∧ (x2q5 = a2) ∧ (x4q5 = r1) ∧ ((x4q5).toInt ≤ 295) ∧ (-1 ≤ (x5q5).toInt) ∧ ((x5q5).toInt ≤ 296) ∧ n = (300 - (x5q5).toInt).toNat, ⟨_, rfl, rfl, rfl, (by (try simp (disch := first | ((try simp (disch := first | ((try simp only [pn]) <;> omega) | fail) only [pn, pq]) <;> omega) | fail) only [pn, pq]) <;> (intros; (try simp (disch := first | ((try simp (disch := first | ((try simp only [pn]) <;> omega) | fail) only [pn, pq]) <;> omega) | fail) only [pn, pq]) <;> omega)), (by (try simp (disch := first | ((try simp (disch := first | ((try simp only [pn]) <;> omega) | fail) only [pn, pq]) <;> omega) | fail) only [pn, pq]) <;> (intros; (try simp (disch := first | ((try simp (disch := first | ((try simp only [pn]) <;> omega) | fail) only [pn, pq]) <;> omega) | fail) only [pn, pq]) <;> omega)), (by (try simp (disch := first | ((try simp (disch := first | ((try simp only [pn]) <;> omega) | fail) only [pn, pq]) <;> omega) | fail) only [pn, pq]) <;> (intros; (try simp (disch := first | ((try simp (disch := first | ((try simp only [pn]) <;> omega) | fail) only [pn, pq]) <;> omega) | fail) only [pn, pq]) <;> omega)), rfl⟩, ?_⟩
  rintro n6 x1q5 x2q5 x3q5 x4q5 x5q5 ⟨hkq5_0, hkq5_1, hkq5_2, hiq5_0, hiq5_1, hiq5_2, hn6⟩
  subst hkq5_0
  subst hkq5_1
  subst hkq5_2
  have rgx1q5 := pt_rg x1q5
  have rgx2q5 := pt_rg x2q5
  have rgx3q5 := pt_rg x3q5
  have rgx4q5 := pt_rg x4q5
  have rgx5q5 := pt_rg x5q5
  unfold wp_X6_onesAhead_16b
  refine ⟨fun c7 => ?_, fun c7 => ?_⟩
  · try simp (disch := first | ((try simp (disch := first | ((try simp only [pn]) <;> omega) | fail) only [pn, pq]) <;> omega) | fail) only [pn, pq] at c7
    exact hq _ 
  · try simp (disch := first | ((try simp (disch := first | ((try simp only [pn]) <;> omega) | fail) only [pn, pq]) <;> omega) | fail) only [pn, pq] at c7
    refine sf_X6_oneOf hJ (fun r8  => ?_)
    have rgr8 := pt_rg r8
    refine ⟨fun c10 => ?_, fun c10 => ?_⟩
    · try simp (disch := first | ((try simp (disch := first | ((try simp only [pn]) <;> omega) | fail) only [pn, pq]) <;> omega) | fail) only [pn, pq] at c10
      unfold wp_X6_onesAhead_49
      unfold wp_X6_onesAhead_50
      refine ⟨_, ?_, ?_, ?_, ?_, ?_, ?_, ?_, rfl⟩
      · (try simp (disch := first | ((try simp (disch := first | ((try simp only [pn]) <;> omega) | fail) only [pn, pq]) <;> omega) | fail) only [pn, pq]) <;> (intros; (try simp (disch := first | ((try simp (disch := first | ((try simp only [pn]) <;> omega) | fail) only [pn, pq]) <;> omega) | fail) only [pn, pq]) <;> omega)
      · first | rfl | assumption
      · first | rfl | assumption
      · first | rfl | assumption
      · (try simp (disch := first | ((try simp (disch := first | ((try simp only [pn]) <;> omega) | fail) only [pn, pq]) <;> omega) | fail) only [pn, pq]) <;> (intros; (try simp (disch := first | ((try simp (disch := first | ((try simp only [pn]) <;> omega) | fail) only [pn, pq]) <;> omega) | fail) only [pn, pq]) <;> omega)
      · (try simp (disch := first | ((try simp (disch := first | ((try simp only [pn]) <;> omega) | fail) only [pn, pq]) <;> omega) | fail) only [pn, pq]) <;> (intros; (try simp (disch := first | ((try simp (disch := first | ((try simp only [pn]) <;> omega) | fail) only [pn, pq]) <;> omega) | fail) only [pn, pq]) <;> omega)
      · (try simp (disch := first | ((try simp (disch := first | ((try simp only [pn]) <;> omega) | fail) only [pn, pq]) <;> omega) | fail) only [pn, pq]) <;> (intros; (try simp (disch := first | ((try simp (disch := first | ((try simp only [pn]) <;> omega) | fail) only [pn, pq]) <;> omega) | fail) only [pn, pq]) <;> omega)
    · try simp (disch := first | ((try simp (disch := first | ((try simp only [pn]) <;> omega) | fail) only [pn, pq]) <;> omega) | fail) only [pn, pq] at c10
      refine ⟨fun c11 => ?_, fun c11 => ?_⟩
      · try simp (disch := first | ((try simp (disch := first | ((try simp only [pn]) <;> omega) | fail) only [pn, pq]) <;> omega) | fail) only [pn, pq] at c11
        unfold wp_X6_onesAhead_49
        unfold wp_X6_onesAhead_50
        refine ⟨_, ?_, ?_, ?_, ?_, ?_, ?_, ?_, rfl⟩
        · (try simp (disch := first | ((try simp (disch := first | ((try simp only [pn]) <;> omega) | fail) only [pn, pq]) <;> omega) | fail) only [pn, pq]) <;> (intros; (try simp (disch := first | ((try simp (disch := first | ((try simp only [pn]) <;> omega) | fail) only [pn, pq]) <;> omega) | fail) only [pn, pq]) <;> omega)
        · first | rfl | assumption
        · first | rfl | assumption
        · first | rfl | assumption
        · (try simp (disch := first | ((try simp (disch := first | ((try simp only [pn]) <;> omega) | fail) only [pn, pq]) <;> omega) | fail) only [pn, pq]) <;> (intros; (try simp (disch := first | ((try simp (disch := first | ((try simp only [pn]) <;> omega) | fail) only [pn, pq]) <;> omega) | fail) only [pn, pq]) <;> omega)
        · (try simp (disch := first | ((try simp (disch := first | ((try simp only [pn]) <;> omega) | fail) only [pn, pq]) <;> omega) | fail) only [pn, pq]) <;> (intros; (try simp (disch := first | ((try simp (disch := first | ((try simp only [pn]) <;> omega) | fail) only [pn, pq]) <;> omega) | fail) only [pn, pq]) <;> omega)
        · (try simp (disch := first | ((try simp (disch := first | ((try simp only [pn]) <;> omega) | fail) only [pn, pq]) <;> omega) | fail) only [pn, pq]) <;> (intros; (try simp (disch := first | ((try simp (disch := first | ((try simp only [pn]) <;> omega) | fail) only [pn, pq]) <;> omega) | fail) only [pn, pq]) <;> omega)
      · try simp (disch := first | ((try simp (disch := first | ((try simp only [pn]) <;> omega) | fail) only [pn, pq]) <;> omega) | fail) only [pn, pq] at c11
        unfold wp_X6_onesAhead_50
        refine ⟨_, ?_, ?_, ?_, ?_, ?_, ?_, ?_, rfl⟩
        · (try simp (disch := first | ((try simp (disch := first | ((try simp only [pn]) <;> omega) | fail) only [pn, pq]) <;> omega) | fail) only [pn, pq]) <;> (intros; (try simp (disch := first | ((try simp (disch := first | ((try simp only [pn]) <;> omega) | fail) only [pn, pq]) <;> omega) | fail) only [pn, pq]) <;> omega)
        · first | rfl | assumption
        · first | rfl | assumption
        · first | rfl | assumption
        · (try simp (disch := first | ((try simp (disch := first | ((try simp only [pn]) <;> omega) | fail) only [pn, pq]) <;> omega) | fail) only [pn, pq]) <;> (intros; (try simp (disch := first | ((try simp (disch := first | ((try simp only [pn]) <;> omega) | fail) only [pn, pq]) <;> omega) | fail) only [pn, pq]) <;> omega)
        · (try simp (disch := first | ((try simp (disch := first | ((try simp only [pn]) <;> omega) | fail) only [pn, pq]) <;> omega) | fail) only [pn, pq]) <;> (intros; (try simp (disch := first | ((try simp (disch := first | ((try simp only [pn]) <;> omega) | fail) only [pn, pq]) <;> omega) | fail) only [pn, pq]) <;> omega)
        · (try simp (disch := first | ((try simp (disch := first | ((try simp only [pn]) <;> omega) | fail) only [pn, pq]) <;> omega) | fail) only [pn, pq]) <;> (intros; (try simp (disch := first | ((try simp (disch := first | ((try simp only [pn]) <;> omega) | fail) only [pn, pq]) <;> omega) | fail) only [pn, pq]) <;> omega)
set_option maxRecDepth 20000 in
set_option maxHeartbeats 8000000 in
theorem sf_X6_placeOfOne {S : bT6} (hJ : J6 S) {a1 : Int32} {a2 : Int32} {Q : Int32 → Prop} (hq : ∀ r : Int32, Q r) : wp_X6_placeOfOne S a1 a2 Q := by
  unfold wp_X6_placeOfOne
  have rga1 := pt_rg a1
  have rga2 := pt_rg a2
  refine sf_X6_lastEdgeOf hJ (fun r1 hr1_0 hr1_1 => ?_)
  have rgr1 := pt_rg r1
  try simp (disch := first | ((try simp (disch := first | ((try simp only [pn]) <;> omega) | fail) only [pn, pq]) <;> omega) | fail) only [pn, pq] at hr1_0
  try simp (disch := first | ((try simp (disch := first | ((try simp only [pn]) <;> omega) | fail) only [pn, pq]) <;> omega) | fail) only [pn, pq] at hr1_1
  refine sf_X6_firstEdgeOf hJ (fun r3 hr3_0 hr3_1 => ?_)
  have rgr3 := pt_rg r3
  try simp (disch := first | ((try simp (disch := first | ((try simp only [pn]) <;> omega) | fail) only [pn, pq]) <;> omega) | fail) only [pn, pq] at hr3_0
  try simp (disch := first | ((try simp (disch := first | ((try simp only [pn]) <;> omega) | fail) only [pn, pq]) <;> omega) | fail) only [pn, pq] at hr3_1
  refine ⟨fun n x1q5 x2q5 x3q5 x4q5 x5q5 => (x1q5 = a1) ∧ (x2q5 = a2) ∧ (x4q5 = r1) ∧ ((x4q5).toInt ≤ 295) ∧ (-1 ≤ (x5q5).toInt) ∧ ((x5q5).toInt ≤ 296) ∧ n = (300 - (x5q5).toInt).toNat, ⟨_, rfl, rfl, rfl, (by (try simp (disch := first | ((try simp (disch := first | ((try simp only [pn]) <;> omega) | fail) only [pn, pq]) <;> omega) | fail) only [pn, pq]) <;> (intros; (try simp (disch := first | ((try simp (disch := first | ((try simp only [pn]) <;> omega) | fail) only [pn, pq]) <;> omega) | fail) only [pn, pq]) <;> omega)), (by (try simp (disch := first | ((try simp (disch := first | ((try simp only [pn]) <;> omega) | fail) only [pn, pq]) <;> omega) | fail) only [pn, pq]) <;> (intros; (try simp (disch := first | ((try simp (disch := first | ((try simp only [pn]) <;> omega) | fail) only [pn, pq]) <;> omega) | fail) only [pn, pq]) <;> omega)), (by (try simp (disch := first | ((try simp (disch := first | ((try simp only [pn]) <;> omega) | fail) only [pn, pq]) <;> omega) | fail) only [pn, pq]) <;> (intros; (try simp (disch := first | ((try simp (disch := first | ((try simp only [pn]) <;> omega) | fail) only [pn, pq]) <;> omega) | fail) only [pn, pq]) <;> omega)), rfl⟩, ?_⟩
  rintro n6 x1q5 x2q5 x3q5 x4q5 x5q5 ⟨hkq5_0, hkq5_1, hkq5_2, hiq5_0, hiq5_1, hiq5_2, hn6⟩
  subst hkq5_0
  subst hkq5_1
  subst hkq5_2
  have rgx1q5 := pt_rg x1q5
  have rgx2q5 := pt_rg x2q5
  have rgx3q5 := pt_rg x3q5
  have rgx4q5 := pt_rg x4q5
  have rgx5q5 := pt_rg x5q5
  unfold wp_X6_placeOfOne_16b
  refine ⟨fun c7 => ?_, fun c7 => ?_⟩
  · try simp (disch := first | ((try simp (disch := first | ((try simp only [pn]) <;> omega) | fail) only [pn, pq]) <;> omega) | fail) only [pn, pq] at c7
    exact hq _ 
  · try simp (disch := first | ((try simp (disch := first | ((try simp only [pn]) <;> omega) | fail) only [pn, pq]) <;> omega) | fail) only [pn, pq] at c7
    refine sf_X6_oneOf hJ (fun r8  => ?_)
    have rgr8 := pt_rg r8
    refine ⟨fun c10 => ?_, fun c10 => ?_⟩
    · try simp (disch := first | ((try simp (disch := first | ((try simp only [pn]) <;> omega) | fail) only [pn, pq]) <;> omega) | fail) only [pn, pq] at c10
      unfold wp_X6_placeOfOne_49
      refine ⟨_, ?_, ?_, ?_, ?_, ?_, ?_, ?_, rfl⟩
      · (try simp (disch := first | ((try simp (disch := first | ((try simp only [pn]) <;> omega) | fail) only [pn, pq]) <;> omega) | fail) only [pn, pq]) <;> (intros; (try simp (disch := first | ((try simp (disch := first | ((try simp only [pn]) <;> omega) | fail) only [pn, pq]) <;> omega) | fail) only [pn, pq]) <;> omega)
      · first | rfl | assumption
      · first | rfl | assumption
      · first | rfl | assumption
      · (try simp (disch := first | ((try simp (disch := first | ((try simp only [pn]) <;> omega) | fail) only [pn, pq]) <;> omega) | fail) only [pn, pq]) <;> (intros; (try simp (disch := first | ((try simp (disch := first | ((try simp only [pn]) <;> omega) | fail) only [pn, pq]) <;> omega) | fail) only [pn, pq]) <;> omega)
      · (try simp (disch := first | ((try simp (disch := first | ((try simp only [pn]) <;> omega) | fail) only [pn, pq]) <;> omega) | fail) only [pn, pq]) <;> (intros; (try simp (disch := first | ((try simp (disch := first | ((try simp only [pn]) <;> omega) | fail) only [pn, pq]) <;> omega) | fail) only [pn, pq]) <;> omega)
      · (try simp (disch := first | ((try simp (disch := first | ((try simp only [pn]) <;> omega) | fail) only [pn, pq]) <;> omega) | fail) only [pn, pq]) <;> (intros; (try simp (disch := first | ((try simp (disch := first | ((try simp only [pn]) <;> omega) | fail) only [pn, pq]) <;> omega) | fail) only [pn, pq]) <;> omega)
    · try simp (disch := first | ((try simp (disch := first | ((try simp only [pn]) <;> omega) | fail) only [pn, pq]) <;> omega) | fail) only [pn, pq] at c10
      refine ⟨fun c11 => ?_, fun c11 => ?_⟩
      · try simp (disch := first | ((try simp (disch := first | ((try simp only [pn]) <;> omega) | fail) only [pn, pq]) <;> omega) | fail) only [pn, pq] at c11
        unfold wp_X6_placeOfOne_49
        refine ⟨_, ?_, ?_, ?_, ?_, ?_, ?_, ?_, rfl⟩
        · (try simp (disch := first | ((try simp (disch := first | ((try simp only [pn]) <;> omega) | fail) only [pn, pq]) <;> omega) | fail) only [pn, pq]) <;> (intros; (try simp (disch := first | ((try simp (disch := first | ((try simp only [pn]) <;> omega) | fail) only [pn, pq]) <;> omega) | fail) only [pn, pq]) <;> omega)
        · first | rfl | assumption
        · first | rfl | assumption
        · first | rfl | assumption
        · (try simp (disch := first | ((try simp (disch := first | ((try simp only [pn]) <;> omega) | fail) only [pn, pq]) <;> omega) | fail) only [pn, pq]) <;> (intros; (try simp (disch := first | ((try simp (disch := first | ((try simp only [pn]) <;> omega) | fail) only [pn, pq]) <;> omega) | fail) only [pn, pq]) <;> omega)
        · (try simp (disch := first | ((try simp (disch := first | ((try simp only [pn]) <;> omega) | fail) only [pn, pq]) <;> omega) | fail) only [pn, pq]) <;> (intros; (try simp (disch := first | ((try simp (disch := first | ((try simp only [pn]) <;> omega) | fail) only [pn, pq]) <;> omega) | fail) only [pn, pq]) <;> omega)
        · (try simp (disch := first | ((try simp (disch := first | ((try simp only [pn]) <;> omega) | fail) only [pn, pq]) <;> omega) | fail) only [pn, pq]) <;> (intros; (try simp (disch := first | ((try simp (disch := first | ((try simp only [pn]) <;> omega) | fail) only [pn, pq]) <;> omega) | fail) only [pn, pq]) <;> omega)
      · try simp (disch := first | ((try simp (disch := first | ((try simp only [pn]) <;> omega) | fail) only [pn, pq]) <;> omega) | fail) only [pn, pq] at c11
        exact hq _ 
set_option maxRecDepth 20000 in
set_option maxHeartbeats 8000000 in
theorem sf_X7_zerosFromHighest {a0 : Int32} {Q : Int32 → Prop} (hq : ∀ r : Int32, Q r) : wp_X7_zerosFromHighest a0 Q := by
  unfold wp_X7_zerosFromHighest
  have rga0 := pt_rg a0
  refine ⟨fun n x0q1 x1q1 => (x0q1 = a0) ∧ (0 ≤ (x1q1).toInt) ∧ n = (8 + 1 - (x1q1).toInt).toNat, ⟨_, rfl, (by (try simp (disch := first | ((try simp (disch := first | ((try simp only [pn]) <;> omega) | fail) only [pn, pq]) <;> omega) | fail) only [pn, pq]) <;> (intros; (try simp (disch := first | ((try simp (disch := first | ((try simp only [pn]) <;> omega) | fail) only [pn, pq]) <;> omega) | fail) only [pn, pq]) <;> omega)), rfl⟩, ?_⟩
  rintro n2 x0q1 x1q1 ⟨hkq1_0, hiq1_0, hn2⟩
  subst hkq1_0
  have rgx0q1 := pt_rg x0q1
  have rgx1q1 := pt_rg x1q1
  unfold wp_X7_zerosFromHighest_2b
  refine ⟨fun c3 => ?_, fun c3 => ?_⟩
  · try simp (disch := first | ((try simp (disch := first | ((try simp only [pn]) <;> omega) | fail) only [pn, pq]) <;> omega) | fail) only [pn, pq] at c3
    exact hq _ 
  · try simp (disch := first | ((try simp (disch := first | ((try simp only [pn]) <;> omega) | fail) only [pn, pq]) <;> omega) | fail) only [pn, pq] at c3
    refine sf_X8_highest  (fun r4  => ?_)
    have rgr4 := pt_rg r4
    refine ⟨fun c6 => ?_, fun c6 => ?_⟩
    · try simp (disch := first | ((try simp (disch := first | ((try simp only [pn]) <;> omega) | fail) only [pn, pq]) <;> omega) | fail) only [pn, pq] at c6
      exact hq _ 
    · try simp (disch := first | ((try simp (disch := first | ((try simp only [pn]) <;> omega) | fail) only [pn, pq]) <;> omega) | fail) only [pn, pq] at c6
      refine ⟨_, ?_, ?_, ?_, rfl⟩
      · (try simp (disch := first | ((try simp (disch := first | ((try simp only [pn]) <;> omega) | fail) only [pn, pq]) <;> omega) | fail) only [pn, pq]) <;> (intros; (try simp (disch := first | ((try simp (disch := first | ((try simp only [pn]) <;> omega) | fail) only [pn, pq]) <;> omega) | fail) only [pn, pq]) <;> omega)
      · first | rfl | assumption
      · (try simp (disch := first | ((try simp (disch := first | ((try simp only [pn]) <;> omega) | fail) only [pn, pq]) <;> omega) | fail) only [pn, pq]) <;> (intros; (try simp (disch := first | ((try simp (disch := first | ((try simp only [pn]) <;> omega) | fail) only [pn, pq]) <;> omega) | fail) only [pn, pq]) <;> omega)
set_option maxRecDepth 20000 in
set_option maxHeartbeats 8000000 in
theorem sf_X7_zerosFromLowest {a0 : Int32} {Q : Int32 → Prop} (hq : ∀ r : Int32, Q r) : wp_X7_zerosFromLowest a0 Q := by
  unfold wp_X7_zerosFromLowest
  have rga0 := pt_rg a0
  refine ⟨fun n x0q1 x1q1 => (x0q1 = a0) ∧ (0 ≤ (x1q1).toInt) ∧ n = (8 + 1 - (x1q1).toInt).toNat, ⟨_, rfl, (by (try simp (disch := first | ((try simp (disch := first | ((try simp only [pn]) <;> omega) | fail) only [pn, pq]) <;> omega) | fail) only [pn, pq]) <;> (intros; (try simp (disch := first | ((try simp (disch := first | ((try simp only [pn]) <;> omega) | fail) only [pn, pq]) <;> omega) | fail) only [pn, pq]) <;> omega)), rfl⟩, ?_⟩
  rintro n2 x0q1 x1q1 ⟨hkq1_0, hiq1_0, hn2⟩
  subst hkq1_0
  have rgx0q1 := pt_rg x0q1
  have rgx1q1 := pt_rg x1q1
  unfold wp_X7_zerosFromLowest_2b
  refine ⟨fun c3 => ?_, fun c3 => ?_⟩
  · try simp (disch := first | ((try simp (disch := first | ((try simp only [pn]) <;> omega) | fail) only [pn, pq]) <;> omega) | fail) only [pn, pq] at c3
    exact hq _ 
  · try simp (disch := first | ((try simp (disch := first | ((try simp only [pn]) <;> omega) | fail) only [pn, pq]) <;> omega) | fail) only [pn, pq] at c3
    refine sf_X8_lowest  (fun r4  => ?_)
    have rgr4 := pt_rg r4
    refine ⟨fun c6 => ?_, fun c6 => ?_⟩
    · try simp (disch := first | ((try simp (disch := first | ((try simp only [pn]) <;> omega) | fail) only [pn, pq]) <;> omega) | fail) only [pn, pq] at c6
      exact hq _ 
    · try simp (disch := first | ((try simp (disch := first | ((try simp only [pn]) <;> omega) | fail) only [pn, pq]) <;> omega) | fail) only [pn, pq] at c6
      refine ⟨_, ?_, ?_, ?_, rfl⟩
      · (try simp (disch := first | ((try simp (disch := first | ((try simp only [pn]) <;> omega) | fail) only [pn, pq]) <;> omega) | fail) only [pn, pq]) <;> (intros; (try simp (disch := first | ((try simp (disch := first | ((try simp only [pn]) <;> omega) | fail) only [pn, pq]) <;> omega) | fail) only [pn, pq]) <;> omega)
      · first | rfl | assumption
      · (try simp (disch := first | ((try simp (disch := first | ((try simp only [pn]) <;> omega) | fail) only [pn, pq]) <;> omega) | fail) only [pn, pq]) <;> (intros; (try simp (disch := first | ((try simp (disch := first | ((try simp only [pn]) <;> omega) | fail) only [pn, pq]) <;> omega) | fail) only [pn, pq]) <;> omega)
def F_X7_compare (S u : bT7 × bT1) : Prop := (b7g_count u.1) = (b7g_count S.1) ∧ (b7g_hashBits u.1) = (b7g_hashBits S.1) ∧ (b7g_realBits u.1) = (b7g_realBits S.1) ∧ (b7g_falsely u.1) = (b7g_falsely S.1) ∧ u.2 = S.2
set_option maxRecDepth 20000 in
set_option maxHeartbeats 8000000 in
theorem sf_X7_compare {S : bT7 × bT1} (hJ : J7 S.1 ∧ J1 S.2) {a2 : Int64} {a4 : Int32} {a5 : Int32} {Q : (bT7 × bT1) → Prop} (hq : ∀ u : bT7 × bT1, (J7 u.1 ∧ J1 u.2) → F_X7_compare S u → Q u) : wp_X7_compare S a2 a4 a5 Q := by
  unfold wp_X7_compare
  have hFS : F_X7_compare S S := ⟨rfl, rfl, rfl, rfl, rfl⟩
  have rga4 := pt_rg a4
  have rga5 := pt_rg a5
  refine sf_X0_numberOf (J1g_owners hJ.2) (fun r1 hr1_0 hr1_1 => ?_)
  have rgr1 := pt_rg r1
  try simp (disch := first | ((try simp (disch := first | ((try simp only [pn]) <;> omega) | fail) only [pn, pq]) <;> omega) | fail) only [pn, pq] at hr1_0
  try simp (disch := first | ((try simp (disch := first | ((try simp only [pn]) <;> omega) | fail) only [pn, pq]) <;> omega) | fail) only [pn, pq] at hr1_1
  refine ⟨fun c3 => ?_, fun c3 => ?_⟩
  · try simp (disch := first | ((try simp (disch := first | ((try simp only [pn]) <;> omega) | fail) only [pn, pq]) <;> omega) | fail) only [pn, pq] at c3
    unfold wp_X7_compare_25
    refine ⟨fun c4 => ?_, fun c4 => ?_⟩
    · try simp (disch := first | ((try simp (disch := first | ((try simp only [pn]) <;> omega) | fail) only [pn, pq]) <;> omega) | fail) only [pn, pq] at c4
      exact hq _ hJ hFS 
    · try simp (disch := first | ((try simp (disch := first | ((try simp only [pn]) <;> omega) | fail) only [pn, pq]) <;> omega) | fail) only [pn, pq] at c4
      refine ⟨fun c5 => ?_, fun c5 => ?_⟩
      · try simp (disch := first | ((try simp (disch := first | ((try simp only [pn]) <;> omega) | fail) only [pn, pq]) <;> omega) | fail) only [pn, pq] at c5
        exact hq _ hJ hFS 
      · try simp (disch := first | ((try simp (disch := first | ((try simp only [pn]) <;> omega) | fail) only [pn, pq]) <;> omega) | fail) only [pn, pq] at c5
        refine ⟨pt_in (by (try simp (disch := first | ((try simp (disch := first | ((try simp only [pn]) <;> omega) | fail) only [pn, pq]) <;> omega) | fail) only [pn, pq]) <;> (intros; (try simp (disch := first | ((try simp (disch := first | ((try simp only [pn]) <;> omega) | fail) only [pn, pq]) <;> omega) | fail) only [pn, pq]) <;> omega)) (by (try simp (disch := first | ((try simp (disch := first | ((try simp only [pn]) <;> omega) | fail) only [pn, pq]) <;> omega) | fail) only [pn, pq]) <;> (intros; (try simp (disch := first | ((try simp (disch := first | ((try simp only [pn]) <;> omega) | fail) only [pn, pq]) <;> omega) | fail) only [pn, pq]) <;> omega)), ?_⟩
        intro S6 eS6
        have hJS6 : J7 S6.1 ∧ J1 S6.2 := by rw [eS6]; exact ⟨(J7s_likeHash hJ.1), hJ.2⟩
        have hFS6 : F_X7_compare S S6 := by rw [eS6]; exact hFS
        have je2 : ((b1g_salt S6.2)).toInt = ((b1g_salt S.2)).toInt := congrArg (fun z => ((b1g_salt z)).toInt) hFS6.2.2.2.2
        refine ⟨pt_in (by (try simp (disch := first | ((try simp (disch := first | ((try simp only [pn]) <;> omega) | fail) only [pn, pq]) <;> omega) | fail) only [pn, pq]) <;> (intros; (try simp (disch := first | ((try simp (disch := first | ((try simp only [pn]) <;> omega) | fail) only [pn, pq]) <;> omega) | fail) only [pn, pq]) <;> omega)) (by (try simp (disch := first | ((try simp (disch := first | ((try simp only [pn]) <;> omega) | fail) only [pn, pq]) <;> omega) | fail) only [pn, pq]) <;> (intros; (try simp (disch := first | ((try simp (disch := first | ((try simp only [pn]) <;> omega) | fail) only [pn, pq]) <;> omega) | fail) only [pn, pq]) <;> omega)), ?_⟩
        intro S7 eS7
        have hJS7 : J7 S7.1 ∧ J1 S7.2 := by rw [eS7]; exact ⟨(J7s_likeNext hJS6.1), hJS6.2⟩
        have hFS7 : F_X7_compare S S7 := by rw [eS7]; exact hFS6
        have je4 : ((b1g_salt S7.2)).toInt = ((b1g_salt S.2)).toInt := congrArg (fun z => ((b1g_salt z)).toInt) hFS7.2.2.2.2
        refine ⟨fun c8 => ?_, fun c8 => ?_⟩
        · skip
          exact hq _ hJS7 hFS7 
        · exact absurd c8 (by decide)
  · try simp (disch := first | ((try simp (disch := first | ((try simp only [pn]) <;> omega) | fail) only [pn, pq]) <;> omega) | fail) only [pn, pq] at c3
    refine sf_X1_beginningOf hJ.2 (fun r9  => ?_)
    have rgr9 := pt_rg r9
    unfold wp_X7_compare_25
    refine ⟨fun c11 => ?_, fun c11 => ?_⟩
    · try simp (disch := first | ((try simp (disch := first | ((try simp only [pn]) <;> omega) | fail) only [pn, pq]) <;> omega) | fail) only [pn, pq] at c11
      exact hq _ hJ hFS 
    · try simp (disch := first | ((try simp (disch := first | ((try simp only [pn]) <;> omega) | fail) only [pn, pq]) <;> omega) | fail) only [pn, pq] at c11
      refine ⟨fun c12 => ?_, fun c12 => ?_⟩
      · try simp (disch := first | ((try simp (disch := first | ((try simp only [pn]) <;> omega) | fail) only [pn, pq]) <;> omega) | fail) only [pn, pq] at c12
        exact hq _ hJ hFS 
      · try simp (disch := first | ((try simp (disch := first | ((try simp only [pn]) <;> omega) | fail) only [pn, pq]) <;> omega) | fail) only [pn, pq] at c12
        refine ⟨pt_in (by (try simp (disch := first | ((try simp (disch := first | ((try simp only [pn]) <;> omega) | fail) only [pn, pq]) <;> omega) | fail) only [pn, pq]) <;> (intros; (try simp (disch := first | ((try simp (disch := first | ((try simp only [pn]) <;> omega) | fail) only [pn, pq]) <;> omega) | fail) only [pn, pq]) <;> omega)) (by (try simp (disch := first | ((try simp (disch := first | ((try simp only [pn]) <;> omega) | fail) only [pn, pq]) <;> omega) | fail) only [pn, pq]) <;> (intros; (try simp (disch := first | ((try simp (disch := first | ((try simp only [pn]) <;> omega) | fail) only [pn, pq]) <;> omega) | fail) only [pn, pq]) <;> omega)), ?_⟩
        intro S13 eS13
        have hJS13 : J7 S13.1 ∧ J1 S13.2 := by rw [eS13]; exact ⟨(J7s_likeHash hJ.1), hJ.2⟩
        have hFS13 : F_X7_compare S S13 := by rw [eS13]; exact hFS
        have je6 : ((b1g_salt S13.2)).toInt = ((b1g_salt S.2)).toInt := congrArg (fun z => ((b1g_salt z)).toInt) hFS13.2.2.2.2
        refine ⟨pt_in (by (try simp (disch := first | ((try simp (disch := first | ((try simp only [pn]) <;> omega) | fail) only [pn, pq]) <;> omega) | fail) only [pn, pq]) <;> (intros; (try simp (disch := first | ((try simp (disch := first | ((try simp only [pn]) <;> omega) | fail) only [pn, pq]) <;> omega) | fail) only [pn, pq]) <;> omega)) (by (try simp (disch := first | ((try simp (disch := first | ((try simp only [pn]) <;> omega) | fail) only [pn, pq]) <;> omega) | fail) only [pn, pq]) <;> (intros; (try simp (disch := first | ((try simp (disch := first | ((try simp only [pn]) <;> omega) | fail) only [pn, pq]) <;> omega) | fail) only [pn, pq]) <;> omega)), ?_⟩
        intro S14 eS14
        have hJS14 : J7 S14.1 ∧ J1 S14.2 := by rw [eS14]; exact ⟨(J7s_likeNext hJS13.1), hJS13.2⟩
        have hFS14 : F_X7_compare S S14 := by rw [eS14]; exact hFS13
        have je8 : ((b1g_salt S14.2)).toInt = ((b1g_salt S.2)).toInt := congrArg (fun z => ((b1g_salt z)).toInt) hFS14.2.2.2.2
        refine ⟨fun c15 => ?_, fun c15 => ?_⟩
        · try simp (disch := first | ((try simp (disch := first | ((try simp only [pn]) <;> omega) | fail) only [pn, pq]) <;> omega) | fail) only [pn, pq] at c15
          exact hq _ hJS14 hFS14 
        · try simp (disch := first | ((try simp (disch := first | ((try simp only [pn]) <;> omega) | fail) only [pn, pq]) <;> omega) | fail) only [pn, pq] at c15
          refine sf_X8_mixed  (fun r16  => ?_)
          have rgr16 := pt_rg r16
          refine sf_X8_at (by decide) (fun r18 hr18_0 => ?_)
          have rgr18 := pt_rg r18
          try simp (disch := first | ((try simp (disch := first | ((try simp only [pn]) <;> omega) | fail) only [pn, pq]) <;> omega) | fail) only [pn, pq] at hr18_0
          refine sf_X1_lengthAt hJS14.2 (fun r20 hr20_0 => ?_)
          have rgr20 := pt_rg r20
          try simp (disch := first | ((try simp (disch := first | ((try simp only [pn]) <;> omega) | fail) only [pn, pq]) <;> omega) | fail) only [pn, pq] at hr20_0
          refine sf_X8_octetAt  (fun r22  => ?_)
          have rgr22 := pt_rg r22
          refine sf_X8_at (by decide) (fun r24 hr24_0 => ?_)
          have rgr24 := pt_rg r24
          try simp (disch := first | ((try simp (disch := first | ((try simp only [pn]) <;> omega) | fail) only [pn, pq]) <;> omega) | fail) only [pn, pq] at hr24_0
          refine sf_X7_zerosFromLowest  (fun r26  => ?_)
          have rgr26 := pt_rg r26
          refine ⟨pt_in (by (try simp (disch := first | ((try simp (disch := first | ((try simp only [pn]) <;> omega) | fail) only [pn, pq]) <;> omega) | fail) only [pn, pq]) <;> (intros; (try simp (disch := first | ((try simp (disch := first | ((try simp only [pn]) <;> omega) | fail) only [pn, pq]) <;> omega) | fail) only [pn, pq]) <;> omega)) (by (try simp (disch := first | ((try simp (disch := first | ((try simp only [pn]) <;> omega) | fail) only [pn, pq]) <;> omega) | fail) only [pn, pq]) <;> (intros; (try simp (disch := first | ((try simp (disch := first | ((try simp only [pn]) <;> omega) | fail) only [pn, pq]) <;> omega) | fail) only [pn, pq]) <;> omega)), ?_⟩
          intro S28 eS28
          have hJS28 : J7 S28.1 ∧ J1 S28.2 := by rw [eS28]; exact ⟨(J7s_likeHash hJS14.1), hJS14.2⟩
          have hFS28 : F_X7_compare S S28 := by rw [eS28]; exact hFS14
          have je10 : ((b1g_salt S28.2)).toInt = ((b1g_salt S.2)).toInt := congrArg (fun z => ((b1g_salt z)).toInt) hFS28.2.2.2.2
          refine sf_X7_zerosFromHighest  (fun r29  => ?_)
          have rgr29 := pt_rg r29
          refine ⟨pt_in (by (try simp (disch := first | ((try simp (disch := first | ((try simp only [pn]) <;> omega) | fail) only [pn, pq]) <;> omega) | fail) only [pn, pq]) <;> (intros; (try simp (disch := first | ((try simp (disch := first | ((try simp only [pn]) <;> omega) | fail) only [pn, pq]) <;> omega) | fail) only [pn, pq]) <;> omega)) (by (try simp (disch := first | ((try simp (disch := first | ((try simp only [pn]) <;> omega) | fail) only [pn, pq]) <;> omega) | fail) only [pn, pq]) <;> (intros; (try simp (disch := first | ((try simp (disch := first | ((try simp only [pn]) <;> omega) | fail) only [pn, pq]) <;> omega) | fail) only [pn, pq]) <;> omega)), ?_⟩
          intro S31 eS31
          have hJS31 : J7 S31.1 ∧ J1 S31.2 := by rw [eS31]; exact ⟨(J7s_likeNext hJS28.1), hJS28.2⟩
          have hFS31 : F_X7_compare S S31 := by rw [eS31]; exact hFS28
          have je12 : ((b1g_salt S31.2)).toInt = ((b1g_salt S.2)).toInt := congrArg (fun z => ((b1g_salt z)).toInt) hFS31.2.2.2.2
          exact hq _ hJS31 hFS31 
set_option maxRecDepth 20000 in
set_option maxHeartbeats 8000000 in
theorem sf_X7_falseBy {S : bT7} (hJ : J7 S) {a1 : Int32} {a2 : Int32} {Q : Int32 → Prop} (hq : ∀ r : Int32, Q r) : wp_X7_falseBy S a1 a2 Q := by
  unfold wp_X7_falseBy
  have jf1 := J7g_count hJ
  have rga1 := pt_rg a1
  have rga2 := pt_rg a2
  refine ⟨fun n x1q1 x2q1 x3q1 x4q1 => (x1q1 = a1) ∧ (x2q1 = a2) ∧ (0 ≤ (x4q1).toInt) ∧ n = (((b7g_count S)).toInt + 1 - (x4q1).toInt).toNat, ⟨_, rfl, rfl, (by (try simp (disch := first | ((try simp (disch := first | ((try simp only [pn]) <;> omega) | fail) only [pn, pq]) <;> omega) | fail) only [pn, pq]) <;> (intros; (try simp (disch := first | ((try simp (disch := first | ((try simp only [pn]) <;> omega) | fail) only [pn, pq]) <;> omega) | fail) only [pn, pq]) <;> omega)), rfl⟩, ?_⟩
  rintro n2 x1q1 x2q1 x3q1 x4q1 ⟨hkq1_0, hkq1_1, hiq1_0, hn2⟩
  subst hkq1_0
  subst hkq1_1
  have rgx1q1 := pt_rg x1q1
  have rgx2q1 := pt_rg x2q1
  have rgx3q1 := pt_rg x3q1
  have rgx4q1 := pt_rg x4q1
  unfold wp_X7_falseBy_5b
  refine ⟨fun c3 => ?_, fun c3 => ?_⟩
  · try simp (disch := first | ((try simp (disch := first | ((try simp only [pn]) <;> omega) | fail) only [pn, pq]) <;> omega) | fail) only [pn, pq] at c3
    exact hq _ 
  · try simp (disch := first | ((try simp (disch := first | ((try simp only [pn]) <;> omega) | fail) only [pn, pq]) <;> omega) | fail) only [pn, pq] at c3
    refine sf_X8_at (by decide) (fun r4 hr4_0 => ?_)
    have rgr4 := pt_rg r4
    try simp (disch := first | ((try simp (disch := first | ((try simp only [pn]) <;> omega) | fail) only [pn, pq]) <;> omega) | fail) only [pn, pq] at hr4_0
    refine ⟨fun c6 => ?_, fun c6 => ?_⟩
    · try simp (disch := first | ((try simp (disch := first | ((try simp only [pn]) <;> omega) | fail) only [pn, pq]) <;> omega) | fail) only [pn, pq] at c6
      unfold wp_X7_falseBy_45
      unfold wp_X7_falseBy_46
      refine ⟨_, ?_, ?_, ?_, ?_, rfl⟩
      · (try simp (disch := first | ((try simp (disch := first | ((try simp only [pn]) <;> omega) | fail) only [pn, pq]) <;> omega) | fail) only [pn, pq]) <;> (intros; (try simp (disch := first | ((try simp (disch := first | ((try simp only [pn]) <;> omega) | fail) only [pn, pq]) <;> omega) | fail) only [pn, pq]) <;> omega)
      · first | rfl | assumption
      · first | rfl | assumption
      · (try simp (disch := first | ((try simp (disch := first | ((try simp only [pn]) <;> omega) | fail) only [pn, pq]) <;> omega) | fail) only [pn, pq]) <;> (intros; (try simp (disch := first | ((try simp (disch := first | ((try simp only [pn]) <;> omega) | fail) only [pn, pq]) <;> omega) | fail) only [pn, pq]) <;> omega)
    · try simp (disch := first | ((try simp (disch := first | ((try simp only [pn]) <;> omega) | fail) only [pn, pq]) <;> omega) | fail) only [pn, pq] at c6
      refine sf_X8_at (by decide) (fun r7 hr7_0 => ?_)
      have rgr7 := pt_rg r7
      try simp (disch := first | ((try simp (disch := first | ((try simp only [pn]) <;> omega) | fail) only [pn, pq]) <;> omega) | fail) only [pn, pq] at hr7_0
      refine ⟨fun c9 => ?_, fun c9 => ?_⟩
      · try simp (disch := first | ((try simp (disch := first | ((try simp only [pn]) <;> omega) | fail) only [pn, pq]) <;> omega) | fail) only [pn, pq] at c9
        unfold wp_X7_falseBy_45
        unfold wp_X7_falseBy_46
        refine ⟨_, ?_, ?_, ?_, ?_, rfl⟩
        · (try simp (disch := first | ((try simp (disch := first | ((try simp only [pn]) <;> omega) | fail) only [pn, pq]) <;> omega) | fail) only [pn, pq]) <;> (intros; (try simp (disch := first | ((try simp (disch := first | ((try simp only [pn]) <;> omega) | fail) only [pn, pq]) <;> omega) | fail) only [pn, pq]) <;> omega)
        · first | rfl | assumption
        · first | rfl | assumption
        · (try simp (disch := first | ((try simp (disch := first | ((try simp only [pn]) <;> omega) | fail) only [pn, pq]) <;> omega) | fail) only [pn, pq]) <;> (intros; (try simp (disch := first | ((try simp (disch := first | ((try simp only [pn]) <;> omega) | fail) only [pn, pq]) <;> omega) | fail) only [pn, pq]) <;> omega)
      · try simp (disch := first | ((try simp (disch := first | ((try simp only [pn]) <;> omega) | fail) only [pn, pq]) <;> omega) | fail) only [pn, pq] at c9
        unfold wp_X7_falseBy_46
        refine ⟨_, ?_, ?_, ?_, ?_, rfl⟩
        · (try simp (disch := first | ((try simp (disch := first | ((try simp only [pn]) <;> omega) | fail) only [pn, pq]) <;> omega) | fail) only [pn, pq]) <;> (intros; (try simp (disch := first | ((try simp (disch := first | ((try simp only [pn]) <;> omega) | fail) only [pn, pq]) <;> omega) | fail) only [pn, pq]) <;> omega)
        · first | rfl | assumption
        · first | rfl | assumption
        · (try simp (disch := first | ((try simp (disch := first | ((try simp only [pn]) <;> omega) | fail) only [pn, pq]) <;> omega) | fail) only [pn, pq]) <;> (intros; (try simp (disch := first | ((try simp (disch := first | ((try simp only [pn]) <;> omega) | fail) only [pn, pq]) <;> omega) | fail) only [pn, pq]) <;> omega)
