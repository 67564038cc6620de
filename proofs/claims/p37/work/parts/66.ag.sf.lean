def F_X9_leaves (S u : bT9) : Prop := (b9g_told u) = (b9g_told S) ∧ (b9g_now u) = (b9g_now S) ∧ (b9g_keys u) = (b9g_keys S) ∧ (b9g_lengths u) = (b9g_lengths S) ∧ (b9g_drawn u) = (b9g_drawn S) ∧ (b9g_drawnLength u) = (b9g_drawnLength S) ∧ (b9g_tape u) = (b9g_tape S) ∧ (b9g_taped u) = (b9g_taped S) ∧ (b9g_names u) = (b9g_names S) ∧ (b9g_chosen u) = (b9g_chosen S) ∧ (b9g_nodeLevel u) = (b9g_nodeLevel S) ∧ (b9g_nodeLeaf u) = (b9g_nodeLeaf S) ∧ (b9g_nodeLeaves u) = (b9g_nodeLeaves S) ∧ (b9g_nodeMany u) = (b9g_nodeMany S) ∧ (b9g_levelMany u) = (b9g_levelMany S) ∧ (b9g_upper u) = (b9g_upper S) ∧ (b9g_upperNodes u) = (b9g_upperNodes S) ∧ (b9g_areNodesLaid u) = (b9g_areNodesLaid S) ∧ (b9g_itemNode u) = (b9g_itemNode S) ∧ (b9g_itemByte u) = (b9g_itemByte S) ∧ (b9g_itemChild u) = (b9g_itemChild S) ∧ (b9g_itemMany u) = (b9g_itemMany S) ∧ (b9g_placeOf u) = (b9g_placeOf S) ∧ (b9g_leafOfPlace u) = (b9g_leafOfPlace S) ∧ (b9g_places u) = (b9g_places S) ∧ (b9g_lowKey u) = (b9g_lowKey S) ∧ (b9g_highKey u) = (b9g_highKey S) ∧ (b9g_lowLength u) = (b9g_lowLength S) ∧ (b9g_highLength u) = (b9g_highLength S) ∧ (b9g_fromKey u) = (b9g_fromKey S) ∧ (b9g_toKey u) = (b9g_toKey S) ∧ (b9g_fromLength u) = (b9g_fromLength S) ∧ (b9g_toLength u) = (b9g_toLength S) ∧ (b9g_ones u) = (b9g_ones S) ∧ (b9g_oneMany u) = (b9g_oneMany S) ∧ (b9g_rowLong u) = (b9g_rowLong S) ∧ (b9g_laidFor u) = (b9g_laidFor S) ∧ (b9g_signs u) = (b9g_signs S) ∧ (b9g_signMany u) = (b9g_signMany S) ∧ (b9g_hasImage u) = (b9g_hasImage S) ∧ (b9g_images u) = (b9g_images S) ∧ (b9g_keyImages u) = (b9g_keyImages S) ∧ (b9g_lengthImages u) = (b9g_lengthImages S)
set_option maxRecDepth 20000 in
set_option maxHeartbeats 1000000 in
theorem sf_X9_leaves {S : bT9} (hJ : J9 S) {Q : Int32 → (bT9) → Prop} (hq : ∀ (r : Int32) (u : bT9), (J9 u) → F_X9_leaves S u → (r.toInt = (b9g_now u 9).toInt) → Q r u) : wp_X9_leaves S Q := by
  unfold wp_X9_leaves
  have hFS : F_X9_leaves S S := ⟨rfl, rfl, rfl, rfl, rfl, rfl, rfl, rfl, rfl, rfl, rfl, rfl, rfl, rfl, rfl, rfl, rfl, rfl, rfl, rfl, rfl, rfl, rfl, rfl, rfl, rfl, rfl, rfl, rfl, rfl, rfl, rfl, rfl, rfl, rfl, rfl, rfl, rfl, rfl, rfl, rfl, rfl, rfl⟩
  have jf1 : (-4 ≤ ((b9g_now S) 1).toInt ∧ ((b9g_now S) 1).toInt ≤ 4) ∧ (-3 ≤ ((b9g_now S) 4).toInt ∧ ((b9g_now S) 4).toInt ≤ 252) ∧ (0 ≤ ((b9g_now S) 8).toInt ∧ ((b9g_now S) 8).toInt ≤ 64) ∧ (0 ≤ ((b9g_now S) 9).toInt ∧ ((b9g_now S) 9).toInt ≤ 64) ∧ (0 ≤ ((b9g_now S) 10).toInt ∧ ((b9g_now S) 10).toInt ≤ 16) ∧ (0 ≤ ((b9g_now S) 12).toInt ∧ ((b9g_now S) 12).toInt ≤ 8) := J9g_now hJ
  have ju1_S := hJ.2
  refine sf_X9_laysBeginnings hJ (fun u2 hJu2 hfu2  => ?_)
  have hFu2 : F_X9_leaves S u2 := ⟨(congrArg (fun z => z) hfu2.1).trans hFS.1, (congrArg (fun z => z) hfu2.2.1).trans hFS.2.1, (congrArg (fun z => z) hfu2.2.2.1).trans hFS.2.2.1, (congrArg (fun z => z) hfu2.2.2.2.1).trans hFS.2.2.2.1, (congrArg (fun z => z) hfu2.2.2.2.2.1).trans hFS.2.2.2.2.1, (congrArg (fun z => z) hfu2.2.2.2.2.2.1).trans hFS.2.2.2.2.2.1, (congrArg (fun z => z) hfu2.2.2.2.2.2.2.1).trans hFS.2.2.2.2.2.2.1, (congrArg (fun z => z) hfu2.2.2.2.2.2.2.2.1).trans hFS.2.2.2.2.2.2.2.1, (congrArg (fun z => z) hfu2.2.2.2.2.2.2.2.2.1).trans hFS.2.2.2.2.2.2.2.2.1, (congrArg (fun z => z) hfu2.2.2.2.2.2.2.2.2.2.1).trans hFS.2.2.2.2.2.2.2.2.2.1, (congrArg (fun z => z) hfu2.2.2.2.2.2.2.2.2.2.2.1).trans hFS.2.2.2.2.2.2.2.2.2.2.1, (congrArg (fun z => z) hfu2.2.2.2.2.2.2.2.2.2.2.2.1).trans hFS.2.2.2.2.2.2.2.2.2.2.2.1, (congrArg (fun z => z) hfu2.2.2.2.2.2.2.2.2.2.2.2.2.1).trans hFS.2.2.2.2.2.2.2.2.2.2.2.2.1, (congrArg (fun z => z) hfu2.2.2.2.2.2.2.2.2.2.2.2.2.2.1).trans hFS.2.2.2.2.2.2.2.2.2.2.2.2.2.1, (congrArg (fun z => z) hfu2.2.2.2.2.2.2.2.2.2.2.2.2.2.2.1).trans hFS.2.2.2.2.2.2.2.2.2.2.2.2.2.2.1, (congrArg (fun z => z) hfu2.2.2.2.2.2.2.2.2.2.2.2.2.2.2.2.1).trans hFS.2.2.2.2.2.2.2.2.2.2.2.2.2.2.2.1, (congrArg (fun z => z) hfu2.2.2.2.2.2.2.2.2.2.2.2.2.2.2.2.2.1).trans hFS.2.2.2.2.2.2.2.2.2.2.2.2.2.2.2.2.1, (congrArg (fun z => z) hfu2.2.2.2.2.2.2.2.2.2.2.2.2.2.2.2.2.2.1).trans hFS.2.2.2.2.2.2.2.2.2.2.2.2.2.2.2.2.2.1, (congrArg (fun z => z) hfu2.2.2.2.2.2.2.2.2.2.2.2.2.2.2.2.2.2.2.1).trans hFS.2.2.2.2.2.2.2.2.2.2.2.2.2.2.2.2.2.2.1, (congrArg (fun z => z) hfu2.2.2.2.2.2.2.2.2.2.2.2.2.2.2.2.2.2.2.2.1).trans hFS.2.2.2.2.2.2.2.2.2.2.2.2.2.2.2.2.2.2.2.1, (congrArg (fun z => z) hfu2.2.2.2.2.2.2.2.2.2.2.2.2.2.2.2.2.2.2.2.2.1).trans hFS.2.2.2.2.2.2.2.2.2.2.2.2.2.2.2.2.2.2.2.2.1, (congrArg (fun z => z) hfu2.2.2.2.2.2.2.2.2.2.2.2.2.2.2.2.2.2.2.2.2.2.1).trans hFS.2.2.2.2.2.2.2.2.2.2.2.2.2.2.2.2.2.2.2.2.2.1, (congrArg (fun z => z) hfu2.2.2.2.2.2.2.2.2.2.2.2.2.2.2.2.2.2.2.2.2.2.2.1).trans hFS.2.2.2.2.2.2.2.2.2.2.2.2.2.2.2.2.2.2.2.2.2.2.1, (congrArg (fun z => z) hfu2.2.2.2.2.2.2.2.2.2.2.2.2.2.2.2.2.2.2.2.2.2.2.2.1).trans hFS.2.2.2.2.2.2.2.2.2.2.2.2.2.2.2.2.2.2.2.2.2.2.2.1, (congrArg (fun z => z) hfu2.2.2.2.2.2.2.2.2.2.2.2.2.2.2.2.2.2.2.2.2.2.2.2.2.1).trans hFS.2.2.2.2.2.2.2.2.2.2.2.2.2.2.2.2.2.2.2.2.2.2.2.2.1, (congrArg (fun z => z) hfu2.2.2.2.2.2.2.2.2.2.2.2.2.2.2.2.2.2.2.2.2.2.2.2.2.2.1).trans hFS.2.2.2.2.2.2.2.2.2.2.2.2.2.2.2.2.2.2.2.2.2.2.2.2.2.1, (congrArg (fun z => z) hfu2.2.2.2.2.2.2.2.2.2.2.2.2.2.2.2.2.2.2.2.2.2.2.2.2.2.2.1).trans hFS.2.2.2.2.2.2.2.2.2.2.2.2.2.2.2.2.2.2.2.2.2.2.2.2.2.2.1, (congrArg (fun z => z) hfu2.2.2.2.2.2.2.2.2.2.2.2.2.2.2.2.2.2.2.2.2.2.2.2.2.2.2.2.1).trans hFS.2.2.2.2.2.2.2.2.2.2.2.2.2.2.2.2.2.2.2.2.2.2.2.2.2.2.2.1, (congrArg (fun z => z) hfu2.2.2.2.2.2.2.2.2.2.2.2.2.2.2.2.2.2.2.2.2.2.2.2.2.2.2.2.2.1).trans hFS.2.2.2.2.2.2.2.2.2.2.2.2.2.2.2.2.2.2.2.2.2.2.2.2.2.2.2.2.1, (congrArg (fun z => z) hfu2.2.2.2.2.2.2.2.2.2.2.2.2.2.2.2.2.2.2.2.2.2.2.2.2.2.2.2.2.2.1).trans hFS.2.2.2.2.2.2.2.2.2.2.2.2.2.2.2.2.2.2.2.2.2.2.2.2.2.2.2.2.2.1, (congrArg (fun z => z) hfu2.2.2.2.2.2.2.2.2.2.2.2.2.2.2.2.2.2.2.2.2.2.2.2.2.2.2.2.2.2.2.1).trans hFS.2.2.2.2.2.2.2.2.2.2.2.2.2.2.2.2.2.2.2.2.2.2.2.2.2.2.2.2.2.2.1, (congrArg (fun z => z) hfu2.2.2.2.2.2.2.2.2.2.2.2.2.2.2.2.2.2.2.2.2.2.2.2.2.2.2.2.2.2.2.2.1).trans hFS.2.2.2.2.2.2.2.2.2.2.2.2.2.2.2.2.2.2.2.2.2.2.2.2.2.2.2.2.2.2.2.1, (congrArg (fun z => z) hfu2.2.2.2.2.2.2.2.2.2.2.2.2.2.2.2.2.2.2.2.2.2.2.2.2.2.2.2.2.2.2.2.2.1).trans hFS.2.2.2.2.2.2.2.2.2.2.2.2.2.2.2.2.2.2.2.2.2.2.2.2.2.2.2.2.2.2.2.2.1, (congrArg (fun z => z) hfu2.2.2.2.2.2.2.2.2.2.2.2.2.2.2.2.2.2.2.2.2.2.2.2.2.2.2.2.2.2.2.2.2.2.1).trans hFS.2.2.2.2.2.2.2.2.2.2.2.2.2.2.2.2.2.2.2.2.2.2.2.2.2.2.2.2.2.2.2.2.2.1, (congrArg (fun z => z) hfu2.2.2.2.2.2.2.2.2.2.2.2.2.2.2.2.2.2.2.2.2.2.2.2.2.2.2.2.2.2.2.2.2.2.2.1).trans hFS.2.2.2.2.2.2.2.2.2.2.2.2.2.2.2.2.2.2.2.2.2.2.2.2.2.2.2.2.2.2.2.2.2.2.1, (congrArg (fun z => z) hfu2.2.2.2.2.2.2.2.2.2.2.2.2.2.2.2.2.2.2.2.2.2.2.2.2.2.2.2.2.2.2.2.2.2.2.2.1).trans hFS.2.2.2.2.2.2.2.2.2.2.2.2.2.2.2.2.2.2.2.2.2.2.2.2.2.2.2.2.2.2.2.2.2.2.2.1, (congrArg (fun z => z) hfu2.2.2.2.2.2.2.2.2.2.2.2.2.2.2.2.2.2.2.2.2.2.2.2.2.2.2.2.2.2.2.2.2.2.2.2.2.1).trans hFS.2.2.2.2.2.2.2.2.2.2.2.2.2.2.2.2.2.2.2.2.2.2.2.2.2.2.2.2.2.2.2.2.2.2.2.2.1, (congrArg (fun z => z) hfu2.2.2.2.2.2.2.2.2.2.2.2.2.2.2.2.2.2.2.2.2.2.2.2.2.2.2.2.2.2.2.2.2.2.2.2.2.2.1).trans hFS.2.2.2.2.2.2.2.2.2.2.2.2.2.2.2.2.2.2.2.2.2.2.2.2.2.2.2.2.2.2.2.2.2.2.2.2.2.1, (congrArg (fun z => z) hfu2.2.2.2.2.2.2.2.2.2.2.2.2.2.2.2.2.2.2.2.2.2.2.2.2.2.2.2.2.2.2.2.2.2.2.2.2.2.2.1).trans hFS.2.2.2.2.2.2.2.2.2.2.2.2.2.2.2.2.2.2.2.2.2.2.2.2.2.2.2.2.2.2.2.2.2.2.2.2.2.2.1, (congrArg (fun z => z) hfu2.2.2.2.2.2.2.2.2.2.2.2.2.2.2.2.2.2.2.2.2.2.2.2.2.2.2.2.2.2.2.2.2.2.2.2.2.2.2.2.1).trans hFS.2.2.2.2.2.2.2.2.2.2.2.2.2.2.2.2.2.2.2.2.2.2.2.2.2.2.2.2.2.2.2.2.2.2.2.2.2.2.2.1, (congrArg (fun z => z) hfu2.2.2.2.2.2.2.2.2.2.2.2.2.2.2.2.2.2.2.2.2.2.2.2.2.2.2.2.2.2.2.2.2.2.2.2.2.2.2.2.2.1).trans hFS.2.2.2.2.2.2.2.2.2.2.2.2.2.2.2.2.2.2.2.2.2.2.2.2.2.2.2.2.2.2.2.2.2.2.2.2.2.2.2.2.1, (congrArg (fun z => z) hfu2.2.2.2.2.2.2.2.2.2.2.2.2.2.2.2.2.2.2.2.2.2.2.2.2.2.2.2.2.2.2.2.2.2.2.2.2.2.2.2.2.2.1).trans hFS.2.2.2.2.2.2.2.2.2.2.2.2.2.2.2.2.2.2.2.2.2.2.2.2.2.2.2.2.2.2.2.2.2.2.2.2.2.2.2.2.2.1, (congrArg (fun z => z) hfu2.2.2.2.2.2.2.2.2.2.2.2.2.2.2.2.2.2.2.2.2.2.2.2.2.2.2.2.2.2.2.2.2.2.2.2.2.2.2.2.2.2.2).trans hFS.2.2.2.2.2.2.2.2.2.2.2.2.2.2.2.2.2.2.2.2.2.2.2.2.2.2.2.2.2.2.2.2.2.2.2.2.2.2.2.2.2.2⟩
  have je3 : ((b9g_now u2) 1).toInt = ((b9g_now S) 1).toInt := congrArg (fun z => (z 1).toInt) hFu2.2.1
  have je5 : ((b9g_now u2) 4).toInt = ((b9g_now S) 4).toInt := congrArg (fun z => (z 4).toInt) hFu2.2.1
  have je7 : ((b9g_now u2) 7).toInt = ((b9g_now S) 7).toInt := congrArg (fun z => (z 7).toInt) hFu2.2.1
  have je9 : ((b9g_now u2) 8).toInt = ((b9g_now S) 8).toInt := congrArg (fun z => (z 8).toInt) hFu2.2.1
  have je11 : ((b9g_now u2) 9).toInt = ((b9g_now S) 9).toInt := congrArg (fun z => (z 9).toInt) hFu2.2.1
  have je13 : ((b9g_now u2) 10).toInt = ((b9g_now S) 10).toInt := congrArg (fun z => (z 10).toInt) hFu2.2.1
  have je15 : ((b9g_now u2) 12).toInt = ((b9g_now S) 12).toInt := congrArg (fun z => (z 12).toInt) hFu2.2.1
  have ju15_u2 := hJu2.2
  refine ⟨pt_in (by (try simp (disch := first | ((try simp (disch := first | ((try simp only [pn]) <;> omega) | fail) only [pn, pq]) <;> omega) | fail) only [pn, pq]) <;> (intros; (try simp (disch := first | ((try simp (disch := first | ((try simp only [pn]) <;> omega) | fail) only [pn, pq]) <;> omega) | fail) only [pn, pq]) <;> omega)) (by (try simp (disch := first | ((try simp (disch := first | ((try simp only [pn]) <;> omega) | fail) only [pn, pq]) <;> omega) | fail) only [pn, pq]) <;> (intros; (try simp (disch := first | ((try simp (disch := first | ((try simp only [pn]) <;> omega) | fail) only [pn, pq]) <;> omega) | fail) only [pn, pq]) <;> omega)), ?_⟩
  exact hq _ _ hJu2 hFu2 (by (try simp (disch := first | ((try simp (disch := first | ((try simp only [pn]) <;> omega) | fail) only [pn, pq]) <;> omega) | fail) only [pn, pq]) <;> (intros; (try simp (disch := first | ((try simp (disch := first | ((try simp only [pn]) <;> omega) | fail) only [pn, pq]) <;> omega) | fail) only [pn, pq]) <;> omega))
set_option maxRecDepth 20000 in
set_option maxHeartbeats 1000000 in
theorem sf_X9_isEnded {S : bT9} (hJ : K9 S) {a1 : Int32} {Q : Int32 → Prop} (hp0 : 0 ≤ a1.toInt) (hp1 : a1.toInt ≤ 63) (hq : ∀ r : Int32, bf_bool r → Q r) : wp_X9_isEnded S a1 Q := by
  unfold wp_X9_isEnded
  have jf1 : (-4 ≤ ((b9g_now S) 1).toInt ∧ ((b9g_now S) 1).toInt ≤ 4) ∧ (-3 ≤ ((b9g_now S) 4).toInt ∧ ((b9g_now S) 4).toInt ≤ 252) ∧ (0 ≤ ((b9g_now S) 8).toInt ∧ ((b9g_now S) 8).toInt ≤ 64) ∧ (0 ≤ ((b9g_now S) 9).toInt ∧ ((b9g_now S) 9).toInt ≤ 64) ∧ (0 ≤ ((b9g_now S) 10).toInt ∧ ((b9g_now S) 10).toInt ≤ 16) ∧ (0 ≤ ((b9g_now S) 12).toInt ∧ ((b9g_now S) 12).toInt ≤ 8) := K9g_now hJ
  have rga1 := pt_rg a1
  refine ⟨pt_in (by (try simp (disch := first | ((try simp (disch := first | ((try simp only [pn]) <;> omega) | fail) only [pn, pq]) <;> omega) | fail) only [pn, pq]) <;> (intros; (try simp (disch := first | ((try simp (disch := first | ((try simp only [pn]) <;> omega) | fail) only [pn, pq]) <;> omega) | fail) only [pn, pq]) <;> omega)) (by (try simp (disch := first | ((try simp (disch := first | ((try simp only [pn]) <;> omega) | fail) only [pn, pq]) <;> omega) | fail) only [pn, pq]) <;> (intros; (try simp (disch := first | ((try simp (disch := first | ((try simp only [pn]) <;> omega) | fail) only [pn, pq]) <;> omega) | fail) only [pn, pq]) <;> omega)), ?_⟩
  have jr2 := K9g_common hJ (a1).toNatClampNeg
  try simp (disch := first | ((try simp (disch := first | ((try simp only [pn]) <;> omega) | fail) only [pn, pq]) <;> omega) | fail) only [pn, pq] at jr2
  refine sf_X9_lengthOf hJ (by (try simp (disch := first | ((try simp (disch := first | ((try simp only [pn]) <;> omega) | fail) only [pn, pq]) <;> omega) | fail) only [pn, pq]) <;> (intros; (try simp (disch := first | ((try simp (disch := first | ((try simp only [pn]) <;> omega) | fail) only [pn, pq]) <;> omega) | fail) only [pn, pq]) <;> omega)) (by (try simp (disch := first | ((try simp (disch := first | ((try simp only [pn]) <;> omega) | fail) only [pn, pq]) <;> omega) | fail) only [pn, pq]) <;> (intros; (try simp (disch := first | ((try simp (disch := first | ((try simp only [pn]) <;> omega) | fail) only [pn, pq]) <;> omega) | fail) only [pn, pq]) <;> omega)) (fun r1 hr1_0 hr1_1 hr1_2 => ?_)
  have rgr1 := pt_rg r1
  try simp (disch := first | ((try simp (disch := first | ((try simp only [pn]) <;> omega) | fail) only [pn, pq]) <;> omega) | fail) only [pn, pq] at hr1_0
  try simp (disch := first | ((try simp (disch := first | ((try simp only [pn]) <;> omega) | fail) only [pn, pq]) <;> omega) | fail) only [pn, pq] at hr1_1
  try simp (disch := first | ((try simp (disch := first | ((try simp only [pn]) <;> omega) | fail) only [pn, pq]) <;> omega) | fail) only [pn, pq] at hr1_2
  refine ⟨fun c3 => ?_, fun c3 => ?_⟩
  · try simp (disch := first | ((try simp (disch := first | ((try simp only [pn]) <;> omega) | fail) only [pn, pq]) <;> omega) | fail) only [pn, pq] at c3
    exact ⟨by first | rfl | assumption, hq _ (by first | rfl | assumption) ⟩
  · try simp (disch := first | ((try simp (disch := first | ((try simp only [pn]) <;> omega) | fail) only [pn, pq]) <;> omega) | fail) only [pn, pq] at c3
    exact ⟨by first | rfl | assumption, hq _ (by first | rfl | assumption) ⟩
def F_X9_build (S u : bT9) : Prop := (b9g_drawn u) = (b9g_drawn S) ∧ (b9g_drawnLength u) = (b9g_drawnLength S) ∧ (b9g_tape u) = (b9g_tape S) ∧ (b9g_taped u) = (b9g_taped S) ∧ (b9g_names u) = (b9g_names S) ∧ (b9g_chosen u) = (b9g_chosen S) ∧ (b9g_common u) = (b9g_common S) ∧ (b9g_beginning u) = (b9g_beginning S) ∧ (b9g_nodeLevel u) = (b9g_nodeLevel S) ∧ (b9g_nodeLeaf u) = (b9g_nodeLeaf S) ∧ (b9g_nodeLeaves u) = (b9g_nodeLeaves S) ∧ (b9g_nodeMany u) = (b9g_nodeMany S) ∧ (b9g_levelMany u) = (b9g_levelMany S) ∧ (b9g_upper u) = (b9g_upper S) ∧ (b9g_upperNodes u) = (b9g_upperNodes S) ∧ (b9g_itemNode u) = (b9g_itemNode S) ∧ (b9g_itemByte u) = (b9g_itemByte S) ∧ (b9g_itemChild u) = (b9g_itemChild S) ∧ (b9g_itemMany u) = (b9g_itemMany S) ∧ (b9g_placeOf u) = (b9g_placeOf S) ∧ (b9g_leafOfPlace u) = (b9g_leafOfPlace S) ∧ (b9g_places u) = (b9g_places S) ∧ (b9g_lowKey u) = (b9g_lowKey S) ∧ (b9g_highKey u) = (b9g_highKey S) ∧ (b9g_lowLength u) = (b9g_lowLength S) ∧ (b9g_highLength u) = (b9g_highLength S) ∧ (b9g_fromKey u) = (b9g_fromKey S) ∧ (b9g_toKey u) = (b9g_toKey S) ∧ (b9g_fromLength u) = (b9g_fromLength S) ∧ (b9g_toLength u) = (b9g_toLength S) ∧ (b9g_ones u) = (b9g_ones S) ∧ (b9g_oneMany u) = (b9g_oneMany S) ∧ (b9g_rowLong u) = (b9g_rowLong S) ∧ (b9g_laidFor u) = (b9g_laidFor S) ∧ (b9g_signs u) = (b9g_signs S) ∧ (b9g_signMany u) = (b9g_signMany S) ∧ (b9g_hasImage u) = (b9g_hasImage S) ∧ (b9g_images u) = (b9g_images S) ∧ (b9g_keyImages u) = (b9g_keyImages S) ∧ (b9g_lengthImages u) = (b9g_lengthImages S)
set_option maxRecDepth 20000 in
set_option maxHeartbeats 1000000 in
theorem sf_X9_build {S : bT9} (hJ : J9 S) {Q : Int32 → (bT9) → Prop} (hq : ∀ (r : Int32) (u : bT9), (J9 u) → F_X9_build S u → (b9g_now u 10 = b9g_now S 10) → (b9g_now u 7 = b9g_now S 7) → Q r u) : wp_X9_build S Q := by
  unfold wp_X9_build
  have hFS : F_X9_build S S := ⟨rfl, rfl, rfl, rfl, rfl, rfl, rfl, rfl, rfl, rfl, rfl, rfl, rfl, rfl, rfl, rfl, rfl, rfl, rfl, rfl, rfl, rfl, rfl, rfl, rfl, rfl, rfl, rfl, rfl, rfl, rfl, rfl, rfl, rfl, rfl, rfl, rfl, rfl, rfl, rfl⟩
  have jf1 : (-4 ≤ ((b9g_now S) 1).toInt ∧ ((b9g_now S) 1).toInt ≤ 4) ∧ (-3 ≤ ((b9g_now S) 4).toInt ∧ ((b9g_now S) 4).toInt ≤ 252) ∧ (0 ≤ ((b9g_now S) 8).toInt ∧ ((b9g_now S) 8).toInt ≤ 64) ∧ (0 ≤ ((b9g_now S) 9).toInt ∧ ((b9g_now S) 9).toInt ≤ 64) ∧ (0 ≤ ((b9g_now S) 10).toInt ∧ ((b9g_now S) 10).toInt ≤ 16) ∧ (0 ≤ ((b9g_now S) 12).toInt ∧ ((b9g_now S) 12).toInt ≤ 8) := J9g_now hJ
  have ju1_S := hJ.2
  intro S1 eS1
  have hJS1 : J9 S1 := by rw [eS1]; exact (J9s_told hJ)
  have hFS1 : F_X9_build S S1 := by rw [eS1]; exact hFS
  have je2 : ((b9g_now S1) 1).toInt = ((b9g_now S) 1).toInt := by rw [eS1]
  have je3 : ((b9g_now S1) 4).toInt = ((b9g_now S) 4).toInt := by rw [eS1]
  have je4 : ((b9g_now S1) 7).toInt = ((b9g_now S) 7).toInt := by rw [eS1]
  have je5 : ((b9g_now S1) 8).toInt = ((b9g_now S) 8).toInt := by rw [eS1]
  have je6 : ((b9g_now S1) 9).toInt = ((b9g_now S) 9).toInt := by rw [eS1]
  have je7 : ((b9g_now S1) 10).toInt = ((b9g_now S) 10).toInt := by rw [eS1]
  have je8 : ((b9g_now S1) 12).toInt = ((b9g_now S) 12).toInt := by rw [eS1]
  have jf9 : (-4 ≤ ((b9g_now S1) 1).toInt ∧ ((b9g_now S1) 1).toInt ≤ 4) ∧ (-3 ≤ ((b9g_now S1) 4).toInt ∧ ((b9g_now S1) 4).toInt ≤ 252) ∧ (0 ≤ ((b9g_now S1) 8).toInt ∧ ((b9g_now S1) 8).toInt ≤ 64) ∧ (0 ≤ ((b9g_now S1) 9).toInt ∧ ((b9g_now S1) 9).toInt ≤ 64) ∧ (0 ≤ ((b9g_now S1) 10).toInt ∧ ((b9g_now S1) 10).toInt ≤ 16) ∧ (0 ≤ ((b9g_now S1) 12).toInt ∧ ((b9g_now S1) 12).toInt ≤ 8) := J9g_now hJS1
  have ju9_S1 := hJS1.2
  refine ⟨fun n x1q2 Sq2 => (J9 Sq2) ∧ (F_X9_build S Sq2) ∧ (0 ≤ (x1q2).toInt) ∧ (b9g_now Sq2 10 = b9g_now S 10) ∧ (b9g_now Sq2 7 = b9g_now S 7) ∧ n = ((((b9g_now Sq2) 8)).toInt + 1 - (x1q2).toInt).toNat, ⟨_, hJS1, hFS1, (by (try simp (disch := first | ((try simp (disch := first | ((try simp only [pn]) <;> omega) | fail) only [pn, pq]) <;> omega) | fail) only [pn, pq]) <;> (intros; (try simp (disch := first | ((try simp (disch := first | ((try simp only [pn]) <;> omega) | fail) only [pn, pq]) <;> omega) | fail) only [pn, pq]) <;> omega)), (by ((try simp (disch := first | ((try simp (disch := first | ((try simp only [pn]) <;> omega) | fail) only [pn, pq]) <;> omega) | fail) only [pn, pq]) <;> (intros; (try simp (disch := first | ((try simp (disch := first | ((try simp only [pn]) <;> omega) | fail) only [pn, pq]) <;> omega) | fail) only [pn, pq]) <;> omega))), (by ((try simp (disch := first | ((try simp (disch := first | ((try simp only [pn]) <;> omega) | fail) only [pn, pq]) <;> omega) | fail) only [pn, pq]) <;> (intros; (try simp (disch := first | ((try simp (disch := first | ((try simp only [pn]) <;> omega) | fail) only [pn, pq]) <;> omega) | fail) only [pn, pq]) <;> omega))), rfl⟩, ?_⟩
  rintro n3 x1q2 Sq2 ⟨hJSq2, hFSq2, hiq2_0, hiq2_1, hiq2_2, hn3⟩
  have rgx1q2 := pt_rg x1q2
  have hTq2_1 := congrArg Int32.toInt hiq2_1
  try simp (disch := first | ((try simp (disch := first | ((try simp only [pn]) <;> omega) | fail) only [pn, pq]) <;> omega) | fail) only [pn, pq] at hTq2_1
  have hTq2_2 := congrArg Int32.toInt hiq2_2
  try simp (disch := first | ((try simp (disch := first | ((try simp only [pn]) <;> omega) | fail) only [pn, pq]) <;> omega) | fail) only [pn, pq] at hTq2_2
  unfold wp_X9_build_7b
  have jf10 : (-4 ≤ ((b9g_now Sq2) 1).toInt ∧ ((b9g_now Sq2) 1).toInt ≤ 4) ∧ (-3 ≤ ((b9g_now Sq2) 4).toInt ∧ ((b9g_now Sq2) 4).toInt ≤ 252) ∧ (0 ≤ ((b9g_now Sq2) 8).toInt ∧ ((b9g_now Sq2) 8).toInt ≤ 64) ∧ (0 ≤ ((b9g_now Sq2) 9).toInt ∧ ((b9g_now Sq2) 9).toInt ≤ 64) ∧ (0 ≤ ((b9g_now Sq2) 10).toInt ∧ ((b9g_now Sq2) 10).toInt ≤ 16) ∧ (0 ≤ ((b9g_now Sq2) 12).toInt ∧ ((b9g_now Sq2) 12).toInt ≤ 8) := J9g_now hJSq2
  have ju10_Sq2 := hJSq2.2
  refine ⟨pt_in (by (try simp (disch := first | ((try simp (disch := first | ((try simp only [pn]) <;> omega) | fail) only [pn, pq]) <;> omega) | fail) only [pn, pq]) <;> (intros; (try simp (disch := first | ((try simp (disch := first | ((try simp only [pn]) <;> omega) | fail) only [pn, pq]) <;> omega) | fail) only [pn, pq]) <;> omega)) (by (try simp (disch := first | ((try simp (disch := first | ((try simp only [pn]) <;> omega) | fail) only [pn, pq]) <;> omega) | fail) only [pn, pq]) <;> (intros; (try simp (disch := first | ((try simp (disch := first | ((try simp only [pn]) <;> omega) | fail) only [pn, pq]) <;> omega) | fail) only [pn, pq]) <;> omega)), ?_⟩
  refine ⟨fun c4 => ?_, fun c4 => ?_⟩
  · try simp (disch := first | ((try simp (disch := first | ((try simp only [pn]) <;> omega) | fail) only [pn, pq]) <;> omega) | fail) only [pn, pq] at c4
    refine ⟨pt_in (by (try simp (disch := first | ((try simp (disch := first | ((try simp only [pn]) <;> omega) | fail) only [pn, pq]) <;> omega) | fail) only [pn, pq]) <;> (intros; (try simp (disch := first | ((try simp (disch := first | ((try simp only [pn]) <;> omega) | fail) only [pn, pq]) <;> omega) | fail) only [pn, pq]) <;> omega)) (by (try simp (disch := first | ((try simp (disch := first | ((try simp only [pn]) <;> omega) | fail) only [pn, pq]) <;> omega) | fail) only [pn, pq]) <;> (intros; (try simp (disch := first | ((try simp (disch := first | ((try simp only [pn]) <;> omega) | fail) only [pn, pq]) <;> omega) | fail) only [pn, pq]) <;> omega)), ?_⟩
    refine ⟨pt_in (by (try simp (disch := first | ((try simp (disch := first | ((try simp only [pn]) <;> omega) | fail) only [pn, pq]) <;> omega) | fail) only [pn, pq]) <;> (intros; (try simp (disch := first | ((try simp (disch := first | ((try simp only [pn]) <;> omega) | fail) only [pn, pq]) <;> omega) | fail) only [pn, pq]) <;> omega)) (by (try simp (disch := first | ((try simp (disch := first | ((try simp only [pn]) <;> omega) | fail) only [pn, pq]) <;> omega) | fail) only [pn, pq]) <;> (intros; (try simp (disch := first | ((try simp (disch := first | ((try simp only [pn]) <;> omega) | fail) only [pn, pq]) <;> omega) | fail) only [pn, pq]) <;> omega)), ?_⟩
    intro S5 eS5
    have hJS5 : J9 S5 := by rw [eS5]; exact (J9s_now hJSq2 (NW_set (J9g_now hJSq2) (by (try simp (disch := first | ((try simp (disch := first | ((try simp only [pn]) <;> omega) | fail) only [pn, pq]) <;> omega) | fail) only [pn, pq]) <;> (intros; (try simp (disch := first | ((try simp (disch := first | ((try simp only [pn]) <;> omega) | fail) only [pn, pq]) <;> omega) | fail) only [pn, pq]) <;> omega)) (by (try simp (disch := first | ((try simp (disch := first | ((try simp only [pn]) <;> omega) | fail) only [pn, pq]) <;> omega) | fail) only [pn, pq]) <;> (intros; (try simp (disch := first | ((try simp (disch := first | ((try simp only [pn]) <;> omega) | fail) only [pn, pq]) <;> omega) | fail) only [pn, pq]) <;> omega)) (by (try simp (disch := first | ((try simp (disch := first | ((try simp only [pn]) <;> omega) | fail) only [pn, pq]) <;> omega) | fail) only [pn, pq]) <;> (intros; (try simp (disch := first | ((try simp (disch := first | ((try simp only [pn]) <;> omega) | fail) only [pn, pq]) <;> omega) | fail) only [pn, pq]) <;> omega)) (by (try simp (disch := first | ((try simp (disch := first | ((try simp only [pn]) <;> omega) | fail) only [pn, pq]) <;> omega) | fail) only [pn, pq]) <;> (intros; (try simp (disch := first | ((try simp (disch := first | ((try simp only [pn]) <;> omega) | fail) only [pn, pq]) <;> omega) | fail) only [pn, pq]) <;> omega)) (by (try simp (disch := first | ((try simp (disch := first | ((try simp only [pn]) <;> omega) | fail) only [pn, pq]) <;> omega) | fail) only [pn, pq]) <;> (intros; (try simp (disch := first | ((try simp (disch := first | ((try simp only [pn]) <;> omega) | fail) only [pn, pq]) <;> omega) | fail) only [pn, pq]) <;> omega)) (by (try simp (disch := first | ((try simp (disch := first | ((try simp only [pn]) <;> omega) | fail) only [pn, pq]) <;> omega) | fail) only [pn, pq]) <;> (intros; (try simp (disch := first | ((try simp (disch := first | ((try simp only [pn]) <;> omega) | fail) only [pn, pq]) <;> omega) | fail) only [pn, pq]) <;> omega))))
    have hFS5 : F_X9_build S S5 := by rw [eS5]; exact hFSq2
    have je13 : ((b9g_now S5) 1).toInt = ((b9g_now Sq2) 1).toInt := by rw [eS5]; exact pt_updn (by decide)
    try simp (disch := first | ((try simp (disch := first | ((try simp only [pn]) <;> omega) | fail) only [pn, pq]) <;> omega) | fail) only [pn, pq] at je13
    have je14 : ((b9g_now S5) 4).toInt = ((b9g_now Sq2) 4).toInt := by rw [eS5]; exact pt_updn (by decide)
    try simp (disch := first | ((try simp (disch := first | ((try simp only [pn]) <;> omega) | fail) only [pn, pq]) <;> omega) | fail) only [pn, pq] at je14
    have je15 : ((b9g_now S5) 7).toInt = ((b9g_now Sq2) 7).toInt := by rw [eS5]; exact pt_updn (by decide)
    try simp (disch := first | ((try simp (disch := first | ((try simp only [pn]) <;> omega) | fail) only [pn, pq]) <;> omega) | fail) only [pn, pq] at je15
    have je16 : ((b9g_now S5) 8).toInt = ((b9g_now Sq2) 8).toInt := by rw [eS5]; exact pt_updn (by decide)
    try simp (disch := first | ((try simp (disch := first | ((try simp only [pn]) <;> omega) | fail) only [pn, pq]) <;> omega) | fail) only [pn, pq] at je16
    have je17 : ((b9g_now S5) 9).toInt = (((b9g_now Sq2) ((8 : Int32)).toNatClampNeg)).toInt := by rw [eS5]; exact pt_updq (by decide)
    try simp (disch := first | ((try simp (disch := first | ((try simp only [pn]) <;> omega) | fail) only [pn, pq]) <;> omega) | fail) only [pn, pq] at je17
    have je18 : ((b9g_now S5) 10).toInt = ((b9g_now Sq2) 10).toInt := by rw [eS5]; exact pt_updn (by decide)
    try simp (disch := first | ((try simp (disch := first | ((try simp only [pn]) <;> omega) | fail) only [pn, pq]) <;> omega) | fail) only [pn, pq] at je18
    have je19 : ((b9g_now S5) 12).toInt = ((b9g_now Sq2) 12).toInt := by rw [eS5]; exact pt_updn (by decide)
    try simp (disch := first | ((try simp (disch := first | ((try simp only [pn]) <;> omega) | fail) only [pn, pq]) <;> omega) | fail) only [pn, pq] at je19
    have jf20 : (-4 ≤ ((b9g_now S5) 1).toInt ∧ ((b9g_now S5) 1).toInt ≤ 4) ∧ (-3 ≤ ((b9g_now S5) 4).toInt ∧ ((b9g_now S5) 4).toInt ≤ 252) ∧ (0 ≤ ((b9g_now S5) 8).toInt ∧ ((b9g_now S5) 8).toInt ≤ 64) ∧ (0 ≤ ((b9g_now S5) 9).toInt ∧ ((b9g_now S5) 9).toInt ≤ 64) ∧ (0 ≤ ((b9g_now S5) 10).toInt ∧ ((b9g_now S5) 10).toInt ≤ 16) ∧ (0 ≤ ((b9g_now S5) 12).toInt ∧ ((b9g_now S5) 12).toInt ≤ 8) := J9g_now hJS5
    have ju20_S5 := hJS5.2
    refine sf_X9_settingOf hJS5.1 (by (try simp (disch := first | ((try simp (disch := first | ((try simp only [pn]) <;> omega) | fail) only [pn, pq]) <;> omega) | fail) only [pn, pq]) <;> (intros; (try simp (disch := first | ((try simp (disch := first | ((try simp only [pn]) <;> omega) | fail) only [pn, pq]) <;> omega) | fail) only [pn, pq]) <;> omega)) (by (try simp (disch := first | ((try simp (disch := first | ((try simp only [pn]) <;> omega) | fail) only [pn, pq]) <;> omega) | fail) only [pn, pq]) <;> (intros; (try simp (disch := first | ((try simp (disch := first | ((try simp only [pn]) <;> omega) | fail) only [pn, pq]) <;> omega) | fail) only [pn, pq]) <;> omega)) (fun r6 hr6_0 hr6_1 => ?_)
    have rgr6 := pt_rg r6
    try simp (disch := first | ((try simp (disch := first | ((try simp only [pn]) <;> omega) | fail) only [pn, pq]) <;> omega) | fail) only [pn, pq] at hr6_0
    try simp (disch := first | ((try simp (disch := first | ((try simp only [pn]) <;> omega) | fail) only [pn, pq]) <;> omega) | fail) only [pn, pq] at hr6_1
    refine ⟨pt_in (by (try simp (disch := first | ((try simp (disch := first | ((try simp only [pn]) <;> omega) | fail) only [pn, pq]) <;> omega) | fail) only [pn, pq]) <;> (intros; (try simp (disch := first | ((try simp (disch := first | ((try simp only [pn]) <;> omega) | fail) only [pn, pq]) <;> omega) | fail) only [pn, pq]) <;> omega)) (by (try simp (disch := first | ((try simp (disch := first | ((try simp only [pn]) <;> omega) | fail) only [pn, pq]) <;> omega) | fail) only [pn, pq]) <;> (intros; (try simp (disch := first | ((try simp (disch := first | ((try simp only [pn]) <;> omega) | fail) only [pn, pq]) <;> omega) | fail) only [pn, pq]) <;> omega)), ?_⟩
    intro S8 eS8
    have hJS8 : J9 S8 := by rw [eS8]; exact (J9s_now hJS5 (NW_set (J9g_now hJS5) (by (try simp (disch := first | ((try simp (disch := first | ((try simp only [pn]) <;> omega) | fail) only [pn, pq]) <;> omega) | fail) only [pn, pq]) <;> (intros; (try simp (disch := first | ((try simp (disch := first | ((try simp only [pn]) <;> omega) | fail) only [pn, pq]) <;> omega) | fail) only [pn, pq]) <;> omega)) (by (try simp (disch := first | ((try simp (disch := first | ((try simp only [pn]) <;> omega) | fail) only [pn, pq]) <;> omega) | fail) only [pn, pq]) <;> (intros; (try simp (disch := first | ((try simp (disch := first | ((try simp only [pn]) <;> omega) | fail) only [pn, pq]) <;> omega) | fail) only [pn, pq]) <;> omega)) (by (try simp (disch := first | ((try simp (disch := first | ((try simp only [pn]) <;> omega) | fail) only [pn, pq]) <;> omega) | fail) only [pn, pq]) <;> (intros; (try simp (disch := first | ((try simp (disch := first | ((try simp only [pn]) <;> omega) | fail) only [pn, pq]) <;> omega) | fail) only [pn, pq]) <;> omega)) (by (try simp (disch := first | ((try simp (disch := first | ((try simp only [pn]) <;> omega) | fail) only [pn, pq]) <;> omega) | fail) only [pn, pq]) <;> (intros; (try simp (disch := first | ((try simp (disch := first | ((try simp only [pn]) <;> omega) | fail) only [pn, pq]) <;> omega) | fail) only [pn, pq]) <;> omega)) (by (try simp (disch := first | ((try simp (disch := first | ((try simp only [pn]) <;> omega) | fail) only [pn, pq]) <;> omega) | fail) only [pn, pq]) <;> (intros; (try simp (disch := first | ((try simp (disch := first | ((try simp only [pn]) <;> omega) | fail) only [pn, pq]) <;> omega) | fail) only [pn, pq]) <;> omega)) (by (try simp (disch := first | ((try simp (disch := first | ((try simp only [pn]) <;> omega) | fail) only [pn, pq]) <;> omega) | fail) only [pn, pq]) <;> (intros; (try simp (disch := first | ((try simp (disch := first | ((try simp only [pn]) <;> omega) | fail) only [pn, pq]) <;> omega) | fail) only [pn, pq]) <;> omega))))
    have hFS8 : F_X9_build S S8 := by rw [eS8]; exact hFS5
    have je21 : ((b9g_now S8) 1).toInt = ((b9g_now S5) 1).toInt := by rw [eS8]; exact pt_updn (by decide)
    try simp (disch := first | ((try simp (disch := first | ((try simp only [pn]) <;> omega) | fail) only [pn, pq]) <;> omega) | fail) only [pn, pq] at je21
    have je22 : ((b9g_now S8) 4).toInt = ((b9g_now S5) 4).toInt := by rw [eS8]; exact pt_updn (by decide)
    try simp (disch := first | ((try simp (disch := first | ((try simp only [pn]) <;> omega) | fail) only [pn, pq]) <;> omega) | fail) only [pn, pq] at je22
    have je23 : ((b9g_now S8) 7).toInt = ((b9g_now S5) 7).toInt := by rw [eS8]; exact pt_updn (by decide)
    try simp (disch := first | ((try simp (disch := first | ((try simp only [pn]) <;> omega) | fail) only [pn, pq]) <;> omega) | fail) only [pn, pq] at je23
    have je24 : ((b9g_now S8) 8).toInt = ((b9g_now S5) 8).toInt := by rw [eS8]; exact pt_updn (by decide)
    try simp (disch := first | ((try simp (disch := first | ((try simp only [pn]) <;> omega) | fail) only [pn, pq]) <;> omega) | fail) only [pn, pq] at je24
    have je25 : ((b9g_now S8) 9).toInt = ((b9g_now S5) 9).toInt := by rw [eS8]; exact pt_updn (by decide)
    try simp (disch := first | ((try simp (disch := first | ((try simp only [pn]) <;> omega) | fail) only [pn, pq]) <;> omega) | fail) only [pn, pq] at je25
    have je26 : ((b9g_now S8) 10).toInt = ((b9g_now S5) 10).toInt := by rw [eS8]; exact pt_updn (by decide)
    try simp (disch := first | ((try simp (disch := first | ((try simp only [pn]) <;> omega) | fail) only [pn, pq]) <;> omega) | fail) only [pn, pq] at je26
    have je27 : ((b9g_now S8) 12).toInt = ((b9g_now S5) 12).toInt := by rw [eS8]; exact pt_updn (by decide)
    try simp (disch := first | ((try simp (disch := first | ((try simp only [pn]) <;> omega) | fail) only [pn, pq]) <;> omega) | fail) only [pn, pq] at je27
    have jf28 : (-4 ≤ ((b9g_now S8) 1).toInt ∧ ((b9g_now S8) 1).toInt ≤ 4) ∧ (-3 ≤ ((b9g_now S8) 4).toInt ∧ ((b9g_now S8) 4).toInt ≤ 252) ∧ (0 ≤ ((b9g_now S8) 8).toInt ∧ ((b9g_now S8) 8).toInt ≤ 64) ∧ (0 ≤ ((b9g_now S8) 9).toInt ∧ ((b9g_now S8) 9).toInt ≤ 64) ∧ (0 ≤ ((b9g_now S8) 10).toInt ∧ ((b9g_now S8) 10).toInt ≤ 16) ∧ (0 ≤ ((b9g_now S8) 12).toInt ∧ ((b9g_now S8) 12).toInt ≤ 8) := J9g_now hJS8
    have ju28_S8 := hJS8.2
    refine sf_X9_settingOf hJS8.1 (by (try simp (disch := first | ((try simp (disch := first | ((try simp only [pn]) <;> omega) | fail) only [pn, pq]) <;> omega) | fail) only [pn, pq]) <;> (intros; (try simp (disch := first | ((try simp (disch := first | ((try simp only [pn]) <;> omega) | fail) only [pn, pq]) <;> omega) | fail) only [pn, pq]) <;> omega)) (by (try simp (disch := first | ((try simp (disch := first | ((try simp only [pn]) <;> omega) | fail) only [pn, pq]) <;> omega) | fail) only [pn, pq]) <;> (intros; (try simp (disch := first | ((try simp (disch := first | ((try simp only [pn]) <;> omega) | fail) only [pn, pq]) <;> omega) | fail) only [pn, pq]) <;> omega)) (fun r9 hr9_0 hr9_1 => ?_)
    have rgr9 := pt_rg r9
    try simp (disch := first | ((try simp (disch := first | ((try simp only [pn]) <;> omega) | fail) only [pn, pq]) <;> omega) | fail) only [pn, pq] at hr9_0
    try simp (disch := first | ((try simp (disch := first | ((try simp only [pn]) <;> omega) | fail) only [pn, pq]) <;> omega) | fail) only [pn, pq] at hr9_1
    refine ⟨pt_in (by (try simp (disch := first | ((try simp (disch := first | ((try simp only [pn]) <;> omega) | fail) only [pn, pq]) <;> omega) | fail) only [pn, pq]) <;> (intros; (try simp (disch := first | ((try simp (disch := first | ((try simp only [pn]) <;> omega) | fail) only [pn, pq]) <;> omega) | fail) only [pn, pq]) <;> omega)) (by (try simp (disch := first | ((try simp (disch := first | ((try simp only [pn]) <;> omega) | fail) only [pn, pq]) <;> omega) | fail) only [pn, pq]) <;> (intros; (try simp (disch := first | ((try simp (disch := first | ((try simp only [pn]) <;> omega) | fail) only [pn, pq]) <;> omega) | fail) only [pn, pq]) <;> omega)), ?_⟩
    intro S11 eS11
    have hJS11 : J9 S11 := by rw [eS11]; exact (J9s_now hJS8 (NW_set (J9g_now hJS8) (by (try simp (disch := first | ((try simp (disch := first | ((try simp only [pn]) <;> omega) | fail) only [pn, pq]) <;> omega) | fail) only [pn, pq]) <;> (intros; (try simp (disch := first | ((try simp (disch := first | ((try simp only [pn]) <;> omega) | fail) only [pn, pq]) <;> omega) | fail) only [pn, pq]) <;> omega)) (by (try simp (disch := first | ((try simp (disch := first | ((try simp only [pn]) <;> omega) | fail) only [pn, pq]) <;> omega) | fail) only [pn, pq]) <;> (intros; (try simp (disch := first | ((try simp (disch := first | ((try simp only [pn]) <;> omega) | fail) only [pn, pq]) <;> omega) | fail) only [pn, pq]) <;> omega)) (by (try simp (disch := first | ((try simp (disch := first | ((try simp only [pn]) <;> omega) | fail) only [pn, pq]) <;> omega) | fail) only [pn, pq]) <;> (intros; (try simp (disch := first | ((try simp (disch := first | ((try simp only [pn]) <;> omega) | fail) only [pn, pq]) <;> omega) | fail) only [pn, pq]) <;> omega)) (by (try simp (disch := first | ((try simp (disch := first | ((try simp only [pn]) <;> omega) | fail) only [pn, pq]) <;> omega) | fail) only [pn, pq]) <;> (intros; (try simp (disch := first | ((try simp (disch := first | ((try simp only [pn]) <;> omega) | fail) only [pn, pq]) <;> omega) | fail) only [pn, pq]) <;> omega)) (by (try simp (disch := first | ((try simp (disch := first | ((try simp only [pn]) <;> omega) | fail) only [pn, pq]) <;> omega) | fail) only [pn, pq]) <;> (intros; (try simp (disch := first | ((try simp (disch := first | ((try simp only [pn]) <;> omega) | fail) only [pn, pq]) <;> omega) | fail) only [pn, pq]) <;> omega)) (by (try simp (disch := first | ((try simp (disch := first | ((try simp only [pn]) <;> omega) | fail) only [pn, pq]) <;> omega) | fail) only [pn, pq]) <;> (intros; (try simp (disch := first | ((try simp (disch := first | ((try simp only [pn]) <;> omega) | fail) only [pn, pq]) <;> omega) | fail) only [pn, pq]) <;> omega))))
    have hFS11 : F_X9_build S S11 := by rw [eS11]; exact hFS8
    have je29 : ((b9g_now S11) 1).toInt = ((b9g_now S8) 1).toInt := by rw [eS11]; exact pt_updn (by decide)
    try simp (disch := first | ((try simp (disch := first | ((try simp only [pn]) <;> omega) | fail) only [pn, pq]) <;> omega) | fail) only [pn, pq] at je29
    have je30 : ((b9g_now S11) 4).toInt = ((b9g_now S8) 4).toInt := by rw [eS11]; exact pt_updn (by decide)
    try simp (disch := first | ((try simp (disch := first | ((try simp only [pn]) <;> omega) | fail) only [pn, pq]) <;> omega) | fail) only [pn, pq] at je30
    have je31 : ((b9g_now S11) 7).toInt = ((b9g_now S8) 7).toInt := by rw [eS11]; exact pt_updn (by decide)
    try simp (disch := first | ((try simp (disch := first | ((try simp only [pn]) <;> omega) | fail) only [pn, pq]) <;> omega) | fail) only [pn, pq] at je31
    have je32 : ((b9g_now S11) 8).toInt = ((b9g_now S8) 8).toInt := by rw [eS11]; exact pt_updn (by decide)
    try simp (disch := first | ((try simp (disch := first | ((try simp only [pn]) <;> omega) | fail) only [pn, pq]) <;> omega) | fail) only [pn, pq] at je32
    have je33 : ((b9g_now S11) 9).toInt = ((b9g_now S8) 9).toInt := by rw [eS11]; exact pt_updn (by decide)
    try simp (disch := first | ((try simp (disch := first | ((try simp only [pn]) <;> omega) | fail) only [pn, pq]) <;> omega) | fail) only [pn, pq] at je33
    have je34 : ((b9g_now S11) 10).toInt = ((b9g_now S8) 10).toInt := by rw [eS11]; exact pt_updn (by decide)
    try simp (disch := first | ((try simp (disch := first | ((try simp only [pn]) <;> omega) | fail) only [pn, pq]) <;> omega) | fail) only [pn, pq] at je34
    have je35 : ((b9g_now S11) 12).toInt = (r9).toInt := by rw [eS11]; exact pt_updq (by decide)
    try simp (disch := first | ((try simp (disch := first | ((try simp only [pn]) <;> omega) | fail) only [pn, pq]) <;> omega) | fail) only [pn, pq] at je35
    have jf36 : (-4 ≤ ((b9g_now S11) 1).toInt ∧ ((b9g_now S11) 1).toInt ≤ 4) ∧ (-3 ≤ ((b9g_now S11) 4).toInt ∧ ((b9g_now S11) 4).toInt ≤ 252) ∧ (0 ≤ ((b9g_now S11) 8).toInt ∧ ((b9g_now S11) 8).toInt ≤ 64) ∧ (0 ≤ ((b9g_now S11) 9).toInt ∧ ((b9g_now S11) 9).toInt ≤ 64) ∧ (0 ≤ ((b9g_now S11) 10).toInt ∧ ((b9g_now S11) 10).toInt ≤ 16) ∧ (0 ≤ ((b9g_now S11) 12).toInt ∧ ((b9g_now S11) 12).toInt ≤ 8) := J9g_now hJS11
    have ju36_S11 := hJS11.2
    refine sf_X9_settingOf hJS11.1 (by (try simp (disch := first | ((try simp (disch := first | ((try simp only [pn]) <;> omega) | fail) only [pn, pq]) <;> omega) | fail) only [pn, pq]) <;> (intros; (try simp (disch := first | ((try simp (disch := first | ((try simp only [pn]) <;> omega) | fail) only [pn, pq]) <;> omega) | fail) only [pn, pq]) <;> omega)) (by (try simp (disch := first | ((try simp (disch := first | ((try simp only [pn]) <;> omega) | fail) only [pn, pq]) <;> omega) | fail) only [pn, pq]) <;> (intros; (try simp (disch := first | ((try simp (disch := first | ((try simp only [pn]) <;> omega) | fail) only [pn, pq]) <;> omega) | fail) only [pn, pq]) <;> omega)) (fun r12 hr12_0 hr12_1 => ?_)
    have rgr12 := pt_rg r12
    try simp (disch := first | ((try simp (disch := first | ((try simp only [pn]) <;> omega) | fail) only [pn, pq]) <;> omega) | fail) only [pn, pq] at hr12_0
    try simp (disch := first | ((try simp (disch := first | ((try simp only [pn]) <;> omega) | fail) only [pn, pq]) <;> omega) | fail) only [pn, pq] at hr12_1
    refine ⟨pt_in (by (try simp (disch := first | ((try simp (disch := first | ((try simp only [pn]) <;> omega) | fail) only [pn, pq]) <;> omega) | fail) only [pn, pq]) <;> (intros; (try simp (disch := first | ((try simp (disch := first | ((try simp only [pn]) <;> omega) | fail) only [pn, pq]) <;> omega) | fail) only [pn, pq]) <;> omega)) (by (try simp (disch := first | ((try simp (disch := first | ((try simp only [pn]) <;> omega) | fail) only [pn, pq]) <;> omega) | fail) only [pn, pq]) <;> (intros; (try simp (disch := first | ((try simp (disch := first | ((try simp only [pn]) <;> omega) | fail) only [pn, pq]) <;> omega) | fail) only [pn, pq]) <;> omega)), ?_⟩
    intro S14 eS14
    have hJS14 : J9 S14 := by rw [eS14]; exact (J9s_now hJS11 (NW_set (J9g_now hJS11) (by (try simp (disch := first | ((try simp (disch := first | ((try simp only [pn]) <;> omega) | fail) only [pn, pq]) <;> omega) | fail) only [pn, pq]) <;> (intros; (try simp (disch := first | ((try simp (disch := first | ((try simp only [pn]) <;> omega) | fail) only [pn, pq]) <;> omega) | fail) only [pn, pq]) <;> omega)) (by (try simp (disch := first | ((try simp (disch := first | ((try simp only [pn]) <;> omega) | fail) only [pn, pq]) <;> omega) | fail) only [pn, pq]) <;> (intros; (try simp (disch := first | ((try simp (disch := first | ((try simp only [pn]) <;> omega) | fail) only [pn, pq]) <;> omega) | fail) only [pn, pq]) <;> omega)) (by (try simp (disch := first | ((try simp (disch := first | ((try simp only [pn]) <;> omega) | fail) only [pn, pq]) <;> omega) | fail) only [pn, pq]) <;> (intros; (try simp (disch := first | ((try simp (disch := first | ((try simp only [pn]) <;> omega) | fail) only [pn, pq]) <;> omega) | fail) only [pn, pq]) <;> omega)) (by (try simp (disch := first | ((try simp (disch := first | ((try simp only [pn]) <;> omega) | fail) only [pn, pq]) <;> omega) | fail) only [pn, pq]) <;> (intros; (try simp (disch := first | ((try simp (disch := first | ((try simp only [pn]) <;> omega) | fail) only [pn, pq]) <;> omega) | fail) only [pn, pq]) <;> omega)) (by (try simp (disch := first | ((try simp (disch := first | ((try simp only [pn]) <;> omega) | fail) only [pn, pq]) <;> omega) | fail) only [pn, pq]) <;> (intros; (try simp (disch := first | ((try simp (disch := first | ((try simp only [pn]) <;> omega) | fail) only [pn, pq]) <;> omega) | fail) only [pn, pq]) <;> omega)) (by (try simp (disch := first | ((try simp (disch := first | ((try simp only [pn]) <;> omega) | fail) only [pn, pq]) <;> omega) | fail) only [pn, pq]) <;> (intros; (try simp (disch := first | ((try simp (disch := first | ((try simp only [pn]) <;> omega) | fail) only [pn, pq]) <;> omega) | fail) only [pn, pq]) <;> omega))))
    have hFS14 : F_X9_build S S14 := by rw [eS14]; exact hFS11
    have je37 : ((b9g_now S14) 1).toInt = ((b9g_now S11) 1).toInt := by rw [eS14]; exact pt_updn (by decide)
    try simp (disch := first | ((try simp (disch := first | ((try simp only [pn]) <;> omega) | fail) only [pn, pq]) <;> omega) | fail) only [pn, pq] at je37
    have je38 : ((b9g_now S14) 4).toInt = ((b9g_now S11) 4).toInt := by rw [eS14]; exact pt_updn (by decide)
    try simp (disch := first | ((try simp (disch := first | ((try simp only [pn]) <;> omega) | fail) only [pn, pq]) <;> omega) | fail) only [pn, pq] at je38
    have je39 : ((b9g_now S14) 7).toInt = ((b9g_now S11) 7).toInt := by rw [eS14]; exact pt_updn (by decide)
    try simp (disch := first | ((try simp (disch := first | ((try simp only [pn]) <;> omega) | fail) only [pn, pq]) <;> omega) | fail) only [pn, pq] at je39
    have je40 : ((b9g_now S14) 8).toInt = ((b9g_now S11) 8).toInt := by rw [eS14]; exact pt_updn (by decide)
    try simp (disch := first | ((try simp (disch := first | ((try simp only [pn]) <;> omega) | fail) only [pn, pq]) <;> omega) | fail) only [pn, pq] at je40
    have je41 : ((b9g_now S14) 9).toInt = ((b9g_now S11) 9).toInt := by rw [eS14]; exact pt_updn (by decide)
    try simp (disch := first | ((try simp (disch := first | ((try simp only [pn]) <;> omega) | fail) only [pn, pq]) <;> omega) | fail) only [pn, pq] at je41
    have je42 : ((b9g_now S14) 10).toInt = ((b9g_now S11) 10).toInt := by rw [eS14]; exact pt_updn (by decide)
    try simp (disch := first | ((try simp (disch := first | ((try simp only [pn]) <;> omega) | fail) only [pn, pq]) <;> omega) | fail) only [pn, pq] at je42
    have je43 : ((b9g_now S14) 12).toInt = ((b9g_now S11) 12).toInt := by rw [eS14]; exact pt_updn (by decide)
    try simp (disch := first | ((try simp (disch := first | ((try simp only [pn]) <;> omega) | fail) only [pn, pq]) <;> omega) | fail) only [pn, pq] at je43
    have jf44 : (-4 ≤ ((b9g_now S14) 1).toInt ∧ ((b9g_now S14) 1).toInt ≤ 4) ∧ (-3 ≤ ((b9g_now S14) 4).toInt ∧ ((b9g_now S14) 4).toInt ≤ 252) ∧ (0 ≤ ((b9g_now S14) 8).toInt ∧ ((b9g_now S14) 8).toInt ≤ 64) ∧ (0 ≤ ((b9g_now S14) 9).toInt ∧ ((b9g_now S14) 9).toInt ≤ 64) ∧ (0 ≤ ((b9g_now S14) 10).toInt ∧ ((b9g_now S14) 10).toInt ≤ 16) ∧ (0 ≤ ((b9g_now S14) 12).toInt ∧ ((b9g_now S14) 12).toInt ≤ 8) := J9g_now hJS14
    have ju44_S14 := hJS14.2
    refine sf_X9_settingOf hJS14.1 (by (try simp (disch := first | ((try simp (disch := first | ((try simp only [pn]) <;> omega) | fail) only [pn, pq]) <;> omega) | fail) only [pn, pq]) <;> (intros; (try simp (disch := first | ((try simp (disch := first | ((try simp only [pn]) <;> omega) | fail) only [pn, pq]) <;> omega) | fail) only [pn, pq]) <;> omega)) (by (try simp (disch := first | ((try simp (disch := first | ((try simp only [pn]) <;> omega) | fail) only [pn, pq]) <;> omega) | fail) only [pn, pq]) <;> (intros; (try simp (disch := first | ((try simp (disch := first | ((try simp only [pn]) <;> omega) | fail) only [pn, pq]) <;> omega) | fail) only [pn, pq]) <;> omega)) (fun r15 hr15_0 hr15_1 => ?_)
    have rgr15 := pt_rg r15
    try simp (disch := first | ((try simp (disch := first | ((try simp only [pn]) <;> omega) | fail) only [pn, pq]) <;> omega) | fail) only [pn, pq] at hr15_0
    try simp (disch := first | ((try simp (disch := first | ((try simp only [pn]) <;> omega) | fail) only [pn, pq]) <;> omega) | fail) only [pn, pq] at hr15_1
    refine ⟨pt_in (by (try simp (disch := first | ((try simp (disch := first | ((try simp only [pn]) <;> omega) | fail) only [pn, pq]) <;> omega) | fail) only [pn, pq]) <;> (intros; (try simp (disch := first | ((try simp (disch := first | ((try simp only [pn]) <;> omega) | fail) only [pn, pq]) <;> omega) | fail) only [pn, pq]) <;> omega)) (by (try simp (disch := first | ((try simp (disch := first | ((try simp only [pn]) <;> omega) | fail) only [pn, pq]) <;> omega) | fail) only [pn, pq]) <;> (intros; (try simp (disch := first | ((try simp (disch := first | ((try simp only [pn]) <;> omega) | fail) only [pn, pq]) <;> omega) | fail) only [pn, pq]) <;> omega)), ?_⟩
    intro S17 eS17
    have hJS17 : J9 S17 := by rw [eS17]; exact (J9s_now hJS14 (NW_set (J9g_now hJS14) (by (try simp (disch := first | ((try simp (disch := first | ((try simp only [pn]) <;> omega) | fail) only [pn, pq]) <;> omega) | fail) only [pn, pq]) <;> (intros; (try simp (disch := first | ((try simp (disch := first | ((try simp only [pn]) <;> omega) | fail) only [pn, pq]) <;> omega) | fail) only [pn, pq]) <;> omega)) (by (try simp (disch := first | ((try simp (disch := first | ((try simp only [pn]) <;> omega) | fail) only [pn, pq]) <;> omega) | fail) only [pn, pq]) <;> (intros; (try simp (disch := first | ((try simp (disch := first | ((try simp only [pn]) <;> omega) | fail) only [pn, pq]) <;> omega) | fail) only [pn, pq]) <;> omega)) (by (try simp (disch := first | ((try simp (disch := first | ((try simp only [pn]) <;> omega) | fail) only [pn, pq]) <;> omega) | fail) only [pn, pq]) <;> (intros; (try simp (disch := first | ((try simp (disch := first | ((try simp only [pn]) <;> omega) | fail) only [pn, pq]) <;> omega) | fail) only [pn, pq]) <;> omega)) (by (try simp (disch := first | ((try simp (disch := first | ((try simp only [pn]) <;> omega) | fail) only [pn, pq]) <;> omega) | fail) only [pn, pq]) <;> (intros; (try simp (disch := first | ((try simp (disch := first | ((try simp only [pn]) <;> omega) | fail) only [pn, pq]) <;> omega) | fail) only [pn, pq]) <;> omega)) (by (try simp (disch := first | ((try simp (disch := first | ((try simp only [pn]) <;> omega) | fail) only [pn, pq]) <;> omega) | fail) only [pn, pq]) <;> (intros; (try simp (disch := first | ((try simp (disch := first | ((try simp only [pn]) <;> omega) | fail) only [pn, pq]) <;> omega) | fail) only [pn, pq]) <;> omega)) (by (try simp (disch := first | ((try simp (disch := first | ((try simp only [pn]) <;> omega) | fail) only [pn, pq]) <;> omega) | fail) only [pn, pq]) <;> (intros; (try simp (disch := first | ((try simp (disch := first | ((try simp only [pn]) <;> omega) | fail) only [pn, pq]) <;> omega) | fail) only [pn, pq]) <;> omega))))
    have hFS17 : F_X9_build S S17 := by rw [eS17]; exact hFS14
    have je45 : ((b9g_now S17) 1).toInt = ((b9g_now S14) 1).toInt := by rw [eS17]; exact pt_updn (by decide)
    try simp (disch := first | ((try simp (disch := first | ((try simp only [pn]) <;> omega) | fail) only [pn, pq]) <;> omega) | fail) only [pn, pq] at je45
    have je46 : ((b9g_now S17) 4).toInt = ((b9g_now S14) 4).toInt := by rw [eS17]; exact pt_updn (by decide)
    try simp (disch := first | ((try simp (disch := first | ((try simp only [pn]) <;> omega) | fail) only [pn, pq]) <;> omega) | fail) only [pn, pq] at je46
    have je47 : ((b9g_now S17) 7).toInt = ((b9g_now S14) 7).toInt := by rw [eS17]; exact pt_updn (by decide)
    try simp (disch := first | ((try simp (disch := first | ((try simp only [pn]) <;> omega) | fail) only [pn, pq]) <;> omega) | fail) only [pn, pq] at je47
    have je48 : ((b9g_now S17) 8).toInt = ((b9g_now S14) 8).toInt := by rw [eS17]; exact pt_updn (by decide)
    try simp (disch := first | ((try simp (disch := first | ((try simp only [pn]) <;> omega) | fail) only [pn, pq]) <;> omega) | fail) only [pn, pq] at je48
    have je49 : ((b9g_now S17) 9).toInt = ((b9g_now S14) 9).toInt := by rw [eS17]; exact pt_updn (by decide)
    try simp (disch := first | ((try simp (disch := first | ((try simp only [pn]) <;> omega) | fail) only [pn, pq]) <;> omega) | fail) only [pn, pq] at je49
    have je50 : ((b9g_now S17) 10).toInt = ((b9g_now S14) 10).toInt := by rw [eS17]; exact pt_updn (by decide)
    try simp (disch := first | ((try simp (disch := first | ((try simp only [pn]) <;> omega) | fail) only [pn, pq]) <;> omega) | fail) only [pn, pq] at je50
    have je51 : ((b9g_now S17) 12).toInt = ((b9g_now S14) 12).toInt := by rw [eS17]; exact pt_updn (by decide)
    try simp (disch := first | ((try simp (disch := first | ((try simp only [pn]) <;> omega) | fail) only [pn, pq]) <;> omega) | fail) only [pn, pq] at je51
    have jf52 : (-4 ≤ ((b9g_now S17) 1).toInt ∧ ((b9g_now S17) 1).toInt ≤ 4) ∧ (-3 ≤ ((b9g_now S17) 4).toInt ∧ ((b9g_now S17) 4).toInt ≤ 252) ∧ (0 ≤ ((b9g_now S17) 8).toInt ∧ ((b9g_now S17) 8).toInt ≤ 64) ∧ (0 ≤ ((b9g_now S17) 9).toInt ∧ ((b9g_now S17) 9).toInt ≤ 64) ∧ (0 ≤ ((b9g_now S17) 10).toInt ∧ ((b9g_now S17) 10).toInt ≤ 16) ∧ (0 ≤ ((b9g_now S17) 12).toInt ∧ ((b9g_now S17) 12).toInt ≤ 8) := J9g_now hJS17
    have ju52_S17 := hJS17.2
    refine ⟨pt_in (by (try simp (disch := first | ((try simp (disch := first | ((try simp only [pn]) <;> omega) | fail) only [pn, pq]) <;> omega) | fail) only [pn, pq]) <;> (intros; (try simp (disch := first | ((try simp (disch := first | ((try simp only [pn]) <;> omega) | fail) only [pn, pq]) <;> omega) | fail) only [pn, pq]) <;> omega)) (by (try simp (disch := first | ((try simp (disch := first | ((try simp only [pn]) <;> omega) | fail) only [pn, pq]) <;> omega) | fail) only [pn, pq]) <;> (intros; (try simp (disch := first | ((try simp (disch := first | ((try simp only [pn]) <;> omega) | fail) only [pn, pq]) <;> omega) | fail) only [pn, pq]) <;> omega)), ?_⟩
    refine ⟨pt_in (by (try simp (disch := first | ((try simp (disch := first | ((try simp only [pn]) <;> omega) | fail) only [pn, pq]) <;> omega) | fail) only [pn, pq]) <;> (intros; (try simp (disch := first | ((try simp (disch := first | ((try simp only [pn]) <;> omega) | fail) only [pn, pq]) <;> omega) | fail) only [pn, pq]) <;> omega)) (by (try simp (disch := first | ((try simp (disch := first | ((try simp only [pn]) <;> omega) | fail) only [pn, pq]) <;> omega) | fail) only [pn, pq]) <;> (intros; (try simp (disch := first | ((try simp (disch := first | ((try simp only [pn]) <;> omega) | fail) only [pn, pq]) <;> omega) | fail) only [pn, pq]) <;> omega)), ?_⟩
    intro S18 eS18
    have hJS18 : J9 S18 := by rw [eS18]; exact (J9s_now hJS17 (NW_set (J9g_now hJS17) (by (try simp (disch := first | ((try simp (disch := first | ((try simp only [pn]) <;> omega) | fail) only [pn, pq]) <;> omega) | fail) only [pn, pq]) <;> (intros; (try simp (disch := first | ((try simp (disch := first | ((try simp only [pn]) <;> omega) | fail) only [pn, pq]) <;> omega) | fail) only [pn, pq]) <;> omega)) (by (try simp (disch := first | ((try simp (disch := first | ((try simp only [pn]) <;> omega) | fail) only [pn, pq]) <;> omega) | fail) only [pn, pq]) <;> (intros; (try simp (disch := first | ((try simp (disch := first | ((try simp only [pn]) <;> omega) | fail) only [pn, pq]) <;> omega) | fail) only [pn, pq]) <;> omega)) (by (try simp (disch := first | ((try simp (disch := first | ((try simp only [pn]) <;> omega) | fail) only [pn, pq]) <;> omega) | fail) only [pn, pq]) <;> (intros; (try simp (disch := first | ((try simp (disch := first | ((try simp only [pn]) <;> omega) | fail) only [pn, pq]) <;> omega) | fail) only [pn, pq]) <;> omega)) (by (try simp (disch := first | ((try simp (disch := first | ((try simp only [pn]) <;> omega) | fail) only [pn, pq]) <;> omega) | fail) only [pn, pq]) <;> (intros; (try simp (disch := first | ((try simp (disch := first | ((try simp only [pn]) <;> omega) | fail) only [pn, pq]) <;> omega) | fail) only [pn, pq]) <;> omega)) (by (try simp (disch := first | ((try simp (disch := first | ((try simp only [pn]) <;> omega) | fail) only [pn, pq]) <;> omega) | fail) only [pn, pq]) <;> (intros; (try simp (disch := first | ((try simp (disch := first | ((try simp only [pn]) <;> omega) | fail) only [pn, pq]) <;> omega) | fail) only [pn, pq]) <;> omega)) (by (try simp (disch := first | ((try simp (disch := first | ((try simp only [pn]) <;> omega) | fail) only [pn, pq]) <;> omega) | fail) only [pn, pq]) <;> (intros; (try simp (disch := first | ((try simp (disch := first | ((try simp only [pn]) <;> omega) | fail) only [pn, pq]) <;> omega) | fail) only [pn, pq]) <;> omega))))
    have hFS18 : F_X9_build S S18 := by rw [eS18]; exact hFS17
    have je54 : ((b9g_now S18) 1).toInt = ((b9g_now S17) 1).toInt := by rw [eS18]; exact pt_updn (by decide)
    try simp (disch := first | ((try simp (disch := first | ((try simp only [pn]) <;> omega) | fail) only [pn, pq]) <;> omega) | fail) only [pn, pq] at je54
    have je55 : ((b9g_now S18) 4).toInt = ((b9g_now S17) 4).toInt := by rw [eS18]; exact pt_updn (by decide)
    try simp (disch := first | ((try simp (disch := first | ((try simp only [pn]) <;> omega) | fail) only [pn, pq]) <;> omega) | fail) only [pn, pq] at je55
    have je56 : ((b9g_now S18) 7).toInt = ((b9g_now S17) 7).toInt := by rw [eS18]; exact pt_updn (by decide)
    try simp (disch := first | ((try simp (disch := first | ((try simp only [pn]) <;> omega) | fail) only [pn, pq]) <;> omega) | fail) only [pn, pq] at je56
    have je57 : ((b9g_now S18) 8).toInt = ((b9g_now S17) 8).toInt := by rw [eS18]; exact pt_updn (by decide)
    try simp (disch := first | ((try simp (disch := first | ((try simp only [pn]) <;> omega) | fail) only [pn, pq]) <;> omega) | fail) only [pn, pq] at je57
    have je58 : ((b9g_now S18) 9).toInt = ((b9g_now S17) 9).toInt := by rw [eS18]; exact pt_updn (by decide)
    try simp (disch := first | ((try simp (disch := first | ((try simp only [pn]) <;> omega) | fail) only [pn, pq]) <;> omega) | fail) only [pn, pq] at je58
    have je59 : ((b9g_now S18) 10).toInt = ((b9g_now S17) 10).toInt := by rw [eS18]; exact pt_updn (by decide)
    try simp (disch := first | ((try simp (disch := first | ((try simp only [pn]) <;> omega) | fail) only [pn, pq]) <;> omega) | fail) only [pn, pq] at je59
    have je60 : ((b9g_now S18) 12).toInt = ((b9g_now S17) 12).toInt := by rw [eS18]; exact pt_updn (by decide)
    try simp (disch := first | ((try simp (disch := first | ((try simp only [pn]) <;> omega) | fail) only [pn, pq]) <;> omega) | fail) only [pn, pq] at je60
    have jf61 : (-4 ≤ ((b9g_now S18) 1).toInt ∧ ((b9g_now S18) 1).toInt ≤ 4) ∧ (-3 ≤ ((b9g_now S18) 4).toInt ∧ ((b9g_now S18) 4).toInt ≤ 252) ∧ (0 ≤ ((b9g_now S18) 8).toInt ∧ ((b9g_now S18) 8).toInt ≤ 64) ∧ (0 ≤ ((b9g_now S18) 9).toInt ∧ ((b9g_now S18) 9).toInt ≤ 64) ∧ (0 ≤ ((b9g_now S18) 10).toInt ∧ ((b9g_now S18) 10).toInt ≤ 16) ∧ (0 ≤ ((b9g_now S18) 12).toInt ∧ ((b9g_now S18) 12).toInt ≤ 8) := J9g_now hJS18
    have ju61_S18 := hJS18.2
    refine ⟨pt_in (by (try simp (disch := first | ((try simp (disch := first | ((try simp only [pn]) <;> omega) | fail) only [pn, pq]) <;> omega) | fail) only [pn, pq]) <;> (intros; (try simp (disch := first | ((try simp (disch := first | ((try simp only [pn]) <;> omega) | fail) only [pn, pq]) <;> omega) | fail) only [pn, pq]) <;> omega)) (by (try simp (disch := first | ((try simp (disch := first | ((try simp only [pn]) <;> omega) | fail) only [pn, pq]) <;> omega) | fail) only [pn, pq]) <;> (intros; (try simp (disch := first | ((try simp (disch := first | ((try simp only [pn]) <;> omega) | fail) only [pn, pq]) <;> omega) | fail) only [pn, pq]) <;> omega)), ?_⟩
    refine ⟨pt_in (by (try simp (disch := first | ((try simp (disch := first | ((try simp only [pn]) <;> omega) | fail) only [pn, pq]) <;> omega) | fail) only [pn, pq]) <;> (intros; (try simp (disch := first | ((try simp (disch := first | ((try simp only [pn]) <;> omega) | fail) only [pn, pq]) <;> omega) | fail) only [pn, pq]) <;> omega)) (by (try simp (disch := first | ((try simp (disch := first | ((try simp only [pn]) <;> omega) | fail) only [pn, pq]) <;> omega) | fail) only [pn, pq]) <;> (intros; (try simp (disch := first | ((try simp (disch := first | ((try simp only [pn]) <;> omega) | fail) only [pn, pq]) <;> omega) | fail) only [pn, pq]) <;> omega)), ?_⟩
    intro S19 eS19
    have hJS19 : J9 S19 := by rw [eS19]; exact (J9s_now hJS18 (NW_set (J9g_now hJS18) (by (try simp (disch := first | ((try simp (disch := first | ((try simp only [pn]) <;> omega) | fail) only [pn, pq]) <;> omega) | fail) only [pn, pq]) <;> (intros; (try simp (disch := first | ((try simp (disch := first | ((try simp only [pn]) <;> omega) | fail) only [pn, pq]) <;> omega) | fail) only [pn, pq]) <;> omega)) (by (try simp (disch := first | ((try simp (disch := first | ((try simp only [pn]) <;> omega) | fail) only [pn, pq]) <;> omega) | fail) only [pn, pq]) <;> (intros; (try simp (disch := first | ((try simp (disch := first | ((try simp only [pn]) <;> omega) | fail) only [pn, pq]) <;> omega) | fail) only [pn, pq]) <;> omega)) (by (try simp (disch := first | ((try simp (disch := first | ((try simp only [pn]) <;> omega) | fail) only [pn, pq]) <;> omega) | fail) only [pn, pq]) <;> (intros; (try simp (disch := first | ((try simp (disch := first | ((try simp only [pn]) <;> omega) | fail) only [pn, pq]) <;> omega) | fail) only [pn, pq]) <;> omega)) (by (try simp (disch := first | ((try simp (disch := first | ((try simp only [pn]) <;> omega) | fail) only [pn, pq]) <;> omega) | fail) only [pn, pq]) <;> (intros; (try simp (disch := first | ((try simp (disch := first | ((try simp only [pn]) <;> omega) | fail) only [pn, pq]) <;> omega) | fail) only [pn, pq]) <;> omega)) (by (try simp (disch := first | ((try simp (disch := first | ((try simp only [pn]) <;> omega) | fail) only [pn, pq]) <;> omega) | fail) only [pn, pq]) <;> (intros; (try simp (disch := first | ((try simp (disch := first | ((try simp only [pn]) <;> omega) | fail) only [pn, pq]) <;> omega) | fail) only [pn, pq]) <;> omega)) (by (try simp (disch := first | ((try simp (disch := first | ((try simp only [pn]) <;> omega) | fail) only [pn, pq]) <;> omega) | fail) only [pn, pq]) <;> (intros; (try simp (disch := first | ((try simp (disch := first | ((try simp only [pn]) <;> omega) | fail) only [pn, pq]) <;> omega) | fail) only [pn, pq]) <;> omega))))
    have hFS19 : F_X9_build S S19 := by rw [eS19]; exact hFS18
    have je63 : ((b9g_now S19) 1).toInt = ((b9g_now S18) 1).toInt := by rw [eS19]; exact pt_updn (by decide)
    try simp (disch := first | ((try simp (disch := first | ((try simp only [pn]) <;> omega) | fail) only [pn, pq]) <;> omega) | fail) only [pn, pq] at je63
    have je64 : ((b9g_now S19) 4).toInt = ((b9g_now S18) 4).toInt := by rw [eS19]; exact pt_updn (by decide)
    try simp (disch := first | ((try simp (disch := first | ((try simp only [pn]) <;> omega) | fail) only [pn, pq]) <;> omega) | fail) only [pn, pq] at je64
    have je65 : ((b9g_now S19) 7).toInt = ((b9g_now S18) 7).toInt := by rw [eS19]; exact pt_updn (by decide)
    try simp (disch := first | ((try simp (disch := first | ((try simp only [pn]) <;> omega) | fail) only [pn, pq]) <;> omega) | fail) only [pn, pq] at je65
    have je66 : ((b9g_now S19) 8).toInt = ((b9g_now S18) 8).toInt := by rw [eS19]; exact pt_updn (by decide)
    try simp (disch := first | ((try simp (disch := first | ((try simp only [pn]) <;> omega) | fail) only [pn, pq]) <;> omega) | fail) only [pn, pq] at je66
    have je67 : ((b9g_now S19) 9).toInt = ((b9g_now S18) 9).toInt := by rw [eS19]; exact pt_updn (by decide)
    try simp (disch := first | ((try simp (disch := first | ((try simp only [pn]) <;> omega) | fail) only [pn, pq]) <;> omega) | fail) only [pn, pq] at je67
    have je68 : ((b9g_now S19) 10).toInt = ((b9g_now S18) 10).toInt := by rw [eS19]; exact pt_updn (by decide)
    try simp (disch := first | ((try simp (disch := first | ((try simp only [pn]) <;> omega) | fail) only [pn, pq]) <;> omega) | fail) only [pn, pq] at je68
    have je69 : ((b9g_now S19) 12).toInt = ((b9g_now S18) 12).toInt := by rw [eS19]; exact pt_updn (by decide)
    try simp (disch := first | ((try simp (disch := first | ((try simp only [pn]) <;> omega) | fail) only [pn, pq]) <;> omega) | fail) only [pn, pq] at je69
    have jf70 : (-4 ≤ ((b9g_now S19) 1).toInt ∧ ((b9g_now S19) 1).toInt ≤ 4) ∧ (-3 ≤ ((b9g_now S19) 4).toInt ∧ ((b9g_now S19) 4).toInt ≤ 252) ∧ (0 ≤ ((b9g_now S19) 8).toInt ∧ ((b9g_now S19) 8).toInt ≤ 64) ∧ (0 ≤ ((b9g_now S19) 9).toInt ∧ ((b9g_now S19) 9).toInt ≤ 64) ∧ (0 ≤ ((b9g_now S19) 10).toInt ∧ ((b9g_now S19) 10).toInt ≤ 16) ∧ (0 ≤ ((b9g_now S19) 12).toInt ∧ ((b9g_now S19) 12).toInt ≤ 8) := J9g_now hJS19
    have ju70_S19 := hJS19.2
    intro S20 eS20
    have hJS20 : J9 S20 := by rw [eS20]; exact (J9s_isLaid hJS19)
    have hFS20 : F_X9_build S S20 := by rw [eS20]; exact hFS19
    have je71 : ((b9g_now S20) 1).toInt = ((b9g_now S19) 1).toInt := by rw [eS20]
    have je72 : ((b9g_now S20) 4).toInt = ((b9g_now S19) 4).toInt := by rw [eS20]
    have je73 : ((b9g_now S20) 7).toInt = ((b9g_now S19) 7).toInt := by rw [eS20]
    have je74 : ((b9g_now S20) 8).toInt = ((b9g_now S19) 8).toInt := by rw [eS20]
    have je75 : ((b9g_now S20) 9).toInt = ((b9g_now S19) 9).toInt := by rw [eS20]
    have je76 : ((b9g_now S20) 10).toInt = ((b9g_now S19) 10).toInt := by rw [eS20]
    have je77 : ((b9g_now S20) 12).toInt = ((b9g_now S19) 12).toInt := by rw [eS20]
    have jf78 : (-4 ≤ ((b9g_now S20) 1).toInt ∧ ((b9g_now S20) 1).toInt ≤ 4) ∧ (-3 ≤ ((b9g_now S20) 4).toInt ∧ ((b9g_now S20) 4).toInt ≤ 252) ∧ (0 ≤ ((b9g_now S20) 8).toInt ∧ ((b9g_now S20) 8).toInt ≤ 64) ∧ (0 ≤ ((b9g_now S20) 9).toInt ∧ ((b9g_now S20) 9).toInt ≤ 64) ∧ (0 ≤ ((b9g_now S20) 10).toInt ∧ ((b9g_now S20) 10).toInt ≤ 16) ∧ (0 ≤ ((b9g_now S20) 12).toInt ∧ ((b9g_now S20) 12).toInt ≤ 8) := J9g_now hJS20
    have ju78_S20 := hJS20.2
    intro S21 eS21
    have hJS21 : J9 S21 := by rw [eS21]; exact (J9s_areNodesLaid hJS20)
    have hFS21 : F_X9_build S S21 := by rw [eS21]; exact hFS20
    have je79 : ((b9g_now S21) 1).toInt = ((b9g_now S20) 1).toInt := by rw [eS21]
    have je80 : ((b9g_now S21) 4).toInt = ((b9g_now S20) 4).toInt := by rw [eS21]
    have je81 : ((b9g_now S21) 7).toInt = ((b9g_now S20) 7).toInt := by rw [eS21]
    have je82 : ((b9g_now S21) 8).toInt = ((b9g_now S20) 8).toInt := by rw [eS21]
    have je83 : ((b9g_now S21) 9).toInt = ((b9g_now S20) 9).toInt := by rw [eS21]
    have je84 : ((b9g_now S21) 10).toInt = ((b9g_now S20) 10).toInt := by rw [eS21]
    have je85 : ((b9g_now S21) 12).toInt = ((b9g_now S20) 12).toInt := by rw [eS21]
    have jf86 : (-4 ≤ ((b9g_now S21) 1).toInt ∧ ((b9g_now S21) 1).toInt ≤ 4) ∧ (-3 ≤ ((b9g_now S21) 4).toInt ∧ ((b9g_now S21) 4).toInt ≤ 252) ∧ (0 ≤ ((b9g_now S21) 8).toInt ∧ ((b9g_now S21) 8).toInt ≤ 64) ∧ (0 ≤ ((b9g_now S21) 9).toInt ∧ ((b9g_now S21) 9).toInt ≤ 64) ∧ (0 ≤ ((b9g_now S21) 10).toInt ∧ ((b9g_now S21) 10).toInt ≤ 16) ∧ (0 ≤ ((b9g_now S21) 12).toInt ∧ ((b9g_now S21) 12).toInt ≤ 8) := J9g_now hJS21
    have ju86_S21 := hJS21.2
    refine ⟨pt_in (by (try simp (disch := first | ((try simp (disch := first | ((try simp only [pn]) <;> omega) | fail) only [pn, pq]) <;> omega) | fail) only [pn, pq]) <;> (intros; (try simp (disch := first | ((try simp (disch := first | ((try simp only [pn]) <;> omega) | fail) only [pn, pq]) <;> omega) | fail) only [pn, pq]) <;> omega)) (by (try simp (disch := first | ((try simp (disch := first | ((try simp only [pn]) <;> omega) | fail) only [pn, pq]) <;> omega) | fail) only [pn, pq]) <;> (intros; (try simp (disch := first | ((try simp (disch := first | ((try simp only [pn]) <;> omega) | fail) only [pn, pq]) <;> omega) | fail) only [pn, pq]) <;> omega)), ?_⟩
    exact hq _ _ hJS21 hFS21 (by ((try simp (disch := first | ((try simp (disch := first | ((try simp only [pn]) <;> omega) | fail) only [pn, pq]) <;> omega) | fail) only [pn, pq]) <;> (intros; (try simp (disch := first | ((try simp (disch := first | ((try simp only [pn]) <;> omega) | fail) only [pn, pq]) <;> omega) | fail) only [pn, pq]) <;> omega))) (by ((try simp (disch := first | ((try simp (disch := first | ((try simp only [pn]) <;> omega) | fail) only [pn, pq]) <;> omega) | fail) only [pn, pq]) <;> (intros; (try simp (disch := first | ((try simp (disch := first | ((try simp only [pn]) <;> omega) | fail) only [pn, pq]) <;> omega) | fail) only [pn, pq]) <;> omega)))
  · try simp (disch := first | ((try simp (disch := first | ((try simp only [pn]) <;> omega) | fail) only [pn, pq]) <;> omega) | fail) only [pn, pq] at c4
    refine ⟨pt_in (by (try simp (disch := first | ((try simp (disch := first | ((try simp only [pn]) <;> omega) | fail) only [pn, pq]) <;> omega) | fail) only [pn, pq]) <;> (intros; (try simp (disch := first | ((try simp (disch := first | ((try simp only [pn]) <;> omega) | fail) only [pn, pq]) <;> omega) | fail) only [pn, pq]) <;> omega)) (by (try simp (disch := first | ((try simp (disch := first | ((try simp only [pn]) <;> omega) | fail) only [pn, pq]) <;> omega) | fail) only [pn, pq]) <;> (intros; (try simp (disch := first | ((try simp (disch := first | ((try simp only [pn]) <;> omega) | fail) only [pn, pq]) <;> omega) | fail) only [pn, pq]) <;> omega)), ?_⟩
    refine ⟨pt_in (by (try simp (disch := first | ((try simp (disch := first | ((try simp only [pn]) <;> omega) | fail) only [pn, pq]) <;> omega) | fail) only [pn, pq]) <;> (intros; (try simp (disch := first | ((try simp (disch := first | ((try simp only [pn]) <;> omega) | fail) only [pn, pq]) <;> omega) | fail) only [pn, pq]) <;> omega)) (by (try simp (disch := first | ((try simp (disch := first | ((try simp only [pn]) <;> omega) | fail) only [pn, pq]) <;> omega) | fail) only [pn, pq]) <;> (intros; (try simp (disch := first | ((try simp (disch := first | ((try simp only [pn]) <;> omega) | fail) only [pn, pq]) <;> omega) | fail) only [pn, pq]) <;> omega)), ?_⟩
    intro S22 eS22
    have hJS22 : J9 S22 := by rw [eS22]; exact (J9s_keys hJSq2)
    have hFS22 : F_X9_build S S22 := by rw [eS22]; exact hFSq2
    have je88 : ((b9g_now S22) 1).toInt = ((b9g_now Sq2) 1).toInt := by rw [eS22]
    have je89 : ((b9g_now S22) 4).toInt = ((b9g_now Sq2) 4).toInt := by rw [eS22]
    have je90 : ((b9g_now S22) 7).toInt = ((b9g_now Sq2) 7).toInt := by rw [eS22]
    have je91 : ((b9g_now S22) 8).toInt = ((b9g_now Sq2) 8).toInt := by rw [eS22]
    have je92 : ((b9g_now S22) 9).toInt = ((b9g_now Sq2) 9).toInt := by rw [eS22]
    have je93 : ((b9g_now S22) 10).toInt = ((b9g_now Sq2) 10).toInt := by rw [eS22]
    have je94 : ((b9g_now S22) 12).toInt = ((b9g_now Sq2) 12).toInt := by rw [eS22]
    have jf95 : (-4 ≤ ((b9g_now S22) 1).toInt ∧ ((b9g_now S22) 1).toInt ≤ 4) ∧ (-3 ≤ ((b9g_now S22) 4).toInt ∧ ((b9g_now S22) 4).toInt ≤ 252) ∧ (0 ≤ ((b9g_now S22) 8).toInt ∧ ((b9g_now S22) 8).toInt ≤ 64) ∧ (0 ≤ ((b9g_now S22) 9).toInt ∧ ((b9g_now S22) 9).toInt ≤ 64) ∧ (0 ≤ ((b9g_now S22) 10).toInt ∧ ((b9g_now S22) 10).toInt ≤ 16) ∧ (0 ≤ ((b9g_now S22) 12).toInt ∧ ((b9g_now S22) 12).toInt ≤ 8) := J9g_now hJS22
    have ju95_S22 := hJS22.2
    refine ⟨pt_in (by (try simp (disch := first | ((try simp (disch := first | ((try simp only [pn]) <;> omega) | fail) only [pn, pq]) <;> omega) | fail) only [pn, pq]) <;> (intros; (try simp (disch := first | ((try simp (disch := first | ((try simp only [pn]) <;> omega) | fail) only [pn, pq]) <;> omega) | fail) only [pn, pq]) <;> omega)) (by (try simp (disch := first | ((try simp (disch := first | ((try simp only [pn]) <;> omega) | fail) only [pn, pq]) <;> omega) | fail) only [pn, pq]) <;> (intros; (try simp (disch := first | ((try simp (disch := first | ((try simp only [pn]) <;> omega) | fail) only [pn, pq]) <;> omega) | fail) only [pn, pq]) <;> omega)), ?_⟩
    have jr96 := J9g_lengths hJS22 (x1q2).toNatClampNeg
    try simp (disch := first | ((try simp (disch := first | ((try simp only [pn]) <;> omega) | fail) only [pn, pq]) <;> omega) | fail) only [pn, pq] at jr96
    refine ⟨pt_in (by (try simp (disch := first | ((try simp (disch := first | ((try simp only [pn]) <;> omega) | fail) only [pn, pq]) <;> omega) | fail) only [pn, pq]) <;> (intros; (try simp (disch := first | ((try simp (disch := first | ((try simp only [pn]) <;> omega) | fail) only [pn, pq]) <;> omega) | fail) only [pn, pq]) <;> omega)) (by (try simp (disch := first | ((try simp (disch := first | ((try simp only [pn]) <;> omega) | fail) only [pn, pq]) <;> omega) | fail) only [pn, pq]) <;> (intros; (try simp (disch := first | ((try simp (disch := first | ((try simp only [pn]) <;> omega) | fail) only [pn, pq]) <;> omega) | fail) only [pn, pq]) <;> omega)), ?_⟩
    intro S23 eS23
    have hJS23 : J9 S23 := by rw [eS23]; exact (J9s_lengths hJS22 (pt_updr (J9g_lengths hJS22) ⟨(by (try simp (disch := first | ((try simp (disch := first | ((try simp only [pn]) <;> omega) | fail) only [pn, pq]) <;> omega) | fail) only [pn, pq]) <;> (intros; (try simp (disch := first | ((try simp (disch := first | ((try simp only [pn]) <;> omega) | fail) only [pn, pq]) <;> omega) | fail) only [pn, pq]) <;> omega)), (by (try simp (disch := first | ((try simp (disch := first | ((try simp only [pn]) <;> omega) | fail) only [pn, pq]) <;> omega) | fail) only [pn, pq]) <;> (intros; (try simp (disch := first | ((try simp (disch := first | ((try simp only [pn]) <;> omega) | fail) only [pn, pq]) <;> omega) | fail) only [pn, pq]) <;> omega))⟩))
    have hFS23 : F_X9_build S S23 := by rw [eS23]; exact hFS22
    have je97 : ((b9g_now S23) 1).toInt = ((b9g_now S22) 1).toInt := by rw [eS23]
    have je98 : ((b9g_now S23) 4).toInt = ((b9g_now S22) 4).toInt := by rw [eS23]
    have je99 : ((b9g_now S23) 7).toInt = ((b9g_now S22) 7).toInt := by rw [eS23]
    have je100 : ((b9g_now S23) 8).toInt = ((b9g_now S22) 8).toInt := by rw [eS23]
    have je101 : ((b9g_now S23) 9).toInt = ((b9g_now S22) 9).toInt := by rw [eS23]
    have je102 : ((b9g_now S23) 10).toInt = ((b9g_now S22) 10).toInt := by rw [eS23]
    have je103 : ((b9g_now S23) 12).toInt = ((b9g_now S22) 12).toInt := by rw [eS23]
    have jf104 : (-4 ≤ ((b9g_now S23) 1).toInt ∧ ((b9g_now S23) 1).toInt ≤ 4) ∧ (-3 ≤ ((b9g_now S23) 4).toInt ∧ ((b9g_now S23) 4).toInt ≤ 252) ∧ (0 ≤ ((b9g_now S23) 8).toInt ∧ ((b9g_now S23) 8).toInt ≤ 64) ∧ (0 ≤ ((b9g_now S23) 9).toInt ∧ ((b9g_now S23) 9).toInt ≤ 64) ∧ (0 ≤ ((b9g_now S23) 10).toInt ∧ ((b9g_now S23) 10).toInt ≤ 16) ∧ (0 ≤ ((b9g_now S23) 12).toInt ∧ ((b9g_now S23) 12).toInt ≤ 8) := J9g_now hJS23
    have ju104_S23 := hJS23.2
    have ja105 : ((b9g_lengths S23) (((64 : Int32) + x1q2)).toNatClampNeg).toInt = (((b9g_lengths S22) (x1q2).toNatClampNeg)).toInt := by rw [eS23]; exact pt_upds
    try simp (disch := first | ((try simp (disch := first | ((try simp only [pn]) <;> omega) | fail) only [pn, pq]) <;> omega) | fail) only [pn, pq] at ja105
    refine ⟨_, ?_, ?_, ?_, ?_, ?_, ?_, rfl⟩
    · (try simp (disch := first | ((try simp (disch := first | ((try simp only [pn]) <;> omega) | fail) only [pn, pq]) <;> omega) | fail) only [pn, pq]) <;> (intros; (try simp (disch := first | ((try simp (disch := first | ((try simp only [pn]) <;> omega) | fail) only [pn, pq]) <;> omega) | fail) only [pn, pq]) <;> omega)
    · exact hJS23
    · exact hFS23
    · (try simp (disch := first | ((try simp (disch := first | ((try simp only [pn]) <;> omega) | fail) only [pn, pq]) <;> omega) | fail) only [pn, pq]) <;> (intros; (try simp (disch := first | ((try simp (disch := first | ((try simp only [pn]) <;> omega) | fail) only [pn, pq]) <;> omega) | fail) only [pn, pq]) <;> omega)
    · ((try simp (disch := first | ((try simp (disch := first | ((try simp only [pn]) <;> omega) | fail) only [pn, pq]) <;> omega) | fail) only [pn, pq]) <;> (intros; (try simp (disch := first | ((try simp (disch := first | ((try simp only [pn]) <;> omega) | fail) only [pn, pq]) <;> omega) | fail) only [pn, pq]) <;> omega))
    · ((try simp (disch := first | ((try simp (disch := first | ((try simp only [pn]) <;> omega) | fail) only [pn, pq]) <;> omega) | fail) only [pn, pq]) <;> (intros; (try simp (disch := first | ((try simp (disch := first | ((try simp only [pn]) <;> omega) | fail) only [pn, pq]) <;> omega) | fail) only [pn, pq]) <;> omega))
set_option maxRecDepth 20000 in
set_option maxHeartbeats 1000000 in
theorem sf_X9_hashBits {S : bT9} (hJ : K9 S) {Q : Int32 → Prop} (hq : ∀ r : Int32, Q r) : wp_X9_hashBits S Q := by
  unfold wp_X9_hashBits
  have jf1 : (-4 ≤ ((b9g_now S) 1).toInt ∧ ((b9g_now S) 1).toInt ≤ 4) ∧ (-3 ≤ ((b9g_now S) 4).toInt ∧ ((b9g_now S) 4).toInt ≤ 252) ∧ (0 ≤ ((b9g_now S) 8).toInt ∧ ((b9g_now S) 8).toInt ≤ 64) ∧ (0 ≤ ((b9g_now S) 9).toInt ∧ ((b9g_now S) 9).toInt ≤ 64) ∧ (0 ≤ ((b9g_now S) 10).toInt ∧ ((b9g_now S) 10).toInt ≤ 16) ∧ (0 ≤ ((b9g_now S) 12).toInt ∧ ((b9g_now S) 12).toInt ≤ 8) := K9g_now hJ
  refine ⟨pt_in (by (try simp (disch := first | ((try simp (disch := first | ((try simp only [pn]) <;> omega) | fail) only [pn, pq]) <;> omega) | fail) only [pn, pq]) <;> (intros; (try simp (disch := first | ((try simp (disch := first | ((try simp only [pn]) <;> omega) | fail) only [pn, pq]) <;> omega) | fail) only [pn, pq]) <;> omega)) (by (try simp (disch := first | ((try simp (disch := first | ((try simp only [pn]) <;> omega) | fail) only [pn, pq]) <;> omega) | fail) only [pn, pq]) <;> (intros; (try simp (disch := first | ((try simp (disch := first | ((try simp only [pn]) <;> omega) | fail) only [pn, pq]) <;> omega) | fail) only [pn, pq]) <;> omega)), ?_⟩
  refine ⟨(by (try simp (disch := first | ((try simp (disch := first | ((try simp only [pn]) <;> omega) | fail) only [pn, pq]) <;> omega) | fail) only [pn, pq]) <;> (intros; (try simp (disch := first | ((try simp (disch := first | ((try simp only [pn]) <;> omega) | fail) only [pn, pq]) <;> omega) | fail) only [pn, pq]) <;> omega)), ?_⟩
  refine ⟨fun c1 => ?_, fun c1 => ?_⟩
  · try simp (disch := first | ((try simp (disch := first | ((try simp only [pn]) <;> omega) | fail) only [pn, pq]) <;> omega) | fail) only [pn, pq] at c1
    exact hq _ 
  · try simp (disch := first | ((try simp (disch := first | ((try simp only [pn]) <;> omega) | fail) only [pn, pq]) <;> omega) | fail) only [pn, pq] at c1
    refine ⟨pt_in (by (try simp (disch := first | ((try simp (disch := first | ((try simp only [pn]) <;> omega) | fail) only [pn, pq]) <;> omega) | fail) only [pn, pq]) <;> (intros; (try simp (disch := first | ((try simp (disch := first | ((try simp only [pn]) <;> omega) | fail) only [pn, pq]) <;> omega) | fail) only [pn, pq]) <;> omega)) (by (try simp (disch := first | ((try simp (disch := first | ((try simp only [pn]) <;> omega) | fail) only [pn, pq]) <;> omega) | fail) only [pn, pq]) <;> (intros; (try simp (disch := first | ((try simp (disch := first | ((try simp only [pn]) <;> omega) | fail) only [pn, pq]) <;> omega) | fail) only [pn, pq]) <;> omega)), ?_⟩
    exact hq _ 
set_option maxRecDepth 20000 in
set_option maxHeartbeats 1000000 in
theorem sf_X9_nextBits {S : bT9} (hJ : K9 S) {Q : Int32 → Prop} (hq : ∀ r : Int32, (0 ≤ r.toInt) → (r.toInt ≤ 8) → Q r) : wp_X9_nextBits S Q := by
  unfold wp_X9_nextBits
  have jf1 : (-4 ≤ ((b9g_now S) 1).toInt ∧ ((b9g_now S) 1).toInt ≤ 4) ∧ (-3 ≤ ((b9g_now S) 4).toInt ∧ ((b9g_now S) 4).toInt ≤ 252) ∧ (0 ≤ ((b9g_now S) 8).toInt ∧ ((b9g_now S) 8).toInt ≤ 64) ∧ (0 ≤ ((b9g_now S) 9).toInt ∧ ((b9g_now S) 9).toInt ≤ 64) ∧ (0 ≤ ((b9g_now S) 10).toInt ∧ ((b9g_now S) 10).toInt ≤ 16) ∧ (0 ≤ ((b9g_now S) 12).toInt ∧ ((b9g_now S) 12).toInt ≤ 8) := K9g_now hJ
  refine ⟨pt_in (by (try simp (disch := first | ((try simp (disch := first | ((try simp only [pn]) <;> omega) | fail) only [pn, pq]) <;> omega) | fail) only [pn, pq]) <;> (intros; (try simp (disch := first | ((try simp (disch := first | ((try simp only [pn]) <;> omega) | fail) only [pn, pq]) <;> omega) | fail) only [pn, pq]) <;> omega)) (by (try simp (disch := first | ((try simp (disch := first | ((try simp only [pn]) <;> omega) | fail) only [pn, pq]) <;> omega) | fail) only [pn, pq]) <;> (intros; (try simp (disch := first | ((try simp (disch := first | ((try simp only [pn]) <;> omega) | fail) only [pn, pq]) <;> omega) | fail) only [pn, pq]) <;> omega)), ?_⟩
  refine ⟨fun c1 => ?_, fun c1 => ?_⟩
  · try simp (disch := first | ((try simp (disch := first | ((try simp only [pn]) <;> omega) | fail) only [pn, pq]) <;> omega) | fail) only [pn, pq] at c1
    exact hq _ (by (try simp (disch := first | ((try simp (disch := first | ((try simp only [pn]) <;> omega) | fail) only [pn, pq]) <;> omega) | fail) only [pn, pq]) <;> (intros; (try simp (disch := first | ((try simp (disch := first | ((try simp only [pn]) <;> omega) | fail) only [pn, pq]) <;> omega) | fail) only [pn, pq]) <;> omega)) (by (try simp (disch := first | ((try simp (disch := first | ((try simp only [pn]) <;> omega) | fail) only [pn, pq]) <;> omega) | fail) only [pn, pq]) <;> (intros; (try simp (disch := first | ((try simp (disch := first | ((try simp only [pn]) <;> omega) | fail) only [pn, pq]) <;> omega) | fail) only [pn, pq]) <;> omega))
  · try simp (disch := first | ((try simp (disch := first | ((try simp only [pn]) <;> omega) | fail) only [pn, pq]) <;> omega) | fail) only [pn, pq] at c1
    refine ⟨pt_in (by (try simp (disch := first | ((try simp (disch := first | ((try simp only [pn]) <;> omega) | fail) only [pn, pq]) <;> omega) | fail) only [pn, pq]) <;> (intros; (try simp (disch := first | ((try simp (disch := first | ((try simp only [pn]) <;> omega) | fail) only [pn, pq]) <;> omega) | fail) only [pn, pq]) <;> omega)) (by (try simp (disch := first | ((try simp (disch := first | ((try simp only [pn]) <;> omega) | fail) only [pn, pq]) <;> omega) | fail) only [pn, pq]) <;> (intros; (try simp (disch := first | ((try simp (disch := first | ((try simp only [pn]) <;> omega) | fail) only [pn, pq]) <;> omega) | fail) only [pn, pq]) <;> omega)), ?_⟩
    exact hq _ (by (try simp (disch := first | ((try simp (disch := first | ((try simp only [pn]) <;> omega) | fail) only [pn, pq]) <;> omega) | fail) only [pn, pq]) <;> (intros; (try simp (disch := first | ((try simp (disch := first | ((try simp only [pn]) <;> omega) | fail) only [pn, pq]) <;> omega) | fail) only [pn, pq]) <;> omega)) (by (try simp (disch := first | ((try simp (disch := first | ((try simp only [pn]) <;> omega) | fail) only [pn, pq]) <;> omega) | fail) only [pn, pq]) <;> (intros; (try simp (disch := first | ((try simp (disch := first | ((try simp only [pn]) <;> omega) | fail) only [pn, pq]) <;> omega) | fail) only [pn, pq]) <;> omega))
theorem sf_X9_isAlike {S : bT9} (hJ : K9 S) {a1 : Int32} {a2 : Int32} {a3 : Int32} {Q : Int32 → Prop} (hp0 : 0 ≤ a1.toInt) (hp1 : a1.toInt ≤ 63) (hp2 : 0 ≤ a2.toInt) (hp3 : a2.toInt ≤ 63) (hq : ∀ r : Int32, bf_bool r → ((r.toInt = 1 ∧ AK (b9g_keys S) a3 a1.toNatClampNeg a2.toNatClampNeg) ∨ (r.toInt = 0 ∧ ¬ AK (b9g_keys S) a3 a1.toNatClampNeg a2.toNatClampNeg)) → Q r) : wp_X9_isAlike S a1 a2 a3 Q := by
  unfold wp_X9_isAlike
  refine sf_X9_key hJ hp0 hp1 (fun r1 e1 => sf_X9_cut hJ (fun r3 e3 => sf_X9_key hJ hp2 hp3 (fun r5 e5 => sf_X9_cut hJ (fun r7 e7 => ?_))))
  rw [ix64 hp0 hp1] at e1
  rw [ix64 hp2 hp3] at e5
  have hAK : AK (b9g_keys S) a3 a1.toNatClampNeg a2.toNatClampNeg ↔ r3 = r7 := by
    unfold AK
    rw [e3, e7, e1, e5]
  refine ⟨fun c => ⟨rfl, hq _ rfl (Or.inr ⟨rfl, ?_⟩)⟩, fun c => ⟨rfl, hq _ rfl (Or.inl ⟨rfl, ?_⟩)⟩⟩
  · intro h
    apply c
    rw [hAK.mp h]
    exact (lg_cmp_eq _ _).mpr rfl
  · rw [hAK]
    exact (lg_cmp_eq _ _).mp c
theorem sf_X9_firstLike {S : bT9} (hJ : K9 S) {a1 : Int32} {a2 : Int32} {Q : Int32 → Prop} (hp0 : 0 ≤ a1.toInt) (hp1 : a1.toInt ≤ 63) (hq : ∀ r : Int32, (0 ≤ r.toInt) → (r.toInt ≤ a1.toInt) → (∀ j : Nat, r.toInt ≤ j → (j : Int) < a1.toInt → a2.toInt ≤ (b9g_beginning S j).toInt ∧ AK (b9g_keys S) a2 j a1.toNatClampNeg) → (∀ j : Nat, (j : Int) + 1 = r.toInt → a2.toInt ≤ (b9g_beginning S j).toInt → ¬ AK (b9g_keys S) a2 j a1.toNatClampNeg) → Q r) : wp_X9_firstLike S a1 a2 Q := by
  unfold wp_X9_firstLike wp_X9_firstLike_2
  refine ⟨fun n x1 x2 x3 => x1 = a1 ∧ x2 = a2 ∧ 0 ≤ x3.toInt ∧ x3.toInt ≤ a1.toInt ∧ (∀ j : Nat, x3.toInt ≤ j → (j : Int) < a1.toInt → a2.toInt ≤ (b9g_beginning S j).toInt ∧ AK (b9g_keys S) a2 j a1.toNatClampNeg) ∧ n = x3.toInt.toNat, ⟨_, rfl, rfl, hp0, Int.le_refl _, fun j h1 h2 => by omega, rfl⟩, ?_⟩
  rintro n x1 x2 x3 ⟨rfl, rfl, h0, h1, h2, hn⟩
  unfold wp_X9_firstLike_2b
  refine ⟨fun c => ?_, fun c => ?_⟩
  · simp (disch := first | ((try simp (disch := first | ((try simp only [pn]) <;> omega) | fail) only [pn, pq]) <;> omega) | fail) only [pn, pq] at c
    exact hq _ h0 h1 h2 (fun j e => by omega)
  · simp (disch := first | ((try simp (disch := first | ((try simp only [pn]) <;> omega) | fail) only [pn, pq]) <;> omega) | fail) only [pn, pq] at c
    have e1 : (x3 - 1).toInt = x3.toInt - 1 := by rw [pt_sub (by rw [pl_1]; omega) (by rw [pl_1]; omega), pl_1]
    have e2 := pt_clamp (i := x3 - 1) (by omega)
    refine ⟨pt_in (by omega) (by omega), fun c2 => ?_, fun c2 => ?_⟩
    · simp (disch := first | ((try simp (disch := first | ((try simp only [pn]) <;> omega) | fail) only [pn, pq]) <;> omega) | fail) only [pn, pq] at c2
      refine hq _ h0 h1 h2 (fun j e h => ?_)
      have : j = (x3 - 1).toNatClampNeg := by omega
      subst this
      omega
    · simp (disch := first | ((try simp (disch := first | ((try simp only [pn]) <;> omega) | fail) only [pn, pq]) <;> omega) | fail) only [pn, pq] at c2
      refine sf_X9_isAlike hJ (by omega) (by omega) hp0 hp1 (fun r1 hz hr => ⟨fun c3 => ?_, fun c3 => ?_⟩)
      · simp (disch := first | ((try simp (disch := first | ((try simp only [pn]) <;> omega) | fail) only [pn, pq]) <;> omega) | fail) only [pn, pq] at c3
        refine hq _ h0 h1 h2 (fun j e h => ?_)
        have : j = (x3 - 1).toNatClampNeg := by omega
        subst this
        rcases hr with hr | hr
        · omega
        · exact hr.2
      · simp (disch := first | ((try simp (disch := first | ((try simp only [pn]) <;> omega) | fail) only [pn, pq]) <;> omega) | fail) only [pn, pq] at c3
        have hA : AK (b9g_keys S) x2 (x3 - 1).toNatClampNeg x1.toNatClampNeg := by
          rcases hr with hr | hr
          · exact hr.2
          · omega
        refine ⟨_, ?_, rfl, rfl, by omega, by omega, ?_, rfl⟩
        · omega
        · intro j h3 h4
          by_cases e : j = (x3 - 1).toNatClampNeg
          · subst e
            exact ⟨by omega, hA⟩
          · exact h2 j (by omega) h4
theorem sf_X9_manyLike {S : bT9} (hJ : K9 S) {a1 : Int32} {a2 : Int32} {Q : Int32 → Prop} (hp0 : 0 ≤ a1.toInt) (hp1 : a1.toInt ≤ (b9g_now S 9).toInt) (hp2 : a1.toInt ≤ 63) (hq : ∀ r : Int32, (0 ≤ r.toInt) → (a1.toInt + r.toInt ≤ (b9g_now S 9).toInt) → (∀ j : Nat, a1.toInt ≤ j → (j : Int) < a1.toInt + r.toInt → a2.toInt ≤ (b9g_beginning S j).toInt ∧ AK (b9g_keys S) a2 j a1.toNatClampNeg) → (∀ e : Nat, (e : Int) = a1.toInt + r.toInt → (e : Int) < (b9g_now S 9).toInt → a2.toInt ≤ (b9g_beginning S e).toInt → ¬ AK (b9g_keys S) a2 e a1.toNatClampNeg) → Q r) : wp_X9_manyLike S a1 a2 Q := by
  unfold wp_X9_manyLike wp_X9_manyLike_2
  have jn := (K9g_now hJ).2.2.2.1
  refine ⟨fun n x1 x2 x3 => x1 = a1 ∧ x2 = a2 ∧ a1.toInt ≤ x3.toInt ∧ x3.toInt ≤ (b9g_now S 9).toInt ∧ (∀ j : Nat, a1.toInt ≤ j → (j : Int) < x3.toInt → a2.toInt ≤ (b9g_beginning S j).toInt ∧ AK (b9g_keys S) a2 j a1.toNatClampNeg) ∧ n = (64 - x3.toInt).toNat, ⟨_, rfl, rfl, Int.le_refl _, hp1, fun j h1 h2 => by omega, rfl⟩, ?_⟩
  rintro n x1 x2 x3 ⟨rfl, rfl, h0, h1, h2, hn⟩
  unfold wp_X9_manyLike_2b
  have es : (x3 - x1).toInt = x3.toInt - x1.toInt := pt_sub (by omega) (by omega)
  have e9 : b9g_now S ((9 : Int32)).toNatClampNeg = b9g_now S 9 := rfl
  have e2 := pt_clamp (i := x3) (by omega)
  refine ⟨pt_in (by decide) (by decide), fun c => ?_, fun c => ?_⟩
  · simp (disch := first | ((try simp (disch := first | ((try simp only [pn]) <;> omega) | fail) only [pn, pq]) <;> omega) | fail) only [pn, pq] at c
    refine hq _ (by omega) (by omega) (fun j h3 h4 => h2 j h3 (by omega)) (fun e h3 h4 => by omega)
  · simp (disch := first | ((try simp (disch := first | ((try simp only [pn]) <;> omega) | fail) only [pn, pq]) <;> omega) | fail) only [pn, pq] at c
    refine ⟨pt_in (by omega) (by omega), fun c2 => ?_, fun c2 => ?_⟩
    · simp (disch := first | ((try simp (disch := first | ((try simp only [pn]) <;> omega) | fail) only [pn, pq]) <;> omega) | fail) only [pn, pq] at c2
      refine hq _ (by omega) (by omega) (fun j h3 h4 => h2 j h3 (by omega)) (fun e h3 h4 h5 => ?_)
      have : e = x3.toNatClampNeg := by omega
      subst this
      omega
    · simp (disch := first | ((try simp (disch := first | ((try simp only [pn]) <;> omega) | fail) only [pn, pq]) <;> omega) | fail) only [pn, pq] at c2
      refine sf_X9_isAlike hJ (by omega) (by omega) hp0 hp2 (fun r1 hz hr => ⟨fun c3 => ?_, fun c3 => ?_⟩)
      · simp (disch := first | ((try simp (disch := first | ((try simp only [pn]) <;> omega) | fail) only [pn, pq]) <;> omega) | fail) only [pn, pq] at c3
        refine hq _ (by omega) (by omega) (fun j h3 h4 => h2 j h3 (by omega)) (fun e h3 h4 h5 => ?_)
        have : e = x3.toNatClampNeg := by omega
        subst this
        rcases hr with hr | hr
        · omega
        · exact hr.2
      · simp (disch := first | ((try simp (disch := first | ((try simp only [pn]) <;> omega) | fail) only [pn, pq]) <;> omega) | fail) only [pn, pq] at c3
        have hA : AK (b9g_keys S) x2 x3.toNatClampNeg x1.toNatClampNeg := by
          rcases hr with hr | hr
          · exact hr.2
          · omega
        have e1 : (x3 + 1).toInt = x3.toInt + 1 := by rw [pt_add (by rw [pl_1]; omega) (by rw [pl_1]; omega), pl_1]
        refine ⟨_, ?_, rfl, rfl, by omega, by omega, ?_, rfl⟩
        · omega
        · intro j h3 h4
          by_cases e : j = x3.toNatClampNeg
          · subst e
            exact ⟨by omega, hA⟩
          · exact h2 j h3 (by omega)
theorem sf_X9_childAt {S : bT9} (hJ : K9 S) {a1 : Int32} {a2 : Int32} {Q : Int32 → Prop} (hp0 : 0 ≤ a1.toInt) (hp1 : a1.toInt < (b9g_nodeMany S).toInt) (hq : ∀ r : Int32, (r.toInt = -1 → ∀ y : Nat, a1.toNatClampNeg < y → (y : Int) < (b9g_nodeMany S).toInt → (b9g_nodeLevel S y).toInt = (b9g_nodeLevel S a1.toNatClampNeg).toInt + 1 → (b9g_nodeLeaf S y).toInt ≠ a2.toInt) → Q r) : wp_X9_childAt S a1 a2 Q := by
  have jx := ND_at (K9g_ND hJ) hp0 hp1
  have jm := K9g_nodeMany hJ
  have hN := K9g_ND hJ
  unfold wp_X9_childAt wp_X9_childAt_14
  have e1 : (a1 + 1).toInt = a1.toInt + 1 := by rw [pt_add (by rw [pl_1]; omega) (by rw [pl_1]; omega), pl_1]
  have el : (b9g_nodeLevel S a1.toNatClampNeg + 1).toInt = (b9g_nodeLevel S a1.toNatClampNeg).toInt + 1 := by rw [pt_add (by rw [pl_1]; omega) (by rw [pl_1]; omega), pl_1]
  have ea := pt_clamp hp0
  refine ⟨pt_in (by omega) (by omega), fun n x2 x3 x4 => x2 = a2 ∧ x3.toInt = (b9g_nodeLevel S a1.toNatClampNeg).toInt + 1 ∧ a1.toInt < x4.toInt ∧ (∀ y : Nat, a1.toNatClampNeg < y → (y : Int) < x4.toInt → (b9g_nodeLevel S y).toInt = (b9g_nodeLevel S a1.toNatClampNeg).toInt + 1 → (b9g_nodeLeaf S y).toInt ≠ a2.toInt) ∧ n = ((b9g_nodeMany S).toInt + 1 - x4.toInt).toNat, ⟨_, rfl, el, by omega, fun y h1 h2 => by omega, rfl⟩, ?_⟩
  rintro n x2 x3 x4 ⟨rfl, h3, h4, h5, hn⟩
  unfold wp_X9_childAt_14b
  refine ⟨fun c => ?_, fun c => ?_⟩
  · simp (disch := first | ((try simp (disch := first | ((try simp only [pn]) <;> omega) | fail) only [pn, pq]) <;> omega) | fail) only [pn, pq] at c
    exact hq _ (fun _ y h1 h2 => h5 y h1 (by omega))
  · simp (disch := first | ((try simp (disch := first | ((try simp only [pn]) <;> omega) | fail) only [pn, pq]) <;> omega) | fail) only [pn, pq] at c
    have jy := ND_at (K9g_ND hJ) (x := x4) (by omega) (by omega)
    have e4 := pt_clamp (i := x4) (by omega)
    refine ⟨pt_in (by omega) (by omega), fun c2 => ?_, fun c2 => ?_⟩
    · simp (disch := first | ((try simp (disch := first | ((try simp only [pn]) <;> omega) | fail) only [pn, pq]) <;> omega) | fail) only [pn, pq] at c2
      refine hq _ (fun _ y h1 h2 h6 => ?_)
      by_cases e : (y : Int) < x4.toInt
      · exact h5 y h1 e h6
      · exfalso
        by_cases e2 : y = x4.toNatClampNeg
        · subst e2
          omega
        · have p := ND_pos hN (show x4.toNatClampNeg < y by omega) h2
          have b := (hN y h2).1
          omega
    · simp (disch := first | ((try simp (disch := first | ((try simp only [pn]) <;> omega) | fail) only [pn, pq]) <;> omega) | fail) only [pn, pq] at c2
      have e5 : (x4 + 1).toInt = x4.toInt + 1 := by rw [pt_add (by rw [pl_1]; omega) (by rw [pl_1]; omega), pl_1]
      have next : ((b9g_nodeLevel S x4.toNatClampNeg).toInt = (b9g_nodeLevel S a1.toNatClampNeg).toInt + 1 → (b9g_nodeLeaf S x4.toNatClampNeg).toInt ≠ x2.toInt) → wp_X9_childAt_59 S x2 x3 x4 Q (fun x2_1 x3_1 x4_1 => ∃ n2 : Nat, n2 < n ∧ x2_1 = x2 ∧ x3_1.toInt = (b9g_nodeLevel S a1.toNatClampNeg).toInt + 1 ∧ a1.toInt < x4_1.toInt ∧ (∀ y : Nat, a1.toNatClampNeg < y → (y : Int) < x4_1.toInt → (b9g_nodeLevel S y).toInt = (b9g_nodeLevel S a1.toNatClampNeg).toInt + 1 → (b9g_nodeLeaf S y).toInt ≠ x2.toInt) ∧ n2 = ((b9g_nodeMany S).toInt + 1 - x4_1.toInt).toNat) := by
        intro hx
        unfold wp_X9_childAt_59
        refine ⟨_, ?_, rfl, h3, by omega, ?_, rfl⟩
        · omega
        · intro y h1 h2 h6
          by_cases e : y = x4.toNatClampNeg
          · subst e
            exact hx h6
          · exact h5 y h1 (by omega) h6
      refine ⟨pt_in (by omega) (by omega), fun c3 => next (fun h => ?_), fun c3 => ⟨pt_in (by omega) (by omega), fun c4 => next (fun _ => ?_), fun c4 => hq _ (fun h => by omega)⟩⟩
      · simp (disch := first | ((try simp (disch := first | ((try simp only [pn]) <;> omega) | fail) only [pn, pq]) <;> omega) | fail) only [pn, pq] at c3
        omega
      · simp (disch := first | ((try simp (disch := first | ((try simp only [pn]) <;> omega) | fail) only [pn, pq]) <;> omega) | fail) only [pn, pq] at c4
        exact c4
theorem sf_X9_isBranch {S : bT9} (hJ : K9 S) {a1 : Int32} {a2 : Int32} {Q : Int32 → Prop} (hp0 : 0 ≤ a1.toInt) (hp1 : a1.toInt < (b9g_nodeMany S).toInt) (hp2 : (b9g_nodeLeaf S a1.toNatClampNeg).toInt ≤ a2.toInt) (hp3 : a2.toInt ≤ 63) (hq : ∀ r : Int32, bf_bool r → (r.toInt = 0 ∨ BRd S a1 a2) → Q r) : wp_X9_isBranch S a1 a2 Q := by
  have jx := ND_at (K9g_ND hJ) hp0 hp1
  have jm := K9g_nodeMany hJ
  unfold wp_X9_isBranch
  have e2 := pt_clamp (i := a2) (by omega)
  refine ⟨pt_in (by omega) (by omega), pt_in (by omega) (by omega), fun c => ⟨rfl, hq _ rfl (Or.inl rfl)⟩, fun c => ?_⟩
  simp (disch := first | ((try simp (disch := first | ((try simp only [pn]) <;> omega) | fail) only [pn, pq]) <;> omega) | fail) only [pn, pq] at c
  refine ⟨pt_in (by omega) (by omega), fun c2 => ?_, fun c2 => ?_⟩
  · unfold wp_X9_isBranch_53
    exact ⟨rfl, hq _ rfl (Or.inr (show BRd S a1 a2 from ⟨by omega, Or.inl (by rw [c2])⟩))⟩
  · simp (disch := first | ((try simp (disch := first | ((try simp only [pn]) <;> omega) | fail) only [pn, pq]) <;> omega) | fail) only [pn, pq] at c2
    have e1 : (a2 - 1).toInt = a2.toInt - 1 := by rw [pt_sub (by rw [pl_1]; omega) (by rw [pl_1]; omega), pl_1]
    have e3 := pt_clamp (i := a2 - 1) (by omega)
    refine ⟨pt_in (by omega) (by omega), fun c3 => ?_, fun c3 => ?_⟩
    · simp (disch := first | ((try simp (disch := first | ((try simp only [pn]) <;> omega) | fail) only [pn, pq]) <;> omega) | fail) only [pn, pq] at c3
      unfold wp_X9_isBranch_53
      exact ⟨rfl, hq _ rfl (Or.inr (show BRd S a1 a2 from ⟨by omega, Or.inr ⟨(a2 - 1).toNatClampNeg, by omega, Or.inl c3⟩⟩))⟩
    · refine sf_X9_isAlike hJ (by omega) (by omega) (by omega) (by omega) (fun r1 hz hr => ⟨fun c4 => ⟨rfl, hq _ rfl (Or.inl rfl)⟩, fun c4 => ?_⟩)
      simp (disch := first | ((try simp (disch := first | ((try simp only [pn]) <;> omega) | fail) only [pn, pq]) <;> omega) | fail) only [pn, pq] at c4
      unfold wp_X9_isBranch_53
      refine ⟨rfl, hq _ rfl (Or.inr (show BRd S a1 a2 from ⟨by omega, Or.inr ⟨(a2 - 1).toNatClampNeg, by omega, Or.inr ?_⟩⟩))⟩
      rcases hr with hr | hr
      · omega
      · exact hr.2
set_option maxRecDepth 20000 in
set_option maxHeartbeats 1000000 in
theorem sf_X9_isNodeEnd {S : bT9} (hJ : K9 S) {a1 : Int32} {Q : Int32 → Prop} (hp0 : 0 ≤ a1.toInt) (hp1 : a1.toInt < (b9g_nodeMany S).toInt) (hq : ∀ r : Int32, bf_bool r → (r.toInt = 0 ∨ (b9g_beginning S (b9g_nodeLeaf S a1.toNatClampNeg).toNatClampNeg).toInt = (b9g_nodeLevel S a1.toNatClampNeg).toInt) → Q r) : wp_X9_isNodeEnd S a1 Q := by
  unfold wp_X9_isNodeEnd
  have jf1 := K9g_nodeMany hJ
  have jf2 : (-4 ≤ ((b9g_now S) 1).toInt ∧ ((b9g_now S) 1).toInt ≤ 4) ∧ (-3 ≤ ((b9g_now S) 4).toInt ∧ ((b9g_now S) 4).toInt ≤ 252) ∧ (0 ≤ ((b9g_now S) 8).toInt ∧ ((b9g_now S) 8).toInt ≤ 64) ∧ (0 ≤ ((b9g_now S) 9).toInt ∧ ((b9g_now S) 9).toInt ≤ 64) ∧ (0 ≤ ((b9g_now S) 10).toInt ∧ ((b9g_now S) 10).toInt ≤ 16) ∧ (0 ≤ ((b9g_now S) 12).toInt ∧ ((b9g_now S) 12).toInt ≤ 8) := K9g_now hJ
  have rga1 := pt_rg a1
  refine ⟨pt_in (by (try simp (disch := first | ((try simp (disch := first | ((try simp only [pn]) <;> omega) | fail) only [pn, pq]) <;> omega) | fail) only [pn, pq]) <;> (intros; (try simp (disch := first | ((try simp (disch := first | ((try simp only [pn]) <;> omega) | fail) only [pn, pq]) <;> omega) | fail) only [pn, pq]) <;> omega)) (by (try simp (disch := first | ((try simp (disch := first | ((try simp only [pn]) <;> omega) | fail) only [pn, pq]) <;> omega) | fail) only [pn, pq]) <;> (intros; (try simp (disch := first | ((try simp (disch := first | ((try simp only [pn]) <;> omega) | fail) only [pn, pq]) <;> omega) | fail) only [pn, pq]) <;> omega)), ?_⟩
  have jr3 := ND_at (K9g_ND hJ) (x := a1) (by (try simp (disch := first | ((try simp (disch := first | ((try simp only [pn]) <;> omega) | fail) only [pn, pq]) <;> omega) | fail) only [pn, pq]) <;> (intros; (try simp (disch := first | ((try simp (disch := first | ((try simp only [pn]) <;> omega) | fail) only [pn, pq]) <;> omega) | fail) only [pn, pq]) <;> omega)) (by (try simp (disch := first | ((try simp (disch := first | ((try simp only [pn]) <;> omega) | fail) only [pn, pq]) <;> omega) | fail) only [pn, pq]) <;> (intros; (try simp (disch := first | ((try simp (disch := first | ((try simp only [pn]) <;> omega) | fail) only [pn, pq]) <;> omega) | fail) only [pn, pq]) <;> omega))
  try simp (disch := first | ((try simp (disch := first | ((try simp only [pn]) <;> omega) | fail) only [pn, pq]) <;> omega) | fail) only [pn, pq] at jr3
  refine ⟨pt_in (by (try simp (disch := first | ((try simp (disch := first | ((try simp only [pn]) <;> omega) | fail) only [pn, pq]) <;> omega) | fail) only [pn, pq]) <;> (intros; (try simp (disch := first | ((try simp (disch := first | ((try simp only [pn]) <;> omega) | fail) only [pn, pq]) <;> omega) | fail) only [pn, pq]) <;> omega)) (by (try simp (disch := first | ((try simp (disch := first | ((try simp only [pn]) <;> omega) | fail) only [pn, pq]) <;> omega) | fail) only [pn, pq]) <;> (intros; (try simp (disch := first | ((try simp (disch := first | ((try simp only [pn]) <;> omega) | fail) only [pn, pq]) <;> omega) | fail) only [pn, pq]) <;> omega)), ?_⟩
  have jr4 := K9g_beginning hJ (((b9g_nodeLeaf S) (a1).toNatClampNeg)).toNatClampNeg
  try simp (disch := first | ((try simp (disch := first | ((try simp only [pn]) <;> omega) | fail) only [pn, pq]) <;> omega) | fail) only [pn, pq] at jr4
  refine ⟨pt_in (by (try simp (disch := first | ((try simp (disch := first | ((try simp only [pn]) <;> omega) | fail) only [pn, pq]) <;> omega) | fail) only [pn, pq]) <;> (intros; (try simp (disch := first | ((try simp (disch := first | ((try simp only [pn]) <;> omega) | fail) only [pn, pq]) <;> omega) | fail) only [pn, pq]) <;> omega)) (by (try simp (disch := first | ((try simp (disch := first | ((try simp only [pn]) <;> omega) | fail) only [pn, pq]) <;> omega) | fail) only [pn, pq]) <;> (intros; (try simp (disch := first | ((try simp (disch := first | ((try simp only [pn]) <;> omega) | fail) only [pn, pq]) <;> omega) | fail) only [pn, pq]) <;> omega)), ?_⟩
  have jr5 := ND_at (K9g_ND hJ) (x := a1) (by (try simp (disch := first | ((try simp (disch := first | ((try simp only [pn]) <;> omega) | fail) only [pn, pq]) <;> omega) | fail) only [pn, pq]) <;> (intros; (try simp (disch := first | ((try simp (disch := first | ((try simp only [pn]) <;> omega) | fail) only [pn, pq]) <;> omega) | fail) only [pn, pq]) <;> omega)) (by (try simp (disch := first | ((try simp (disch := first | ((try simp only [pn]) <;> omega) | fail) only [pn, pq]) <;> omega) | fail) only [pn, pq]) <;> (intros; (try simp (disch := first | ((try simp (disch := first | ((try simp only [pn]) <;> omega) | fail) only [pn, pq]) <;> omega) | fail) only [pn, pq]) <;> omega))
  try simp (disch := first | ((try simp (disch := first | ((try simp only [pn]) <;> omega) | fail) only [pn, pq]) <;> omega) | fail) only [pn, pq] at jr5
  refine ⟨fun c1 => ?_, fun c1 => ?_⟩
  · try simp (disch := first | ((try simp (disch := first | ((try simp only [pn]) <;> omega) | fail) only [pn, pq]) <;> omega) | fail) only [pn, pq] at c1
    exact ⟨by first | rfl | assumption, hq _ (by first | rfl | assumption) (by (try simp (disch := first | ((try simp (disch := first | ((try simp only [pn]) <;> omega) | fail) only [pn, pq]) <;> omega) | fail) only [pn, pq]) <;> (intros; (try simp (disch := first | ((try simp (disch := first | ((try simp only [pn]) <;> omega) | fail) only [pn, pq]) <;> omega) | fail) only [pn, pq]) <;> omega))⟩
  · try simp (disch := first | ((try simp (disch := first | ((try simp only [pn]) <;> omega) | fail) only [pn, pq]) <;> omega) | fail) only [pn, pq] at c1
    exact ⟨by first | rfl | assumption, hq _ (by first | rfl | assumption) (by (try simp (disch := first | ((try simp (disch := first | ((try simp only [pn]) <;> omega) | fail) only [pn, pq]) <;> omega) | fail) only [pn, pq]) <;> (intros; (try simp (disch := first | ((try simp (disch := first | ((try simp only [pn]) <;> omega) | fail) only [pn, pq]) <;> omega) | fail) only [pn, pq]) <;> omega))⟩
set_option maxRecDepth 20000 in
set_option maxHeartbeats 1000000 in
theorem sf_X9_lastOf {S : bT9} (hJ : K9 S) {a1 : Int32} {Q : Int32 → Prop} (hp0 : 0 ≤ a1.toInt) (hp1 : a1.toInt < (b9g_nodeMany S).toInt) (hq : ∀ r : Int32, (r.toInt = (b9g_nodeLeaf S a1.toNatClampNeg).toInt + (b9g_nodeLeaves S a1.toNatClampNeg).toInt - 1) → (r.toInt ≤ 63) → Q r) : wp_X9_lastOf S a1 Q := by
  unfold wp_X9_lastOf
  have jf1 := K9g_nodeMany hJ
  have jf2 : (-4 ≤ ((b9g_now S) 1).toInt ∧ ((b9g_now S) 1).toInt ≤ 4) ∧ (-3 ≤ ((b9g_now S) 4).toInt ∧ ((b9g_now S) 4).toInt ≤ 252) ∧ (0 ≤ ((b9g_now S) 8).toInt ∧ ((b9g_now S) 8).toInt ≤ 64) ∧ (0 ≤ ((b9g_now S) 9).toInt ∧ ((b9g_now S) 9).toInt ≤ 64) ∧ (0 ≤ ((b9g_now S) 10).toInt ∧ ((b9g_now S) 10).toInt ≤ 16) ∧ (0 ≤ ((b9g_now S) 12).toInt ∧ ((b9g_now S) 12).toInt ≤ 8) := K9g_now hJ
  have rga1 := pt_rg a1
  refine ⟨pt_in (by (try simp (disch := first | ((try simp (disch := first | ((try simp only [pn]) <;> omega) | fail) only [pn, pq]) <;> omega) | fail) only [pn, pq]) <;> (intros; (try simp (disch := first | ((try simp (disch := first | ((try simp only [pn]) <;> omega) | fail) only [pn, pq]) <;> omega) | fail) only [pn, pq]) <;> omega)) (by (try simp (disch := first | ((try simp (disch := first | ((try simp only [pn]) <;> omega) | fail) only [pn, pq]) <;> omega) | fail) only [pn, pq]) <;> (intros; (try simp (disch := first | ((try simp (disch := first | ((try simp only [pn]) <;> omega) | fail) only [pn, pq]) <;> omega) | fail) only [pn, pq]) <;> omega)), ?_⟩
  have jr3 := ND_at (K9g_ND hJ) (x := a1) (by (try simp (disch := first | ((try simp (disch := first | ((try simp only [pn]) <;> omega) | fail) only [pn, pq]) <;> omega) | fail) only [pn, pq]) <;> (intros; (try simp (disch := first | ((try simp (disch := first | ((try simp only [pn]) <;> omega) | fail) only [pn, pq]) <;> omega) | fail) only [pn, pq]) <;> omega)) (by (try simp (disch := first | ((try simp (disch := first | ((try simp only [pn]) <;> omega) | fail) only [pn, pq]) <;> omega) | fail) only [pn, pq]) <;> (intros; (try simp (disch := first | ((try simp (disch := first | ((try simp only [pn]) <;> omega) | fail) only [pn, pq]) <;> omega) | fail) only [pn, pq]) <;> omega))
  try simp (disch := first | ((try simp (disch := first | ((try simp only [pn]) <;> omega) | fail) only [pn, pq]) <;> omega) | fail) only [pn, pq] at jr3
  refine ⟨pt_in (by (try simp (disch := first | ((try simp (disch := first | ((try simp only [pn]) <;> omega) | fail) only [pn, pq]) <;> omega) | fail) only [pn, pq]) <;> (intros; (try simp (disch := first | ((try simp (disch := first | ((try simp only [pn]) <;> omega) | fail) only [pn, pq]) <;> omega) | fail) only [pn, pq]) <;> omega)) (by (try simp (disch := first | ((try simp (disch := first | ((try simp only [pn]) <;> omega) | fail) only [pn, pq]) <;> omega) | fail) only [pn, pq]) <;> (intros; (try simp (disch := first | ((try simp (disch := first | ((try simp only [pn]) <;> omega) | fail) only [pn, pq]) <;> omega) | fail) only [pn, pq]) <;> omega)), ?_⟩
  have jr4 := ND_at (K9g_ND hJ) (x := a1) (by (try simp (disch := first | ((try simp (disch := first | ((try simp only [pn]) <;> omega) | fail) only [pn, pq]) <;> omega) | fail) only [pn, pq]) <;> (intros; (try simp (disch := first | ((try simp (disch := first | ((try simp only [pn]) <;> omega) | fail) only [pn, pq]) <;> omega) | fail) only [pn, pq]) <;> omega)) (by (try simp (disch := first | ((try simp (disch := first | ((try simp only [pn]) <;> omega) | fail) only [pn, pq]) <;> omega) | fail) only [pn, pq]) <;> (intros; (try simp (disch := first | ((try simp (disch := first | ((try simp only [pn]) <;> omega) | fail) only [pn, pq]) <;> omega) | fail) only [pn, pq]) <;> omega))
  try simp (disch := first | ((try simp (disch := first | ((try simp only [pn]) <;> omega) | fail) only [pn, pq]) <;> omega) | fail) only [pn, pq] at jr4
  exact hq _ (by (try simp (disch := first | ((try simp (disch := first | ((try simp only [pn]) <;> omega) | fail) only [pn, pq]) <;> omega) | fail) only [pn, pq]) <;> (intros; (try simp (disch := first | ((try simp (disch := first | ((try simp only [pn]) <;> omega) | fail) only [pn, pq]) <;> omega) | fail) only [pn, pq]) <;> omega)) (by (try simp (disch := first | ((try simp (disch := first | ((try simp only [pn]) <;> omega) | fail) only [pn, pq]) <;> omega) | fail) only [pn, pq]) <;> (intros; (try simp (disch := first | ((try simp (disch := first | ((try simp only [pn]) <;> omega) | fail) only [pn, pq]) <;> omega) | fail) only [pn, pq]) <;> omega))
def F_X9_laysItem (S u : bT9) : Prop := (b9g_told u) = (b9g_told S) ∧ (b9g_now u) = (b9g_now S) ∧ (b9g_keys u) = (b9g_keys S) ∧ (b9g_lengths u) = (b9g_lengths S) ∧ (b9g_drawn u) = (b9g_drawn S) ∧ (b9g_drawnLength u) = (b9g_drawnLength S) ∧ (b9g_tape u) = (b9g_tape S) ∧ (b9g_taped u) = (b9g_taped S) ∧ (b9g_names u) = (b9g_names S) ∧ (b9g_chosen u) = (b9g_chosen S) ∧ (b9g_common u) = (b9g_common S) ∧ (b9g_beginning u) = (b9g_beginning S) ∧ (b9g_isLaid u) = (b9g_isLaid S) ∧ (b9g_nodeLevel u) = (b9g_nodeLevel S) ∧ (b9g_nodeLeaf u) = (b9g_nodeLeaf S) ∧ (b9g_nodeLeaves u) = (b9g_nodeLeaves S) ∧ (b9g_nodeMany u) = (b9g_nodeMany S) ∧ (b9g_levelMany u) = (b9g_levelMany S) ∧ (b9g_upper u) = (b9g_upper S) ∧ (b9g_upperNodes u) = (b9g_upperNodes S) ∧ (b9g_areNodesLaid u) = (b9g_areNodesLaid S) ∧ (b9g_placeOf u) = (b9g_placeOf S) ∧ (b9g_leafOfPlace u) = (b9g_leafOfPlace S) ∧ (b9g_places u) = (b9g_places S) ∧ (b9g_lowKey u) = (b9g_lowKey S) ∧ (b9g_highKey u) = (b9g_highKey S) ∧ (b9g_lowLength u) = (b9g_lowLength S) ∧ (b9g_highLength u) = (b9g_highLength S) ∧ (b9g_fromKey u) = (b9g_fromKey S) ∧ (b9g_toKey u) = (b9g_toKey S) ∧ (b9g_fromLength u) = (b9g_fromLength S) ∧ (b9g_toLength u) = (b9g_toLength S) ∧ (b9g_ones u) = (b9g_ones S) ∧ (b9g_oneMany u) = (b9g_oneMany S) ∧ (b9g_rowLong u) = (b9g_rowLong S) ∧ (b9g_laidFor u) = (b9g_laidFor S) ∧ (b9g_signs u) = (b9g_signs S) ∧ (b9g_signMany u) = (b9g_signMany S) ∧ (b9g_hasImage u) = (b9g_hasImage S) ∧ (b9g_images u) = (b9g_images S) ∧ (b9g_keyImages u) = (b9g_keyImages S) ∧ (b9g_lengthImages u) = (b9g_lengthImages S)
set_option maxRecDepth 20000 in
set_option maxHeartbeats 1000000 in
theorem sf_X9_laysItem {S : bT9} (hJ : J9 S) {a1 : Int32} {a2 : Int32} {a3 : Int32} {Q : (bT9) → Prop} (hp0 : (b9g_itemMany S).toInt ≤ 699) (hq : ∀ u : bT9, (J9 u) → F_X9_laysItem S u → ((b9g_itemMany u).toInt = (b9g_itemMany S).toInt + 1) → Q u) : wp_X9_laysItem S a1 a2 a3 Q := by
  unfold wp_X9_laysItem
  have hFS : F_X9_laysItem S S := ⟨rfl, rfl, rfl, rfl, rfl, rfl, rfl, rfl, rfl, rfl, rfl, rfl, rfl, rfl, rfl, rfl, rfl, rfl, rfl, rfl, rfl, rfl, rfl, rfl, rfl, rfl, rfl, rfl, rfl, rfl, rfl, rfl, rfl, rfl, rfl, rfl, rfl, rfl, rfl, rfl, rfl, rfl⟩
  have jf1 := J9g_itemMany hJ
  have jf2 : (-4 ≤ ((b9g_now S) 1).toInt ∧ ((b9g_now S) 1).toInt ≤ 4) ∧ (-3 ≤ ((b9g_now S) 4).toInt ∧ ((b9g_now S) 4).toInt ≤ 252) ∧ (0 ≤ ((b9g_now S) 8).toInt ∧ ((b9g_now S) 8).toInt ≤ 64) ∧ (0 ≤ ((b9g_now S) 9).toInt ∧ ((b9g_now S) 9).toInt ≤ 64) ∧ (0 ≤ ((b9g_now S) 10).toInt ∧ ((b9g_now S) 10).toInt ≤ 16) ∧ (0 ≤ ((b9g_now S) 12).toInt ∧ ((b9g_now S) 12).toInt ≤ 8) := J9g_now hJ
  have ju2_S := hJ.2
  have rga1 := pt_rg a1
  have rga2 := pt_rg a2
  have rga3 := pt_rg a3
  refine ⟨pt_in (by (try simp (disch := first | ((try simp (disch := first | ((try simp only [pn]) <;> omega) | fail) only [pn, pq]) <;> omega) | fail) only [pn, pq]) <;> (intros; (try simp (disch := first | ((try simp (disch := first | ((try simp only [pn]) <;> omega) | fail) only [pn, pq]) <;> omega) | fail) only [pn, pq]) <;> omega)) (by (try simp (disch := first | ((try simp (disch := first | ((try simp only [pn]) <;> omega) | fail) only [pn, pq]) <;> omega) | fail) only [pn, pq]) <;> (intros; (try simp (disch := first | ((try simp (disch := first | ((try simp only [pn]) <;> omega) | fail) only [pn, pq]) <;> omega) | fail) only [pn, pq]) <;> omega)), ?_⟩
  intro S1 eS1
  have hJS1 : J9 S1 := by rw [eS1]; exact (J9s_itemNode hJ)
  have hFS1 : F_X9_laysItem S S1 := by rw [eS1]; exact hFS
  have je3 : ((b9g_itemMany S1)).toInt = ((b9g_itemMany S)).toInt := by rw [eS1]
  have jf4 := J9g_itemMany hJS1
  have je6 : ((b9g_now S1) 1).toInt = ((b9g_now S) 1).toInt := congrArg (fun z => (z 1).toInt) hFS1.2.1
  have je8 : ((b9g_now S1) 4).toInt = ((b9g_now S) 4).toInt := congrArg (fun z => (z 4).toInt) hFS1.2.1
  have je10 : ((b9g_now S1) 7).toInt = ((b9g_now S) 7).toInt := congrArg (fun z => (z 7).toInt) hFS1.2.1
  have je12 : ((b9g_now S1) 8).toInt = ((b9g_now S) 8).toInt := congrArg (fun z => (z 8).toInt) hFS1.2.1
  have je14 : ((b9g_now S1) 9).toInt = ((b9g_now S) 9).toInt := congrArg (fun z => (z 9).toInt) hFS1.2.1
  have je16 : ((b9g_now S1) 10).toInt = ((b9g_now S) 10).toInt := congrArg (fun z => (z 10).toInt) hFS1.2.1
  have je18 : ((b9g_now S1) 12).toInt = ((b9g_now S) 12).toInt := congrArg (fun z => (z 12).toInt) hFS1.2.1
  have ju18_S1 := hJS1.2
  refine ⟨pt_in (by (try simp (disch := first | ((try simp (disch := first | ((try simp only [pn]) <;> omega) | fail) only [pn, pq]) <;> omega) | fail) only [pn, pq]) <;> (intros; (try simp (disch := first | ((try simp (disch := first | ((try simp only [pn]) <;> omega) | fail) only [pn, pq]) <;> omega) | fail) only [pn, pq]) <;> omega)) (by (try simp (disch := first | ((try simp (disch := first | ((try simp only [pn]) <;> omega) | fail) only [pn, pq]) <;> omega) | fail) only [pn, pq]) <;> (intros; (try simp (disch := first | ((try simp (disch := first | ((try simp only [pn]) <;> omega) | fail) only [pn, pq]) <;> omega) | fail) only [pn, pq]) <;> omega)), ?_⟩
  intro S2 eS2
  have hJS2 : J9 S2 := by rw [eS2]; exact (J9s_itemByte hJS1)
  have hFS2 : F_X9_laysItem S S2 := by rw [eS2]; exact hFS1
  have je19 : ((b9g_itemMany S2)).toInt = ((b9g_itemMany S1)).toInt := by rw [eS2]
  have jf20 := J9g_itemMany hJS2
  have je22 : ((b9g_now S2) 1).toInt = ((b9g_now S) 1).toInt := congrArg (fun z => (z 1).toInt) hFS2.2.1
  have je24 : ((b9g_now S2) 4).toInt = ((b9g_now S) 4).toInt := congrArg (fun z => (z 4).toInt) hFS2.2.1
  have je26 : ((b9g_now S2) 7).toInt = ((b9g_now S) 7).toInt := congrArg (fun z => (z 7).toInt) hFS2.2.1
  have je28 : ((b9g_now S2) 8).toInt = ((b9g_now S) 8).toInt := congrArg (fun z => (z 8).toInt) hFS2.2.1
  have je30 : ((b9g_now S2) 9).toInt = ((b9g_now S) 9).toInt := congrArg (fun z => (z 9).toInt) hFS2.2.1
  have je32 : ((b9g_now S2) 10).toInt = ((b9g_now S) 10).toInt := congrArg (fun z => (z 10).toInt) hFS2.2.1
  have je34 : ((b9g_now S2) 12).toInt = ((b9g_now S) 12).toInt := congrArg (fun z => (z 12).toInt) hFS2.2.1
  have ju34_S2 := hJS2.2
  refine ⟨pt_in (by (try simp (disch := first | ((try simp (disch := first | ((try simp only [pn]) <;> omega) | fail) only [pn, pq]) <;> omega) | fail) only [pn, pq]) <;> (intros; (try simp (disch := first | ((try simp (disch := first | ((try simp only [pn]) <;> omega) | fail) only [pn, pq]) <;> omega) | fail) only [pn, pq]) <;> omega)) (by (try simp (disch := first | ((try simp (disch := first | ((try simp only [pn]) <;> omega) | fail) only [pn, pq]) <;> omega) | fail) only [pn, pq]) <;> (intros; (try simp (disch := first | ((try simp (disch := first | ((try simp only [pn]) <;> omega) | fail) only [pn, pq]) <;> omega) | fail) only [pn, pq]) <;> omega)), ?_⟩
  intro S3 eS3
  have hJS3 : J9 S3 := by rw [eS3]; exact (J9s_itemChild hJS2)
  have hFS3 : F_X9_laysItem S S3 := by rw [eS3]; exact hFS2
  have je35 : ((b9g_itemMany S3)).toInt = ((b9g_itemMany S2)).toInt := by rw [eS3]
  have jf36 := J9g_itemMany hJS3
  have je38 : ((b9g_now S3) 1).toInt = ((b9g_now S) 1).toInt := congrArg (fun z => (z 1).toInt) hFS3.2.1
  have je40 : ((b9g_now S3) 4).toInt = ((b9g_now S) 4).toInt := congrArg (fun z => (z 4).toInt) hFS3.2.1
  have je42 : ((b9g_now S3) 7).toInt = ((b9g_now S) 7).toInt := congrArg (fun z => (z 7).toInt) hFS3.2.1
  have je44 : ((b9g_now S3) 8).toInt = ((b9g_now S) 8).toInt := congrArg (fun z => (z 8).toInt) hFS3.2.1
  have je46 : ((b9g_now S3) 9).toInt = ((b9g_now S) 9).toInt := congrArg (fun z => (z 9).toInt) hFS3.2.1
  have je48 : ((b9g_now S3) 10).toInt = ((b9g_now S) 10).toInt := congrArg (fun z => (z 10).toInt) hFS3.2.1
  have je50 : ((b9g_now S3) 12).toInt = ((b9g_now S) 12).toInt := congrArg (fun z => (z 12).toInt) hFS3.2.1
  have ju50_S3 := hJS3.2
  intro S4 eS4
  have hJS4 : J9 S4 := by rw [eS4]; exact (J9s_itemMany hJS3 ⟨(by (try simp (disch := first | ((try simp (disch := first | ((try simp only [pn]) <;> omega) | fail) only [pn, pq]) <;> omega) | fail) only [pn, pq]) <;> (intros; (try simp (disch := first | ((try simp (disch := first | ((try simp only [pn]) <;> omega) | fail) only [pn, pq]) <;> omega) | fail) only [pn, pq]) <;> omega)), (by (try simp (disch := first | ((try simp (disch := first | ((try simp only [pn]) <;> omega) | fail) only [pn, pq]) <;> omega) | fail) only [pn, pq]) <;> (intros; (try simp (disch := first | ((try simp (disch := first | ((try simp only [pn]) <;> omega) | fail) only [pn, pq]) <;> omega) | fail) only [pn, pq]) <;> omega))⟩)
  have hFS4 : F_X9_laysItem S S4 := by rw [eS4]; exact hFS3
  have je51 : ((b9g_itemMany S4)).toInt = (((b9g_itemMany S3) + (1 : Int32))).toInt := by rw [eS4]
  try simp (disch := first | ((try simp (disch := first | ((try simp only [pn]) <;> omega) | fail) only [pn, pq]) <;> omega) | fail) only [pn, pq] at je51
  have jf52 := J9g_itemMany hJS4
  have je54 : ((b9g_now S4) 1).toInt = ((b9g_now S) 1).toInt := congrArg (fun z => (z 1).toInt) hFS4.2.1
  have je56 : ((b9g_now S4) 4).toInt = ((b9g_now S) 4).toInt := congrArg (fun z => (z 4).toInt) hFS4.2.1
  have je58 : ((b9g_now S4) 7).toInt = ((b9g_now S) 7).toInt := congrArg (fun z => (z 7).toInt) hFS4.2.1
  have je60 : ((b9g_now S4) 8).toInt = ((b9g_now S) 8).toInt := congrArg (fun z => (z 8).toInt) hFS4.2.1
  have je62 : ((b9g_now S4) 9).toInt = ((b9g_now S) 9).toInt := congrArg (fun z => (z 9).toInt) hFS4.2.1
  have je64 : ((b9g_now S4) 10).toInt = ((b9g_now S) 10).toInt := congrArg (fun z => (z 10).toInt) hFS4.2.1
  have je66 : ((b9g_now S4) 12).toInt = ((b9g_now S) 12).toInt := congrArg (fun z => (z 12).toInt) hFS4.2.1
  have ju66_S4 := hJS4.2
  exact hq _ hJS4 hFS4 (by (try simp (disch := first | ((try simp (disch := first | ((try simp only [pn]) <;> omega) | fail) only [pn, pq]) <;> omega) | fail) only [pn, pq]) <;> (intros; (try simp (disch := first | ((try simp (disch := first | ((try simp only [pn]) <;> omega) | fail) only [pn, pq]) <;> omega) | fail) only [pn, pq]) <;> omega))
def F_X9_places (S u : bT9) : Prop := (b9g_told u) = (b9g_told S) ∧ (b9g_now u) = (b9g_now S) ∧ (b9g_keys u) = (b9g_keys S) ∧ (b9g_lengths u) = (b9g_lengths S) ∧ (b9g_drawn u) = (b9g_drawn S) ∧ (b9g_drawnLength u) = (b9g_drawnLength S) ∧ (b9g_tape u) = (b9g_tape S) ∧ (b9g_taped u) = (b9g_taped S) ∧ (b9g_names u) = (b9g_names S) ∧ (b9g_chosen u) = (b9g_chosen S) ∧ (b9g_common u) = (b9g_common S) ∧ (b9g_beginning u) = (b9g_beginning S) ∧ (b9g_isLaid u) = (b9g_isLaid S) ∧ (b9g_nodeLevel u) = (b9g_nodeLevel S) ∧ (b9g_nodeLeaf u) = (b9g_nodeLeaf S) ∧ (b9g_nodeLeaves u) = (b9g_nodeLeaves S) ∧ (b9g_nodeMany u) = (b9g_nodeMany S) ∧ (b9g_levelMany u) = (b9g_levelMany S) ∧ (b9g_upper u) = (b9g_upper S) ∧ (b9g_upperNodes u) = (b9g_upperNodes S) ∧ (b9g_areNodesLaid u) = (b9g_areNodesLaid S) ∧ (b9g_itemNode u) = (b9g_itemNode S) ∧ (b9g_itemByte u) = (b9g_itemByte S) ∧ (b9g_itemChild u) = (b9g_itemChild S) ∧ (b9g_itemMany u) = (b9g_itemMany S) ∧ (b9g_lowKey u) = (b9g_lowKey S) ∧ (b9g_highKey u) = (b9g_highKey S) ∧ (b9g_lowLength u) = (b9g_lowLength S) ∧ (b9g_highLength u) = (b9g_highLength S) ∧ (b9g_fromKey u) = (b9g_fromKey S) ∧ (b9g_toKey u) = (b9g_toKey S) ∧ (b9g_fromLength u) = (b9g_fromLength S) ∧ (b9g_toLength u) = (b9g_toLength S) ∧ (b9g_ones u) = (b9g_ones S) ∧ (b9g_oneMany u) = (b9g_oneMany S) ∧ (b9g_rowLong u) = (b9g_rowLong S) ∧ (b9g_laidFor u) = (b9g_laidFor S) ∧ (b9g_signs u) = (b9g_signs S) ∧ (b9g_signMany u) = (b9g_signMany S) ∧ (b9g_hasImage u) = (b9g_hasImage S) ∧ (b9g_images u) = (b9g_images S) ∧ (b9g_keyImages u) = (b9g_keyImages S) ∧ (b9g_lengthImages u) = (b9g_lengthImages S)
set_option maxRecDepth 20000 in
set_option maxHeartbeats 1000000 in
theorem sf_X9_places {S : bT9} (hJ : J9 S) {a1 : Int32} {Q : (bT9) → Prop} (hp0 : 0 ≤ a1.toInt) (hp1 : a1.toInt ≤ 63) (hp2 : (b9g_places S).toInt ≤ 63) (hq : ∀ u : bT9, (J9 u) → F_X9_places S u → ((b9g_places u).toInt = (b9g_places S).toInt + 1) → Q u) : wp_X9_places S a1 Q := by
  unfold wp_X9_places
  have hFS : F_X9_places S S := ⟨rfl, rfl, rfl, rfl, rfl, rfl, rfl, rfl, rfl, rfl, rfl, rfl, rfl, rfl, rfl, rfl, rfl, rfl, rfl, rfl, rfl, rfl, rfl, rfl, rfl, rfl, rfl, rfl, rfl, rfl, rfl, rfl, rfl, rfl, rfl, rfl, rfl, rfl, rfl, rfl, rfl, rfl, rfl⟩
  have jf1 := J9g_places hJ
  have jf2 : (-4 ≤ ((b9g_now S) 1).toInt ∧ ((b9g_now S) 1).toInt ≤ 4) ∧ (-3 ≤ ((b9g_now S) 4).toInt ∧ ((b9g_now S) 4).toInt ≤ 252) ∧ (0 ≤ ((b9g_now S) 8).toInt ∧ ((b9g_now S) 8).toInt ≤ 64) ∧ (0 ≤ ((b9g_now S) 9).toInt ∧ ((b9g_now S) 9).toInt ≤ 64) ∧ (0 ≤ ((b9g_now S) 10).toInt ∧ ((b9g_now S) 10).toInt ≤ 16) ∧ (0 ≤ ((b9g_now S) 12).toInt ∧ ((b9g_now S) 12).toInt ≤ 8) := J9g_now hJ
  have ju2_S := hJ.2
  have rga1 := pt_rg a1
  refine ⟨pt_in (by (try simp (disch := first | ((try simp (disch := first | ((try simp only [pn]) <;> omega) | fail) only [pn, pq]) <;> omega) | fail) only [pn, pq]) <;> (intros; (try simp (disch := first | ((try simp (disch := first | ((try simp only [pn]) <;> omega) | fail) only [pn, pq]) <;> omega) | fail) only [pn, pq]) <;> omega)) (by (try simp (disch := first | ((try simp (disch := first | ((try simp only [pn]) <;> omega) | fail) only [pn, pq]) <;> omega) | fail) only [pn, pq]) <;> (intros; (try simp (disch := first | ((try simp (disch := first | ((try simp only [pn]) <;> omega) | fail) only [pn, pq]) <;> omega) | fail) only [pn, pq]) <;> omega)), ?_⟩
  intro S1 eS1
  have hJS1 : J9 S1 := by rw [eS1]; exact (J9s_placeOf hJ)
  have hFS1 : F_X9_places S S1 := by rw [eS1]; exact hFS
  have je3 : ((b9g_places S1)).toInt = ((b9g_places S)).toInt := by rw [eS1]
  have jf4 := J9g_places hJS1
  have je6 : ((b9g_now S1) 1).toInt = ((b9g_now S) 1).toInt := congrArg (fun z => (z 1).toInt) hFS1.2.1
  have je8 : ((b9g_now S1) 4).toInt = ((b9g_now S) 4).toInt := congrArg (fun z => (z 4).toInt) hFS1.2.1
  have je10 : ((b9g_now S1) 7).toInt = ((b9g_now S) 7).toInt := congrArg (fun z => (z 7).toInt) hFS1.2.1
  have je12 : ((b9g_now S1) 8).toInt = ((b9g_now S) 8).toInt := congrArg (fun z => (z 8).toInt) hFS1.2.1
  have je14 : ((b9g_now S1) 9).toInt = ((b9g_now S) 9).toInt := congrArg (fun z => (z 9).toInt) hFS1.2.1
  have je16 : ((b9g_now S1) 10).toInt = ((b9g_now S) 10).toInt := congrArg (fun z => (z 10).toInt) hFS1.2.1
  have je18 : ((b9g_now S1) 12).toInt = ((b9g_now S) 12).toInt := congrArg (fun z => (z 12).toInt) hFS1.2.1
  have ju18_S1 := hJS1.2
  refine ⟨pt_in (by (try simp (disch := first | ((try simp (disch := first | ((try simp only [pn]) <;> omega) | fail) only [pn, pq]) <;> omega) | fail) only [pn, pq]) <;> (intros; (try simp (disch := first | ((try simp (disch := first | ((try simp only [pn]) <;> omega) | fail) only [pn, pq]) <;> omega) | fail) only [pn, pq]) <;> omega)) (by (try simp (disch := first | ((try simp (disch := first | ((try simp only [pn]) <;> omega) | fail) only [pn, pq]) <;> omega) | fail) only [pn, pq]) <;> (intros; (try simp (disch := first | ((try simp (disch := first | ((try simp only [pn]) <;> omega) | fail) only [pn, pq]) <;> omega) | fail) only [pn, pq]) <;> omega)), ?_⟩
  intro S2 eS2
  have hJS2 : J9 S2 := by rw [eS2]; exact (J9s_leafOfPlace hJS1)
  have hFS2 : F_X9_places S S2 := by rw [eS2]; exact hFS1
  have je19 : ((b9g_places S2)).toInt = ((b9g_places S1)).toInt := by rw [eS2]
  have jf20 := J9g_places hJS2
  have je22 : ((b9g_now S2) 1).toInt = ((b9g_now S) 1).toInt := congrArg (fun z => (z 1).toInt) hFS2.2.1
  have je24 : ((b9g_now S2) 4).toInt = ((b9g_now S) 4).toInt := congrArg (fun z => (z 4).toInt) hFS2.2.1
  have je26 : ((b9g_now S2) 7).toInt = ((b9g_now S) 7).toInt := congrArg (fun z => (z 7).toInt) hFS2.2.1
  have je28 : ((b9g_now S2) 8).toInt = ((b9g_now S) 8).toInt := congrArg (fun z => (z 8).toInt) hFS2.2.1
  have je30 : ((b9g_now S2) 9).toInt = ((b9g_now S) 9).toInt := congrArg (fun z => (z 9).toInt) hFS2.2.1
  have je32 : ((b9g_now S2) 10).toInt = ((b9g_now S) 10).toInt := congrArg (fun z => (z 10).toInt) hFS2.2.1
  have je34 : ((b9g_now S2) 12).toInt = ((b9g_now S) 12).toInt := congrArg (fun z => (z 12).toInt) hFS2.2.1
  have ju34_S2 := hJS2.2
  intro S3 eS3
  have hJS3 : J9 S3 := by rw [eS3]; exact (J9s_places hJS2 ⟨(by (try simp (disch := first | ((try simp (disch := first | ((try simp only [pn]) <;> omega) | fail) only [pn, pq]) <;> omega) | fail) only [pn, pq]) <;> (intros; (try simp (disch := first | ((try simp (disch := first | ((try simp only [pn]) <;> omega) | fail) only [pn, pq]) <;> omega) | fail) only [pn, pq]) <;> omega)), (by (try simp (disch := first | ((try simp (disch := first | ((try simp only [pn]) <;> omega) | fail) only [pn, pq]) <;> omega) | fail) only [pn, pq]) <;> (intros; (try simp (disch := first | ((try simp (disch := first | ((try simp only [pn]) <;> omega) | fail) only [pn, pq]) <;> omega) | fail) only [pn, pq]) <;> omega))⟩)
  have hFS3 : F_X9_places S S3 := by rw [eS3]; exact hFS2
  have je35 : ((b9g_places S3)).toInt = (((b9g_places S2) + (1 : Int32))).toInt := by rw [eS3]
  try simp (disch := first | ((try simp (disch := first | ((try simp only [pn]) <;> omega) | fail) only [pn, pq]) <;> omega) | fail) only [pn, pq] at je35
  have jf36 := J9g_places hJS3
  have je38 : ((b9g_now S3) 1).toInt = ((b9g_now S) 1).toInt := congrArg (fun z => (z 1).toInt) hFS3.2.1
  have je40 : ((b9g_now S3) 4).toInt = ((b9g_now S) 4).toInt := congrArg (fun z => (z 4).toInt) hFS3.2.1
  have je42 : ((b9g_now S3) 7).toInt = ((b9g_now S) 7).toInt := congrArg (fun z => (z 7).toInt) hFS3.2.1
  have je44 : ((b9g_now S3) 8).toInt = ((b9g_now S) 8).toInt := congrArg (fun z => (z 8).toInt) hFS3.2.1
  have je46 : ((b9g_now S3) 9).toInt = ((b9g_now S) 9).toInt := congrArg (fun z => (z 9).toInt) hFS3.2.1
  have je48 : ((b9g_now S3) 10).toInt = ((b9g_now S) 10).toInt := congrArg (fun z => (z 10).toInt) hFS3.2.1
  have je50 : ((b9g_now S3) 12).toInt = ((b9g_now S) 12).toInt := congrArg (fun z => (z 12).toInt) hFS3.2.1
  have ju50_S3 := hJS3.2
  exact hq _ hJS3 hFS3 (by (try simp (disch := first | ((try simp (disch := first | ((try simp only [pn]) <;> omega) | fail) only [pn, pq]) <;> omega) | fail) only [pn, pq]) <;> (intros; (try simp (disch := first | ((try simp (disch := first | ((try simp only [pn]) <;> omega) | fail) only [pn, pq]) <;> omega) | fail) only [pn, pq]) <;> omega))
def F_X9_laysNode (S u : bT9) : Prop := (b9g_told u) = (b9g_told S) ∧ (b9g_now u) = (b9g_now S) ∧ (b9g_keys u) = (b9g_keys S) ∧ (b9g_lengths u) = (b9g_lengths S) ∧ (b9g_drawn u) = (b9g_drawn S) ∧ (b9g_drawnLength u) = (b9g_drawnLength S) ∧ (b9g_tape u) = (b9g_tape S) ∧ (b9g_taped u) = (b9g_taped S) ∧ (b9g_names u) = (b9g_names S) ∧ (b9g_chosen u) = (b9g_chosen S) ∧ (b9g_common u) = (b9g_common S) ∧ (b9g_beginning u) = (b9g_beginning S) ∧ (b9g_isLaid u) = (b9g_isLaid S) ∧ (b9g_nodeLevel u) = (b9g_nodeLevel S) ∧ (b9g_nodeLeaf u) = (b9g_nodeLeaf S) ∧ (b9g_nodeLeaves u) = (b9g_nodeLeaves S) ∧ (b9g_nodeMany u) = (b9g_nodeMany S) ∧ (b9g_levelMany u) = (b9g_levelMany S) ∧ (b9g_upper u) = (b9g_upper S) ∧ (b9g_upperNodes u) = (b9g_upperNodes S) ∧ (b9g_areNodesLaid u) = (b9g_areNodesLaid S) ∧ (b9g_lowKey u) = (b9g_lowKey S) ∧ (b9g_highKey u) = (b9g_highKey S) ∧ (b9g_lowLength u) = (b9g_lowLength S) ∧ (b9g_highLength u) = (b9g_highLength S) ∧ (b9g_fromKey u) = (b9g_fromKey S) ∧ (b9g_toKey u) = (b9g_toKey S) ∧ (b9g_fromLength u) = (b9g_fromLength S) ∧ (b9g_toLength u) = (b9g_toLength S) ∧ (b9g_ones u) = (b9g_ones S) ∧ (b9g_oneMany u) = (b9g_oneMany S) ∧ (b9g_rowLong u) = (b9g_rowLong S) ∧ (b9g_laidFor u) = (b9g_laidFor S) ∧ (b9g_signs u) = (b9g_signs S) ∧ (b9g_signMany u) = (b9g_signMany S) ∧ (b9g_hasImage u) = (b9g_hasImage S) ∧ (b9g_images u) = (b9g_images S) ∧ (b9g_keyImages u) = (b9g_keyImages S) ∧ (b9g_lengthImages u) = (b9g_lengthImages S)
theorem sf_X9_laysNode {S : bT9} (hJ : J9 S) {a1 : Int32} {Q : (bT9) → Prop} (hp0 : 0 ≤ a1.toInt) (hp1 : a1.toInt < (b9g_nodeMany S).toInt) (hp2 : TR S 8 0) (hp3 : (b9g_itemMany S).toInt ≤ 64 * (b9g_nodeLevel S a1.toNatClampNeg).toInt + (b9g_nodeLeaf S a1.toNatClampNeg).toInt) (hp4 : ∃ T : Nat → Bool, (∀ i : Nat, T i = true → ∃ y : Nat, y < a1.toNatClampNeg ∧ PLS S y i) ∧ (b9g_places S).toInt = cntB T 64) (hq : ∀ u : bT9, (J9 u) → F_X9_laysNode S u → ((b9g_itemMany u).toInt ≤ (b9g_itemMany S).toInt + (b9g_nodeLeaves S a1.toNatClampNeg).toInt) → (∃ T : Nat → Bool, (∀ i : Nat, T i = true → ∃ y : Nat, y < a1.toNatClampNeg + 1 ∧ PLS S y i) ∧ (b9g_places u).toInt = cntB T 64) → Q u) : wp_X9_laysNode S a1 Q := by
  have jx := ND_at (J9g_ND hJ) hp0 hp1
  have hN := J9g_ND hJ
  have jm := J9g_nodeMany hJ
  have jb := J9g_beginning hJ
  have ex := pt_clamp hp0
  have elf := pt_clamp (i := b9g_nodeLeaf S a1.toNatClampNeg) (by omega)
  have hTR := hp2
  obtain ⟨hM, hC, hE⟩ := hTR
  have hEx := hE a1.toNatClampNeg (by omega)
  obtain ⟨T0, t1, t2⟩ := hp4
  have loop : ∀ (x2 : Int32) (U : bT9), J9 U → F_X9_laysNode S U → (∃ T : Nat → Bool, (∀ i : Nat, T i = true → (∃ y : Nat, y < a1.toNatClampNeg ∧ PLS S y i) ∨ (PLS S a1.toNatClampNeg i ∧ ((i : Int) < (b9g_nodeLeaf S a1.toNatClampNeg).toInt ∨ (b9g_beginning S i).toInt = (b9g_nodeLevel S a1.toNatClampNeg).toInt))) ∧ (b9g_places U).toInt = cntB T 64) → ((b9g_itemMany U).toInt ≤ (b9g_itemMany S).toInt + ((b9g_nodeLeaf S a1.toNatClampNeg).toInt - (b9g_nodeLeaf S a1.toNatClampNeg).toInt) ∨ ((b9g_nodeLeaf S a1.toNatClampNeg).toInt = (b9g_nodeLeaf S a1.toNatClampNeg).toInt ∧ (b9g_beginning S (b9g_nodeLeaf S a1.toNatClampNeg).toNatClampNeg).toInt = (b9g_nodeLevel S a1.toNatClampNeg).toInt ∧ (b9g_itemMany U).toInt ≤ (b9g_itemMany S).toInt + 1)) → wp_X9_laysNode_43 U a1 x2 Q := by
    intro x2 U hJU hFU hpU hiU
    have eFU : b9g_nodeLeaf U = b9g_nodeLeaf S := hFU.2.2.2.2.2.2.2.2.2.2.2.2.2.2.1
    unfold wp_X9_laysNode_43 wp_X9_laysNode_50
    rw [eFU]
    refine ⟨pt_in (by omega) (by omega), fun n x1 y2 x3 V => a1 = x1 ∧ J9 V ∧ F_X9_laysNode S V ∧ (b9g_nodeLeaf S a1.toNatClampNeg).toInt ≤ x3.toInt ∧ x3.toInt ≤ (b9g_nodeLeaf S a1.toNatClampNeg).toInt + (b9g_nodeLeaves S a1.toNatClampNeg).toInt ∧ (∃ T : Nat → Bool, (∀ i : Nat, T i = true → (∃ y : Nat, y < a1.toNatClampNeg ∧ PLS S y i) ∨ (PLS S a1.toNatClampNeg i ∧ ((i : Int) < x3.toInt ∨ (b9g_beginning S i).toInt = (b9g_nodeLevel S a1.toNatClampNeg).toInt))) ∧ (b9g_places V).toInt = cntB T 64) ∧ ((b9g_itemMany V).toInt ≤ (b9g_itemMany S).toInt + (x3.toInt - (b9g_nodeLeaf S a1.toNatClampNeg).toInt) ∨ (x3.toInt = (b9g_nodeLeaf S a1.toNatClampNeg).toInt ∧ (b9g_beginning S (b9g_nodeLeaf S a1.toNatClampNeg).toNatClampNeg).toInt = (b9g_nodeLevel S a1.toNatClampNeg).toInt ∧ (b9g_itemMany V).toInt ≤ (b9g_itemMany S).toInt + 1)) ∧ n = ((b9g_nodeLeaf S a1.toNatClampNeg).toInt + (b9g_nodeLeaves S a1.toNatClampNeg).toInt - x3.toInt).toNat, ⟨_, rfl, hJU, hFU, by omega, by omega, hpU, hiU, rfl⟩, ?_⟩
    rintro n x1 y2 x3 V ⟨rfl, hJV, hF, h1, h2, hpV, hiV, hn⟩
    have eL : b9g_nodeLevel V = b9g_nodeLevel S := hF.2.2.2.2.2.2.2.2.2.2.2.2.2.1
    have eF : b9g_nodeLeaf V = b9g_nodeLeaf S := hF.2.2.2.2.2.2.2.2.2.2.2.2.2.2.1
    have eS : b9g_nodeLeaves V = b9g_nodeLeaves S := hF.2.2.2.2.2.2.2.2.2.2.2.2.2.2.2.1
    have eM : b9g_nodeMany V = b9g_nodeMany S := hF.2.2.2.2.2.2.2.2.2.2.2.2.2.2.2.2.1
    have eB : b9g_beginning V = b9g_beginning S := hF.2.2.2.2.2.2.2.2.2.2.2.1
    have eK : b9g_keys V = b9g_keys S := hF.2.2.1
    have hmV : a1.toInt < (b9g_nodeMany V).toInt := by rw [eM]; exact hp1
    have e3 := pt_clamp (i := x3) (by omega)
    unfold wp_X9_laysNode_50b
    refine sf_X9_lastOf hJV.1 hp0 hmV (fun r7 h71 h72 => ?_)
    rw [eF, eS] at h71
    refine ⟨fun c => ?_, fun c => ?_⟩
    · simp (disch := first | ((try simp (disch := first | ((try simp only [pn]) <;> omega) | fail) only [pn, pq]) <;> omega) | fail) only [pn, pq] at c
      refine hq V hJV hF (by omega) ?_
      obtain ⟨T, ta, tb⟩ := hpV
      refine ⟨T, fun i hi => ?_, tb⟩
      rcases ta i hi with ⟨y, y1, y2⟩ | ⟨y1, _⟩
      · exact ⟨y, by omega, y2⟩
      · exact ⟨a1.toNatClampNeg, by omega, y1⟩
    · simp (disch := first | ((try simp (disch := first | ((try simp only [pn]) <;> omega) | fail) only [pn, pq]) <;> omega) | fail) only [pn, pq] at c
      have e31 : (x3 + 1).toInt = x3.toInt + 1 := by rw [pt_add (by rw [pl_1]; omega) (by rw [pl_1]; omega), pl_1]
      have next : ∀ W : bT9, J9 W → F_X9_laysNode S W → (∃ T : Nat → Bool, (∀ i : Nat, T i = true → (∃ y : Nat, y < a1.toNatClampNeg ∧ PLS S y i) ∨ (PLS S a1.toNatClampNeg i ∧ ((i : Int) < (x3.toInt + 1) ∨ (b9g_beginning S i).toInt = (b9g_nodeLevel S a1.toNatClampNeg).toInt))) ∧ (b9g_places W).toInt = cntB T 64) → (b9g_itemMany W).toInt ≤ (b9g_itemMany S).toInt + (x3.toInt + 1 - (b9g_nodeLeaf S a1.toNatClampNeg).toInt) → wp_X9_laysNode_116 W a1 y2 x3 Q (fun z1 z2 z3 Z => ∃ n2 : Nat, n2 < n ∧ a1 = z1 ∧ J9 Z ∧ F_X9_laysNode S Z ∧ (b9g_nodeLeaf S a1.toNatClampNeg).toInt ≤ z3.toInt ∧ z3.toInt ≤ (b9g_nodeLeaf S a1.toNatClampNeg).toInt + (b9g_nodeLeaves S a1.toNatClampNeg).toInt ∧ (∃ T : Nat → Bool, (∀ i : Nat, T i = true → (∃ y : Nat, y < a1.toNatClampNeg ∧ PLS S y i) ∨ (PLS S a1.toNatClampNeg i ∧ ((i : Int) < z3.toInt ∨ (b9g_beginning S i).toInt = (b9g_nodeLevel S a1.toNatClampNeg).toInt))) ∧ (b9g_places Z).toInt = cntB T 64) ∧ ((b9g_itemMany Z).toInt ≤ (b9g_itemMany S).toInt + (z3.toInt - (b9g_nodeLeaf S a1.toNatClampNeg).toInt) ∨ (z3.toInt = (b9g_nodeLeaf S a1.toNatClampNeg).toInt ∧ (b9g_beginning S (b9g_nodeLeaf S a1.toNatClampNeg).toNatClampNeg).toInt = (b9g_nodeLevel S a1.toNatClampNeg).toInt ∧ (b9g_itemMany Z).toInt ≤ (b9g_itemMany S).toInt + 1)) ∧ n2 = ((b9g_nodeLeaf S a1.toNatClampNeg).toInt + (b9g_nodeLeaves S a1.toNatClampNeg).toInt - z3.toInt).toNat) := by
        intro W hW hFW hpW hiW
        unfold wp_X9_laysNode_116
        refine ⟨_, ?_, rfl, hW, hFW, by omega, by omega, ?_, ?_, rfl⟩
        · omega
        · rw [e31]; exact hpW
        · left; omega
      have weak : (∃ T : Nat → Bool, (∀ i : Nat, T i = true → (∃ y : Nat, y < a1.toNatClampNeg ∧ PLS S y i) ∨ (PLS S a1.toNatClampNeg i ∧ ((i : Int) < (x3.toInt + 1) ∨ (b9g_beginning S i).toInt = (b9g_nodeLevel S a1.toNatClampNeg).toInt))) ∧ (b9g_places V).toInt = cntB T 64) := by
        obtain ⟨T, ta, tb⟩ := hpV
        refine ⟨T, fun i hi => ?_, tb⟩
        rcases ta i hi with h | ⟨y1, y2⟩
        · exact Or.inl h
        · exact Or.inr ⟨y1, by omega⟩
      refine sf_X9_isBranch hJV.1 hp0 hmV (by rw [eF]; omega) (by omega) (fun r9 hz9 h9 => ⟨fun c2 => ?_, fun c2 => ?_⟩)
      · simp (disch := first | ((try simp (disch := first | ((try simp only [pn]) <;> omega) | fail) only [pn, pq]) <;> omega) | fail) only [pn, pq] at c2
        have hBR : BRd V a1 x3 := by
          rcases h9 with h9 | h9
          · omega
          · exact h9
        unfold BRd at hBR
        rw [eL, eB, eF, eK] at hBR
        obtain ⟨b1, b2⟩ := hBR
        have hi2 : (b9g_itemMany V).toInt ≤ (b9g_itemMany S).toInt + (x3.toInt - (b9g_nodeLeaf S a1.toNatClampNeg).toInt) := by
          rcases hiV with h | ⟨h, h', h''⟩
          · exact h
          · exfalso
            have : x3.toNatClampNeg = (b9g_nodeLeaf S a1.toNatClampNeg).toNatClampNeg := by omega
            rw [this] at b1
            omega
        have fin : ∀ (W : bT9) (r : Int32), J9 W → F_X9_laysNode S W → (∃ T : Nat → Bool, (∀ i : Nat, T i = true → (∃ y : Nat, y < a1.toNatClampNeg ∧ PLS S y i) ∨ (PLS S a1.toNatClampNeg i ∧ ((i : Int) < (x3.toInt + 1) ∨ (b9g_beginning S i).toInt = (b9g_nodeLevel S a1.toNatClampNeg).toInt))) ∧ (b9g_places W).toInt = cntB T 64) → (b9g_itemMany W).toInt ≤ (b9g_itemMany S).toInt + (x3.toInt - (b9g_nodeLeaf S a1.toNatClampNeg).toInt) → wp_X9_laysNode_90 W a1 y2 x3 r Q (fun z1 z2 z3 Z => ∃ n2 : Nat, n2 < n ∧ a1 = z1 ∧ J9 Z ∧ F_X9_laysNode S Z ∧ (b9g_nodeLeaf S a1.toNatClampNeg).toInt ≤ z3.toInt ∧ z3.toInt ≤ (b9g_nodeLeaf S a1.toNatClampNeg).toInt + (b9g_nodeLeaves S a1.toNatClampNeg).toInt ∧ (∃ T : Nat → Bool, (∀ i : Nat, T i = true → (∃ y : Nat, y < a1.toNatClampNeg ∧ PLS S y i) ∨ (PLS S a1.toNatClampNeg i ∧ ((i : Int) < z3.toInt ∨ (b9g_beginning S i).toInt = (b9g_nodeLevel S a1.toNatClampNeg).toInt))) ∧ (b9g_places Z).toInt = cntB T 64) ∧ ((b9g_itemMany Z).toInt ≤ (b9g_itemMany S).toInt + (z3.toInt - (b9g_nodeLeaf S a1.toNatClampNeg).toInt) ∨ (z3.toInt = (b9g_nodeLeaf S a1.toNatClampNeg).toInt ∧ (b9g_beginning S (b9g_nodeLeaf S a1.toNatClampNeg).toNatClampNeg).toInt = (b9g_nodeLevel S a1.toNatClampNeg).toInt ∧ (b9g_itemMany Z).toInt ≤ (b9g_itemMany S).toInt + 1)) ∧ n2 = ((b9g_nodeLeaf S a1.toNatClampNeg).toInt + (b9g_nodeLeaves S a1.toNatClampNeg).toInt - z3.toInt).toNat) := by
          intro W r hW hFW hpW hiW
          have eMW : b9g_nodeMany W = b9g_nodeMany S := hFW.2.2.2.2.2.2.2.2.2.2.2.2.2.2.2.2.1
          unfold wp_X9_laysNode_90
          refine ⟨fun _ => next W hW hFW hpW (by omega), fun _ => ?_⟩
          refine sf_X9_key hW.1 (by omega) (by omega) (fun r1 _ => ⟨pt_in (by omega) (by omega), sf_X9_byteOf hW.1 (fun r3 => ?_)⟩)
          refine sf_X9_laysItem hW (by omega) (fun u6 hJ6 hf6 h6 => ?_)
          have ep : b9g_places u6 = b9g_places W := hf6.2.2.2.2.2.2.2.2.2.2.2.2.2.2.2.2.2.2.2.2.2.2.2.1
          refine next u6 hJ6 ⟨(hf6.1).trans (hFW.1), (hf6.2.1).trans (hFW.2.1), (hf6.2.2.1).trans (hFW.2.2.1), (hf6.2.2.2.1).trans (hFW.2.2.2.1), (hf6.2.2.2.2.1).trans (hFW.2.2.2.2.1), (hf6.2.2.2.2.2.1).trans (hFW.2.2.2.2.2.1), (hf6.2.2.2.2.2.2.1).trans (hFW.2.2.2.2.2.2.1), (hf6.2.2.2.2.2.2.2.1).trans (hFW.2.2.2.2.2.2.2.1), (hf6.2.2.2.2.2.2.2.2.1).trans (hFW.2.2.2.2.2.2.2.2.1), (hf6.2.2.2.2.2.2.2.2.2.1).trans (hFW.2.2.2.2.2.2.2.2.2.1), (hf6.2.2.2.2.2.2.2.2.2.2.1).trans (hFW.2.2.2.2.2.2.2.2.2.2.1), (hf6.2.2.2.2.2.2.2.2.2.2.2.1).trans (hFW.2.2.2.2.2.2.2.2.2.2.2.1), (hf6.2.2.2.2.2.2.2.2.2.2.2.2.1).trans (hFW.2.2.2.2.2.2.2.2.2.2.2.2.1), (hf6.2.2.2.2.2.2.2.2.2.2.2.2.2.1).trans (hFW.2.2.2.2.2.2.2.2.2.2.2.2.2.1), (hf6.2.2.2.2.2.2.2.2.2.2.2.2.2.2.1).trans (hFW.2.2.2.2.2.2.2.2.2.2.2.2.2.2.1), (hf6.2.2.2.2.2.2.2.2.2.2.2.2.2.2.2.1).trans (hFW.2.2.2.2.2.2.2.2.2.2.2.2.2.2.2.1), (hf6.2.2.2.2.2.2.2.2.2.2.2.2.2.2.2.2.1).trans (hFW.2.2.2.2.2.2.2.2.2.2.2.2.2.2.2.2.1), (hf6.2.2.2.2.2.2.2.2.2.2.2.2.2.2.2.2.2.1).trans (hFW.2.2.2.2.2.2.2.2.2.2.2.2.2.2.2.2.2.1), (hf6.2.2.2.2.2.2.2.2.2.2.2.2.2.2.2.2.2.2.1).trans (hFW.2.2.2.2.2.2.2.2.2.2.2.2.2.2.2.2.2.2.1), (hf6.2.2.2.2.2.2.2.2.2.2.2.2.2.2.2.2.2.2.2.1).trans (hFW.2.2.2.2.2.2.2.2.2.2.2.2.2.2.2.2.2.2.2.1), (hf6.2.2.2.2.2.2.2.2.2.2.2.2.2.2.2.2.2.2.2.2.1).trans (hFW.2.2.2.2.2.2.2.2.2.2.2.2.2.2.2.2.2.2.2.2.1), (hf6.2.2.2.2.2.2.2.2.2.2.2.2.2.2.2.2.2.2.2.2.2.2.2.2.1).trans (hFW.2.2.2.2.2.2.2.2.2.2.2.2.2.2.2.2.2.2.2.2.2.1), (hf6.2.2.2.2.2.2.2.2.2.2.2.2.2.2.2.2.2.2.2.2.2.2.2.2.2.1).trans (hFW.2.2.2.2.2.2.2.2.2.2.2.2.2.2.2.2.2.2.2.2.2.2.1), (hf6.2.2.2.2.2.2.2.2.2.2.2.2.2.2.2.2.2.2.2.2.2.2.2.2.2.2.1).trans (hFW.2.2.2.2.2.2.2.2.2.2.2.2.2.2.2.2.2.2.2.2.2.2.2.1), (hf6.2.2.2.2.2.2.2.2.2.2.2.2.2.2.2.2.2.2.2.2.2.2.2.2.2.2.2.1).trans (hFW.2.2.2.2.2.2.2.2.2.2.2.2.2.2.2.2.2.2.2.2.2.2.2.2.1), (hf6.2.2.2.2.2.2.2.2.2.2.2.2.2.2.2.2.2.2.2.2.2.2.2.2.2.2.2.2.1).trans (hFW.2.2.2.2.2.2.2.2.2.2.2.2.2.2.2.2.2.2.2.2.2.2.2.2.2.1), (hf6.2.2.2.2.2.2.2.2.2.2.2.2.2.2.2.2.2.2.2.2.2.2.2.2.2.2.2.2.2.1).trans (hFW.2.2.2.2.2.2.2.2.2.2.2.2.2.2.2.2.2.2.2.2.2.2.2.2.2.2.1), (hf6.2.2.2.2.2.2.2.2.2.2.2.2.2.2.2.2.2.2.2.2.2.2.2.2.2.2.2.2.2.2.1).trans (hFW.2.2.2.2.2.2.2.2.2.2.2.2.2.2.2.2.2.2.2.2.2.2.2.2.2.2.2.1), (hf6.2.2.2.2.2.2.2.2.2.2.2.2.2.2.2.2.2.2.2.2.2.2.2.2.2.2.2.2.2.2.2.1).trans (hFW.2.2.2.2.2.2.2.2.2.2.2.2.2.2.2.2.2.2.2.2.2.2.2.2.2.2.2.2.1), (hf6.2.2.2.2.2.2.2.2.2.2.2.2.2.2.2.2.2.2.2.2.2.2.2.2.2.2.2.2.2.2.2.2.1).trans (hFW.2.2.2.2.2.2.2.2.2.2.2.2.2.2.2.2.2.2.2.2.2.2.2.2.2.2.2.2.2.1), (hf6.2.2.2.2.2.2.2.2.2.2.2.2.2.2.2.2.2.2.2.2.2.2.2.2.2.2.2.2.2.2.2.2.2.1).trans (hFW.2.2.2.2.2.2.2.2.2.2.2.2.2.2.2.2.2.2.2.2.2.2.2.2.2.2.2.2.2.2.1), (hf6.2.2.2.2.2.2.2.2.2.2.2.2.2.2.2.2.2.2.2.2.2.2.2.2.2.2.2.2.2.2.2.2.2.2.1).trans (hFW.2.2.2.2.2.2.2.2.2.2.2.2.2.2.2.2.2.2.2.2.2.2.2.2.2.2.2.2.2.2.2.1), (hf6.2.2.2.2.2.2.2.2.2.2.2.2.2.2.2.2.2.2.2.2.2.2.2.2.2.2.2.2.2.2.2.2.2.2.2.1).trans (hFW.2.2.2.2.2.2.2.2.2.2.2.2.2.2.2.2.2.2.2.2.2.2.2.2.2.2.2.2.2.2.2.2.1), (hf6.2.2.2.2.2.2.2.2.2.2.2.2.2.2.2.2.2.2.2.2.2.2.2.2.2.2.2.2.2.2.2.2.2.2.2.2.1).trans (hFW.2.2.2.2.2.2.2.2.2.2.2.2.2.2.2.2.2.2.2.2.2.2.2.2.2.2.2.2.2.2.2.2.2.1), (hf6.2.2.2.2.2.2.2.2.2.2.2.2.2.2.2.2.2.2.2.2.2.2.2.2.2.2.2.2.2.2.2.2.2.2.2.2.2.1).trans (hFW.2.2.2.2.2.2.2.2.2.2.2.2.2.2.2.2.2.2.2.2.2.2.2.2.2.2.2.2.2.2.2.2.2.2.1), (hf6.2.2.2.2.2.2.2.2.2.2.2.2.2.2.2.2.2.2.2.2.2.2.2.2.2.2.2.2.2.2.2.2.2.2.2.2.2.2.1).trans (hFW.2.2.2.2.2.2.2.2.2.2.2.2.2.2.2.2.2.2.2.2.2.2.2.2.2.2.2.2.2.2.2.2.2.2.2.1), (hf6.2.2.2.2.2.2.2.2.2.2.2.2.2.2.2.2.2.2.2.2.2.2.2.2.2.2.2.2.2.2.2.2.2.2.2.2.2.2.2.1).trans (hFW.2.2.2.2.2.2.2.2.2.2.2.2.2.2.2.2.2.2.2.2.2.2.2.2.2.2.2.2.2.2.2.2.2.2.2.2.1), (hf6.2.2.2.2.2.2.2.2.2.2.2.2.2.2.2.2.2.2.2.2.2.2.2.2.2.2.2.2.2.2.2.2.2.2.2.2.2.2.2.2.1).trans (hFW.2.2.2.2.2.2.2.2.2.2.2.2.2.2.2.2.2.2.2.2.2.2.2.2.2.2.2.2.2.2.2.2.2.2.2.2.2.1), (hf6.2.2.2.2.2.2.2.2.2.2.2.2.2.2.2.2.2.2.2.2.2.2.2.2.2.2.2.2.2.2.2.2.2.2.2.2.2.2.2.2.2).trans (hFW.2.2.2.2.2.2.2.2.2.2.2.2.2.2.2.2.2.2.2.2.2.2.2.2.2.2.2.2.2.2.2.2.2.2.2.2.2.2)⟩ ?_ (by omega)
          rw [ep]
          exact hpW
        refine sf_X9_childAt hJV.1 hp0 hmV (fun r11 h11 => ⟨fun c3 => fin V r11 hJV hF weak hi2, fun c3 => ?_⟩)
        simp (disch := first | ((try simp (disch := first | ((try simp only [pn]) <;> omega) | fail) only [pn, pq]) <;> omega) | fail) only [pn, pq] at c3
        have hnc := h11 c3
        rw [eM, eL, eF] at hnc
        have hPL : PLS S a1.toNatClampNeg x3.toNatClampNeg := by
          refine PL_branch hN hM hC jb (by omega) (by omega) (by omega) (by omega) b1 ?_ (fun y q1 q2 q3 => by have := hnc y q1 q2 q3; omega)
          rcases b2 with b2 | b2
          · left; omega
          · right; exact b2
        obtain ⟨T, ta, tb⟩ := hpV
        have hTf : T x3.toNatClampNeg = false := by
          cases hT : T x3.toNatClampNeg with
          | false => rfl
          | true =>
            exfalso
            have hbeg : (b9g_beginning S x3.toNatClampNeg).toInt = (b9g_nodeLevel S a1.toNatClampNeg).toInt + 1 := by
              unfold PLS at hPL
              rcases hPL with ⟨_, q⟩ | ⟨_, _, q, _⟩
              · omega
              · exact q
            rcases ta _ hT with ⟨y, y1, y2⟩ | ⟨y1, y2⟩
            · exact PL_once hN y1 (by omega) y2 hPL
            · omega
        have hlt := cntB_lt (n := 64) (show x3.toNatClampNeg < 64 by omega) hTf
        have hset := cntB_set (n := 64) (show x3.toNatClampNeg < 64 by omega) hTf
        refine sf_X9_places hJV (by omega) (by omega) (by omega) (fun u14 hJ14 hf14 h14 => ?_)
        have eI : b9g_itemMany u14 = b9g_itemMany V := hf14.2.2.2.2.2.2.2.2.2.2.2.2.2.2.2.2.2.2.2.2.2.2.2.2.1
        refine fin u14 r11 hJ14 ⟨(hf14.1).trans (hF.1), (hf14.2.1).trans (hF.2.1), (hf14.2.2.1).trans (hF.2.2.1), (hf14.2.2.2.1).trans (hF.2.2.2.1), (hf14.2.2.2.2.1).trans (hF.2.2.2.2.1), (hf14.2.2.2.2.2.1).trans (hF.2.2.2.2.2.1), (hf14.2.2.2.2.2.2.1).trans (hF.2.2.2.2.2.2.1), (hf14.2.2.2.2.2.2.2.1).trans (hF.2.2.2.2.2.2.2.1), (hf14.2.2.2.2.2.2.2.2.1).trans (hF.2.2.2.2.2.2.2.2.1), (hf14.2.2.2.2.2.2.2.2.2.1).trans (hF.2.2.2.2.2.2.2.2.2.1), (hf14.2.2.2.2.2.2.2.2.2.2.1).trans (hF.2.2.2.2.2.2.2.2.2.2.1), (hf14.2.2.2.2.2.2.2.2.2.2.2.1).trans (hF.2.2.2.2.2.2.2.2.2.2.2.1), (hf14.2.2.2.2.2.2.2.2.2.2.2.2.1).trans (hF.2.2.2.2.2.2.2.2.2.2.2.2.1), (hf14.2.2.2.2.2.2.2.2.2.2.2.2.2.1).trans (hF.2.2.2.2.2.2.2.2.2.2.2.2.2.1), (hf14.2.2.2.2.2.2.2.2.2.2.2.2.2.2.1).trans (hF.2.2.2.2.2.2.2.2.2.2.2.2.2.2.1), (hf14.2.2.2.2.2.2.2.2.2.2.2.2.2.2.2.1).trans (hF.2.2.2.2.2.2.2.2.2.2.2.2.2.2.2.1), (hf14.2.2.2.2.2.2.2.2.2.2.2.2.2.2.2.2.1).trans (hF.2.2.2.2.2.2.2.2.2.2.2.2.2.2.2.2.1), (hf14.2.2.2.2.2.2.2.2.2.2.2.2.2.2.2.2.2.1).trans (hF.2.2.2.2.2.2.2.2.2.2.2.2.2.2.2.2.2.1), (hf14.2.2.2.2.2.2.2.2.2.2.2.2.2.2.2.2.2.2.1).trans (hF.2.2.2.2.2.2.2.2.2.2.2.2.2.2.2.2.2.2.1), (hf14.2.2.2.2.2.2.2.2.2.2.2.2.2.2.2.2.2.2.2.1).trans (hF.2.2.2.2.2.2.2.2.2.2.2.2.2.2.2.2.2.2.2.1), (hf14.2.2.2.2.2.2.2.2.2.2.2.2.2.2.2.2.2.2.2.2.1).trans (hF.2.2.2.2.2.2.2.2.2.2.2.2.2.2.2.2.2.2.2.2.1), (hf14.2.2.2.2.2.2.2.2.2.2.2.2.2.2.2.2.2.2.2.2.2.2.2.2.2.1).trans (hF.2.2.2.2.2.2.2.2.2.2.2.2.2.2.2.2.2.2.2.2.2.1), (hf14.2.2.2.2.2.2.2.2.2.2.2.2.2.2.2.2.2.2.2.2.2.2.2.2.2.2.1).trans (hF.2.2.2.2.2.2.2.2.2.2.2.2.2.2.2.2.2.2.2.2.2.2.1), (hf14.2.2.2.2.2.2.2.2.2.2.2.2.2.2.2.2.2.2.2.2.2.2.2.2.2.2.2.1).trans (hF.2.2.2.2.2.2.2.2.2.2.2.2.2.2.2.2.2.2.2.2.2.2.2.1), (hf14.2.2.2.2.2.2.2.2.2.2.2.2.2.2.2.2.2.2.2.2.2.2.2.2.2.2.2.2.1).trans (hF.2.2.2.2.2.2.2.2.2.2.2.2.2.2.2.2.2.2.2.2.2.2.2.2.1), (hf14.2.2.2.2.2.2.2.2.2.2.2.2.2.2.2.2.2.2.2.2.2.2.2.2.2.2.2.2.2.1).trans (hF.2.2.2.2.2.2.2.2.2.2.2.2.2.2.2.2.2.2.2.2.2.2.2.2.2.1), (hf14.2.2.2.2.2.2.2.2.2.2.2.2.2.2.2.2.2.2.2.2.2.2.2.2.2.2.2.2.2.2.1).trans (hF.2.2.2.2.2.2.2.2.2.2.2.2.2.2.2.2.2.2.2.2.2.2.2.2.2.2.1), (hf14.2.2.2.2.2.2.2.2.2.2.2.2.2.2.2.2.2.2.2.2.2.2.2.2.2.2.2.2.2.2.2.1).trans (hF.2.2.2.2.2.2.2.2.2.2.2.2.2.2.2.2.2.2.2.2.2.2.2.2.2.2.2.1), (hf14.2.2.2.2.2.2.2.2.2.2.2.2.2.2.2.2.2.2.2.2.2.2.2.2.2.2.2.2.2.2.2.2.1).trans (hF.2.2.2.2.2.2.2.2.2.2.2.2.2.2.2.2.2.2.2.2.2.2.2.2.2.2.2.2.1), (hf14.2.2.2.2.2.2.2.2.2.2.2.2.2.2.2.2.2.2.2.2.2.2.2.2.2.2.2.2.2.2.2.2.2.1).trans (hF.2.2.2.2.2.2.2.2.2.2.2.2.2.2.2.2.2.2.2.2.2.2.2.2.2.2.2.2.2.1), (hf14.2.2.2.2.2.2.2.2.2.2.2.2.2.2.2.2.2.2.2.2.2.2.2.2.2.2.2.2.2.2.2.2.2.2.1).trans (hF.2.2.2.2.2.2.2.2.2.2.2.2.2.2.2.2.2.2.2.2.2.2.2.2.2.2.2.2.2.2.1), (hf14.2.2.2.2.2.2.2.2.2.2.2.2.2.2.2.2.2.2.2.2.2.2.2.2.2.2.2.2.2.2.2.2.2.2.2.1).trans (hF.2.2.2.2.2.2.2.2.2.2.2.2.2.2.2.2.2.2.2.2.2.2.2.2.2.2.2.2.2.2.2.1), (hf14.2.2.2.2.2.2.2.2.2.2.2.2.2.2.2.2.2.2.2.2.2.2.2.2.2.2.2.2.2.2.2.2.2.2.2.2.1).trans (hF.2.2.2.2.2.2.2.2.2.2.2.2.2.2.2.2.2.2.2.2.2.2.2.2.2.2.2.2.2.2.2.2.1), (hf14.2.2.2.2.2.2.2.2.2.2.2.2.2.2.2.2.2.2.2.2.2.2.2.2.2.2.2.2.2.2.2.2.2.2.2.2.2.1).trans (hF.2.2.2.2.2.2.2.2.2.2.2.2.2.2.2.2.2.2.2.2.2.2.2.2.2.2.2.2.2.2.2.2.2.1), (hf14.2.2.2.2.2.2.2.2.2.2.2.2.2.2.2.2.2.2.2.2.2.2.2.2.2.2.2.2.2.2.2.2.2.2.2.2.2.2.1).trans (hF.2.2.2.2.2.2.2.2.2.2.2.2.2.2.2.2.2.2.2.2.2.2.2.2.2.2.2.2.2.2.2.2.2.2.1), (hf14.2.2.2.2.2.2.2.2.2.2.2.2.2.2.2.2.2.2.2.2.2.2.2.2.2.2.2.2.2.2.2.2.2.2.2.2.2.2.2.1).trans (hF.2.2.2.2.2.2.2.2.2.2.2.2.2.2.2.2.2.2.2.2.2.2.2.2.2.2.2.2.2.2.2.2.2.2.2.1), (hf14.2.2.2.2.2.2.2.2.2.2.2.2.2.2.2.2.2.2.2.2.2.2.2.2.2.2.2.2.2.2.2.2.2.2.2.2.2.2.2.2.1).trans (hF.2.2.2.2.2.2.2.2.2.2.2.2.2.2.2.2.2.2.2.2.2.2.2.2.2.2.2.2.2.2.2.2.2.2.2.2.1), (hf14.2.2.2.2.2.2.2.2.2.2.2.2.2.2.2.2.2.2.2.2.2.2.2.2.2.2.2.2.2.2.2.2.2.2.2.2.2.2.2.2.2.1).trans (hF.2.2.2.2.2.2.2.2.2.2.2.2.2.2.2.2.2.2.2.2.2.2.2.2.2.2.2.2.2.2.2.2.2.2.2.2.2.1), (hf14.2.2.2.2.2.2.2.2.2.2.2.2.2.2.2.2.2.2.2.2.2.2.2.2.2.2.2.2.2.2.2.2.2.2.2.2.2.2.2.2.2.2).trans (hF.2.2.2.2.2.2.2.2.2.2.2.2.2.2.2.2.2.2.2.2.2.2.2.2.2.2.2.2.2.2.2.2.2.2.2.2.2.2)⟩ ⟨setB T x3.toNatClampNeg, fun i hi => ?_, by omega⟩ (by rw [eI]; exact hi2)
        rcases setB_true hi with h | h
        · subst h
          exact Or.inr ⟨hPL, Or.inl (by omega)⟩
        · rcases ta i h with h | ⟨q1, q2⟩
          · exact Or.inl h
          · exact Or.inr ⟨q1, by omega⟩
      · refine next V hJV hF weak ?_
        rcases hiV with h | ⟨h, h', h''⟩
        · omega
        · omega
  have start : ∀ t0 : Int32, wp_X9_laysNode_13 S a1 t0 Q := by
    intro t0
    have hF0 : F_X9_laysNode S S := ⟨rfl, rfl, rfl, rfl, rfl, rfl, rfl, rfl, rfl, rfl, rfl, rfl, rfl, rfl, rfl, rfl, rfl, rfl, rfl, rfl, rfl, rfl, rfl, rfl, rfl, rfl, rfl, rfl, rfl, rfl, rfl, rfl, rfl, rfl, rfl, rfl, rfl, rfl, rfl⟩
    unfold wp_X9_laysNode_13
    refine sf_X9_isNodeEnd hJ.1 hp0 hp1 (fun r15 hz hr => ⟨fun c => ?_, fun c => ?_⟩)
    · exact loop t0 S hJ hF0 ⟨T0, fun i hi => Or.inl (t1 i hi), t2⟩ (Or.inl (by omega))
    · simp (disch := first | ((try simp (disch := first | ((try simp only [pn]) <;> omega) | fail) only [pn, pq]) <;> omega) | fail) only [pn, pq] at c
      have hbe : (b9g_beginning S (b9g_nodeLeaf S a1.toNatClampNeg).toNatClampNeg).toInt = (b9g_nodeLevel S a1.toNatClampNeg).toInt := by omega
      have hPL : PLS S a1.toNatClampNeg (b9g_nodeLeaf S a1.toNatClampNeg).toNatClampNeg := Or.inl ⟨by omega, hbe⟩
      have hTf : T0 (b9g_nodeLeaf S a1.toNatClampNeg).toNatClampNeg = false := by
        cases hT : T0 (b9g_nodeLeaf S a1.toNatClampNeg).toNatClampNeg with
        | false => rfl
        | true =>
          exfalso
          obtain ⟨y, y1, y2⟩ := t1 _ hT
          exact PL_once hN y1 (by omega) y2 hPL
      have hlt := cntB_lt (n := 64) (show (b9g_nodeLeaf S a1.toNatClampNeg).toNatClampNeg < 64 by omega) hTf
      have hset := cntB_set (n := 64) (show (b9g_nodeLeaf S a1.toNatClampNeg).toNatClampNeg < 64 by omega) hTf
      refine ⟨pt_in (by omega) (by omega), sf_X9_places hJ (by omega) (by omega) (by omega) (fun u18 hJ18 hf18 h18 => ?_)⟩
      have eI : b9g_itemMany u18 = b9g_itemMany S := hf18.2.2.2.2.2.2.2.2.2.2.2.2.2.2.2.2.2.2.2.2.2.2.2.2.1
      have hF18 : F_X9_laysNode S u18 := ⟨(hf18.1).trans (hF0.1), (hf18.2.1).trans (hF0.2.1), (hf18.2.2.1).trans (hF0.2.2.1), (hf18.2.2.2.1).trans (hF0.2.2.2.1), (hf18.2.2.2.2.1).trans (hF0.2.2.2.2.1), (hf18.2.2.2.2.2.1).trans (hF0.2.2.2.2.2.1), (hf18.2.2.2.2.2.2.1).trans (hF0.2.2.2.2.2.2.1), (hf18.2.2.2.2.2.2.2.1).trans (hF0.2.2.2.2.2.2.2.1), (hf18.2.2.2.2.2.2.2.2.1).trans (hF0.2.2.2.2.2.2.2.2.1), (hf18.2.2.2.2.2.2.2.2.2.1).trans (hF0.2.2.2.2.2.2.2.2.2.1), (hf18.2.2.2.2.2.2.2.2.2.2.1).trans (hF0.2.2.2.2.2.2.2.2.2.2.1), (hf18.2.2.2.2.2.2.2.2.2.2.2.1).trans (hF0.2.2.2.2.2.2.2.2.2.2.2.1), (hf18.2.2.2.2.2.2.2.2.2.2.2.2.1).trans (hF0.2.2.2.2.2.2.2.2.2.2.2.2.1), (hf18.2.2.2.2.2.2.2.2.2.2.2.2.2.1).trans (hF0.2.2.2.2.2.2.2.2.2.2.2.2.2.1), (hf18.2.2.2.2.2.2.2.2.2.2.2.2.2.2.1).trans (hF0.2.2.2.2.2.2.2.2.2.2.2.2.2.2.1), (hf18.2.2.2.2.2.2.2.2.2.2.2.2.2.2.2.1).trans (hF0.2.2.2.2.2.2.2.2.2.2.2.2.2.2.2.1), (hf18.2.2.2.2.2.2.2.2.2.2.2.2.2.2.2.2.1).trans (hF0.2.2.2.2.2.2.2.2.2.2.2.2.2.2.2.2.1), (hf18.2.2.2.2.2.2.2.2.2.2.2.2.2.2.2.2.2.1).trans (hF0.2.2.2.2.2.2.2.2.2.2.2.2.2.2.2.2.2.1), (hf18.2.2.2.2.2.2.2.2.2.2.2.2.2.2.2.2.2.2.1).trans (hF0.2.2.2.2.2.2.2.2.2.2.2.2.2.2.2.2.2.2.1), (hf18.2.2.2.2.2.2.2.2.2.2.2.2.2.2.2.2.2.2.2.1).trans (hF0.2.2.2.2.2.2.2.2.2.2.2.2.2.2.2.2.2.2.2.1), (hf18.2.2.2.2.2.2.2.2.2.2.2.2.2.2.2.2.2.2.2.2.1).trans (hF0.2.2.2.2.2.2.2.2.2.2.2.2.2.2.2.2.2.2.2.2.1), (hf18.2.2.2.2.2.2.2.2.2.2.2.2.2.2.2.2.2.2.2.2.2.2.2.2.2.1).trans (hF0.2.2.2.2.2.2.2.2.2.2.2.2.2.2.2.2.2.2.2.2.2.1), (hf18.2.2.2.2.2.2.2.2.2.2.2.2.2.2.2.2.2.2.2.2.2.2.2.2.2.2.1).trans (hF0.2.2.2.2.2.2.2.2.2.2.2.2.2.2.2.2.2.2.2.2.2.2.1), (hf18.2.2.2.2.2.2.2.2.2.2.2.2.2.2.2.2.2.2.2.2.2.2.2.2.2.2.2.1).trans (hF0.2.2.2.2.2.2.2.2.2.2.2.2.2.2.2.2.2.2.2.2.2.2.2.1), (hf18.2.2.2.2.2.2.2.2.2.2.2.2.2.2.2.2.2.2.2.2.2.2.2.2.2.2.2.2.1).trans (hF0.2.2.2.2.2.2.2.2.2.2.2.2.2.2.2.2.2.2.2.2.2.2.2.2.1), (hf18.2.2.2.2.2.2.2.2.2.2.2.2.2.2.2.2.2.2.2.2.2.2.2.2.2.2.2.2.2.1).trans (hF0.2.2.2.2.2.2.2.2.2.2.2.2.2.2.2.2.2.2.2.2.2.2.2.2.2.1), (hf18.2.2.2.2.2.2.2.2.2.2.2.2.2.2.2.2.2.2.2.2.2.2.2.2.2.2.2.2.2.2.1).trans (hF0.2.2.2.2.2.2.2.2.2.2.2.2.2.2.2.2.2.2.2.2.2.2.2.2.2.2.1), (hf18.2.2.2.2.2.2.2.2.2.2.2.2.2.2.2.2.2.2.2.2.2.2.2.2.2.2.2.2.2.2.2.1).trans (hF0.2.2.2.2.2.2.2.2.2.2.2.2.2.2.2.2.2.2.2.2.2.2.2.2.2.2.2.1), (hf18.2.2.2.2.2.2.2.2.2.2.2.2.2.2.2.2.2.2.2.2.2.2.2.2.2.2.2.2.2.2.2.2.1).trans (hF0.2.2.2.2.2.2.2.2.2.2.2.2.2.2.2.2.2.2.2.2.2.2.2.2.2.2.2.2.1), (hf18.2.2.2.2.2.2.2.2.2.2.2.2.2.2.2.2.2.2.2.2.2.2.2.2.2.2.2.2.2.2.2.2.2.1).trans (hF0.2.2.2.2.2.2.2.2.2.2.2.2.2.2.2.2.2.2.2.2.2.2.2.2.2.2.2.2.2.1), (hf18.2.2.2.2.2.2.2.2.2.2.2.2.2.2.2.2.2.2.2.2.2.2.2.2.2.2.2.2.2.2.2.2.2.2.1).trans (hF0.2.2.2.2.2.2.2.2.2.2.2.2.2.2.2.2.2.2.2.2.2.2.2.2.2.2.2.2.2.2.1), (hf18.2.2.2.2.2.2.2.2.2.2.2.2.2.2.2.2.2.2.2.2.2.2.2.2.2.2.2.2.2.2.2.2.2.2.2.1).trans (hF0.2.2.2.2.2.2.2.2.2.2.2.2.2.2.2.2.2.2.2.2.2.2.2.2.2.2.2.2.2.2.2.1), (hf18.2.2.2.2.2.2.2.2.2.2.2.2.2.2.2.2.2.2.2.2.2.2.2.2.2.2.2.2.2.2.2.2.2.2.2.2.1).trans (hF0.2.2.2.2.2.2.2.2.2.2.2.2.2.2.2.2.2.2.2.2.2.2.2.2.2.2.2.2.2.2.2.2.1), (hf18.2.2.2.2.2.2.2.2.2.2.2.2.2.2.2.2.2.2.2.2.2.2.2.2.2.2.2.2.2.2.2.2.2.2.2.2.2.1).trans (hF0.2.2.2.2.2.2.2.2.2.2.2.2.2.2.2.2.2.2.2.2.2.2.2.2.2.2.2.2.2.2.2.2.2.1), (hf18.2.2.2.2.2.2.2.2.2.2.2.2.2.2.2.2.2.2.2.2.2.2.2.2.2.2.2.2.2.2.2.2.2.2.2.2.2.2.1).trans (hF0.2.2.2.2.2.2.2.2.2.2.2.2.2.2.2.2.2.2.2.2.2.2.2.2.2.2.2.2.2.2.2.2.2.2.1), (hf18.2.2.2.2.2.2.2.2.2.2.2.2.2.2.2.2.2.2.2.2.2.2.2.2.2.2.2.2.2.2.2.2.2.2.2.2.2.2.2.1).trans (hF0.2.2.2.2.2.2.2.2.2.2.2.2.2.2.2.2.2.2.2.2.2.2.2.2.2.2.2.2.2.2.2.2.2.2.2.1), (hf18.2.2.2.2.2.2.2.2.2.2.2.2.2.2.2.2.2.2.2.2.2.2.2.2.2.2.2.2.2.2.2.2.2.2.2.2.2.2.2.2.1).trans (hF0.2.2.2.2.2.2.2.2.2.2.2.2.2.2.2.2.2.2.2.2.2.2.2.2.2.2.2.2.2.2.2.2.2.2.2.2.1), (hf18.2.2.2.2.2.2.2.2.2.2.2.2.2.2.2.2.2.2.2.2.2.2.2.2.2.2.2.2.2.2.2.2.2.2.2.2.2.2.2.2.2.1).trans (hF0.2.2.2.2.2.2.2.2.2.2.2.2.2.2.2.2.2.2.2.2.2.2.2.2.2.2.2.2.2.2.2.2.2.2.2.2.2.1), (hf18.2.2.2.2.2.2.2.2.2.2.2.2.2.2.2.2.2.2.2.2.2.2.2.2.2.2.2.2.2.2.2.2.2.2.2.2.2.2.2.2.2.2).trans (hF0.2.2.2.2.2.2.2.2.2.2.2.2.2.2.2.2.2.2.2.2.2.2.2.2.2.2.2.2.2.2.2.2.2.2.2.2.2.2)⟩
      have hp18 : ∀ W : bT9, b9g_places W = b9g_places u18 → (∃ T : Nat → Bool, (∀ i : Nat, T i = true → (∃ y : Nat, y < a1.toNatClampNeg ∧ PLS S y i) ∨ (PLS S a1.toNatClampNeg i ∧ ((i : Int) < (b9g_nodeLeaf S a1.toNatClampNeg).toInt ∨ (b9g_beginning S i).toInt = (b9g_nodeLevel S a1.toNatClampNeg).toInt))) ∧ (b9g_places W).toInt = cntB T 64) := by
        intro W eW
        refine ⟨setB T0 (b9g_nodeLeaf S a1.toNatClampNeg).toNatClampNeg, fun i hi => ?_, by rw [eW]; omega⟩
        rcases setB_true hi with h | h
        · subst h
          exact Or.inr ⟨hPL, Or.inr hbe⟩
        · exact Or.inl (t1 i h)
      refine ⟨fun _ => ?_, fun _ => ?_⟩
      · exact loop t0 u18 hJ18 hF18 (hp18 u18 rfl) (Or.inl (by rw [eI]; omega))
      · refine sf_X9_laysItem hJ18 (by rw [eI]; omega) (fun u20 hJ20 hf20 h20 => ?_)
        have ep : b9g_places u20 = b9g_places u18 := hf20.2.2.2.2.2.2.2.2.2.2.2.2.2.2.2.2.2.2.2.2.2.2.2.1
        refine loop t0 u20 hJ20 ⟨(hf20.1).trans (hF18.1), (hf20.2.1).trans (hF18.2.1), (hf20.2.2.1).trans (hF18.2.2.1), (hf20.2.2.2.1).trans (hF18.2.2.2.1), (hf20.2.2.2.2.1).trans (hF18.2.2.2.2.1), (hf20.2.2.2.2.2.1).trans (hF18.2.2.2.2.2.1), (hf20.2.2.2.2.2.2.1).trans (hF18.2.2.2.2.2.2.1), (hf20.2.2.2.2.2.2.2.1).trans (hF18.2.2.2.2.2.2.2.1), (hf20.2.2.2.2.2.2.2.2.1).trans (hF18.2.2.2.2.2.2.2.2.1), (hf20.2.2.2.2.2.2.2.2.2.1).trans (hF18.2.2.2.2.2.2.2.2.2.1), (hf20.2.2.2.2.2.2.2.2.2.2.1).trans (hF18.2.2.2.2.2.2.2.2.2.2.1), (hf20.2.2.2.2.2.2.2.2.2.2.2.1).trans (hF18.2.2.2.2.2.2.2.2.2.2.2.1), (hf20.2.2.2.2.2.2.2.2.2.2.2.2.1).trans (hF18.2.2.2.2.2.2.2.2.2.2.2.2.1), (hf20.2.2.2.2.2.2.2.2.2.2.2.2.2.1).trans (hF18.2.2.2.2.2.2.2.2.2.2.2.2.2.1), (hf20.2.2.2.2.2.2.2.2.2.2.2.2.2.2.1).trans (hF18.2.2.2.2.2.2.2.2.2.2.2.2.2.2.1), (hf20.2.2.2.2.2.2.2.2.2.2.2.2.2.2.2.1).trans (hF18.2.2.2.2.2.2.2.2.2.2.2.2.2.2.2.1), (hf20.2.2.2.2.2.2.2.2.2.2.2.2.2.2.2.2.1).trans (hF18.2.2.2.2.2.2.2.2.2.2.2.2.2.2.2.2.1), (hf20.2.2.2.2.2.2.2.2.2.2.2.2.2.2.2.2.2.1).trans (hF18.2.2.2.2.2.2.2.2.2.2.2.2.2.2.2.2.2.1), (hf20.2.2.2.2.2.2.2.2.2.2.2.2.2.2.2.2.2.2.1).trans (hF18.2.2.2.2.2.2.2.2.2.2.2.2.2.2.2.2.2.2.1), (hf20.2.2.2.2.2.2.2.2.2.2.2.2.2.2.2.2.2.2.2.1).trans (hF18.2.2.2.2.2.2.2.2.2.2.2.2.2.2.2.2.2.2.2.1), (hf20.2.2.2.2.2.2.2.2.2.2.2.2.2.2.2.2.2.2.2.2.1).trans (hF18.2.2.2.2.2.2.2.2.2.2.2.2.2.2.2.2.2.2.2.2.1), (hf20.2.2.2.2.2.2.2.2.2.2.2.2.2.2.2.2.2.2.2.2.2.2.2.2.1).trans (hF18.2.2.2.2.2.2.2.2.2.2.2.2.2.2.2.2.2.2.2.2.2.1), (hf20.2.2.2.2.2.2.2.2.2.2.2.2.2.2.2.2.2.2.2.2.2.2.2.2.2.1).trans (hF18.2.2.2.2.2.2.2.2.2.2.2.2.2.2.2.2.2.2.2.2.2.2.1), (hf20.2.2.2.2.2.2.2.2.2.2.2.2.2.2.2.2.2.2.2.2.2.2.2.2.2.2.1).trans (hF18.2.2.2.2.2.2.2.2.2.2.2.2.2.2.2.2.2.2.2.2.2.2.2.1), (hf20.2.2.2.2.2.2.2.2.2.2.2.2.2.2.2.2.2.2.2.2.2.2.2.2.2.2.2.1).trans (hF18.2.2.2.2.2.2.2.2.2.2.2.2.2.2.2.2.2.2.2.2.2.2.2.2.1), (hf20.2.2.2.2.2.2.2.2.2.2.2.2.2.2.2.2.2.2.2.2.2.2.2.2.2.2.2.2.1).trans (hF18.2.2.2.2.2.2.2.2.2.2.2.2.2.2.2.2.2.2.2.2.2.2.2.2.2.1), (hf20.2.2.2.2.2.2.2.2.2.2.2.2.2.2.2.2.2.2.2.2.2.2.2.2.2.2.2.2.2.1).trans (hF18.2.2.2.2.2.2.2.2.2.2.2.2.2.2.2.2.2.2.2.2.2.2.2.2.2.2.1), (hf20.2.2.2.2.2.2.2.2.2.2.2.2.2.2.2.2.2.2.2.2.2.2.2.2.2.2.2.2.2.2.1).trans (hF18.2.2.2.2.2.2.2.2.2.2.2.2.2.2.2.2.2.2.2.2.2.2.2.2.2.2.2.1), (hf20.2.2.2.2.2.2.2.2.2.2.2.2.2.2.2.2.2.2.2.2.2.2.2.2.2.2.2.2.2.2.2.1).trans (hF18.2.2.2.2.2.2.2.2.2.2.2.2.2.2.2.2.2.2.2.2.2.2.2.2.2.2.2.2.1), (hf20.2.2.2.2.2.2.2.2.2.2.2.2.2.2.2.2.2.2.2.2.2.2.2.2.2.2.2.2.2.2.2.2.1).trans (hF18.2.2.2.2.2.2.2.2.2.2.2.2.2.2.2.2.2.2.2.2.2.2.2.2.2.2.2.2.2.1), (hf20.2.2.2.2.2.2.2.2.2.2.2.2.2.2.2.2.2.2.2.2.2.2.2.2.2.2.2.2.2.2.2.2.2.1).trans (hF18.2.2.2.2.2.2.2.2.2.2.2.2.2.2.2.2.2.2.2.2.2.2.2.2.2.2.2.2.2.2.1), (hf20.2.2.2.2.2.2.2.2.2.2.2.2.2.2.2.2.2.2.2.2.2.2.2.2.2.2.2.2.2.2.2.2.2.2.1).trans (hF18.2.2.2.2.2.2.2.2.2.2.2.2.2.2.2.2.2.2.2.2.2.2.2.2.2.2.2.2.2.2.2.1), (hf20.2.2.2.2.2.2.2.2.2.2.2.2.2.2.2.2.2.2.2.2.2.2.2.2.2.2.2.2.2.2.2.2.2.2.2.1).trans (hF18.2.2.2.2.2.2.2.2.2.2.2.2.2.2.2.2.2.2.2.2.2.2.2.2.2.2.2.2.2.2.2.2.1), (hf20.2.2.2.2.2.2.2.2.2.2.2.2.2.2.2.2.2.2.2.2.2.2.2.2.2.2.2.2.2.2.2.2.2.2.2.2.1).trans (hF18.2.2.2.2.2.2.2.2.2.2.2.2.2.2.2.2.2.2.2.2.2.2.2.2.2.2.2.2.2.2.2.2.2.1), (hf20.2.2.2.2.2.2.2.2.2.2.2.2.2.2.2.2.2.2.2.2.2.2.2.2.2.2.2.2.2.2.2.2.2.2.2.2.2.1).trans (hF18.2.2.2.2.2.2.2.2.2.2.2.2.2.2.2.2.2.2.2.2.2.2.2.2.2.2.2.2.2.2.2.2.2.2.1), (hf20.2.2.2.2.2.2.2.2.2.2.2.2.2.2.2.2.2.2.2.2.2.2.2.2.2.2.2.2.2.2.2.2.2.2.2.2.2.2.1).trans (hF18.2.2.2.2.2.2.2.2.2.2.2.2.2.2.2.2.2.2.2.2.2.2.2.2.2.2.2.2.2.2.2.2.2.2.2.1), (hf20.2.2.2.2.2.2.2.2.2.2.2.2.2.2.2.2.2.2.2.2.2.2.2.2.2.2.2.2.2.2.2.2.2.2.2.2.2.2.2.1).trans (hF18.2.2.2.2.2.2.2.2.2.2.2.2.2.2.2.2.2.2.2.2.2.2.2.2.2.2.2.2.2.2.2.2.2.2.2.2.1), (hf20.2.2.2.2.2.2.2.2.2.2.2.2.2.2.2.2.2.2.2.2.2.2.2.2.2.2.2.2.2.2.2.2.2.2.2.2.2.2.2.2.1).trans (hF18.2.2.2.2.2.2.2.2.2.2.2.2.2.2.2.2.2.2.2.2.2.2.2.2.2.2.2.2.2.2.2.2.2.2.2.2.2.1), (hf20.2.2.2.2.2.2.2.2.2.2.2.2.2.2.2.2.2.2.2.2.2.2.2.2.2.2.2.2.2.2.2.2.2.2.2.2.2.2.2.2.2).trans (hF18.2.2.2.2.2.2.2.2.2.2.2.2.2.2.2.2.2.2.2.2.2.2.2.2.2.2.2.2.2.2.2.2.2.2.2.2.2.2)⟩ (hp18 u20 ep) (Or.inr ⟨rfl, hbe, ?_⟩)
        rw [eI] at h20
        omega
  unfold wp_X9_laysNode
  exact ⟨fun _ => start _, fun _ => start _⟩
