set_option maxRecDepth 20000 in
set_option maxHeartbeats 8000000 in
theorem sf_X9_powerOf {S : bT9} (hJ : K9 S) {a1 : Int32} {Q : Int64 → Prop} (hq : ∀ r : Int64, Q r) : wp_X9_powerOf S a1 Q := by
  unfold wp_X9_powerOf
  have jf1 : (-4 ≤ ((b9g_now S) 1).toInt ∧ ((b9g_now S) 1).toInt ≤ 4) ∧ (-3 ≤ ((b9g_now S) 4).toInt ∧ ((b9g_now S) 4).toInt ≤ 252) ∧ (0 ≤ ((b9g_now S) 8).toInt ∧ ((b9g_now S) 8).toInt ≤ 64) ∧ (0 ≤ ((b9g_now S) 9).toInt ∧ ((b9g_now S) 9).toInt ≤ 64) ∧ (0 ≤ ((b9g_now S) 10).toInt ∧ ((b9g_now S) 10).toInt ≤ 16) ∧ (0 ≤ ((b9g_now S) 12).toInt ∧ ((b9g_now S) 12).toInt ≤ 8) := K9g_now hJ
  have rga1 := pt_rg a1
  exact hq _ 
set_option maxRecDepth 20000 in
set_option maxHeartbeats 8000000 in
theorem sf_X9_lessKeys {S : bT9} (hJ : K9 S) {a1 : Int64} {a3 : Int32} {a4 : Int32} {Q : Int64 → Prop} (hq : ∀ r : Int64, Q r) : wp_X9_lessKeys S a1 a3 a4 Q := by
  unfold wp_X9_lessKeys
  have jf1 : (-4 ≤ ((b9g_now S) 1).toInt ∧ ((b9g_now S) 1).toInt ≤ 4) ∧ (-3 ≤ ((b9g_now S) 4).toInt ∧ ((b9g_now S) 4).toInt ≤ 252) ∧ (0 ≤ ((b9g_now S) 8).toInt ∧ ((b9g_now S) 8).toInt ≤ 64) ∧ (0 ≤ ((b9g_now S) 9).toInt ∧ ((b9g_now S) 9).toInt ≤ 64) ∧ (0 ≤ ((b9g_now S) 10).toInt ∧ ((b9g_now S) 10).toInt ≤ 16) ∧ (0 ≤ ((b9g_now S) 12).toInt ∧ ((b9g_now S) 12).toInt ≤ 8) := K9g_now hJ
  have rga3 := pt_rg a3
  have rga4 := pt_rg a4
  refine ⟨fun c1 => ?_, fun c1 => ?_⟩
  · try simp (disch := first | ((try simp (disch := first | ((try simp only [pn]) <;> omega) | fail) only [pn, pq]) <;> omega) | fail) only [pn, pq] at c1
    unfold wp_X9_lessKeys_21
    refine ⟨fun c2 => ?_, fun c2 => ?_⟩
    · try simp (disch := first | ((try simp (disch := first | ((try simp only [pn]) <;> omega) | fail) only [pn, pq]) <;> omega) | fail) only [pn, pq] at c2
      exact hq _ 
    · try simp (disch := first | ((try simp (disch := first | ((try simp only [pn]) <;> omega) | fail) only [pn, pq]) <;> omega) | fail) only [pn, pq] at c2
      exact hq _ 
  · try simp (disch := first | ((try simp (disch := first | ((try simp only [pn]) <;> omega) | fail) only [pn, pq]) <;> omega) | fail) only [pn, pq] at c1
    unfold wp_X9_lessKeys_21
    refine ⟨fun c3 => ?_, fun c3 => ?_⟩
    · try simp (disch := first | ((try simp (disch := first | ((try simp only [pn]) <;> omega) | fail) only [pn, pq]) <;> omega) | fail) only [pn, pq] at c3
      exact hq _ 
    · try simp (disch := first | ((try simp (disch := first | ((try simp only [pn]) <;> omega) | fail) only [pn, pq]) <;> omega) | fail) only [pn, pq] at c3
      exact hq _ 
set_option maxRecDepth 20000 in
set_option maxHeartbeats 8000000 in
theorem sf_X9_notMoreKeys {S : bT9} (hJ : K9 S) {a1 : Int64} {a3 : Int32} {a4 : Int32} {Q : Int64 → Prop} (hq : ∀ r : Int64, Q r) : wp_X9_notMoreKeys S a1 a3 a4 Q := by
  unfold wp_X9_notMoreKeys
  have jf1 : (-4 ≤ ((b9g_now S) 1).toInt ∧ ((b9g_now S) 1).toInt ≤ 4) ∧ (-3 ≤ ((b9g_now S) 4).toInt ∧ ((b9g_now S) 4).toInt ≤ 252) ∧ (0 ≤ ((b9g_now S) 8).toInt ∧ ((b9g_now S) 8).toInt ≤ 64) ∧ (0 ≤ ((b9g_now S) 9).toInt ∧ ((b9g_now S) 9).toInt ≤ 64) ∧ (0 ≤ ((b9g_now S) 10).toInt ∧ ((b9g_now S) 10).toInt ≤ 16) ∧ (0 ≤ ((b9g_now S) 12).toInt ∧ ((b9g_now S) 12).toInt ≤ 8) := K9g_now hJ
  have rga3 := pt_rg a3
  have rga4 := pt_rg a4
  refine sf_X9_lessKeys hJ (fun r1  => ?_)
  refine ⟨fun c3 => ?_, fun c3 => ?_⟩
  · try simp (disch := first | ((try simp (disch := first | ((try simp only [pn]) <;> omega) | fail) only [pn, pq]) <;> omega) | fail) only [pn, pq] at c3
    exact hq _ 
  · try simp (disch := first | ((try simp (disch := first | ((try simp only [pn]) <;> omega) | fail) only [pn, pq]) <;> omega) | fail) only [pn, pq] at c3
    exact hq _ 
def F_X9_coverOf (S u : bT9) : Prop := (b9g_told u) = (b9g_told S) ∧ (b9g_now u) = (b9g_now S) ∧ (b9g_keys u) = (b9g_keys S) ∧ (b9g_lengths u) = (b9g_lengths S) ∧ (b9g_drawn u) = (b9g_drawn S) ∧ (b9g_drawnLength u) = (b9g_drawnLength S) ∧ (b9g_tape u) = (b9g_tape S) ∧ (b9g_taped u) = (b9g_taped S) ∧ (b9g_names u) = (b9g_names S) ∧ (b9g_chosen u) = (b9g_chosen S) ∧ (b9g_nodeLevel u) = (b9g_nodeLevel S) ∧ (b9g_nodeLeaf u) = (b9g_nodeLeaf S) ∧ (b9g_nodeLeaves u) = (b9g_nodeLeaves S) ∧ (b9g_nodeMany u) = (b9g_nodeMany S) ∧ (b9g_levelMany u) = (b9g_levelMany S) ∧ (b9g_upper u) = (b9g_upper S) ∧ (b9g_upperNodes u) = (b9g_upperNodes S) ∧ (b9g_areNodesLaid u) = (b9g_areNodesLaid S) ∧ (b9g_itemNode u) = (b9g_itemNode S) ∧ (b9g_itemByte u) = (b9g_itemByte S) ∧ (b9g_itemChild u) = (b9g_itemChild S) ∧ (b9g_itemMany u) = (b9g_itemMany S) ∧ (b9g_placeOf u) = (b9g_placeOf S) ∧ (b9g_leafOfPlace u) = (b9g_leafOfPlace S) ∧ (b9g_places u) = (b9g_places S) ∧ (b9g_fromKey u) = (b9g_fromKey S) ∧ (b9g_toKey u) = (b9g_toKey S) ∧ (b9g_fromLength u) = (b9g_fromLength S) ∧ (b9g_toLength u) = (b9g_toLength S) ∧ (b9g_ones u) = (b9g_ones S) ∧ (b9g_oneMany u) = (b9g_oneMany S) ∧ (b9g_rowLong u) = (b9g_rowLong S) ∧ (b9g_laidFor u) = (b9g_laidFor S) ∧ (b9g_signs u) = (b9g_signs S) ∧ (b9g_signMany u) = (b9g_signMany S) ∧ (b9g_hasImage u) = (b9g_hasImage S) ∧ (b9g_images u) = (b9g_images S) ∧ (b9g_keyImages u) = (b9g_keyImages S) ∧ (b9g_lengthImages u) = (b9g_lengthImages S)
theorem sf_X9_coverOf {S : bT9} (hJ : J9 S) {a1 : Int32} {Q : Int64 → (bT9) → Prop} (hq : ∀ (r : Int64) (u : bT9), (J9 u) → F_X9_coverOf S u → ((SR9 S ∧ a1.toInt ≤ 7) → r = COV (fun j => b9g_keys S (64 + j)) (fun j => b9g_lengths S (64 + j)) (b9g_now S 9).toInt (NBT (b9g_now S)) a1 (b9g_now S 9).toInt.toNat) → Q r u) : wp_X9_coverOf S a1 Q := by
  have n9 := (J9g_now hJ).2.2.2.1
  unfold wp_X9_coverOf wp_X9_coverOf_5
  refine ⟨fun n x1 x2 x4 V => x1 = a1 ∧ 0 ≤ x4.toInt ∧ x4.toInt ≤ (b9g_now S 9).toInt ∧ J9 V ∧ F_X9_coverOf S V ∧ ((SR9 S ∧ a1.toInt ≤ 7) → x2 = (COV (fun j => b9g_keys S (64 + j)) (fun j => b9g_lengths S (64 + j)) (b9g_now S 9).toInt (NBT (b9g_now S)) a1 x4.toInt.toNat)) ∧ n = (64 - x4.toInt).toNat, ⟨_, rfl, by decide, by rw [pl_0]; exact n9.1, hJ, ⟨rfl, rfl, rfl, rfl, rfl, rfl, rfl, rfl, rfl, rfl, rfl, rfl, rfl, rfl, rfl, rfl, rfl, rfl, rfl, rfl, rfl, rfl, rfl, rfl, rfl, rfl, rfl, rfl, rfl, rfl, rfl, rfl, rfl, rfl, rfl, rfl, rfl, rfl, rfl⟩, fun _ => rfl, rfl⟩, ?_⟩
  rintro n x1 x2 x4 V ⟨e1, h0, h64, hJV, hFV, hI, hn⟩
  unfold wp_X9_coverOf_5b
  rw [e1]
  refine sf_X9_leaves hJV (fun r1 u2 hJ2 hf2 h1 hil => ?_)
  have hF2 : F_X9_coverOf S u2 := ⟨(hf2.1).trans (hFV.1), (hf2.2.1).trans (hFV.2.1), (hf2.2.2.1).trans (hFV.2.2.1), (hf2.2.2.2.1).trans (hFV.2.2.2.1), (hf2.2.2.2.2.1).trans (hFV.2.2.2.2.1), (hf2.2.2.2.2.2.1).trans (hFV.2.2.2.2.2.1), (hf2.2.2.2.2.2.2.1).trans (hFV.2.2.2.2.2.2.1), (hf2.2.2.2.2.2.2.2.1).trans (hFV.2.2.2.2.2.2.2.1), (hf2.2.2.2.2.2.2.2.2.1).trans (hFV.2.2.2.2.2.2.2.2.1), (hf2.2.2.2.2.2.2.2.2.2.1).trans (hFV.2.2.2.2.2.2.2.2.2.1), (hf2.2.2.2.2.2.2.2.2.2.2.1).trans (hFV.2.2.2.2.2.2.2.2.2.2.1), (hf2.2.2.2.2.2.2.2.2.2.2.2.1).trans (hFV.2.2.2.2.2.2.2.2.2.2.2.1), (hf2.2.2.2.2.2.2.2.2.2.2.2.2.1).trans (hFV.2.2.2.2.2.2.2.2.2.2.2.2.1), (hf2.2.2.2.2.2.2.2.2.2.2.2.2.2.1).trans (hFV.2.2.2.2.2.2.2.2.2.2.2.2.2.1), (hf2.2.2.2.2.2.2.2.2.2.2.2.2.2.2.1).trans (hFV.2.2.2.2.2.2.2.2.2.2.2.2.2.2.1), (hf2.2.2.2.2.2.2.2.2.2.2.2.2.2.2.2.1).trans (hFV.2.2.2.2.2.2.2.2.2.2.2.2.2.2.2.1), (hf2.2.2.2.2.2.2.2.2.2.2.2.2.2.2.2.2.1).trans (hFV.2.2.2.2.2.2.2.2.2.2.2.2.2.2.2.2.1), (hf2.2.2.2.2.2.2.2.2.2.2.2.2.2.2.2.2.2.1).trans (hFV.2.2.2.2.2.2.2.2.2.2.2.2.2.2.2.2.2.1), (hf2.2.2.2.2.2.2.2.2.2.2.2.2.2.2.2.2.2.2.1).trans (hFV.2.2.2.2.2.2.2.2.2.2.2.2.2.2.2.2.2.2.1), (hf2.2.2.2.2.2.2.2.2.2.2.2.2.2.2.2.2.2.2.2.1).trans (hFV.2.2.2.2.2.2.2.2.2.2.2.2.2.2.2.2.2.2.2.1), (hf2.2.2.2.2.2.2.2.2.2.2.2.2.2.2.2.2.2.2.2.2.1).trans (hFV.2.2.2.2.2.2.2.2.2.2.2.2.2.2.2.2.2.2.2.2.1), (hf2.2.2.2.2.2.2.2.2.2.2.2.2.2.2.2.2.2.2.2.2.2.1).trans (hFV.2.2.2.2.2.2.2.2.2.2.2.2.2.2.2.2.2.2.2.2.2.1), (hf2.2.2.2.2.2.2.2.2.2.2.2.2.2.2.2.2.2.2.2.2.2.2.1).trans (hFV.2.2.2.2.2.2.2.2.2.2.2.2.2.2.2.2.2.2.2.2.2.2.1), (hf2.2.2.2.2.2.2.2.2.2.2.2.2.2.2.2.2.2.2.2.2.2.2.2.1).trans (hFV.2.2.2.2.2.2.2.2.2.2.2.2.2.2.2.2.2.2.2.2.2.2.2.1), (hf2.2.2.2.2.2.2.2.2.2.2.2.2.2.2.2.2.2.2.2.2.2.2.2.2.1).trans (hFV.2.2.2.2.2.2.2.2.2.2.2.2.2.2.2.2.2.2.2.2.2.2.2.2.1), (hf2.2.2.2.2.2.2.2.2.2.2.2.2.2.2.2.2.2.2.2.2.2.2.2.2.2.2.2.2.2.1).trans (hFV.2.2.2.2.2.2.2.2.2.2.2.2.2.2.2.2.2.2.2.2.2.2.2.2.2.1), (hf2.2.2.2.2.2.2.2.2.2.2.2.2.2.2.2.2.2.2.2.2.2.2.2.2.2.2.2.2.2.2.1).trans (hFV.2.2.2.2.2.2.2.2.2.2.2.2.2.2.2.2.2.2.2.2.2.2.2.2.2.2.1), (hf2.2.2.2.2.2.2.2.2.2.2.2.2.2.2.2.2.2.2.2.2.2.2.2.2.2.2.2.2.2.2.2.1).trans (hFV.2.2.2.2.2.2.2.2.2.2.2.2.2.2.2.2.2.2.2.2.2.2.2.2.2.2.2.1), (hf2.2.2.2.2.2.2.2.2.2.2.2.2.2.2.2.2.2.2.2.2.2.2.2.2.2.2.2.2.2.2.2.2.1).trans (hFV.2.2.2.2.2.2.2.2.2.2.2.2.2.2.2.2.2.2.2.2.2.2.2.2.2.2.2.2.1), (hf2.2.2.2.2.2.2.2.2.2.2.2.2.2.2.2.2.2.2.2.2.2.2.2.2.2.2.2.2.2.2.2.2.2.1).trans (hFV.2.2.2.2.2.2.2.2.2.2.2.2.2.2.2.2.2.2.2.2.2.2.2.2.2.2.2.2.2.1), (hf2.2.2.2.2.2.2.2.2.2.2.2.2.2.2.2.2.2.2.2.2.2.2.2.2.2.2.2.2.2.2.2.2.2.2.1).trans (hFV.2.2.2.2.2.2.2.2.2.2.2.2.2.2.2.2.2.2.2.2.2.2.2.2.2.2.2.2.2.2.1), (hf2.2.2.2.2.2.2.2.2.2.2.2.2.2.2.2.2.2.2.2.2.2.2.2.2.2.2.2.2.2.2.2.2.2.2.2.1).trans (hFV.2.2.2.2.2.2.2.2.2.2.2.2.2.2.2.2.2.2.2.2.2.2.2.2.2.2.2.2.2.2.2.1), (hf2.2.2.2.2.2.2.2.2.2.2.2.2.2.2.2.2.2.2.2.2.2.2.2.2.2.2.2.2.2.2.2.2.2.2.2.2.1).trans (hFV.2.2.2.2.2.2.2.2.2.2.2.2.2.2.2.2.2.2.2.2.2.2.2.2.2.2.2.2.2.2.2.2.1), (hf2.2.2.2.2.2.2.2.2.2.2.2.2.2.2.2.2.2.2.2.2.2.2.2.2.2.2.2.2.2.2.2.2.2.2.2.2.2.1).trans (hFV.2.2.2.2.2.2.2.2.2.2.2.2.2.2.2.2.2.2.2.2.2.2.2.2.2.2.2.2.2.2.2.2.2.1), (hf2.2.2.2.2.2.2.2.2.2.2.2.2.2.2.2.2.2.2.2.2.2.2.2.2.2.2.2.2.2.2.2.2.2.2.2.2.2.2.1).trans (hFV.2.2.2.2.2.2.2.2.2.2.2.2.2.2.2.2.2.2.2.2.2.2.2.2.2.2.2.2.2.2.2.2.2.2.1), (hf2.2.2.2.2.2.2.2.2.2.2.2.2.2.2.2.2.2.2.2.2.2.2.2.2.2.2.2.2.2.2.2.2.2.2.2.2.2.2.2.1).trans (hFV.2.2.2.2.2.2.2.2.2.2.2.2.2.2.2.2.2.2.2.2.2.2.2.2.2.2.2.2.2.2.2.2.2.2.2.1), (hf2.2.2.2.2.2.2.2.2.2.2.2.2.2.2.2.2.2.2.2.2.2.2.2.2.2.2.2.2.2.2.2.2.2.2.2.2.2.2.2.2.1).trans (hFV.2.2.2.2.2.2.2.2.2.2.2.2.2.2.2.2.2.2.2.2.2.2.2.2.2.2.2.2.2.2.2.2.2.2.2.2.1), (hf2.2.2.2.2.2.2.2.2.2.2.2.2.2.2.2.2.2.2.2.2.2.2.2.2.2.2.2.2.2.2.2.2.2.2.2.2.2.2.2.2.2.1).trans (hFV.2.2.2.2.2.2.2.2.2.2.2.2.2.2.2.2.2.2.2.2.2.2.2.2.2.2.2.2.2.2.2.2.2.2.2.2.2.1), (hf2.2.2.2.2.2.2.2.2.2.2.2.2.2.2.2.2.2.2.2.2.2.2.2.2.2.2.2.2.2.2.2.2.2.2.2.2.2.2.2.2.2.2).trans (hFV.2.2.2.2.2.2.2.2.2.2.2.2.2.2.2.2.2.2.2.2.2.2.2.2.2.2.2.2.2.2.2.2.2.2.2.2.2.2)⟩
  have nV : b9g_now u2 = b9g_now S := hF2.2.1
  have kV : b9g_keys u2 = b9g_keys S := hF2.2.2.1
  have lV : b9g_lengths u2 = b9g_lengths S := hF2.2.2.2.1
  rw [nV] at h1
  refine ⟨fun c => hq _ _ hJ2 hF2 (fun o => ?_), fun c => ?_⟩
  · simp only [pn] at c
    rw [hI o, show x4.toInt.toNat = (b9g_now S 9).toInt.toNat by omega]
  simp only [pn] at c
  refine sf_X9_nextBits hJ2.1 (fun r3 p0 p8 h3 => sf_X9_bounds hJ2 h0 (by omega) (fun u6 hJ6 hf6 hB => ?_))
  have hF6 : F_X9_coverOf S u6 := ⟨(hf6.1).trans (hF2.1), (hf6.2.1).trans (hF2.2.1), (hf6.2.2.1).trans (hF2.2.2.1), (hf6.2.2.2.1).trans (hF2.2.2.2.1), (hf6.2.2.2.2.1).trans (hF2.2.2.2.2.1), (hf6.2.2.2.2.2.1).trans (hF2.2.2.2.2.2.1), (hf6.2.2.2.2.2.2.1).trans (hF2.2.2.2.2.2.2.1), (hf6.2.2.2.2.2.2.2.1).trans (hF2.2.2.2.2.2.2.2.1), (hf6.2.2.2.2.2.2.2.2.1).trans (hF2.2.2.2.2.2.2.2.2.1), (hf6.2.2.2.2.2.2.2.2.2.1).trans (hF2.2.2.2.2.2.2.2.2.2.1), (hf6.2.2.2.2.2.2.2.2.2.2.2.2.2.1).trans (hF2.2.2.2.2.2.2.2.2.2.2.1), (hf6.2.2.2.2.2.2.2.2.2.2.2.2.2.2.1).trans (hF2.2.2.2.2.2.2.2.2.2.2.2.1), (hf6.2.2.2.2.2.2.2.2.2.2.2.2.2.2.2.1).trans (hF2.2.2.2.2.2.2.2.2.2.2.2.2.1), (hf6.2.2.2.2.2.2.2.2.2.2.2.2.2.2.2.2.1).trans (hF2.2.2.2.2.2.2.2.2.2.2.2.2.2.1), (hf6.2.2.2.2.2.2.2.2.2.2.2.2.2.2.2.2.2.1).trans (hF2.2.2.2.2.2.2.2.2.2.2.2.2.2.2.1), (hf6.2.2.2.2.2.2.2.2.2.2.2.2.2.2.2.2.2.2.1).trans (hF2.2.2.2.2.2.2.2.2.2.2.2.2.2.2.2.1), (hf6.2.2.2.2.2.2.2.2.2.2.2.2.2.2.2.2.2.2.2.1).trans (hF2.2.2.2.2.2.2.2.2.2.2.2.2.2.2.2.2.1), (hf6.2.2.2.2.2.2.2.2.2.2.2.2.2.2.2.2.2.2.2.2.1).trans (hF2.2.2.2.2.2.2.2.2.2.2.2.2.2.2.2.2.2.1), (hf6.2.2.2.2.2.2.2.2.2.2.2.2.2.2.2.2.2.2.2.2.2.1).trans (hF2.2.2.2.2.2.2.2.2.2.2.2.2.2.2.2.2.2.2.1), (hf6.2.2.2.2.2.2.2.2.2.2.2.2.2.2.2.2.2.2.2.2.2.2.1).trans (hF2.2.2.2.2.2.2.2.2.2.2.2.2.2.2.2.2.2.2.2.1), (hf6.2.2.2.2.2.2.2.2.2.2.2.2.2.2.2.2.2.2.2.2.2.2.2.1).trans (hF2.2.2.2.2.2.2.2.2.2.2.2.2.2.2.2.2.2.2.2.2.1), (hf6.2.2.2.2.2.2.2.2.2.2.2.2.2.2.2.2.2.2.2.2.2.2.2.2.1).trans (hF2.2.2.2.2.2.2.2.2.2.2.2.2.2.2.2.2.2.2.2.2.2.1), (hf6.2.2.2.2.2.2.2.2.2.2.2.2.2.2.2.2.2.2.2.2.2.2.2.2.2.1).trans (hF2.2.2.2.2.2.2.2.2.2.2.2.2.2.2.2.2.2.2.2.2.2.2.1), (hf6.2.2.2.2.2.2.2.2.2.2.2.2.2.2.2.2.2.2.2.2.2.2.2.2.2.2.1).trans (hF2.2.2.2.2.2.2.2.2.2.2.2.2.2.2.2.2.2.2.2.2.2.2.2.1), (hf6.2.2.2.2.2.2.2.2.2.2.2.2.2.2.2.2.2.2.2.2.2.2.2.2.2.2.2.1).trans (hF2.2.2.2.2.2.2.2.2.2.2.2.2.2.2.2.2.2.2.2.2.2.2.2.2.1), (hf6.2.2.2.2.2.2.2.2.2.2.2.2.2.2.2.2.2.2.2.2.2.2.2.2.2.2.2.2.1).trans (hF2.2.2.2.2.2.2.2.2.2.2.2.2.2.2.2.2.2.2.2.2.2.2.2.2.2.1), (hf6.2.2.2.2.2.2.2.2.2.2.2.2.2.2.2.2.2.2.2.2.2.2.2.2.2.2.2.2.2.1).trans (hF2.2.2.2.2.2.2.2.2.2.2.2.2.2.2.2.2.2.2.2.2.2.2.2.2.2.2.1), (hf6.2.2.2.2.2.2.2.2.2.2.2.2.2.2.2.2.2.2.2.2.2.2.2.2.2.2.2.2.2.2.1).trans (hF2.2.2.2.2.2.2.2.2.2.2.2.2.2.2.2.2.2.2.2.2.2.2.2.2.2.2.2.1), (hf6.2.2.2.2.2.2.2.2.2.2.2.2.2.2.2.2.2.2.2.2.2.2.2.2.2.2.2.2.2.2.2.1).trans (hF2.2.2.2.2.2.2.2.2.2.2.2.2.2.2.2.2.2.2.2.2.2.2.2.2.2.2.2.2.1), (hf6.2.2.2.2.2.2.2.2.2.2.2.2.2.2.2.2.2.2.2.2.2.2.2.2.2.2.2.2.2.2.2.2.1).trans (hF2.2.2.2.2.2.2.2.2.2.2.2.2.2.2.2.2.2.2.2.2.2.2.2.2.2.2.2.2.2.1), (hf6.2.2.2.2.2.2.2.2.2.2.2.2.2.2.2.2.2.2.2.2.2.2.2.2.2.2.2.2.2.2.2.2.2.1).trans (hF2.2.2.2.2.2.2.2.2.2.2.2.2.2.2.2.2.2.2.2.2.2.2.2.2.2.2.2.2.2.2.1), (hf6.2.2.2.2.2.2.2.2.2.2.2.2.2.2.2.2.2.2.2.2.2.2.2.2.2.2.2.2.2.2.2.2.2.2.1).trans (hF2.2.2.2.2.2.2.2.2.2.2.2.2.2.2.2.2.2.2.2.2.2.2.2.2.2.2.2.2.2.2.2.1), (hf6.2.2.2.2.2.2.2.2.2.2.2.2.2.2.2.2.2.2.2.2.2.2.2.2.2.2.2.2.2.2.2.2.2.2.2.1).trans (hF2.2.2.2.2.2.2.2.2.2.2.2.2.2.2.2.2.2.2.2.2.2.2.2.2.2.2.2.2.2.2.2.2.1), (hf6.2.2.2.2.2.2.2.2.2.2.2.2.2.2.2.2.2.2.2.2.2.2.2.2.2.2.2.2.2.2.2.2.2.2.2.2.1).trans (hF2.2.2.2.2.2.2.2.2.2.2.2.2.2.2.2.2.2.2.2.2.2.2.2.2.2.2.2.2.2.2.2.2.2.1), (hf6.2.2.2.2.2.2.2.2.2.2.2.2.2.2.2.2.2.2.2.2.2.2.2.2.2.2.2.2.2.2.2.2.2.2.2.2.2.1).trans (hF2.2.2.2.2.2.2.2.2.2.2.2.2.2.2.2.2.2.2.2.2.2.2.2.2.2.2.2.2.2.2.2.2.2.2.1), (hf6.2.2.2.2.2.2.2.2.2.2.2.2.2.2.2.2.2.2.2.2.2.2.2.2.2.2.2.2.2.2.2.2.2.2.2.2.2.2.1).trans (hF2.2.2.2.2.2.2.2.2.2.2.2.2.2.2.2.2.2.2.2.2.2.2.2.2.2.2.2.2.2.2.2.2.2.2.2.1), (hf6.2.2.2.2.2.2.2.2.2.2.2.2.2.2.2.2.2.2.2.2.2.2.2.2.2.2.2.2.2.2.2.2.2.2.2.2.2.2.2.1).trans (hF2.2.2.2.2.2.2.2.2.2.2.2.2.2.2.2.2.2.2.2.2.2.2.2.2.2.2.2.2.2.2.2.2.2.2.2.2.1), (hf6.2.2.2.2.2.2.2.2.2.2.2.2.2.2.2.2.2.2.2.2.2.2.2.2.2.2.2.2.2.2.2.2.2.2.2.2.2.2.2.2.1).trans (hF2.2.2.2.2.2.2.2.2.2.2.2.2.2.2.2.2.2.2.2.2.2.2.2.2.2.2.2.2.2.2.2.2.2.2.2.2.2.1), (hf6.2.2.2.2.2.2.2.2.2.2.2.2.2.2.2.2.2.2.2.2.2.2.2.2.2.2.2.2.2.2.2.2.2.2.2.2.2.2.2.2.2).trans (hF2.2.2.2.2.2.2.2.2.2.2.2.2.2.2.2.2.2.2.2.2.2.2.2.2.2.2.2.2.2.2.2.2.2.2.2.2.2.2)⟩
  unfold SR9 BDS at hB
  rw [kV, lV, nV] at hB
  rw [nV] at h3
  have cx := pt_clamp h0
  have x4' : (x4 + 1).toInt = x4.toInt + 1 := by rw [pt_add (by rw [pl_1]; omega) (by rw [pl_1]; omega), pl_1]
  refine fx9_notMoreKeys (fun r7 h7 => fx9_lessKeys (fun r9 h9 => ⟨_, ?_, rfl, by omega, by omega, hJ6, hF6, fun o => ?_, rfl⟩))
  · omega
  · have q := hB o.1 hil p0 p8 (by omega)
    rw [h3] at q
    rw [x4', show (x4.toInt + 1).toNat = x4.toNatClampNeg + 1 by omega, h7 o.2, h9 o.2]
    exact COV_s q.1 q.2.1 q.2.2.1 q.2.2.2 (by rw [hI o, show x4.toInt.toNat = x4.toNatClampNeg by omega])
def F_X9_cover (S u : bT9) : Prop := (b9g_now u) = (b9g_now S) ∧ (b9g_keys u) = (b9g_keys S) ∧ (b9g_lengths u) = (b9g_lengths S) ∧ (b9g_drawn u) = (b9g_drawn S) ∧ (b9g_drawnLength u) = (b9g_drawnLength S) ∧ (b9g_tape u) = (b9g_tape S) ∧ (b9g_taped u) = (b9g_taped S) ∧ (b9g_names u) = (b9g_names S) ∧ (b9g_chosen u) = (b9g_chosen S) ∧ (b9g_nodeLevel u) = (b9g_nodeLevel S) ∧ (b9g_nodeLeaf u) = (b9g_nodeLeaf S) ∧ (b9g_nodeLeaves u) = (b9g_nodeLeaves S) ∧ (b9g_nodeMany u) = (b9g_nodeMany S) ∧ (b9g_levelMany u) = (b9g_levelMany S) ∧ (b9g_upper u) = (b9g_upper S) ∧ (b9g_upperNodes u) = (b9g_upperNodes S) ∧ (b9g_areNodesLaid u) = (b9g_areNodesLaid S) ∧ (b9g_itemNode u) = (b9g_itemNode S) ∧ (b9g_itemByte u) = (b9g_itemByte S) ∧ (b9g_itemChild u) = (b9g_itemChild S) ∧ (b9g_itemMany u) = (b9g_itemMany S) ∧ (b9g_placeOf u) = (b9g_placeOf S) ∧ (b9g_leafOfPlace u) = (b9g_leafOfPlace S) ∧ (b9g_places u) = (b9g_places S) ∧ (b9g_fromKey u) = (b9g_fromKey S) ∧ (b9g_toKey u) = (b9g_toKey S) ∧ (b9g_fromLength u) = (b9g_fromLength S) ∧ (b9g_toLength u) = (b9g_toLength S) ∧ (b9g_ones u) = (b9g_ones S) ∧ (b9g_oneMany u) = (b9g_oneMany S) ∧ (b9g_rowLong u) = (b9g_rowLong S) ∧ (b9g_laidFor u) = (b9g_laidFor S) ∧ (b9g_signs u) = (b9g_signs S) ∧ (b9g_signMany u) = (b9g_signMany S) ∧ (b9g_hasImage u) = (b9g_hasImage S) ∧ (b9g_images u) = (b9g_images S) ∧ (b9g_keyImages u) = (b9g_keyImages S) ∧ (b9g_lengthImages u) = (b9g_lengthImages S)
theorem sf_X9_cover {S : bT9} (hJ : J9 S) {a1 : Int32} {Q : Int64 → (bT9) → Prop} (hq : ∀ (r : Int64) (u : bT9), (J9 u) → F_X9_cover S u → (SR9 S → ((1 ≤ a1.toInt ∧ a1.toInt ≤ 7) → r = COV (fun j => b9g_keys S (64 + j)) (fun j => b9g_lengths S (64 + j)) (b9g_now S 9).toInt (NBT (b9g_now S)) a1 (b9g_now S 9).toInt.toNat) ∧ (¬ (1 ≤ a1.toInt ∧ a1.toInt ≤ 7) → r = -1)) → Q r u) : wp_X9_cover S a1 Q := by
  unfold wp_X9_cover
  intro S1 e1
  have hJ1 : J9 S1 := by rw [e1]; exact J9s_told hJ
  have hF1 : F_X9_cover S S1 := by rw [e1]; exact ⟨rfl, rfl, rfl, rfl, rfl, rfl, rfl, rfl, rfl, rfl, rfl, rfl, rfl, rfl, rfl, rfl, rfl, rfl, rfl, rfl, rfl, rfl, rfl, rfl, rfl, rfl, rfl, rfl, rfl, rfl, rfl, rfl, rfl, rfl, rfl, rfl, rfl, rfl⟩
  have en : b9g_now S1 = b9g_now S := by rw [e1]
  have ek : b9g_keys S1 = b9g_keys S := by rw [e1]
  have el : b9g_lengths S1 = b9g_lengths S := by rw [e1]
  refine sf_X9_isIn hJ1.1 (fun r2 z2 h2 => ⟨fun c => hq _ _ hJ1 hF1 (fun _ => ⟨fun g => ?_, fun _ => rfl⟩), fun c => sf_X9_coverOf hJ1 (fun r4 u5 hJ5 hf5 h5 => hq _ _ hJ5 ⟨(hf5.2.1).trans (hF1.1), (hf5.2.2.1).trans (hF1.2.1), (hf5.2.2.2.1).trans (hF1.2.2.1), (hf5.2.2.2.2.1).trans (hF1.2.2.2.1), (hf5.2.2.2.2.2.1).trans (hF1.2.2.2.2.1), (hf5.2.2.2.2.2.2.1).trans (hF1.2.2.2.2.2.1), (hf5.2.2.2.2.2.2.2.1).trans (hF1.2.2.2.2.2.2.1), (hf5.2.2.2.2.2.2.2.2.1).trans (hF1.2.2.2.2.2.2.2.1), (hf5.2.2.2.2.2.2.2.2.2.1).trans (hF1.2.2.2.2.2.2.2.2.1), (hf5.2.2.2.2.2.2.2.2.2.2.1).trans (hF1.2.2.2.2.2.2.2.2.2.1), (hf5.2.2.2.2.2.2.2.2.2.2.2.1).trans (hF1.2.2.2.2.2.2.2.2.2.2.1), (hf5.2.2.2.2.2.2.2.2.2.2.2.2.1).trans (hF1.2.2.2.2.2.2.2.2.2.2.2.1), (hf5.2.2.2.2.2.2.2.2.2.2.2.2.2.1).trans (hF1.2.2.2.2.2.2.2.2.2.2.2.2.1), (hf5.2.2.2.2.2.2.2.2.2.2.2.2.2.2.1).trans (hF1.2.2.2.2.2.2.2.2.2.2.2.2.2.1), (hf5.2.2.2.2.2.2.2.2.2.2.2.2.2.2.2.1).trans (hF1.2.2.2.2.2.2.2.2.2.2.2.2.2.2.1), (hf5.2.2.2.2.2.2.2.2.2.2.2.2.2.2.2.2.1).trans (hF1.2.2.2.2.2.2.2.2.2.2.2.2.2.2.2.1), (hf5.2.2.2.2.2.2.2.2.2.2.2.2.2.2.2.2.2.1).trans (hF1.2.2.2.2.2.2.2.2.2.2.2.2.2.2.2.2.1), (hf5.2.2.2.2.2.2.2.2.2.2.2.2.2.2.2.2.2.2.1).trans (hF1.2.2.2.2.2.2.2.2.2.2.2.2.2.2.2.2.2.1), (hf5.2.2.2.2.2.2.2.2.2.2.2.2.2.2.2.2.2.2.2.1).trans (hF1.2.2.2.2.2.2.2.2.2.2.2.2.2.2.2.2.2.2.1), (hf5.2.2.2.2.2.2.2.2.2.2.2.2.2.2.2.2.2.2.2.2.1).trans (hF1.2.2.2.2.2.2.2.2.2.2.2.2.2.2.2.2.2.2.2.1), (hf5.2.2.2.2.2.2.2.2.2.2.2.2.2.2.2.2.2.2.2.2.2.1).trans (hF1.2.2.2.2.2.2.2.2.2.2.2.2.2.2.2.2.2.2.2.2.1), (hf5.2.2.2.2.2.2.2.2.2.2.2.2.2.2.2.2.2.2.2.2.2.2.1).trans (hF1.2.2.2.2.2.2.2.2.2.2.2.2.2.2.2.2.2.2.2.2.2.1), (hf5.2.2.2.2.2.2.2.2.2.2.2.2.2.2.2.2.2.2.2.2.2.2.2.1).trans (hF1.2.2.2.2.2.2.2.2.2.2.2.2.2.2.2.2.2.2.2.2.2.2.1), (hf5.2.2.2.2.2.2.2.2.2.2.2.2.2.2.2.2.2.2.2.2.2.2.2.2.1).trans (hF1.2.2.2.2.2.2.2.2.2.2.2.2.2.2.2.2.2.2.2.2.2.2.2.1), (hf5.2.2.2.2.2.2.2.2.2.2.2.2.2.2.2.2.2.2.2.2.2.2.2.2.2.1).trans (hF1.2.2.2.2.2.2.2.2.2.2.2.2.2.2.2.2.2.2.2.2.2.2.2.2.1), (hf5.2.2.2.2.2.2.2.2.2.2.2.2.2.2.2.2.2.2.2.2.2.2.2.2.2.2.1).trans (hF1.2.2.2.2.2.2.2.2.2.2.2.2.2.2.2.2.2.2.2.2.2.2.2.2.2.1), (hf5.2.2.2.2.2.2.2.2.2.2.2.2.2.2.2.2.2.2.2.2.2.2.2.2.2.2.2.1).trans (hF1.2.2.2.2.2.2.2.2.2.2.2.2.2.2.2.2.2.2.2.2.2.2.2.2.2.2.1), (hf5.2.2.2.2.2.2.2.2.2.2.2.2.2.2.2.2.2.2.2.2.2.2.2.2.2.2.2.2.1).trans (hF1.2.2.2.2.2.2.2.2.2.2.2.2.2.2.2.2.2.2.2.2.2.2.2.2.2.2.2.1), (hf5.2.2.2.2.2.2.2.2.2.2.2.2.2.2.2.2.2.2.2.2.2.2.2.2.2.2.2.2.2.1).trans (hF1.2.2.2.2.2.2.2.2.2.2.2.2.2.2.2.2.2.2.2.2.2.2.2.2.2.2.2.2.1), (hf5.2.2.2.2.2.2.2.2.2.2.2.2.2.2.2.2.2.2.2.2.2.2.2.2.2.2.2.2.2.2.1).trans (hF1.2.2.2.2.2.2.2.2.2.2.2.2.2.2.2.2.2.2.2.2.2.2.2.2.2.2.2.2.2.1), (hf5.2.2.2.2.2.2.2.2.2.2.2.2.2.2.2.2.2.2.2.2.2.2.2.2.2.2.2.2.2.2.2.1).trans (hF1.2.2.2.2.2.2.2.2.2.2.2.2.2.2.2.2.2.2.2.2.2.2.2.2.2.2.2.2.2.2.1), (hf5.2.2.2.2.2.2.2.2.2.2.2.2.2.2.2.2.2.2.2.2.2.2.2.2.2.2.2.2.2.2.2.2.1).trans (hF1.2.2.2.2.2.2.2.2.2.2.2.2.2.2.2.2.2.2.2.2.2.2.2.2.2.2.2.2.2.2.2.1), (hf5.2.2.2.2.2.2.2.2.2.2.2.2.2.2.2.2.2.2.2.2.2.2.2.2.2.2.2.2.2.2.2.2.2.1).trans (hF1.2.2.2.2.2.2.2.2.2.2.2.2.2.2.2.2.2.2.2.2.2.2.2.2.2.2.2.2.2.2.2.2.1), (hf5.2.2.2.2.2.2.2.2.2.2.2.2.2.2.2.2.2.2.2.2.2.2.2.2.2.2.2.2.2.2.2.2.2.2.1).trans (hF1.2.2.2.2.2.2.2.2.2.2.2.2.2.2.2.2.2.2.2.2.2.2.2.2.2.2.2.2.2.2.2.2.2.1), (hf5.2.2.2.2.2.2.2.2.2.2.2.2.2.2.2.2.2.2.2.2.2.2.2.2.2.2.2.2.2.2.2.2.2.2.2.1).trans (hF1.2.2.2.2.2.2.2.2.2.2.2.2.2.2.2.2.2.2.2.2.2.2.2.2.2.2.2.2.2.2.2.2.2.2.1), (hf5.2.2.2.2.2.2.2.2.2.2.2.2.2.2.2.2.2.2.2.2.2.2.2.2.2.2.2.2.2.2.2.2.2.2.2.2.1).trans (hF1.2.2.2.2.2.2.2.2.2.2.2.2.2.2.2.2.2.2.2.2.2.2.2.2.2.2.2.2.2.2.2.2.2.2.2.1), (hf5.2.2.2.2.2.2.2.2.2.2.2.2.2.2.2.2.2.2.2.2.2.2.2.2.2.2.2.2.2.2.2.2.2.2.2.2.2.1).trans (hF1.2.2.2.2.2.2.2.2.2.2.2.2.2.2.2.2.2.2.2.2.2.2.2.2.2.2.2.2.2.2.2.2.2.2.2.2.1), (hf5.2.2.2.2.2.2.2.2.2.2.2.2.2.2.2.2.2.2.2.2.2.2.2.2.2.2.2.2.2.2.2.2.2.2.2.2.2.2).trans (hF1.2.2.2.2.2.2.2.2.2.2.2.2.2.2.2.2.2.2.2.2.2.2.2.2.2.2.2.2.2.2.2.2.2.2.2.2.2)⟩ (fun o => ⟨fun g => ?_, fun g => ?_⟩))⟩)
  · simp only [pn] at c h2; omega
  · unfold SR9 at h5
    rw [en, ek, el] at h5
    exact h5 ⟨o, g.2⟩
  · simp only [pn] at c h2; omega
def F_X9_loose (S u : bT9) : Prop := (b9g_now u) = (b9g_now S) ∧ (b9g_keys u) = (b9g_keys S) ∧ (b9g_lengths u) = (b9g_lengths S) ∧ (b9g_drawn u) = (b9g_drawn S) ∧ (b9g_drawnLength u) = (b9g_drawnLength S) ∧ (b9g_tape u) = (b9g_tape S) ∧ (b9g_taped u) = (b9g_taped S) ∧ (b9g_names u) = (b9g_names S) ∧ (b9g_chosen u) = (b9g_chosen S) ∧ (b9g_nodeLevel u) = (b9g_nodeLevel S) ∧ (b9g_nodeLeaf u) = (b9g_nodeLeaf S) ∧ (b9g_nodeLeaves u) = (b9g_nodeLeaves S) ∧ (b9g_nodeMany u) = (b9g_nodeMany S) ∧ (b9g_levelMany u) = (b9g_levelMany S) ∧ (b9g_upper u) = (b9g_upper S) ∧ (b9g_upperNodes u) = (b9g_upperNodes S) ∧ (b9g_areNodesLaid u) = (b9g_areNodesLaid S) ∧ (b9g_itemNode u) = (b9g_itemNode S) ∧ (b9g_itemByte u) = (b9g_itemByte S) ∧ (b9g_itemChild u) = (b9g_itemChild S) ∧ (b9g_itemMany u) = (b9g_itemMany S) ∧ (b9g_placeOf u) = (b9g_placeOf S) ∧ (b9g_leafOfPlace u) = (b9g_leafOfPlace S) ∧ (b9g_places u) = (b9g_places S) ∧ (b9g_fromKey u) = (b9g_fromKey S) ∧ (b9g_toKey u) = (b9g_toKey S) ∧ (b9g_fromLength u) = (b9g_fromLength S) ∧ (b9g_toLength u) = (b9g_toLength S) ∧ (b9g_ones u) = (b9g_ones S) ∧ (b9g_oneMany u) = (b9g_oneMany S) ∧ (b9g_rowLong u) = (b9g_rowLong S) ∧ (b9g_laidFor u) = (b9g_laidFor S) ∧ (b9g_signs u) = (b9g_signs S) ∧ (b9g_signMany u) = (b9g_signMany S) ∧ (b9g_hasImage u) = (b9g_hasImage S) ∧ (b9g_images u) = (b9g_images S) ∧ (b9g_keyImages u) = (b9g_keyImages S) ∧ (b9g_lengthImages u) = (b9g_lengthImages S)
theorem sf_X9_loose {S : bT9} (hJ : J9 S) {a1 : Int32} {Q : Int64 → (bT9) → Prop} (hq : ∀ (r : Int64) (u : bT9), (J9 u) → F_X9_loose S u → (SR9 S → ((1 ≤ a1.toInt ∧ a1.toInt ≤ 7) → r = LSE (COV (fun j => b9g_keys S (64 + j)) (fun j => b9g_lengths S (64 + j)) (b9g_now S 9).toInt (NBT (b9g_now S)) a1 (b9g_now S 9).toInt.toNat) (fun j => b9g_lengths S (64 + j)) a1 (b9g_now S 9).toInt.toNat) ∧ (¬ (1 ≤ a1.toInt ∧ a1.toInt ≤ 7) → r = -1)) → Q r u) : wp_X9_loose S a1 Q := by
  have n9 := (J9g_now hJ).2.2.2.1
  have c9 : ((9 : Int32)).toNatClampNeg = 9 := by decide
  unfold wp_X9_loose
  intro S1 e1
  have hJ1 : J9 S1 := by rw [e1]; exact J9s_told hJ
  have hF1 : F_X9_loose S S1 := by rw [e1]; exact ⟨rfl, rfl, rfl, rfl, rfl, rfl, rfl, rfl, rfl, rfl, rfl, rfl, rfl, rfl, rfl, rfl, rfl, rfl, rfl, rfl, rfl, rfl, rfl, rfl, rfl, rfl, rfl, rfl, rfl, rfl, rfl, rfl, rfl, rfl, rfl, rfl, rfl, rfl⟩
  have en : b9g_now S1 = b9g_now S := by rw [e1]
  have ek : b9g_keys S1 = b9g_keys S := by rw [e1]
  have el : b9g_lengths S1 = b9g_lengths S := by rw [e1]
  refine sf_X9_isIn hJ1.1 (fun r4 z4 h4 => ⟨fun c => sf_X9_coverOf hJ1 (fun r6 u7 hJ7 hf7 h7 => ?_), fun c => hq _ _ hJ1 hF1 (fun _ => ⟨fun g => ?_, fun _ => rfl⟩)⟩)
  rotate_left
  · simp only [pn] at c h4; omega
  simp only [pn] at c h4
  have hF7 : F_X9_loose S u7 := ⟨(hf7.2.1).trans (hF1.1), (hf7.2.2.1).trans (hF1.2.1), (hf7.2.2.2.1).trans (hF1.2.2.1), (hf7.2.2.2.2.1).trans (hF1.2.2.2.1), (hf7.2.2.2.2.2.1).trans (hF1.2.2.2.2.1), (hf7.2.2.2.2.2.2.1).trans (hF1.2.2.2.2.2.1), (hf7.2.2.2.2.2.2.2.1).trans (hF1.2.2.2.2.2.2.1), (hf7.2.2.2.2.2.2.2.2.1).trans (hF1.2.2.2.2.2.2.2.1), (hf7.2.2.2.2.2.2.2.2.2.1).trans (hF1.2.2.2.2.2.2.2.2.1), (hf7.2.2.2.2.2.2.2.2.2.2.1).trans (hF1.2.2.2.2.2.2.2.2.2.1), (hf7.2.2.2.2.2.2.2.2.2.2.2.1).trans (hF1.2.2.2.2.2.2.2.2.2.2.1), (hf7.2.2.2.2.2.2.2.2.2.2.2.2.1).trans (hF1.2.2.2.2.2.2.2.2.2.2.2.1), (hf7.2.2.2.2.2.2.2.2.2.2.2.2.2.1).trans (hF1.2.2.2.2.2.2.2.2.2.2.2.2.1), (hf7.2.2.2.2.2.2.2.2.2.2.2.2.2.2.1).trans (hF1.2.2.2.2.2.2.2.2.2.2.2.2.2.1), (hf7.2.2.2.2.2.2.2.2.2.2.2.2.2.2.2.1).trans (hF1.2.2.2.2.2.2.2.2.2.2.2.2.2.2.1), (hf7.2.2.2.2.2.2.2.2.2.2.2.2.2.2.2.2.1).trans (hF1.2.2.2.2.2.2.2.2.2.2.2.2.2.2.2.1), (hf7.2.2.2.2.2.2.2.2.2.2.2.2.2.2.2.2.2.1).trans (hF1.2.2.2.2.2.2.2.2.2.2.2.2.2.2.2.2.1), (hf7.2.2.2.2.2.2.2.2.2.2.2.2.2.2.2.2.2.2.1).trans (hF1.2.2.2.2.2.2.2.2.2.2.2.2.2.2.2.2.2.1), (hf7.2.2.2.2.2.2.2.2.2.2.2.2.2.2.2.2.2.2.2.1).trans (hF1.2.2.2.2.2.2.2.2.2.2.2.2.2.2.2.2.2.2.1), (hf7.2.2.2.2.2.2.2.2.2.2.2.2.2.2.2.2.2.2.2.2.1).trans (hF1.2.2.2.2.2.2.2.2.2.2.2.2.2.2.2.2.2.2.2.1), (hf7.2.2.2.2.2.2.2.2.2.2.2.2.2.2.2.2.2.2.2.2.2.1).trans (hF1.2.2.2.2.2.2.2.2.2.2.2.2.2.2.2.2.2.2.2.2.1), (hf7.2.2.2.2.2.2.2.2.2.2.2.2.2.2.2.2.2.2.2.2.2.2.1).trans (hF1.2.2.2.2.2.2.2.2.2.2.2.2.2.2.2.2.2.2.2.2.2.1), (hf7.2.2.2.2.2.2.2.2.2.2.2.2.2.2.2.2.2.2.2.2.2.2.2.1).trans (hF1.2.2.2.2.2.2.2.2.2.2.2.2.2.2.2.2.2.2.2.2.2.2.1), (hf7.2.2.2.2.2.2.2.2.2.2.2.2.2.2.2.2.2.2.2.2.2.2.2.2.1).trans (hF1.2.2.2.2.2.2.2.2.2.2.2.2.2.2.2.2.2.2.2.2.2.2.2.1), (hf7.2.2.2.2.2.2.2.2.2.2.2.2.2.2.2.2.2.2.2.2.2.2.2.2.2.1).trans (hF1.2.2.2.2.2.2.2.2.2.2.2.2.2.2.2.2.2.2.2.2.2.2.2.2.1), (hf7.2.2.2.2.2.2.2.2.2.2.2.2.2.2.2.2.2.2.2.2.2.2.2.2.2.2.1).trans (hF1.2.2.2.2.2.2.2.2.2.2.2.2.2.2.2.2.2.2.2.2.2.2.2.2.2.1), (hf7.2.2.2.2.2.2.2.2.2.2.2.2.2.2.2.2.2.2.2.2.2.2.2.2.2.2.2.1).trans (hF1.2.2.2.2.2.2.2.2.2.2.2.2.2.2.2.2.2.2.2.2.2.2.2.2.2.2.1), (hf7.2.2.2.2.2.2.2.2.2.2.2.2.2.2.2.2.2.2.2.2.2.2.2.2.2.2.2.2.1).trans (hF1.2.2.2.2.2.2.2.2.2.2.2.2.2.2.2.2.2.2.2.2.2.2.2.2.2.2.2.1), (hf7.2.2.2.2.2.2.2.2.2.2.2.2.2.2.2.2.2.2.2.2.2.2.2.2.2.2.2.2.2.1).trans (hF1.2.2.2.2.2.2.2.2.2.2.2.2.2.2.2.2.2.2.2.2.2.2.2.2.2.2.2.2.1), (hf7.2.2.2.2.2.2.2.2.2.2.2.2.2.2.2.2.2.2.2.2.2.2.2.2.2.2.2.2.2.2.1).trans (hF1.2.2.2.2.2.2.2.2.2.2.2.2.2.2.2.2.2.2.2.2.2.2.2.2.2.2.2.2.2.1), (hf7.2.2.2.2.2.2.2.2.2.2.2.2.2.2.2.2.2.2.2.2.2.2.2.2.2.2.2.2.2.2.2.1).trans (hF1.2.2.2.2.2.2.2.2.2.2.2.2.2.2.2.2.2.2.2.2.2.2.2.2.2.2.2.2.2.2.1), (hf7.2.2.2.2.2.2.2.2.2.2.2.2.2.2.2.2.2.2.2.2.2.2.2.2.2.2.2.2.2.2.2.2.1).trans (hF1.2.2.2.2.2.2.2.2.2.2.2.2.2.2.2.2.2.2.2.2.2.2.2.2.2.2.2.2.2.2.2.1), (hf7.2.2.2.2.2.2.2.2.2.2.2.2.2.2.2.2.2.2.2.2.2.2.2.2.2.2.2.2.2.2.2.2.2.1).trans (hF1.2.2.2.2.2.2.2.2.2.2.2.2.2.2.2.2.2.2.2.2.2.2.2.2.2.2.2.2.2.2.2.2.1), (hf7.2.2.2.2.2.2.2.2.2.2.2.2.2.2.2.2.2.2.2.2.2.2.2.2.2.2.2.2.2.2.2.2.2.2.1).trans (hF1.2.2.2.2.2.2.2.2.2.2.2.2.2.2.2.2.2.2.2.2.2.2.2.2.2.2.2.2.2.2.2.2.2.1), (hf7.2.2.2.2.2.2.2.2.2.2.2.2.2.2.2.2.2.2.2.2.2.2.2.2.2.2.2.2.2.2.2.2.2.2.2.1).trans (hF1.2.2.2.2.2.2.2.2.2.2.2.2.2.2.2.2.2.2.2.2.2.2.2.2.2.2.2.2.2.2.2.2.2.2.1), (hf7.2.2.2.2.2.2.2.2.2.2.2.2.2.2.2.2.2.2.2.2.2.2.2.2.2.2.2.2.2.2.2.2.2.2.2.2.1).trans (hF1.2.2.2.2.2.2.2.2.2.2.2.2.2.2.2.2.2.2.2.2.2.2.2.2.2.2.2.2.2.2.2.2.2.2.2.1), (hf7.2.2.2.2.2.2.2.2.2.2.2.2.2.2.2.2.2.2.2.2.2.2.2.2.2.2.2.2.2.2.2.2.2.2.2.2.2.1).trans (hF1.2.2.2.2.2.2.2.2.2.2.2.2.2.2.2.2.2.2.2.2.2.2.2.2.2.2.2.2.2.2.2.2.2.2.2.2.1), (hf7.2.2.2.2.2.2.2.2.2.2.2.2.2.2.2.2.2.2.2.2.2.2.2.2.2.2.2.2.2.2.2.2.2.2.2.2.2.2).trans (hF1.2.2.2.2.2.2.2.2.2.2.2.2.2.2.2.2.2.2.2.2.2.2.2.2.2.2.2.2.2.2.2.2.2.2.2.2.2)⟩
  have n7 : b9g_now u7 = b9g_now S := hF7.1
  have l7 : b9g_lengths u7 = b9g_lengths S := hF7.2.2.1
  unfold SR9 at h7
  rw [en, ek, el] at h7
  unfold wp_X9_loose_29
  refine ⟨fun n x1 x2 x4 V => x1 = a1 ∧ V = u7 ∧ 0 ≤ x4.toInt ∧ x4.toInt ≤ (b9g_now S 9).toInt ∧ x2 = LSE r6 (fun j => b9g_lengths S (64 + j)) a1 x4.toInt.toNat ∧ n = (64 - x4.toInt).toNat, ⟨_, rfl, rfl, by decide, by rw [pl_0]; exact n9.1, rfl, rfl⟩, ?_⟩
  rintro n x1 x2 x4 V ⟨e1', eV, h0, h1, hI, hn⟩
  unfold wp_X9_loose_29b
  rw [e1', eV, c9, n7]
  refine ⟨pt_in (by decide) (by decide), fun d => hq _ _ hJ7 hF7 (fun o => ⟨fun g => ?_, fun g => ?_⟩), fun d => ?_⟩
  · simp only [pn] at d
    rw [hI, h7 ⟨o, g.2⟩, show x4.toInt.toNat = (b9g_now S 9).toInt.toNat by omega]
  · omega
  simp only [pn] at d
  have x4' : (x4 + 1).toInt = x4.toInt + 1 := by rw [pt_add (by rw [pl_1]; omega) (by rw [pl_1]; omega), pl_1]
  have s4 : (x4 + 1).toInt.toNat = x4.toInt.toNat + 1 := by omega
  refine sf_X9_lengthOf hJ7.1 h0 (by omega) (fun r1 hr _ _ => ?_)
  have e64 : ((64 : Int32) + x4).toNatClampNeg = 64 + x4.toInt.toNat := by
    have a : ((64 : Int32) + x4).toInt = 64 + x4.toInt := by rw [pt_add (by rw [pl_64]; omega) (by rw [pl_64]; omega), pl_64]
    have b := pt_clamp (i := (64 : Int32) + x4) (by omega)
    omega
  rw [e64, l7] at hr
  have er : r1 = b9g_lengths S (64 + x4.toInt.toNat) := Int32.toInt_inj.mp hr
  unfold wp_X9_loose_55
  refine ⟨fun k => ⟨_, ?_, rfl, rfl, by omega, by omega, ?_, rfl⟩, fun k => ⟨_, ?_, rfl, rfl, by omega, by omega, ?_, rfl⟩⟩
  · omega
  · have nk : ¬ (fun j => b9g_lengths S (64 + j)) x4.toInt.toNat = a1 := by
      show ¬ b9g_lengths S (64 + x4.toInt.toNat) = a1
      rw [← er]; exact k
    rw [s4, LSE_n (g := fun j => b9g_lengths S (64 + j)) (i := x4.toInt.toNat) nk]
    exact hI
  · omega
  · have yk : (fun j => b9g_lengths S (64 + j)) x4.toInt.toNat = a1 := by
      show b9g_lengths S (64 + x4.toInt.toNat) = a1
      rw [← er]; exact k
    rw [s4, LSE_y (g := fun j => b9g_lengths S (64 + j)) (i := x4.toInt.toNat) yk, hI]
def F_X9_free (S u : bT9) : Prop := (b9g_now u) = (b9g_now S) ∧ (b9g_keys u) = (b9g_keys S) ∧ (b9g_lengths u) = (b9g_lengths S) ∧ (b9g_drawn u) = (b9g_drawn S) ∧ (b9g_drawnLength u) = (b9g_drawnLength S) ∧ (b9g_tape u) = (b9g_tape S) ∧ (b9g_taped u) = (b9g_taped S) ∧ (b9g_names u) = (b9g_names S) ∧ (b9g_chosen u) = (b9g_chosen S) ∧ (b9g_nodeLevel u) = (b9g_nodeLevel S) ∧ (b9g_nodeLeaf u) = (b9g_nodeLeaf S) ∧ (b9g_nodeLeaves u) = (b9g_nodeLeaves S) ∧ (b9g_nodeMany u) = (b9g_nodeMany S) ∧ (b9g_levelMany u) = (b9g_levelMany S) ∧ (b9g_upper u) = (b9g_upper S) ∧ (b9g_upperNodes u) = (b9g_upperNodes S) ∧ (b9g_areNodesLaid u) = (b9g_areNodesLaid S) ∧ (b9g_itemNode u) = (b9g_itemNode S) ∧ (b9g_itemByte u) = (b9g_itemByte S) ∧ (b9g_itemChild u) = (b9g_itemChild S) ∧ (b9g_itemMany u) = (b9g_itemMany S) ∧ (b9g_placeOf u) = (b9g_placeOf S) ∧ (b9g_leafOfPlace u) = (b9g_leafOfPlace S) ∧ (b9g_places u) = (b9g_places S) ∧ (b9g_fromKey u) = (b9g_fromKey S) ∧ (b9g_toKey u) = (b9g_toKey S) ∧ (b9g_fromLength u) = (b9g_fromLength S) ∧ (b9g_toLength u) = (b9g_toLength S) ∧ (b9g_ones u) = (b9g_ones S) ∧ (b9g_oneMany u) = (b9g_oneMany S) ∧ (b9g_rowLong u) = (b9g_rowLong S) ∧ (b9g_laidFor u) = (b9g_laidFor S) ∧ (b9g_signs u) = (b9g_signs S) ∧ (b9g_signMany u) = (b9g_signMany S) ∧ (b9g_hasImage u) = (b9g_hasImage S) ∧ (b9g_images u) = (b9g_images S) ∧ (b9g_keyImages u) = (b9g_keyImages S) ∧ (b9g_lengthImages u) = (b9g_lengthImages S)
theorem sf_X9_free {S : bT9} (hJ : J9 S) {a1 : Int32} {a2 : Int32} {Q : Int64 → (bT9) → Prop} (hq : ∀ (r : Int64) (u : bT9), (J9 u) → F_X9_free S u → (SR9 S → (((0 ≤ a1.toInt ∧ a1.toInt ≤ (b9g_now S 9).toInt) ∧ 1 ≤ a2.toInt ∧ a2.toInt ≤ 7) → r = FRE (fun j => b9g_keys S (64 + j)) (fun j => b9g_lengths S (64 + j)) (b9g_now S 9).toInt (NBT (b9g_now S)) a1 a2) ∧ (¬ ((0 ≤ a1.toInt ∧ a1.toInt ≤ (b9g_now S 9).toInt) ∧ 1 ≤ a2.toInt ∧ a2.toInt ≤ 7) → r = -1)) → Q r u) : wp_X9_free S a1 a2 Q := by
  have n9 := (J9g_now hJ).2.2.2.1
  have c9 : ((9 : Int32)).toNatClampNeg = 9 := by decide
  unfold wp_X9_free
  intro S1 e1
  have hJ1 : J9 S1 := by rw [e1]; exact J9s_told hJ
  have hF1 : F_X9_free S S1 := by rw [e1]; exact ⟨rfl, rfl, rfl, rfl, rfl, rfl, rfl, rfl, rfl, rfl, rfl, rfl, rfl, rfl, rfl, rfl, rfl, rfl, rfl, rfl, rfl, rfl, rfl, rfl, rfl, rfl, rfl, rfl, rfl, rfl, rfl, rfl, rfl, rfl, rfl, rfl, rfl, rfl⟩
  refine sf_X9_leaves hJ1 (fun r10 u11 hJ11 hf11 h10 il => ?_)
  have hF11 : F_X9_free S u11 := ⟨(hf11.2.1).trans (hF1.1), (hf11.2.2.1).trans (hF1.2.1), (hf11.2.2.2.1).trans (hF1.2.2.1), (hf11.2.2.2.2.1).trans (hF1.2.2.2.1), (hf11.2.2.2.2.2.1).trans (hF1.2.2.2.2.1), (hf11.2.2.2.2.2.2.1).trans (hF1.2.2.2.2.2.1), (hf11.2.2.2.2.2.2.2.1).trans (hF1.2.2.2.2.2.2.1), (hf11.2.2.2.2.2.2.2.2.1).trans (hF1.2.2.2.2.2.2.2.1), (hf11.2.2.2.2.2.2.2.2.2.1).trans (hF1.2.2.2.2.2.2.2.2.1), (hf11.2.2.2.2.2.2.2.2.2.2.1).trans (hF1.2.2.2.2.2.2.2.2.2.1), (hf11.2.2.2.2.2.2.2.2.2.2.2.1).trans (hF1.2.2.2.2.2.2.2.2.2.2.1), (hf11.2.2.2.2.2.2.2.2.2.2.2.2.1).trans (hF1.2.2.2.2.2.2.2.2.2.2.2.1), (hf11.2.2.2.2.2.2.2.2.2.2.2.2.2.1).trans (hF1.2.2.2.2.2.2.2.2.2.2.2.2.1), (hf11.2.2.2.2.2.2.2.2.2.2.2.2.2.2.1).trans (hF1.2.2.2.2.2.2.2.2.2.2.2.2.2.1), (hf11.2.2.2.2.2.2.2.2.2.2.2.2.2.2.2.1).trans (hF1.2.2.2.2.2.2.2.2.2.2.2.2.2.2.1), (hf11.2.2.2.2.2.2.2.2.2.2.2.2.2.2.2.2.1).trans (hF1.2.2.2.2.2.2.2.2.2.2.2.2.2.2.2.1), (hf11.2.2.2.2.2.2.2.2.2.2.2.2.2.2.2.2.2.1).trans (hF1.2.2.2.2.2.2.2.2.2.2.2.2.2.2.2.2.1), (hf11.2.2.2.2.2.2.2.2.2.2.2.2.2.2.2.2.2.2.1).trans (hF1.2.2.2.2.2.2.2.2.2.2.2.2.2.2.2.2.2.1), (hf11.2.2.2.2.2.2.2.2.2.2.2.2.2.2.2.2.2.2.2.1).trans (hF1.2.2.2.2.2.2.2.2.2.2.2.2.2.2.2.2.2.2.1), (hf11.2.2.2.2.2.2.2.2.2.2.2.2.2.2.2.2.2.2.2.2.1).trans (hF1.2.2.2.2.2.2.2.2.2.2.2.2.2.2.2.2.2.2.2.1), (hf11.2.2.2.2.2.2.2.2.2.2.2.2.2.2.2.2.2.2.2.2.2.1).trans (hF1.2.2.2.2.2.2.2.2.2.2.2.2.2.2.2.2.2.2.2.2.1), (hf11.2.2.2.2.2.2.2.2.2.2.2.2.2.2.2.2.2.2.2.2.2.2.1).trans (hF1.2.2.2.2.2.2.2.2.2.2.2.2.2.2.2.2.2.2.2.2.2.1), (hf11.2.2.2.2.2.2.2.2.2.2.2.2.2.2.2.2.2.2.2.2.2.2.2.1).trans (hF1.2.2.2.2.2.2.2.2.2.2.2.2.2.2.2.2.2.2.2.2.2.2.1), (hf11.2.2.2.2.2.2.2.2.2.2.2.2.2.2.2.2.2.2.2.2.2.2.2.2.1).trans (hF1.2.2.2.2.2.2.2.2.2.2.2.2.2.2.2.2.2.2.2.2.2.2.2.1), (hf11.2.2.2.2.2.2.2.2.2.2.2.2.2.2.2.2.2.2.2.2.2.2.2.2.2.2.2.2.2.1).trans (hF1.2.2.2.2.2.2.2.2.2.2.2.2.2.2.2.2.2.2.2.2.2.2.2.2.1), (hf11.2.2.2.2.2.2.2.2.2.2.2.2.2.2.2.2.2.2.2.2.2.2.2.2.2.2.2.2.2.2.1).trans (hF1.2.2.2.2.2.2.2.2.2.2.2.2.2.2.2.2.2.2.2.2.2.2.2.2.2.1), (hf11.2.2.2.2.2.2.2.2.2.2.2.2.2.2.2.2.2.2.2.2.2.2.2.2.2.2.2.2.2.2.2.1).trans (hF1.2.2.2.2.2.2.2.2.2.2.2.2.2.2.2.2.2.2.2.2.2.2.2.2.2.2.1), (hf11.2.2.2.2.2.2.2.2.2.2.2.2.2.2.2.2.2.2.2.2.2.2.2.2.2.2.2.2.2.2.2.2.1).trans (hF1.2.2.2.2.2.2.2.2.2.2.2.2.2.2.2.2.2.2.2.2.2.2.2.2.2.2.2.1), (hf11.2.2.2.2.2.2.2.2.2.2.2.2.2.2.2.2.2.2.2.2.2.2.2.2.2.2.2.2.2.2.2.2.2.1).trans (hF1.2.2.2.2.2.2.2.2.2.2.2.2.2.2.2.2.2.2.2.2.2.2.2.2.2.2.2.2.1), (hf11.2.2.2.2.2.2.2.2.2.2.2.2.2.2.2.2.2.2.2.2.2.2.2.2.2.2.2.2.2.2.2.2.2.2.1).trans (hF1.2.2.2.2.2.2.2.2.2.2.2.2.2.2.2.2.2.2.2.2.2.2.2.2.2.2.2.2.2.1), (hf11.2.2.2.2.2.2.2.2.2.2.2.2.2.2.2.2.2.2.2.2.2.2.2.2.2.2.2.2.2.2.2.2.2.2.2.1).trans (hF1.2.2.2.2.2.2.2.2.2.2.2.2.2.2.2.2.2.2.2.2.2.2.2.2.2.2.2.2.2.2.1), (hf11.2.2.2.2.2.2.2.2.2.2.2.2.2.2.2.2.2.2.2.2.2.2.2.2.2.2.2.2.2.2.2.2.2.2.2.2.1).trans (hF1.2.2.2.2.2.2.2.2.2.2.2.2.2.2.2.2.2.2.2.2.2.2.2.2.2.2.2.2.2.2.2.1), (hf11.2.2.2.2.2.2.2.2.2.2.2.2.2.2.2.2.2.2.2.2.2.2.2.2.2.2.2.2.2.2.2.2.2.2.2.2.2.1).trans (hF1.2.2.2.2.2.2.2.2.2.2.2.2.2.2.2.2.2.2.2.2.2.2.2.2.2.2.2.2.2.2.2.2.1), (hf11.2.2.2.2.2.2.2.2.2.2.2.2.2.2.2.2.2.2.2.2.2.2.2.2.2.2.2.2.2.2.2.2.2.2.2.2.2.2.1).trans (hF1.2.2.2.2.2.2.2.2.2.2.2.2.2.2.2.2.2.2.2.2.2.2.2.2.2.2.2.2.2.2.2.2.2.1), (hf11.2.2.2.2.2.2.2.2.2.2.2.2.2.2.2.2.2.2.2.2.2.2.2.2.2.2.2.2.2.2.2.2.2.2.2.2.2.2.2.1).trans (hF1.2.2.2.2.2.2.2.2.2.2.2.2.2.2.2.2.2.2.2.2.2.2.2.2.2.2.2.2.2.2.2.2.2.2.1), (hf11.2.2.2.2.2.2.2.2.2.2.2.2.2.2.2.2.2.2.2.2.2.2.2.2.2.2.2.2.2.2.2.2.2.2.2.2.2.2.2.2.1).trans (hF1.2.2.2.2.2.2.2.2.2.2.2.2.2.2.2.2.2.2.2.2.2.2.2.2.2.2.2.2.2.2.2.2.2.2.2.1), (hf11.2.2.2.2.2.2.2.2.2.2.2.2.2.2.2.2.2.2.2.2.2.2.2.2.2.2.2.2.2.2.2.2.2.2.2.2.2.2.2.2.2.1).trans (hF1.2.2.2.2.2.2.2.2.2.2.2.2.2.2.2.2.2.2.2.2.2.2.2.2.2.2.2.2.2.2.2.2.2.2.2.2.1), (hf11.2.2.2.2.2.2.2.2.2.2.2.2.2.2.2.2.2.2.2.2.2.2.2.2.2.2.2.2.2.2.2.2.2.2.2.2.2.2.2.2.2.2).trans (hF1.2.2.2.2.2.2.2.2.2.2.2.2.2.2.2.2.2.2.2.2.2.2.2.2.2.2.2.2.2.2.2.2.2.2.2.2.2)⟩
  have n11 : b9g_now u11 = b9g_now S := hF11.1
  have k11 : b9g_keys u11 = b9g_keys S := hF11.2.1
  have l11 : b9g_lengths u11 = b9g_lengths S := hF11.2.2.1
  rw [n11] at h10
  have bad : ¬ ((0 ≤ a1.toInt ∧ a1.toInt ≤ (b9g_now S 9).toInt) ∧ 1 ≤ a2.toInt ∧ a2.toInt ≤ 7) → Q (-1) u11 := fun h => hq _ _ hJ11 hF11 (fun _ => ⟨fun g => absurd g h, fun _ => rfl⟩)
  have tail : ((0 ≤ a1.toInt ∧ a1.toInt ≤ (b9g_now S 9).toInt) ∧ 1 ≤ a2.toInt ∧ a2.toInt ≤ 7) → ∀ (T : bT9) (t : Int64), J9 T → F_X9_free S T → (b9g_isLaid T).toInt ≠ 0 → (a1.toInt = 0 → t = 0) → (SR9 S → ¬ a1.toInt = 0 → ∃ (k : Int64) (l : Int32), t = CUP k l a2 ∧ ub k = HIV (fun j => b9g_keys S (64 + j)) (fun j => b9g_lengths S (64 + j)) (b9g_now S 9).toInt (NBT (b9g_now S)) (a1.toInt.toNat - 1) ∧ l.toInt = (HIL (fun j => b9g_keys S (64 + j)) (fun j => b9g_lengths S (64 + j)) (b9g_now S 9).toInt (a1.toInt.toNat - 1) : Nat)) → wp_X9_free_64 T a1 a2 t Q := by
    intro b T t hT hF il t0 t1
    have nT : b9g_now T = b9g_now S := hF.1
    have kT : b9g_keys T = b9g_keys S := hF.2.1
    have lT : b9g_lengths T = b9g_lengths S := hF.2.2.1
    have cx := pt_clamp b.1.1
    unfold wp_X9_free_64
    rw [c9, nT]
    refine ⟨pt_in (by decide) (by decide), fun c => sf_X9_nextBits hT.1 (fun r1 p0 p8 h1 => sf_X9_bounds hT b.1.1 (by simp only [pn] at c; omega) (fun u4 hJ4 hf4 hB => fx9_lessKeys (fun r5 h5 => hq _ _ hJ4 ⟨(hf4.2.1).trans (hF.1), (hf4.2.2.1).trans (hF.2.1), (hf4.2.2.2.1).trans (hF.2.2.1), (hf4.2.2.2.2.1).trans (hF.2.2.2.1), (hf4.2.2.2.2.2.1).trans (hF.2.2.2.2.1), (hf4.2.2.2.2.2.2.1).trans (hF.2.2.2.2.2.1), (hf4.2.2.2.2.2.2.2.1).trans (hF.2.2.2.2.2.2.1), (hf4.2.2.2.2.2.2.2.2.1).trans (hF.2.2.2.2.2.2.2.1), (hf4.2.2.2.2.2.2.2.2.2.1).trans (hF.2.2.2.2.2.2.2.2.1), (hf4.2.2.2.2.2.2.2.2.2.2.2.2.2.1).trans (hF.2.2.2.2.2.2.2.2.2.1), (hf4.2.2.2.2.2.2.2.2.2.2.2.2.2.2.1).trans (hF.2.2.2.2.2.2.2.2.2.2.1), (hf4.2.2.2.2.2.2.2.2.2.2.2.2.2.2.2.1).trans (hF.2.2.2.2.2.2.2.2.2.2.2.1), (hf4.2.2.2.2.2.2.2.2.2.2.2.2.2.2.2.2.1).trans (hF.2.2.2.2.2.2.2.2.2.2.2.2.1), (hf4.2.2.2.2.2.2.2.2.2.2.2.2.2.2.2.2.2.1).trans (hF.2.2.2.2.2.2.2.2.2.2.2.2.2.1), (hf4.2.2.2.2.2.2.2.2.2.2.2.2.2.2.2.2.2.2.1).trans (hF.2.2.2.2.2.2.2.2.2.2.2.2.2.2.1), (hf4.2.2.2.2.2.2.2.2.2.2.2.2.2.2.2.2.2.2.2.1).trans (hF.2.2.2.2.2.2.2.2.2.2.2.2.2.2.2.1), (hf4.2.2.2.2.2.2.2.2.2.2.2.2.2.2.2.2.2.2.2.2.1).trans (hF.2.2.2.2.2.2.2.2.2.2.2.2.2.2.2.2.1), (hf4.2.2.2.2.2.2.2.2.2.2.2.2.2.2.2.2.2.2.2.2.2.1).trans (hF.2.2.2.2.2.2.2.2.2.2.2.2.2.2.2.2.2.1), (hf4.2.2.2.2.2.2.2.2.2.2.2.2.2.2.2.2.2.2.2.2.2.2.1).trans (hF.2.2.2.2.2.2.2.2.2.2.2.2.2.2.2.2.2.2.1), (hf4.2.2.2.2.2.2.2.2.2.2.2.2.2.2.2.2.2.2.2.2.2.2.2.1).trans (hF.2.2.2.2.2.2.2.2.2.2.2.2.2.2.2.2.2.2.2.1), (hf4.2.2.2.2.2.2.2.2.2.2.2.2.2.2.2.2.2.2.2.2.2.2.2.2.1).trans (hF.2.2.2.2.2.2.2.2.2.2.2.2.2.2.2.2.2.2.2.2.1), (hf4.2.2.2.2.2.2.2.2.2.2.2.2.2.2.2.2.2.2.2.2.2.2.2.2.2.1).trans (hF.2.2.2.2.2.2.2.2.2.2.2.2.2.2.2.2.2.2.2.2.2.1), (hf4.2.2.2.2.2.2.2.2.2.2.2.2.2.2.2.2.2.2.2.2.2.2.2.2.2.2.1).trans (hF.2.2.2.2.2.2.2.2.2.2.2.2.2.2.2.2.2.2.2.2.2.2.1), (hf4.2.2.2.2.2.2.2.2.2.2.2.2.2.2.2.2.2.2.2.2.2.2.2.2.2.2.2.1).trans (hF.2.2.2.2.2.2.2.2.2.2.2.2.2.2.2.2.2.2.2.2.2.2.2.1), (hf4.2.2.2.2.2.2.2.2.2.2.2.2.2.2.2.2.2.2.2.2.2.2.2.2.2.2.2.2.1).trans (hF.2.2.2.2.2.2.2.2.2.2.2.2.2.2.2.2.2.2.2.2.2.2.2.2.1), (hf4.2.2.2.2.2.2.2.2.2.2.2.2.2.2.2.2.2.2.2.2.2.2.2.2.2.2.2.2.2.1).trans (hF.2.2.2.2.2.2.2.2.2.2.2.2.2.2.2.2.2.2.2.2.2.2.2.2.2.1), (hf4.2.2.2.2.2.2.2.2.2.2.2.2.2.2.2.2.2.2.2.2.2.2.2.2.2.2.2.2.2.2.1).trans (hF.2.2.2.2.2.2.2.2.2.2.2.2.2.2.2.2.2.2.2.2.2.2.2.2.2.2.1), (hf4.2.2.2.2.2.2.2.2.2.2.2.2.2.2.2.2.2.2.2.2.2.2.2.2.2.2.2.2.2.2.2.1).trans (hF.2.2.2.2.2.2.2.2.2.2.2.2.2.2.2.2.2.2.2.2.2.2.2.2.2.2.2.1), (hf4.2.2.2.2.2.2.2.2.2.2.2.2.2.2.2.2.2.2.2.2.2.2.2.2.2.2.2.2.2.2.2.2.1).trans (hF.2.2.2.2.2.2.2.2.2.2.2.2.2.2.2.2.2.2.2.2.2.2.2.2.2.2.2.2.1), (hf4.2.2.2.2.2.2.2.2.2.2.2.2.2.2.2.2.2.2.2.2.2.2.2.2.2.2.2.2.2.2.2.2.2.1).trans (hF.2.2.2.2.2.2.2.2.2.2.2.2.2.2.2.2.2.2.2.2.2.2.2.2.2.2.2.2.2.1), (hf4.2.2.2.2.2.2.2.2.2.2.2.2.2.2.2.2.2.2.2.2.2.2.2.2.2.2.2.2.2.2.2.2.2.2.1).trans (hF.2.2.2.2.2.2.2.2.2.2.2.2.2.2.2.2.2.2.2.2.2.2.2.2.2.2.2.2.2.2.1), (hf4.2.2.2.2.2.2.2.2.2.2.2.2.2.2.2.2.2.2.2.2.2.2.2.2.2.2.2.2.2.2.2.2.2.2.2.1).trans (hF.2.2.2.2.2.2.2.2.2.2.2.2.2.2.2.2.2.2.2.2.2.2.2.2.2.2.2.2.2.2.2.1), (hf4.2.2.2.2.2.2.2.2.2.2.2.2.2.2.2.2.2.2.2.2.2.2.2.2.2.2.2.2.2.2.2.2.2.2.2.2.1).trans (hF.2.2.2.2.2.2.2.2.2.2.2.2.2.2.2.2.2.2.2.2.2.2.2.2.2.2.2.2.2.2.2.2.1), (hf4.2.2.2.2.2.2.2.2.2.2.2.2.2.2.2.2.2.2.2.2.2.2.2.2.2.2.2.2.2.2.2.2.2.2.2.2.2.1).trans (hF.2.2.2.2.2.2.2.2.2.2.2.2.2.2.2.2.2.2.2.2.2.2.2.2.2.2.2.2.2.2.2.2.2.1), (hf4.2.2.2.2.2.2.2.2.2.2.2.2.2.2.2.2.2.2.2.2.2.2.2.2.2.2.2.2.2.2.2.2.2.2.2.2.2.2.1).trans (hF.2.2.2.2.2.2.2.2.2.2.2.2.2.2.2.2.2.2.2.2.2.2.2.2.2.2.2.2.2.2.2.2.2.2.1), (hf4.2.2.2.2.2.2.2.2.2.2.2.2.2.2.2.2.2.2.2.2.2.2.2.2.2.2.2.2.2.2.2.2.2.2.2.2.2.2.2.1).trans (hF.2.2.2.2.2.2.2.2.2.2.2.2.2.2.2.2.2.2.2.2.2.2.2.2.2.2.2.2.2.2.2.2.2.2.2.1), (hf4.2.2.2.2.2.2.2.2.2.2.2.2.2.2.2.2.2.2.2.2.2.2.2.2.2.2.2.2.2.2.2.2.2.2.2.2.2.2.2.2.1).trans (hF.2.2.2.2.2.2.2.2.2.2.2.2.2.2.2.2.2.2.2.2.2.2.2.2.2.2.2.2.2.2.2.2.2.2.2.2.1), (hf4.2.2.2.2.2.2.2.2.2.2.2.2.2.2.2.2.2.2.2.2.2.2.2.2.2.2.2.2.2.2.2.2.2.2.2.2.2.2.2.2.2).trans (hF.2.2.2.2.2.2.2.2.2.2.2.2.2.2.2.2.2.2.2.2.2.2.2.2.2.2.2.2.2.2.2.2.2.2.2.2.2)⟩ (fun o => ⟨fun _ => ?_, fun h => absurd b h⟩)))), fun c => ?_⟩
    · simp only [pn] at c
      unfold SR9 BDS at hB
      rw [kT, lT, nT] at hB
      rw [nT] at h1
      have q := hB o il p0 p8 (by omega)
      rw [h1, show a1.toNatClampNeg = a1.toInt.toNat by omega] at q
      exact FRE_s (fun h => absurd h c) (fun _ => ⟨_, _, h5 b.2.2, q.1, q.2.1⟩) t0 (t1 o)
    · simp only [pn] at c
      unfold wp_X9_powerOf
      exact hq _ _ hT hF (fun o => ⟨fun _ => FRE_s (fun _ => rfl) (fun h => absurd c h) t0 (t1 o), fun h => absurd b h⟩)
  refine sf_X9_isIn hJ11.1 (fun r12 z12 h12 => ⟨fun c => bad ?_, fun c => sf_X9_isIn hJ11.1 (fun r14 z14 h14 => ⟨fun d => ⟨fun e => ?_, fun e => ?_⟩, fun d => bad ?_⟩)⟩)
  · simp only [pn] at c h12; omega
  · simp only [pn] at c d e h12 h14
    exact tail (by omega) u11 0 hJ11 hF11 il (fun _ => rfl) (fun _ h => absurd (by omega) h)
  · simp only [pn] at c d e h12 h14
    have b : ((0 ≤ a1.toInt ∧ a1.toInt ≤ (b9g_now S 9).toInt) ∧ 1 ≤ a2.toInt ∧ a2.toInt ≤ 7) := by omega
    have am : (a1 - 1).toInt = a1.toInt - 1 := by rw [pt_sub (by rw [pl_1]; omega) (by rw [pl_1]; omega), pl_1]
    have cm := pt_clamp (i := a1 - 1) (by omega)
    refine sf_X9_nextBits hJ11.1 (fun r16 p0 p8 h16 => sf_X9_bounds hJ11 (by omega) (by omega) (fun u19 hJ19 hf19 hB => fx9_notMoreKeys (fun r20 h20 => ?_)))
    unfold SR9 BDS at hB
    rw [k11, l11, n11, show (a1 - 1).toNatClampNeg = a1.toInt.toNat - 1 by omega] at hB
    rw [n11] at h16
    refine tail b u19 _ hJ19 ⟨(hf19.2.1).trans (hF11.1), (hf19.2.2.1).trans (hF11.2.1), (hf19.2.2.2.1).trans (hF11.2.2.1), (hf19.2.2.2.2.1).trans (hF11.2.2.2.1), (hf19.2.2.2.2.2.1).trans (hF11.2.2.2.2.1), (hf19.2.2.2.2.2.2.1).trans (hF11.2.2.2.2.2.1), (hf19.2.2.2.2.2.2.2.1).trans (hF11.2.2.2.2.2.2.1), (hf19.2.2.2.2.2.2.2.2.1).trans (hF11.2.2.2.2.2.2.2.1), (hf19.2.2.2.2.2.2.2.2.2.1).trans (hF11.2.2.2.2.2.2.2.2.1), (hf19.2.2.2.2.2.2.2.2.2.2.2.2.2.1).trans (hF11.2.2.2.2.2.2.2.2.2.1), (hf19.2.2.2.2.2.2.2.2.2.2.2.2.2.2.1).trans (hF11.2.2.2.2.2.2.2.2.2.2.1), (hf19.2.2.2.2.2.2.2.2.2.2.2.2.2.2.2.1).trans (hF11.2.2.2.2.2.2.2.2.2.2.2.1), (hf19.2.2.2.2.2.2.2.2.2.2.2.2.2.2.2.2.1).trans (hF11.2.2.2.2.2.2.2.2.2.2.2.2.1), (hf19.2.2.2.2.2.2.2.2.2.2.2.2.2.2.2.2.2.1).trans (hF11.2.2.2.2.2.2.2.2.2.2.2.2.2.1), (hf19.2.2.2.2.2.2.2.2.2.2.2.2.2.2.2.2.2.2.1).trans (hF11.2.2.2.2.2.2.2.2.2.2.2.2.2.2.1), (hf19.2.2.2.2.2.2.2.2.2.2.2.2.2.2.2.2.2.2.2.1).trans (hF11.2.2.2.2.2.2.2.2.2.2.2.2.2.2.2.1), (hf19.2.2.2.2.2.2.2.2.2.2.2.2.2.2.2.2.2.2.2.2.1).trans (hF11.2.2.2.2.2.2.2.2.2.2.2.2.2.2.2.2.1), (hf19.2.2.2.2.2.2.2.2.2.2.2.2.2.2.2.2.2.2.2.2.2.1).trans (hF11.2.2.2.2.2.2.2.2.2.2.2.2.2.2.2.2.2.1), (hf19.2.2.2.2.2.2.2.2.2.2.2.2.2.2.2.2.2.2.2.2.2.2.1).trans (hF11.2.2.2.2.2.2.2.2.2.2.2.2.2.2.2.2.2.2.1), (hf19.2.2.2.2.2.2.2.2.2.2.2.2.2.2.2.2.2.2.2.2.2.2.2.1).trans (hF11.2.2.2.2.2.2.2.2.2.2.2.2.2.2.2.2.2.2.2.1), (hf19.2.2.2.2.2.2.2.2.2.2.2.2.2.2.2.2.2.2.2.2.2.2.2.2.1).trans (hF11.2.2.2.2.2.2.2.2.2.2.2.2.2.2.2.2.2.2.2.2.1), (hf19.2.2.2.2.2.2.2.2.2.2.2.2.2.2.2.2.2.2.2.2.2.2.2.2.2.1).trans (hF11.2.2.2.2.2.2.2.2.2.2.2.2.2.2.2.2.2.2.2.2.2.1), (hf19.2.2.2.2.2.2.2.2.2.2.2.2.2.2.2.2.2.2.2.2.2.2.2.2.2.2.1).trans (hF11.2.2.2.2.2.2.2.2.2.2.2.2.2.2.2.2.2.2.2.2.2.2.1), (hf19.2.2.2.2.2.2.2.2.2.2.2.2.2.2.2.2.2.2.2.2.2.2.2.2.2.2.2.1).trans (hF11.2.2.2.2.2.2.2.2.2.2.2.2.2.2.2.2.2.2.2.2.2.2.2.1), (hf19.2.2.2.2.2.2.2.2.2.2.2.2.2.2.2.2.2.2.2.2.2.2.2.2.2.2.2.2.1).trans (hF11.2.2.2.2.2.2.2.2.2.2.2.2.2.2.2.2.2.2.2.2.2.2.2.2.1), (hf19.2.2.2.2.2.2.2.2.2.2.2.2.2.2.2.2.2.2.2.2.2.2.2.2.2.2.2.2.2.1).trans (hF11.2.2.2.2.2.2.2.2.2.2.2.2.2.2.2.2.2.2.2.2.2.2.2.2.2.1), (hf19.2.2.2.2.2.2.2.2.2.2.2.2.2.2.2.2.2.2.2.2.2.2.2.2.2.2.2.2.2.2.1).trans (hF11.2.2.2.2.2.2.2.2.2.2.2.2.2.2.2.2.2.2.2.2.2.2.2.2.2.2.1), (hf19.2.2.2.2.2.2.2.2.2.2.2.2.2.2.2.2.2.2.2.2.2.2.2.2.2.2.2.2.2.2.2.1).trans (hF11.2.2.2.2.2.2.2.2.2.2.2.2.2.2.2.2.2.2.2.2.2.2.2.2.2.2.2.1), (hf19.2.2.2.2.2.2.2.2.2.2.2.2.2.2.2.2.2.2.2.2.2.2.2.2.2.2.2.2.2.2.2.2.1).trans (hF11.2.2.2.2.2.2.2.2.2.2.2.2.2.2.2.2.2.2.2.2.2.2.2.2.2.2.2.2.1), (hf19.2.2.2.2.2.2.2.2.2.2.2.2.2.2.2.2.2.2.2.2.2.2.2.2.2.2.2.2.2.2.2.2.2.1).trans (hF11.2.2.2.2.2.2.2.2.2.2.2.2.2.2.2.2.2.2.2.2.2.2.2.2.2.2.2.2.2.1), (hf19.2.2.2.2.2.2.2.2.2.2.2.2.2.2.2.2.2.2.2.2.2.2.2.2.2.2.2.2.2.2.2.2.2.2.1).trans (hF11.2.2.2.2.2.2.2.2.2.2.2.2.2.2.2.2.2.2.2.2.2.2.2.2.2.2.2.2.2.2.1), (hf19.2.2.2.2.2.2.2.2.2.2.2.2.2.2.2.2.2.2.2.2.2.2.2.2.2.2.2.2.2.2.2.2.2.2.2.1).trans (hF11.2.2.2.2.2.2.2.2.2.2.2.2.2.2.2.2.2.2.2.2.2.2.2.2.2.2.2.2.2.2.2.1), (hf19.2.2.2.2.2.2.2.2.2.2.2.2.2.2.2.2.2.2.2.2.2.2.2.2.2.2.2.2.2.2.2.2.2.2.2.2.1).trans (hF11.2.2.2.2.2.2.2.2.2.2.2.2.2.2.2.2.2.2.2.2.2.2.2.2.2.2.2.2.2.2.2.2.1), (hf19.2.2.2.2.2.2.2.2.2.2.2.2.2.2.2.2.2.2.2.2.2.2.2.2.2.2.2.2.2.2.2.2.2.2.2.2.2.1).trans (hF11.2.2.2.2.2.2.2.2.2.2.2.2.2.2.2.2.2.2.2.2.2.2.2.2.2.2.2.2.2.2.2.2.2.1), (hf19.2.2.2.2.2.2.2.2.2.2.2.2.2.2.2.2.2.2.2.2.2.2.2.2.2.2.2.2.2.2.2.2.2.2.2.2.2.2.1).trans (hF11.2.2.2.2.2.2.2.2.2.2.2.2.2.2.2.2.2.2.2.2.2.2.2.2.2.2.2.2.2.2.2.2.2.2.1), (hf19.2.2.2.2.2.2.2.2.2.2.2.2.2.2.2.2.2.2.2.2.2.2.2.2.2.2.2.2.2.2.2.2.2.2.2.2.2.2.2.1).trans (hF11.2.2.2.2.2.2.2.2.2.2.2.2.2.2.2.2.2.2.2.2.2.2.2.2.2.2.2.2.2.2.2.2.2.2.2.1), (hf19.2.2.2.2.2.2.2.2.2.2.2.2.2.2.2.2.2.2.2.2.2.2.2.2.2.2.2.2.2.2.2.2.2.2.2.2.2.2.2.2.1).trans (hF11.2.2.2.2.2.2.2.2.2.2.2.2.2.2.2.2.2.2.2.2.2.2.2.2.2.2.2.2.2.2.2.2.2.2.2.2.1), (hf19.2.2.2.2.2.2.2.2.2.2.2.2.2.2.2.2.2.2.2.2.2.2.2.2.2.2.2.2.2.2.2.2.2.2.2.2.2.2.2.2.2).trans (hF11.2.2.2.2.2.2.2.2.2.2.2.2.2.2.2.2.2.2.2.2.2.2.2.2.2.2.2.2.2.2.2.2.2.2.2.2.2)⟩ (by rw [show b9g_isLaid u19 = b9g_isLaid u11 from hf19.2.2.2.2.2.2.2.2.2.2.2.2.1]; exact il) (fun h => absurd h (by omega)) (fun o _ => ⟨_, _, h20 b.2.2, ?_, ?_⟩)
    · have q := hB o il p0 p8 (by omega)
      rw [h16] at q
      exact q.2.2.1
    · have q := hB o il p0 p8 (by omega)
      rw [h16] at q
      exact q.2.2.2
  · simp only [pn] at d h14; omega
def F_X9_spread (S u : bT9) : Prop := (b9g_now u) = (b9g_now S) ∧ (b9g_keys u) = (b9g_keys S) ∧ (b9g_lengths u) = (b9g_lengths S) ∧ (b9g_drawn u) = (b9g_drawn S) ∧ (b9g_drawnLength u) = (b9g_drawnLength S) ∧ (b9g_tape u) = (b9g_tape S) ∧ (b9g_taped u) = (b9g_taped S) ∧ (b9g_names u) = (b9g_names S) ∧ (b9g_chosen u) = (b9g_chosen S) ∧ (b9g_nodeLevel u) = (b9g_nodeLevel S) ∧ (b9g_nodeLeaf u) = (b9g_nodeLeaf S) ∧ (b9g_nodeLeaves u) = (b9g_nodeLeaves S) ∧ (b9g_nodeMany u) = (b9g_nodeMany S) ∧ (b9g_levelMany u) = (b9g_levelMany S) ∧ (b9g_upper u) = (b9g_upper S) ∧ (b9g_upperNodes u) = (b9g_upperNodes S) ∧ (b9g_areNodesLaid u) = (b9g_areNodesLaid S) ∧ (b9g_itemNode u) = (b9g_itemNode S) ∧ (b9g_itemByte u) = (b9g_itemByte S) ∧ (b9g_itemChild u) = (b9g_itemChild S) ∧ (b9g_itemMany u) = (b9g_itemMany S) ∧ (b9g_placeOf u) = (b9g_placeOf S) ∧ (b9g_leafOfPlace u) = (b9g_leafOfPlace S) ∧ (b9g_places u) = (b9g_places S) ∧ (b9g_fromKey u) = (b9g_fromKey S) ∧ (b9g_toKey u) = (b9g_toKey S) ∧ (b9g_fromLength u) = (b9g_fromLength S) ∧ (b9g_toLength u) = (b9g_toLength S) ∧ (b9g_ones u) = (b9g_ones S) ∧ (b9g_oneMany u) = (b9g_oneMany S) ∧ (b9g_rowLong u) = (b9g_rowLong S) ∧ (b9g_laidFor u) = (b9g_laidFor S) ∧ (b9g_signs u) = (b9g_signs S) ∧ (b9g_signMany u) = (b9g_signMany S) ∧ (b9g_hasImage u) = (b9g_hasImage S) ∧ (b9g_images u) = (b9g_images S) ∧ (b9g_keyImages u) = (b9g_keyImages S) ∧ (b9g_lengthImages u) = (b9g_lengthImages S)
theorem sf_X9_spread {S : bT9} (hJ : J9 S) {a1 : Int32} {a2 : Int32} {a3 : Int32} {a4 : Int32} {Q : Int32 → (bT9) → Prop} (hq : ∀ (r : Int32) (u : bT9), (J9 u) → F_X9_spread S u → ((SR9 S ∧ CLN (fun j => b9g_keys S (64 + j)) (fun j => b9g_lengths S (64 + j)) (b9g_now S 9).toInt) → (((1 ≤ a3.toInt ∧ a3.toInt ≤ 7) ∧ 0 ≤ a4.toInt ∧ a4.toInt ≤ 2) → SPO (fun c => MAY (fun j => b9g_keys S (64 + j)) (fun j => b9g_lengths S (64 + j)) (b9g_now S 9).toInt (NBT (b9g_now S)) (b9g_now S 16) (HBT (b9g_now S)) (SPK (KEY a1 a2 a3) a3 c) (a3 + 1) 1) (fun c => VRD (fun j => b9g_keys S (64 + j)) (fun j => b9g_lengths S (64 + j)) (b9g_now S 9).toInt (NBT (b9g_now S)) (b9g_now S 16) (HBT (b9g_now S)) (SPK (KEY a1 a2 a3) a3 c) (a3 + 1) 2) a4.toInt r.toInt) ∧ (¬ ((1 ≤ a3.toInt ∧ a3.toInt ≤ 7) ∧ 0 ≤ a4.toInt ∧ a4.toInt ≤ 2) → r.toInt = -1)) → Q r u) : wp_X9_spread S a1 a2 a3 a4 Q := by
  unfold wp_X9_spread
  intro S1 e1
  have hJ1 : J9 S1 := by rw [e1]; exact J9s_told hJ
  have hF1 : F_X9_spread S S1 := by rw [e1]; exact ⟨rfl, rfl, rfl, rfl, rfl, rfl, rfl, rfl, rfl, rfl, rfl, rfl, rfl, rfl, rfl, rfl, rfl, rfl, rfl, rfl, rfl, rfl, rfl, rfl, rfl, rfl, rfl, rfl, rfl, rfl, rfl, rfl, rfl, rfl, rfl, rfl, rfl, rfl⟩
  have e255 : ((255 : Int32)).toInt = 255 := rfl
  have bad : ¬ ((1 ≤ a3.toInt ∧ a3.toInt ≤ 7) ∧ 0 ≤ a4.toInt ∧ a4.toInt ≤ 2) → Q (-1) S1 := fun h => hq _ _ hJ1 hF1 (fun _ => ⟨fun g => absurd g h, fun _ => rfl⟩)
  refine sf_X9_isIn hJ1.1 (fun r9 z9 h9 => ⟨fun c => bad ?_, fun c => sf_X9_isIn hJ1.1 (fun r11 z11 h11 => ⟨fun d => ?_, fun d => bad ?_⟩)⟩)
  · simp only [pn] at c h9; omega
  rotate_left
  · simp only [pn] at d h11; omega
  simp only [pn] at c d h9 h11
  have ok : (1 ≤ a3.toInt ∧ a3.toInt ≤ 7) ∧ 0 ≤ a4.toInt ∧ a4.toInt ≤ 2 := by omega
  have a3' : (a3 + 1).toInt = a3.toInt + 1 := by rw [pt_add (by rw [pl_1]; omega) (by rw [pl_1]; omega), pl_1]
  unfold wp_X9_spread_43
  refine ⟨fun n x1 x2 x3 x4 x5 x6 x7 x8 V => x1 = a1 ∧ x2 = a2 ∧ x3 = a3 ∧ x4 = a4 ∧ -1 ≤ x8.toInt ∧ x8.toInt ≤ 255 ∧ 0 ≤ x5.toInt ∧ x5.toInt ≤ 255 - x8.toInt ∧ 0 ≤ x6.toInt ∧ x6.toInt ≤ 255 - x8.toInt ∧ J9 V ∧ F_X9_spread S V ∧ ((SR9 S ∧ CLN (fun j => b9g_keys S (64 + j)) (fun j => b9g_lengths S (64 + j)) (b9g_now S 9).toInt) → x5.toInt + CTP (fun c => (MAY (fun j => b9g_keys S (64 + j)) (fun j => b9g_lengths S (64 + j)) (b9g_now S 9).toInt (NBT (b9g_now S)) (b9g_now S 16) (HBT (b9g_now S)) (SPK (KEY a1 a2 a3) a3 c) (a3 + 1) 1)) (x8.toInt + 1).toNat = CTP (fun c => (MAY (fun j => b9g_keys S (64 + j)) (fun j => b9g_lengths S (64 + j)) (b9g_now S 9).toInt (NBT (b9g_now S)) (b9g_now S 16) (HBT (b9g_now S)) (SPK (KEY a1 a2 a3) a3 c) (a3 + 1) 1)) 256 ∧ x6.toInt + CTP (fun c => (VRD (fun j => b9g_keys S (64 + j)) (fun j => b9g_lengths S (64 + j)) (b9g_now S 9).toInt (NBT (b9g_now S)) (b9g_now S 16) (HBT (b9g_now S)) (SPK (KEY a1 a2 a3) a3 c) (a3 + 1) 2)) (x8.toInt + 1).toNat = CTP (fun c => (VRD (fun j => b9g_keys S (64 + j)) (fun j => b9g_lengths S (64 + j)) (b9g_now S 9).toInt (NBT (b9g_now S)) (b9g_now S 16) (HBT (b9g_now S)) (SPK (KEY a1 a2 a3) a3 c) (a3 + 1) 2)) 256 ∧ (((x7).toInt = -1 ∧ ∀ c : Nat, c < 256 → (x8).toInt < (c : Int) → ¬ (MAY (fun j => b9g_keys S (64 + j)) (fun j => b9g_lengths S (64 + j)) (b9g_now S 9).toInt (NBT (b9g_now S)) (b9g_now S 16) (HBT (b9g_now S)) (SPK (KEY a1 a2 a3) a3 c) (a3 + 1) 1)) ∨ ((x8).toInt < (x7).toInt ∧ 0 ≤ (x7).toInt ∧ (x7).toInt < 256 ∧ (∀ c : Nat, (c : Int) = (x7).toInt → (MAY (fun j => b9g_keys S (64 + j)) (fun j => b9g_lengths S (64 + j)) (b9g_now S 9).toInt (NBT (b9g_now S)) (b9g_now S 16) (HBT (b9g_now S)) (SPK (KEY a1 a2 a3) a3 c) (a3 + 1) 1)) ∧ ∀ c : Nat, (x8).toInt < (c : Int) → (c : Int) < (x7).toInt → ¬ (MAY (fun j => b9g_keys S (64 + j)) (fun j => b9g_lengths S (64 + j)) (b9g_now S 9).toInt (NBT (b9g_now S)) (b9g_now S 16) (HBT (b9g_now S)) (SPK (KEY a1 a2 a3) a3 c) (a3 + 1) 1)))) ∧ n = (x8.toInt + 1).toNat, ⟨_, rfl, rfl, rfl, rfl, by decide, by decide, by decide, by decide, by decide, by decide, hJ1, hF1, fun _ => ⟨?_, ?_, Or.inl ⟨rfl, fun c hc h => by rw [e255] at h; omega⟩⟩, rfl⟩, ?_⟩
  · rw [e255, pl_0, show ((255 : Int) + 1).toNat = 256 from rfl, Int.zero_add]
  · rw [e255, pl_0, show ((255 : Int) + 1).toNat = 256 from rfl, Int.zero_add]
  rintro n x1 x2 x3 x4 x5 x6 x7 x8 V ⟨e1', e2, e3, e4, h0, h1, p0, p1, q0, q1, hJV, hFV, hI, hn⟩
  have nV : b9g_now V = b9g_now S := hFV.1
  have kV : b9g_keys V = b9g_keys S := hFV.2.1
  have lV : b9g_lengths V = b9g_lengths S := hFV.2.2.1
  unfold wp_X9_spread_43b
  rw [e1', e2, e3, e4]
  refine ⟨fun g => ?_, fun g => ?_⟩
  · simp only [pn] at g
    have ex : (x8.toInt + 1).toNat = 0 := by omega
    have fin : ∀ r : Int32, ((SR9 S ∧ CLN (fun j => b9g_keys S (64 + j)) (fun j => b9g_lengths S (64 + j)) (b9g_now S 9).toInt) → SPO (fun c => (MAY (fun j => b9g_keys S (64 + j)) (fun j => b9g_lengths S (64 + j)) (b9g_now S 9).toInt (NBT (b9g_now S)) (b9g_now S 16) (HBT (b9g_now S)) (SPK (KEY a1 a2 a3) a3 c) (a3 + 1) 1)) (fun c => (VRD (fun j => b9g_keys S (64 + j)) (fun j => b9g_lengths S (64 + j)) (b9g_now S 9).toInt (NBT (b9g_now S)) (b9g_now S 16) (HBT (b9g_now S)) (SPK (KEY a1 a2 a3) a3 c) (a3 + 1) 2)) a4.toInt r.toInt) → Q r V := fun r hr => hq _ _ hJV hFV (fun o => ⟨fun _ => hr o, fun h => absurd ok h⟩)
    refine ⟨fun k => ⟨fun l => fin _ (fun o => ?_), fun l => fin _ (fun o => ?_)⟩, fun k => fin _ (fun o => ?_)⟩
    · simp only [pn] at k l
      obtain ⟨i1, i2, i3⟩ := hI o
      refine ⟨fun h => by omega, fun h => by omega, fun _ => ?_⟩
      rcases i3 with ⟨u, v⟩ | ⟨u0, u, v, w, y⟩
      · exact Or.inl ⟨u, fun c hc => v c hc (by omega)⟩
      · exact Or.inr ⟨u, v, w, fun c hc => y c (by omega) hc⟩
    · simp only [pn] at k l
      obtain ⟨i1, i2, i3⟩ := hI o
      rw [ex] at i2
      exact ⟨fun h => by omega, fun h => by rw [← i2]; exact (Int.add_zero _).symm, fun h => by omega⟩
    · simp only [pn] at k
      obtain ⟨i1, i2, i3⟩ := hI o
      rw [ex] at i1
      exact ⟨fun h => by rw [← i1]; exact (Int.add_zero _).symm, fun h => by omega, fun h => by omega⟩
  simp only [pn] at g
  have h0' : 0 ≤ x8.toInt := by omega
  have x8' : (x8 + -1).toInt = x8.toInt - 1 := by rw [pt_add (by rw [pl_m1]; omega) (by rw [pl_m1]; omega), pl_m1]; omega
  obtain ⟨y8, hy⟩ : ∃ y : Int32, x8 + (-1 : Int32) = y := ⟨_, rfl⟩
  rw [hy] at x8'
  have x5' : (x5 + 1).toInt = x5.toInt + 1 := by rw [pt_add (by rw [pl_1]; omega) (by rw [pl_1]; omega), pl_1]
  have x6' : (x6 + 1).toInt = x6.toInt + 1 := by rw [pt_add (by rw [pl_1]; omega) (by rw [pl_1]; omega), pl_1]
  have s1 : (x8.toInt + 1).toNat = x8.toInt.toNat + 1 := by omega
  have s2 : (y8.toInt + 1).toNat = x8.toInt.toNat := by omega
  rw [s1] at hI
  refine sf_X9_keyOf hJV.1 (fun r1 k1 => ?_)
  intro v3 e3'
  have ek : v3 = SPK (KEY a1 a2 a3) a3 x8.toInt.toNat := by
    rw [e3', k1]
    unfold SPK
    rw [nI_back h0']
  rw [ek]
  refine sf_X9_mayNow hJV (fun r4 u5 hJ5 hf5 z4 hM => ?_)
  have hF5 : F_X9_spread S u5 := ⟨(hf5.2.1).trans (hFV.1), (hf5.2.2.1).trans (hFV.2.1), (hf5.2.2.2.1).trans (hFV.2.2.1), (hf5.2.2.2.2.1).trans (hFV.2.2.2.1), (hf5.2.2.2.2.2.1).trans (hFV.2.2.2.2.1), (hf5.2.2.2.2.2.2.1).trans (hFV.2.2.2.2.2.1), (hf5.2.2.2.2.2.2.2.1).trans (hFV.2.2.2.2.2.2.1), (hf5.2.2.2.2.2.2.2.2.1).trans (hFV.2.2.2.2.2.2.2.1), (hf5.2.2.2.2.2.2.2.2.2.1).trans (hFV.2.2.2.2.2.2.2.2.1), (hf5.2.2.2.2.2.2.2.2.2.2.1).trans (hFV.2.2.2.2.2.2.2.2.2.1), (hf5.2.2.2.2.2.2.2.2.2.2.2.1).trans (hFV.2.2.2.2.2.2.2.2.2.2.1), (hf5.2.2.2.2.2.2.2.2.2.2.2.2.1).trans (hFV.2.2.2.2.2.2.2.2.2.2.2.1), (hf5.2.2.2.2.2.2.2.2.2.2.2.2.2.1).trans (hFV.2.2.2.2.2.2.2.2.2.2.2.2.1), (hf5.2.2.2.2.2.2.2.2.2.2.2.2.2.2.1).trans (hFV.2.2.2.2.2.2.2.2.2.2.2.2.2.1), (hf5.2.2.2.2.2.2.2.2.2.2.2.2.2.2.2.1).trans (hFV.2.2.2.2.2.2.2.2.2.2.2.2.2.2.1), (hf5.2.2.2.2.2.2.2.2.2.2.2.2.2.2.2.2.1).trans (hFV.2.2.2.2.2.2.2.2.2.2.2.2.2.2.2.1), (hf5.2.2.2.2.2.2.2.2.2.2.2.2.2.2.2.2.2.1).trans (hFV.2.2.2.2.2.2.2.2.2.2.2.2.2.2.2.2.1), (hf5.2.2.2.2.2.2.2.2.2.2.2.2.2.2.2.2.2.2.1).trans (hFV.2.2.2.2.2.2.2.2.2.2.2.2.2.2.2.2.2.1), (hf5.2.2.2.2.2.2.2.2.2.2.2.2.2.2.2.2.2.2.2.1).trans (hFV.2.2.2.2.2.2.2.2.2.2.2.2.2.2.2.2.2.2.1), (hf5.2.2.2.2.2.2.2.2.2.2.2.2.2.2.2.2.2.2.2.2.1).trans (hFV.2.2.2.2.2.2.2.2.2.2.2.2.2.2.2.2.2.2.2.1), (hf5.2.2.2.2.2.2.2.2.2.2.2.2.2.2.2.2.2.2.2.2.2.1).trans (hFV.2.2.2.2.2.2.2.2.2.2.2.2.2.2.2.2.2.2.2.2.1), (hf5.2.2.2.2.2.2.2.2.2.2.2.2.2.2.2.2.2.2.2.2.2.2.1).trans (hFV.2.2.2.2.2.2.2.2.2.2.2.2.2.2.2.2.2.2.2.2.2.1), (hf5.2.2.2.2.2.2.2.2.2.2.2.2.2.2.2.2.2.2.2.2.2.2.2.1).trans (hFV.2.2.2.2.2.2.2.2.2.2.2.2.2.2.2.2.2.2.2.2.2.2.1), (hf5.2.2.2.2.2.2.2.2.2.2.2.2.2.2.2.2.2.2.2.2.2.2.2.2.1).trans (hFV.2.2.2.2.2.2.2.2.2.2.2.2.2.2.2.2.2.2.2.2.2.2.2.1), (hf5.2.2.2.2.2.2.2.2.2.2.2.2.2.2.2.2.2.2.2.2.2.2.2.2.2.1).trans (hFV.2.2.2.2.2.2.2.2.2.2.2.2.2.2.2.2.2.2.2.2.2.2.2.2.1), (hf5.2.2.2.2.2.2.2.2.2.2.2.2.2.2.2.2.2.2.2.2.2.2.2.2.2.2.1).trans (hFV.2.2.2.2.2.2.2.2.2.2.2.2.2.2.2.2.2.2.2.2.2.2.2.2.2.1), (hf5.2.2.2.2.2.2.2.2.2.2.2.2.2.2.2.2.2.2.2.2.2.2.2.2.2.2.2.1).trans (hFV.2.2.2.2.2.2.2.2.2.2.2.2.2.2.2.2.2.2.2.2.2.2.2.2.2.2.1), (hf5.2.2.2.2.2.2.2.2.2.2.2.2.2.2.2.2.2.2.2.2.2.2.2.2.2.2.2.2.1).trans (hFV.2.2.2.2.2.2.2.2.2.2.2.2.2.2.2.2.2.2.2.2.2.2.2.2.2.2.2.1), (hf5.2.2.2.2.2.2.2.2.2.2.2.2.2.2.2.2.2.2.2.2.2.2.2.2.2.2.2.2.2.1).trans (hFV.2.2.2.2.2.2.2.2.2.2.2.2.2.2.2.2.2.2.2.2.2.2.2.2.2.2.2.2.1), (hf5.2.2.2.2.2.2.2.2.2.2.2.2.2.2.2.2.2.2.2.2.2.2.2.2.2.2.2.2.2.2.1).trans (hFV.2.2.2.2.2.2.2.2.2.2.2.2.2.2.2.2.2.2.2.2.2.2.2.2.2.2.2.2.2.1), (hf5.2.2.2.2.2.2.2.2.2.2.2.2.2.2.2.2.2.2.2.2.2.2.2.2.2.2.2.2.2.2.2.1).trans (hFV.2.2.2.2.2.2.2.2.2.2.2.2.2.2.2.2.2.2.2.2.2.2.2.2.2.2.2.2.2.2.1), (hf5.2.2.2.2.2.2.2.2.2.2.2.2.2.2.2.2.2.2.2.2.2.2.2.2.2.2.2.2.2.2.2.2.1).trans (hFV.2.2.2.2.2.2.2.2.2.2.2.2.2.2.2.2.2.2.2.2.2.2.2.2.2.2.2.2.2.2.2.1), (hf5.2.2.2.2.2.2.2.2.2.2.2.2.2.2.2.2.2.2.2.2.2.2.2.2.2.2.2.2.2.2.2.2.2.1).trans (hFV.2.2.2.2.2.2.2.2.2.2.2.2.2.2.2.2.2.2.2.2.2.2.2.2.2.2.2.2.2.2.2.2.1), (hf5.2.2.2.2.2.2.2.2.2.2.2.2.2.2.2.2.2.2.2.2.2.2.2.2.2.2.2.2.2.2.2.2.2.2.1).trans (hFV.2.2.2.2.2.2.2.2.2.2.2.2.2.2.2.2.2.2.2.2.2.2.2.2.2.2.2.2.2.2.2.2.2.1), (hf5.2.2.2.2.2.2.2.2.2.2.2.2.2.2.2.2.2.2.2.2.2.2.2.2.2.2.2.2.2.2.2.2.2.2.2.1).trans (hFV.2.2.2.2.2.2.2.2.2.2.2.2.2.2.2.2.2.2.2.2.2.2.2.2.2.2.2.2.2.2.2.2.2.2.1), (hf5.2.2.2.2.2.2.2.2.2.2.2.2.2.2.2.2.2.2.2.2.2.2.2.2.2.2.2.2.2.2.2.2.2.2.2.2.1).trans (hFV.2.2.2.2.2.2.2.2.2.2.2.2.2.2.2.2.2.2.2.2.2.2.2.2.2.2.2.2.2.2.2.2.2.2.2.1), (hf5.2.2.2.2.2.2.2.2.2.2.2.2.2.2.2.2.2.2.2.2.2.2.2.2.2.2.2.2.2.2.2.2.2.2.2.2.2.1).trans (hFV.2.2.2.2.2.2.2.2.2.2.2.2.2.2.2.2.2.2.2.2.2.2.2.2.2.2.2.2.2.2.2.2.2.2.2.2.1), (hf5.2.2.2.2.2.2.2.2.2.2.2.2.2.2.2.2.2.2.2.2.2.2.2.2.2.2.2.2.2.2.2.2.2.2.2.2.2.2).trans (hFV.2.2.2.2.2.2.2.2.2.2.2.2.2.2.2.2.2.2.2.2.2.2.2.2.2.2.2.2.2.2.2.2.2.2.2.2.2)⟩
  have n5 : b9g_now u5 = b9g_now S := hF5.1
  have k5 : b9g_keys u5 = b9g_keys S := hF5.2.1
  have l5 : b9g_lengths u5 = b9g_lengths S := hF5.2.2.1
  unfold SR9 at hM
  rw [kV, lV, nV] at hM
  have nb := NBT_rng (J9g_now hJ).2.2.2.2.2
  have step : ∀ y5 y6 y7 : Int32, 0 ≤ y5.toInt → y5.toInt ≤ 255 - y8.toInt → 0 ≤ y6.toInt → y6.toInt ≤ 255 - y8.toInt → ((SR9 S ∧ CLN (fun j => b9g_keys S (64 + j)) (fun j => b9g_lengths S (64 + j)) (b9g_now S 9).toInt) → y5.toInt + CTP (fun c => (MAY (fun j => b9g_keys S (64 + j)) (fun j => b9g_lengths S (64 + j)) (b9g_now S 9).toInt (NBT (b9g_now S)) (b9g_now S 16) (HBT (b9g_now S)) (SPK (KEY a1 a2 a3) a3 c) (a3 + 1) 1)) x8.toInt.toNat = CTP (fun c => (MAY (fun j => b9g_keys S (64 + j)) (fun j => b9g_lengths S (64 + j)) (b9g_now S 9).toInt (NBT (b9g_now S)) (b9g_now S 16) (HBT (b9g_now S)) (SPK (KEY a1 a2 a3) a3 c) (a3 + 1) 1)) 256 ∧ y6.toInt + CTP (fun c => (VRD (fun j => b9g_keys S (64 + j)) (fun j => b9g_lengths S (64 + j)) (b9g_now S 9).toInt (NBT (b9g_now S)) (b9g_now S 16) (HBT (b9g_now S)) (SPK (KEY a1 a2 a3) a3 c) (a3 + 1) 2)) x8.toInt.toNat = CTP (fun c => (VRD (fun j => b9g_keys S (64 + j)) (fun j => b9g_lengths S (64 + j)) (b9g_now S 9).toInt (NBT (b9g_now S)) (b9g_now S 16) (HBT (b9g_now S)) (SPK (KEY a1 a2 a3) a3 c) (a3 + 1) 2)) 256 ∧ (((y7).toInt = -1 ∧ ∀ c : Nat, c < 256 → (y8).toInt < (c : Int) → ¬ (MAY (fun j => b9g_keys S (64 + j)) (fun j => b9g_lengths S (64 + j)) (b9g_now S 9).toInt (NBT (b9g_now S)) (b9g_now S 16) (HBT (b9g_now S)) (SPK (KEY a1 a2 a3) a3 c) (a3 + 1) 1)) ∨ ((y8).toInt < (y7).toInt ∧ 0 ≤ (y7).toInt ∧ (y7).toInt < 256 ∧ (∀ c : Nat, (c : Int) = (y7).toInt → (MAY (fun j => b9g_keys S (64 + j)) (fun j => b9g_lengths S (64 + j)) (b9g_now S 9).toInt (NBT (b9g_now S)) (b9g_now S 16) (HBT (b9g_now S)) (SPK (KEY a1 a2 a3) a3 c) (a3 + 1) 1)) ∧ ∀ c : Nat, (y8).toInt < (c : Int) → (c : Int) < (y7).toInt → ¬ (MAY (fun j => b9g_keys S (64 + j)) (fun j => b9g_lengths S (64 + j)) (b9g_now S 9).toInt (NBT (b9g_now S)) (b9g_now S 16) (HBT (b9g_now S)) (SPK (KEY a1 a2 a3) a3 c) (a3 + 1) 1)))) → wp_X9_spread_112 u5 a1 a2 a3 a4 y5 y6 y7 x8 Q (fun x1 x2 x3 x4 x5 x6 x7 x8 S_1 => ∃ n2 : Nat, n2 < n ∧ x1 = a1 ∧ x2 = a2 ∧ x3 = a3 ∧ x4 = a4 ∧ -1 ≤ x8.toInt ∧ x8.toInt ≤ 255 ∧ 0 ≤ x5.toInt ∧ x5.toInt ≤ 255 - x8.toInt ∧ 0 ≤ x6.toInt ∧ x6.toInt ≤ 255 - x8.toInt ∧ J9 S_1 ∧ F_X9_spread S S_1 ∧ ((SR9 S ∧ CLN (fun j => b9g_keys S (64 + j)) (fun j => b9g_lengths S (64 + j)) (b9g_now S 9).toInt) → x5.toInt + CTP (fun c => (MAY (fun j => b9g_keys S (64 + j)) (fun j => b9g_lengths S (64 + j)) (b9g_now S 9).toInt (NBT (b9g_now S)) (b9g_now S 16) (HBT (b9g_now S)) (SPK (KEY a1 a2 a3) a3 c) (a3 + 1) 1)) (x8.toInt + 1).toNat = CTP (fun c => (MAY (fun j => b9g_keys S (64 + j)) (fun j => b9g_lengths S (64 + j)) (b9g_now S 9).toInt (NBT (b9g_now S)) (b9g_now S 16) (HBT (b9g_now S)) (SPK (KEY a1 a2 a3) a3 c) (a3 + 1) 1)) 256 ∧ x6.toInt + CTP (fun c => (VRD (fun j => b9g_keys S (64 + j)) (fun j => b9g_lengths S (64 + j)) (b9g_now S 9).toInt (NBT (b9g_now S)) (b9g_now S 16) (HBT (b9g_now S)) (SPK (KEY a1 a2 a3) a3 c) (a3 + 1) 2)) (x8.toInt + 1).toNat = CTP (fun c => (VRD (fun j => b9g_keys S (64 + j)) (fun j => b9g_lengths S (64 + j)) (b9g_now S 9).toInt (NBT (b9g_now S)) (b9g_now S 16) (HBT (b9g_now S)) (SPK (KEY a1 a2 a3) a3 c) (a3 + 1) 2)) 256 ∧ (((x7).toInt = -1 ∧ ∀ c : Nat, c < 256 → (x8).toInt < (c : Int) → ¬ (MAY (fun j => b9g_keys S (64 + j)) (fun j => b9g_lengths S (64 + j)) (b9g_now S 9).toInt (NBT (b9g_now S)) (b9g_now S 16) (HBT (b9g_now S)) (SPK (KEY a1 a2 a3) a3 c) (a3 + 1) 1)) ∨ ((x8).toInt < (x7).toInt ∧ 0 ≤ (x7).toInt ∧ (x7).toInt < 256 ∧ (∀ c : Nat, (c : Int) = (x7).toInt → (MAY (fun j => b9g_keys S (64 + j)) (fun j => b9g_lengths S (64 + j)) (b9g_now S 9).toInt (NBT (b9g_now S)) (b9g_now S 16) (HBT (b9g_now S)) (SPK (KEY a1 a2 a3) a3 c) (a3 + 1) 1)) ∧ ∀ c : Nat, (x8).toInt < (c : Int) → (c : Int) < (x7).toInt → ¬ (MAY (fun j => b9g_keys S (64 + j)) (fun j => b9g_lengths S (64 + j)) (b9g_now S 9).toInt (NBT (b9g_now S)) (b9g_now S 16) (HBT (b9g_now S)) (SPK (KEY a1 a2 a3) a3 c) (a3 + 1) 1)))) ∧ n2 = (x8.toInt + 1).toNat) := by
    intro y5 y6 y7 b1 b2 b3 b4 hh
    unfold wp_X9_spread_112
    rw [hy]
    refine ⟨_, ?_, rfl, rfl, rfl, rfl, by omega, by omega, b1, b2, b3, b4, hJ5, hF5, fun o => ?_, rfl⟩
    · omega
    · rw [s2]
      exact hh o
  have ls : (SR9 S ∧ CLN (fun j => b9g_keys S (64 + j)) (fun j => b9g_lengths S (64 + j)) (b9g_now S 9).toInt) → (MAY (fun j => b9g_keys S (64 + j)) (fun j => b9g_lengths S (64 + j)) (b9g_now S 9).toInt (NBT (b9g_now S)) (b9g_now S 16) (HBT (b9g_now S)) (SPK (KEY a1 a2 a3) a3 x8.toInt.toNat) (a3 + 1) 1) → (((x8).toInt = -1 ∧ ∀ c : Nat, c < 256 → (y8).toInt < (c : Int) → ¬ (MAY (fun j => b9g_keys S (64 + j)) (fun j => b9g_lengths S (64 + j)) (b9g_now S 9).toInt (NBT (b9g_now S)) (b9g_now S 16) (HBT (b9g_now S)) (SPK (KEY a1 a2 a3) a3 c) (a3 + 1) 1)) ∨ ((y8).toInt < (x8).toInt ∧ 0 ≤ (x8).toInt ∧ (x8).toInt < 256 ∧ (∀ c : Nat, (c : Int) = (x8).toInt → (MAY (fun j => b9g_keys S (64 + j)) (fun j => b9g_lengths S (64 + j)) (b9g_now S 9).toInt (NBT (b9g_now S)) (b9g_now S 16) (HBT (b9g_now S)) (SPK (KEY a1 a2 a3) a3 c) (a3 + 1) 1)) ∧ ∀ c : Nat, (y8).toInt < (c : Int) → (c : Int) < (x8).toInt → ¬ (MAY (fun j => b9g_keys S (64 + j)) (fun j => b9g_lengths S (64 + j)) (b9g_now S 9).toInt (NBT (b9g_now S)) (b9g_now S 16) (HBT (b9g_now S)) (SPK (KEY a1 a2 a3) a3 c) (a3 + 1) 1))) := fun o m => Or.inr ⟨by omega, h0', by omega, fun c hc => by rw [show c = x8.toInt.toNat by omega]; exact m, fun c u v => by omega⟩
  have ym : ¬ r4 = 0 → (SR9 S ∧ CLN (fun j => b9g_keys S (64 + j)) (fun j => b9g_lengths S (64 + j)) (b9g_now S 9).toInt) → (MAY (fun j => b9g_keys S (64 + j)) (fun j => b9g_lengths S (64 + j)) (b9g_now S 9).toInt (NBT (b9g_now S)) (b9g_now S 16) (HBT (b9g_now S)) (SPK (KEY a1 a2 a3) a3 x8.toInt.toNat) (a3 + 1) 1) := by
    intro z o
    obtain ⟨a, b, q⟩ := hM o.1 (by omega) (by omega)
    rcases q with ⟨e, q⟩ | ⟨e, _⟩
    · exact ⟨a, b, Or.inl ⟨rfl, q⟩⟩
    · exact absurd (Int32.toInt_inj.mp (e.trans pl_0.symm)) z
  refine ⟨fun z => sf_X9_isOfFilter hJ5.1 (fun r6 z6 h6 => ?_), fun z => step x5 x6 x7 (by omega) (by omega) (by omega) (by omega) (fun o => ?_)⟩
  · unfold SR9 at h6
    rw [k5, l5, n5] at h6
    refine ⟨fun y => step (x5 + 1) x6 x8 (by omega) (by omega) (by omega) (by omega) (fun o => ?_), fun y => step (x5 + 1) (x6 + 1) x8 (by omega) (by omega) (by omega) (by omega) (fun o => ?_)⟩
    · obtain ⟨i1, i2, i3⟩ := hI o
      have m := ym z o
      have nv : ¬ (VRD (fun j => b9g_keys S (64 + j)) (fun j => b9g_lengths S (64 + j)) (b9g_now S 9).toInt (NBT (b9g_now S)) (b9g_now S 16) (HBT (b9g_now S)) (SPK (KEY a1 a2 a3) a3 x8.toInt.toNat) (a3 + 1) 2) := by
        intro hV
        rcases hV with ⟨e, _⟩ | ⟨e, _⟩ | ⟨_, _, e⟩
        · omega
        · omega
        · obtain ⟨j, hj, he⟩ := bl_y (h6 o.1) y
          exact e j hj he
      rw [CTP_y (P := fun c => (MAY (fun j => b9g_keys S (64 + j)) (fun j => b9g_lengths S (64 + j)) (b9g_now S 9).toInt (NBT (b9g_now S)) (b9g_now S 16) (HBT (b9g_now S)) (SPK (KEY a1 a2 a3) a3 c) (a3 + 1) 1)) m] at i1
      rw [CTP_n (P := fun c => (VRD (fun j => b9g_keys S (64 + j)) (fun j => b9g_lengths S (64 + j)) (b9g_now S 9).toInt (NBT (b9g_now S)) (b9g_now S 16) (HBT (b9g_now S)) (SPK (KEY a1 a2 a3) a3 c) (a3 + 1) 2)) nv] at i2
      exact ⟨by omega, i2, ls o m⟩
    · obtain ⟨i1, i2, i3⟩ := hI o
      have m := ym z o
      have v : (VRD (fun j => b9g_keys S (64 + j)) (fun j => b9g_lengths S (64 + j)) (b9g_now S 9).toInt (NBT (b9g_now S)) (b9g_now S 16) (HBT (b9g_now S)) (SPK (KEY a1 a2 a3) a3 x8.toInt.toNat) (a3 + 1) 2) := Or.inr (Or.inr ⟨rfl, m, fun j hj he => bl_n (h6 o.1) y ⟨j, hj, he⟩⟩)
      rw [CTP_y (P := fun c => (MAY (fun j => b9g_keys S (64 + j)) (fun j => b9g_lengths S (64 + j)) (b9g_now S 9).toInt (NBT (b9g_now S)) (b9g_now S 16) (HBT (b9g_now S)) (SPK (KEY a1 a2 a3) a3 c) (a3 + 1) 1)) m] at i1
      rw [CTP_y (P := fun c => (VRD (fun j => b9g_keys S (64 + j)) (fun j => b9g_lengths S (64 + j)) (b9g_now S 9).toInt (NBT (b9g_now S)) (b9g_now S 16) (HBT (b9g_now S)) (SPK (KEY a1 a2 a3) a3 c) (a3 + 1) 2)) v] at i2
      exact ⟨by omega, by omega, ls o m⟩
  · obtain ⟨i1, i2, i3⟩ := hI o
    have nm : ¬ (MAY (fun j => b9g_keys S (64 + j)) (fun j => b9g_lengths S (64 + j)) (b9g_now S 9).toInt (NBT (b9g_now S)) (b9g_now S 16) (HBT (b9g_now S)) (SPK (KEY a1 a2 a3) a3 x8.toInt.toNat) (a3 + 1) 1) := by
      intro h
      have q := MAY_one o.1 o.2 nb.1 nb.2 (hM o.1 (by omega) (by omega)) h
      rw [z, pl_0] at q
      omega
    have nv : ¬ (VRD (fun j => b9g_keys S (64 + j)) (fun j => b9g_lengths S (64 + j)) (b9g_now S 9).toInt (NBT (b9g_now S)) (b9g_now S 16) (HBT (b9g_now S)) (SPK (KEY a1 a2 a3) a3 x8.toInt.toNat) (a3 + 1) 2) := by
      intro hV
      rcases hV with ⟨e, _⟩ | ⟨e, _⟩ | ⟨_, m, _⟩
      · omega
      · omega
      · exact nm m
    rw [CTP_n (P := fun c => (MAY (fun j => b9g_keys S (64 + j)) (fun j => b9g_lengths S (64 + j)) (b9g_now S 9).toInt (NBT (b9g_now S)) (b9g_now S 16) (HBT (b9g_now S)) (SPK (KEY a1 a2 a3) a3 c) (a3 + 1) 1)) nm] at i1
    rw [CTP_n (P := fun c => (VRD (fun j => b9g_keys S (64 + j)) (fun j => b9g_lengths S (64 + j)) (b9g_now S 9).toInt (NBT (b9g_now S)) (b9g_now S 16) (HBT (b9g_now S)) (SPK (KEY a1 a2 a3) a3 c) (a3 + 1) 2)) nv] at i2
    refine ⟨i1, i2, ?_⟩
    have at8 : ∀ c : Nat, y8.toInt < (c : Int) → ¬ x8.toInt < (c : Int) → ¬ (MAY (fun j => b9g_keys S (64 + j)) (fun j => b9g_lengths S (64 + j)) (b9g_now S 9).toInt (NBT (b9g_now S)) (b9g_now S 16) (HBT (b9g_now S)) (SPK (KEY a1 a2 a3) a3 c) (a3 + 1) 1) := by
      intro c u v
      rw [show c = x8.toInt.toNat by omega]
      exact nm
    rcases i3 with ⟨u, v⟩ | ⟨u0, u, v, w, y⟩
    · refine Or.inl ⟨u, fun c hc h => ?_⟩
      by_cases k : x8.toInt < (c : Int)
      · exact v c hc k
      · exact at8 c h k
    · refine Or.inr ⟨by omega, u, v, w, fun c h hc => ?_⟩
      by_cases k : x8.toInt < (c : Int)
      · exact y c k hc
      · exact at8 c h k
def F_X9_question (S u : bT9) : Prop := (b9g_drawn u) = (b9g_drawn S) ∧ (b9g_drawnLength u) = (b9g_drawnLength S) ∧ (b9g_tape u) = (b9g_tape S) ∧ (b9g_taped u) = (b9g_taped S) ∧ (b9g_names u) = (b9g_names S) ∧ (b9g_chosen u) = (b9g_chosen S) ∧ (b9g_common u) = (b9g_common S) ∧ (b9g_beginning u) = (b9g_beginning S) ∧ (b9g_isLaid u) = (b9g_isLaid S) ∧ (b9g_nodeLevel u) = (b9g_nodeLevel S) ∧ (b9g_nodeLeaf u) = (b9g_nodeLeaf S) ∧ (b9g_nodeLeaves u) = (b9g_nodeLeaves S) ∧ (b9g_nodeMany u) = (b9g_nodeMany S) ∧ (b9g_levelMany u) = (b9g_levelMany S) ∧ (b9g_upper u) = (b9g_upper S) ∧ (b9g_upperNodes u) = (b9g_upperNodes S) ∧ (b9g_areNodesLaid u) = (b9g_areNodesLaid S) ∧ (b9g_itemNode u) = (b9g_itemNode S) ∧ (b9g_itemByte u) = (b9g_itemByte S) ∧ (b9g_itemChild u) = (b9g_itemChild S) ∧ (b9g_itemMany u) = (b9g_itemMany S) ∧ (b9g_placeOf u) = (b9g_placeOf S) ∧ (b9g_leafOfPlace u) = (b9g_leafOfPlace S) ∧ (b9g_places u) = (b9g_places S) ∧ (b9g_lowKey u) = (b9g_lowKey S) ∧ (b9g_highKey u) = (b9g_highKey S) ∧ (b9g_lowLength u) = (b9g_lowLength S) ∧ (b9g_highLength u) = (b9g_highLength S) ∧ (b9g_fromKey u) = (b9g_fromKey S) ∧ (b9g_toKey u) = (b9g_toKey S) ∧ (b9g_fromLength u) = (b9g_fromLength S) ∧ (b9g_toLength u) = (b9g_toLength S) ∧ (b9g_ones u) = (b9g_ones S) ∧ (b9g_oneMany u) = (b9g_oneMany S) ∧ (b9g_rowLong u) = (b9g_rowLong S) ∧ (b9g_laidFor u) = (b9g_laidFor S) ∧ (b9g_signs u) = (b9g_signs S) ∧ (b9g_signMany u) = (b9g_signMany S) ∧ (b9g_hasImage u) = (b9g_hasImage S) ∧ (b9g_images u) = (b9g_images S) ∧ (b9g_keyImages u) = (b9g_keyImages S) ∧ (b9g_lengthImages u) = (b9g_lengthImages S)
theorem sf_X9_question {S : bT9} (hJ : J9 S) {a1 : Int32} {a2 : Int32} {a3 : Int32} {Q : Int32 → (bT9) → Prop} (hq : ∀ (r : Int32) (u : bT9), (J9 u) → F_X9_question S u → ((r.toInt = -1 ∧ (b9g_now u 10).toInt = (b9g_now S 10).toInt ∧ (a3.toInt < 1 ∨ 8 < a3.toInt ∨ 16 ≤ (b9g_now S 10).toInt)) ∨ (1 ≤ a3.toInt ∧ a3.toInt ≤ 8 ∧ (b9g_now S 10).toInt < 16 ∧ r.toInt = (b9g_now S 10).toInt + 1 ∧ (b9g_now u 10).toInt = (b9g_now S 10).toInt + 1)) → (∀ j : Nat, j < 128 → b9g_keys u j = b9g_keys S j ∧ b9g_lengths u j = b9g_lengths S j) → (∀ i : Nat, i ≠ 10 → b9g_now u i = b9g_now S i) → ((1 ≤ a3.toInt ∧ a3.toInt ≤ 8 ∧ (b9g_now S 10).toInt < 16) → (∀ j : Nat, (j : Int) < (b9g_now S 10).toInt → b9g_keys u (128 + j) = b9g_keys S (128 + j) ∧ b9g_lengths u (128 + j) = b9g_lengths S (128 + j)) ∧ ∀ j : Nat, (j : Int) = (b9g_now S 10).toInt → b9g_keys u (128 + j) = KEY a1 a2 a3 ∧ b9g_lengths u (128 + j) = a3) → (¬ (1 ≤ a3.toInt ∧ a3.toInt ≤ 8 ∧ (b9g_now S 10).toInt < 16) → b9g_keys u = b9g_keys S ∧ b9g_lengths u = b9g_lengths S) → (b9g_now u 7 = b9g_now S 7) → Q r u) : wp_X9_question S a1 a2 a3 Q := by
  have jn := (J9g_now hJ).2.2.2.2.1
  have c10 : ((10 : Int32)).toNatClampNeg = 10 := by decide
  have v10 : vp_in (10 : Int32) 23 := pt_in (by decide) (by decide)
  unfold wp_X9_question
  intro S1 e1
  have hJ1 : J9 S1 := by rw [e1]; exact J9s_told hJ
  have hF1 : F_X9_question S S1 := by rw [e1]; exact ⟨rfl, rfl, rfl, rfl, rfl, rfl, rfl, rfl, rfl, rfl, rfl, rfl, rfl, rfl, rfl, rfl, rfl, rfl, rfl, rfl, rfl, rfl, rfl, rfl, rfl, rfl, rfl, rfl, rfl, rfl, rfl, rfl, rfl, rfl, rfl, rfl, rfl, rfl, rfl, rfl, rfl, rfl⟩
  have ek : b9g_keys S1 = b9g_keys S := by rw [e1]
  have el : b9g_lengths S1 = b9g_lengths S := by rw [e1]
  have en : b9g_now S1 = b9g_now S := by rw [e1]
  have bad : (a3.toInt < 1 ∨ 8 < a3.toInt ∨ 16 ≤ (b9g_now S 10).toInt) → Q (-1) S1 := fun h => hq _ _ hJ1 hF1 (Or.inl ⟨rfl, by rw [en], h⟩) (fun j hj => ⟨by rw [ek], by rw [el]⟩) (fun i hi => by rw [en]) (fun z => by exfalso; omega) (fun _ => ⟨ek, el⟩) (by rw [en])
  rw [c10, en]
  refine sf_X9_isKey hJ1.1 (fun r2 hz h2 => ⟨fun c => bad ?_, fun c => ⟨v10, fun d => ⟨v10, ?_⟩, fun d => bad ?_⟩⟩)
  · simp only [pn] at c
    omega
  rotate_left
  · simp only [pn] at d
    omega
  simp only [pn] at c d
  refine sf_X9_keyOf hJ1.1 (fun r4 h4 => ?_)
  have eb : ((128 : Int32) + b9g_now S 10).toInt = 128 + (b9g_now S 10).toInt := by
    have : (128 : Int32).toInt = 128 := rfl
    rw [pt_add (by omega) (by omega)]
    omega
  have cb := pt_clamp (i := (128 : Int32) + b9g_now S 10) (by omega)
  have vb : vp_in ((128 : Int32) + b9g_now S 10) 144 := pt_in (by omega) (by omega)
  refine ⟨vb, fun S6 e6 => ?_⟩
  have n6 : b9g_now S6 = b9g_now S := by rw [e6]; exact en
  have hJ6 : J9 S6 := by rw [e6]; exact J9s_keys hJ1 (fun j hj => upL_n (by omega))
  rw [n6]
  refine ⟨v10, vb, fun S7 e7 => ?_⟩
  have n7 : b9g_now S7 = b9g_now S := by rw [e7]; exact n6
  have hJ7 : J9 S7 := by rw [e7]; exact J9s_lengths hJ6 (pt_updr (J9g_lengths hJ6) ⟨by omega, by omega⟩) (fun j hj => up_n (by omega))
  rw [n7]
  refine ⟨v10, v10, fun S8 e8 => ⟨v10, ?_⟩⟩
  have ea : (b9g_now S 10 + 1).toInt = (b9g_now S 10).toInt + 1 := by rw [pt_add (by rw [pl_1]; omega) (by rw [pl_1]; omega), pl_1]
  have n8 : b9g_now S8 = upd (b9g_now S) 10 (b9g_now S 10 + 1) := by rw [e8]
  have n810 : (b9g_now S8 10).toInt = (b9g_now S 10).toInt + 1 := by
    rw [n8]
    unfold upd
    rw [if_pos rfl]
    exact ea
  have o8 : ∀ i : Nat, i ≠ 10 → b9g_now S8 i = b9g_now S i := fun i hi => by rw [n8]; unfold upd; rw [if_neg hi]
  have hJ8 : J9 S8 := by
    rw [e8, ← c10]
    refine J9s_now hJ7 (NW_set (J9g_now hJ) (fun e => absurd e (by decide)) (fun e => absurd e (by decide)) (fun e => absurd e (by decide)) (fun e => absurd e (by decide)) (fun _ => ⟨?_, ?_⟩) (fun e => absurd e (by decide))) (by rw [n7]; exact up_n (by decide))
    · rw [c10, ea]; omega
    · rw [c10, ea]; omega
  have k8 : b9g_keys S8 = vp_updL (b9g_keys S) ((128 : Int32) + b9g_now S 10).toNatClampNeg r4 := by rw [e8, e7, e6, ek]
  have l8 : b9g_lengths S8 = upd (b9g_lengths S) ((128 : Int32) + b9g_now S 10).toNatClampNeg a3 := by
    have : b9g_lengths S8 = upd (b9g_lengths S1) ((128 : Int32) + b9g_now S 10).toNatClampNeg a3 := by rw [e8, e7, e6]
    rw [this, el]
  refine hq _ _ hJ8 (by rw [e8, e7, e6]; exact hF1) (Or.inr ⟨by omega, by omega, by omega, n810, n810⟩) (fun j hj => ?_) o8 (fun _ => ⟨fun j hj => by rw [k8, l8]; exact ⟨upL_n (by omega), up_n (by omega)⟩, fun j hj => by rw [k8, l8, show 128 + j = ((128 : Int32) + b9g_now S 10).toNatClampNeg by omega]; exact ⟨upL_s.trans h4, up_s⟩⟩) (fun z => absurd ⟨by omega, by omega, by omega⟩ z) (o8 7 (by decide))
  rw [k8, l8]
  unfold vp_updL upd
  rw [if_neg (by omega), if_neg (by omega)]
  exact ⟨rfl, rfl⟩
def F_X9_forget (S u : bT9) : Prop := (b9g_keys u) = (b9g_keys S) ∧ (b9g_lengths u) = (b9g_lengths S) ∧ (b9g_drawn u) = (b9g_drawn S) ∧ (b9g_drawnLength u) = (b9g_drawnLength S) ∧ (b9g_tape u) = (b9g_tape S) ∧ (b9g_taped u) = (b9g_taped S) ∧ (b9g_names u) = (b9g_names S) ∧ (b9g_chosen u) = (b9g_chosen S) ∧ (b9g_common u) = (b9g_common S) ∧ (b9g_beginning u) = (b9g_beginning S) ∧ (b9g_isLaid u) = (b9g_isLaid S) ∧ (b9g_nodeLevel u) = (b9g_nodeLevel S) ∧ (b9g_nodeLeaf u) = (b9g_nodeLeaf S) ∧ (b9g_nodeLeaves u) = (b9g_nodeLeaves S) ∧ (b9g_nodeMany u) = (b9g_nodeMany S) ∧ (b9g_levelMany u) = (b9g_levelMany S) ∧ (b9g_upper u) = (b9g_upper S) ∧ (b9g_upperNodes u) = (b9g_upperNodes S) ∧ (b9g_areNodesLaid u) = (b9g_areNodesLaid S) ∧ (b9g_itemNode u) = (b9g_itemNode S) ∧ (b9g_itemByte u) = (b9g_itemByte S) ∧ (b9g_itemChild u) = (b9g_itemChild S) ∧ (b9g_itemMany u) = (b9g_itemMany S) ∧ (b9g_placeOf u) = (b9g_placeOf S) ∧ (b9g_leafOfPlace u) = (b9g_leafOfPlace S) ∧ (b9g_places u) = (b9g_places S) ∧ (b9g_lowKey u) = (b9g_lowKey S) ∧ (b9g_highKey u) = (b9g_highKey S) ∧ (b9g_lowLength u) = (b9g_lowLength S) ∧ (b9g_highLength u) = (b9g_highLength S) ∧ (b9g_fromKey u) = (b9g_fromKey S) ∧ (b9g_toKey u) = (b9g_toKey S) ∧ (b9g_fromLength u) = (b9g_fromLength S) ∧ (b9g_toLength u) = (b9g_toLength S) ∧ (b9g_ones u) = (b9g_ones S) ∧ (b9g_oneMany u) = (b9g_oneMany S) ∧ (b9g_rowLong u) = (b9g_rowLong S) ∧ (b9g_laidFor u) = (b9g_laidFor S) ∧ (b9g_signs u) = (b9g_signs S) ∧ (b9g_signMany u) = (b9g_signMany S) ∧ (b9g_hasImage u) = (b9g_hasImage S) ∧ (b9g_images u) = (b9g_images S) ∧ (b9g_keyImages u) = (b9g_keyImages S) ∧ (b9g_lengthImages u) = (b9g_lengthImages S)
theorem sf_X9_forget {S : bT9} (hJ : J9 S) {Q : Int32 → (bT9) → Prop} (hq : ∀ (r : Int32) (u : bT9), (J9 u) → F_X9_forget S u → (r.toInt = (b9g_now S 10).toInt) → ((b9g_now u 10).toInt = 0) → (∀ i : Nat, i ≠ 10 → b9g_now u i = b9g_now S i) → (b9g_now u 7 = b9g_now S 7) → (b9g_now u 4 = b9g_now S 4) → (b9g_now u 8 = b9g_now S 8) → Q r u) : wp_X9_forget S Q := by
  unfold wp_X9_forget
  intro S1 e1
  refine ⟨pt_in (by decide) (by decide), pt_in (by decide) (by decide), fun S2 e2 => ?_⟩
  have n1 : b9g_now S1 = b9g_now S := by rw [e1]
  have hJ1 : J9 S1 := by rw [e1]; exact J9s_told hJ
  have n2 : b9g_now S2 = upd (b9g_now S) 10 0 := by rw [e2, n1]; rfl
  have oth : ∀ i : Nat, i ≠ 10 → b9g_now S2 i = b9g_now S i := fun i hi => by rw [n2]; exact up_n hi
  refine hq _ _ ?_ (by rw [e2, e1]; exact ⟨rfl, rfl, rfl, rfl, rfl, rfl, rfl, rfl, rfl, rfl, rfl, rfl, rfl, rfl, rfl, rfl, rfl, rfl, rfl, rfl, rfl, rfl, rfl, rfl, rfl, rfl, rfl, rfl, rfl, rfl, rfl, rfl, rfl, rfl, rfl, rfl, rfl, rfl, rfl, rfl, rfl, rfl, rfl, rfl⟩) (by rw [n1]; rfl) (by rw [n2, up_s]; rfl) oth (oth 7 (by decide)) (oth 4 (by decide)) (oth 8 (by decide))
  rw [e2]
  exact J9s_now hJ1 (NW_set (J9g_now hJ1) (fun e => absurd e (by decide)) (fun e => absurd e (by decide)) (fun e => absurd e (by decide)) (fun e => absurd e (by decide)) (fun _ => ⟨by decide, by decide⟩) (fun e => absurd e (by decide))) (up_n (by decide))
def F_X9_wrongBy (S u : bT9) : Prop := (b9g_told u) = (b9g_told S) ∧ (b9g_now u) = (b9g_now S) ∧ (b9g_keys u) = (b9g_keys S) ∧ (b9g_lengths u) = (b9g_lengths S) ∧ (b9g_drawn u) = (b9g_drawn S) ∧ (b9g_drawnLength u) = (b9g_drawnLength S) ∧ (b9g_tape u) = (b9g_tape S) ∧ (b9g_taped u) = (b9g_taped S) ∧ (b9g_names u) = (b9g_names S) ∧ (b9g_chosen u) = (b9g_chosen S) ∧ (b9g_nodeLevel u) = (b9g_nodeLevel S) ∧ (b9g_nodeLeaf u) = (b9g_nodeLeaf S) ∧ (b9g_nodeLeaves u) = (b9g_nodeLeaves S) ∧ (b9g_nodeMany u) = (b9g_nodeMany S) ∧ (b9g_levelMany u) = (b9g_levelMany S) ∧ (b9g_upper u) = (b9g_upper S) ∧ (b9g_upperNodes u) = (b9g_upperNodes S) ∧ (b9g_areNodesLaid u) = (b9g_areNodesLaid S) ∧ (b9g_itemNode u) = (b9g_itemNode S) ∧ (b9g_itemByte u) = (b9g_itemByte S) ∧ (b9g_itemChild u) = (b9g_itemChild S) ∧ (b9g_itemMany u) = (b9g_itemMany S) ∧ (b9g_placeOf u) = (b9g_placeOf S) ∧ (b9g_leafOfPlace u) = (b9g_leafOfPlace S) ∧ (b9g_places u) = (b9g_places S) ∧ (b9g_fromKey u) = (b9g_fromKey S) ∧ (b9g_toKey u) = (b9g_toKey S) ∧ (b9g_fromLength u) = (b9g_fromLength S) ∧ (b9g_toLength u) = (b9g_toLength S) ∧ (b9g_ones u) = (b9g_ones S) ∧ (b9g_oneMany u) = (b9g_oneMany S) ∧ (b9g_rowLong u) = (b9g_rowLong S) ∧ (b9g_laidFor u) = (b9g_laidFor S) ∧ (b9g_signs u) = (b9g_signs S) ∧ (b9g_signMany u) = (b9g_signMany S) ∧ (b9g_hasImage u) = (b9g_hasImage S) ∧ (b9g_images u) = (b9g_images S) ∧ (b9g_keyImages u) = (b9g_keyImages S) ∧ (b9g_lengthImages u) = (b9g_lengthImages S)
theorem sf_X9_wrongBy {S : bT9} (hJ : J9 S) {a1 : Int32} {a2 : Int32} {Q : Int32 → (bT9) → Prop} (hq : ∀ (r : Int32) (u : bT9), (J9 u) → F_X9_wrongBy S u → ((SR9 S ∧ CLN (fun j => b9g_keys S (64 + j)) (fun j => b9g_lengths S (64 + j)) (b9g_now S 9).toInt ∧ QO9 S) → (0 ≤ a1.toInt ∧ a1.toInt ≤ 8) → (0 ≤ a2.toInt ∧ a2.toInt ≤ 8) → r.toInt = CTP (fun i => FBQ (fun j => b9g_keys S (64 + j)) (fun j => b9g_lengths S (64 + j)) (b9g_now S 9).toInt (b9g_now S 16) a1 a2 (b9g_keys S (128 + i)) (b9g_lengths S (128 + i))) (b9g_now S 10).toInt.toNat) → Q r u) : wp_X9_wrongBy S a1 a2 Q := by
  have jn := (J9g_now hJ).2.2.2.2.1
  have c10 : ((10 : Int32)).toNatClampNeg = 10 := by decide
  have v10 : vp_in (10 : Int32) 23 := pt_in (by decide) (by decide)
  unfold wp_X9_wrongBy wp_X9_wrongBy_5
  refine ⟨fun n x1 x2 x3 x4 V => ∃ i : Nat, a1 = x1 ∧ a2 = x2 ∧ x4.toInt = (i : Int) ∧ (i : Int) ≤ (b9g_now S 10).toInt ∧ 0 ≤ x3.toInt ∧ x3.toInt ≤ (i : Int) ∧ J9 V ∧ F_X9_wrongBy S V ∧ (((SR9 S ∧ CLN (fun j => b9g_keys S (64 + j)) (fun j => b9g_lengths S (64 + j)) (b9g_now S 9).toInt ∧ QO9 S) ∧ (0 ≤ a1.toInt ∧ a1.toInt ≤ 8) ∧ (0 ≤ a2.toInt ∧ a2.toInt ≤ 8)) → x3.toInt = CTP (fun i => FBQ (fun j => b9g_keys S (64 + j)) (fun j => b9g_lengths S (64 + j)) (b9g_now S 9).toInt (b9g_now S 16) a1 a2 (b9g_keys S (128 + i)) (b9g_lengths S (128 + i))) i) ∧ n = 20 - i, ⟨_, 0, rfl, rfl, rfl, jn.1, by decide, by decide, hJ, ⟨rfl, rfl, rfl, rfl, rfl, rfl, rfl, rfl, rfl, rfl, rfl, rfl, rfl, rfl, rfl, rfl, rfl, rfl, rfl, rfl, rfl, rfl, rfl, rfl, rfl, rfl, rfl, rfl, rfl, rfl, rfl, rfl, rfl, rfl, rfl, rfl, rfl, rfl, rfl⟩, fun _ => rfl, rfl⟩, ?_⟩
  rintro n x1 x2 x3 x4 V ⟨i, rfl, rfl, e4, im, v0, vi, jV, fV, hv, hn⟩
  suffices H : ∀ B : Int32 → Int32 → Int32 → Int32 → bT9 → Prop, (∀ (v : Int32) (W : bT9), (i : Int) < (b9g_now S 10).toInt → 0 ≤ v.toInt → v.toInt ≤ (i : Int) + 1 → J9 W → F_X9_wrongBy S W → (((SR9 S ∧ CLN (fun j => b9g_keys S (64 + j)) (fun j => b9g_lengths S (64 + j)) (b9g_now S 9).toInt ∧ QO9 S) ∧ (0 ≤ a1.toInt ∧ a1.toInt ≤ 8) ∧ (0 ≤ a2.toInt ∧ a2.toInt ≤ 8)) → v.toInt = CTP (fun i => FBQ (fun j => b9g_keys S (64 + j)) (fun j => b9g_lengths S (64 + j)) (b9g_now S 9).toInt (b9g_now S 16) a1 a2 (b9g_keys S (128 + i)) (b9g_lengths S (128 + i))) (i + 1)) → B a1 a2 v (x4 + 1) W) → wp_X9_wrongBy_5b V a1 a2 x3 x4 Q B from H _ (fun v W h1 h2 h3 h4 h5 h6 => ⟨20 - (i + 1), by omega, i + 1, rfl, rfl, by rw [pt_add (by rw [pl_1]; omega) (by rw [pl_1]; omega), pl_1, e4]; omega, by omega, h2, by omega, h4, h5, h6, rfl⟩)
  intro B hB
  have nV : b9g_now V = b9g_now S := fV.2.1
  have kV : b9g_keys V = b9g_keys S := fV.2.2.1
  have lV : b9g_lengths V = b9g_lengths S := fV.2.2.2.1
  have x3' : (x3 + 1).toInt = x3.toInt + 1 := by rw [pt_add (by rw [pl_1]; omega) (by rw [pl_1]; omega), pl_1]
  have e128 : ((128 : Int32) + x4).toInt = 128 + (i : Int) := by rw [pt_add (by show _ ≤ 128 + _; omega) (by show 128 + _ < _; omega), e4]; rfl
  have c128 : ((128 : Int32) + x4).toNatClampNeg = 128 + i := by
    show ((128 : Int32) + x4).toInt.toNat = 128 + i
    omega
  unfold wp_X9_wrongBy_5b
  rw [c10, nV, kV, lV, c128]
  refine ⟨v10, fun c => hq x3 V jV fV (fun o1 o2 o3 => ?_), fun c => ?_⟩
  · simp only [pn] at c
    rw [hv ⟨o1, o2, o3⟩, show (b9g_now S 10).toInt.toNat = i by omega]
  simp only [pn] at c
  have ilt : (i : Int) < (b9g_now S 10).toInt := by omega
  have lr := K9g_lengths hJ.1 (128 + i)
  refine ⟨pt_in (by omega) (by omega), pt_in (by omega) (by omega), sf_X9_mayBe jV (fun r1 u2 j2 f2 z2 h2 => ?_)⟩
  have f2' : F_X9_wrongBy S u2 := ⟨(f2.1).trans (fV.1), (f2.2.1).trans (fV.2.1), (f2.2.2.1).trans (fV.2.2.1), (f2.2.2.2.1).trans (fV.2.2.2.1), (f2.2.2.2.2.1).trans (fV.2.2.2.2.1), (f2.2.2.2.2.2.1).trans (fV.2.2.2.2.2.1), (f2.2.2.2.2.2.2.1).trans (fV.2.2.2.2.2.2.1), (f2.2.2.2.2.2.2.2.1).trans (fV.2.2.2.2.2.2.2.1), (f2.2.2.2.2.2.2.2.2.1).trans (fV.2.2.2.2.2.2.2.2.1), (f2.2.2.2.2.2.2.2.2.2.1).trans (fV.2.2.2.2.2.2.2.2.2.1), (f2.2.2.2.2.2.2.2.2.2.2.1).trans (fV.2.2.2.2.2.2.2.2.2.2.1), (f2.2.2.2.2.2.2.2.2.2.2.2.1).trans (fV.2.2.2.2.2.2.2.2.2.2.2.1), (f2.2.2.2.2.2.2.2.2.2.2.2.2.1).trans (fV.2.2.2.2.2.2.2.2.2.2.2.2.1), (f2.2.2.2.2.2.2.2.2.2.2.2.2.2.1).trans (fV.2.2.2.2.2.2.2.2.2.2.2.2.2.1), (f2.2.2.2.2.2.2.2.2.2.2.2.2.2.2.1).trans (fV.2.2.2.2.2.2.2.2.2.2.2.2.2.2.1), (f2.2.2.2.2.2.2.2.2.2.2.2.2.2.2.2.1).trans (fV.2.2.2.2.2.2.2.2.2.2.2.2.2.2.2.1), (f2.2.2.2.2.2.2.2.2.2.2.2.2.2.2.2.2.1).trans (fV.2.2.2.2.2.2.2.2.2.2.2.2.2.2.2.2.1), (f2.2.2.2.2.2.2.2.2.2.2.2.2.2.2.2.2.2.1).trans (fV.2.2.2.2.2.2.2.2.2.2.2.2.2.2.2.2.2.1), (f2.2.2.2.2.2.2.2.2.2.2.2.2.2.2.2.2.2.2.1).trans (fV.2.2.2.2.2.2.2.2.2.2.2.2.2.2.2.2.2.2.1), (f2.2.2.2.2.2.2.2.2.2.2.2.2.2.2.2.2.2.2.2.1).trans (fV.2.2.2.2.2.2.2.2.2.2.2.2.2.2.2.2.2.2.2.1), (f2.2.2.2.2.2.2.2.2.2.2.2.2.2.2.2.2.2.2.2.2.1).trans (fV.2.2.2.2.2.2.2.2.2.2.2.2.2.2.2.2.2.2.2.2.1), (f2.2.2.2.2.2.2.2.2.2.2.2.2.2.2.2.2.2.2.2.2.2.1).trans (fV.2.2.2.2.2.2.2.2.2.2.2.2.2.2.2.2.2.2.2.2.2.1), (f2.2.2.2.2.2.2.2.2.2.2.2.2.2.2.2.2.2.2.2.2.2.2.1).trans (fV.2.2.2.2.2.2.2.2.2.2.2.2.2.2.2.2.2.2.2.2.2.2.1), (f2.2.2.2.2.2.2.2.2.2.2.2.2.2.2.2.2.2.2.2.2.2.2.2.1).trans (fV.2.2.2.2.2.2.2.2.2.2.2.2.2.2.2.2.2.2.2.2.2.2.2.1), (f2.2.2.2.2.2.2.2.2.2.2.2.2.2.2.2.2.2.2.2.2.2.2.2.2.1).trans (fV.2.2.2.2.2.2.2.2.2.2.2.2.2.2.2.2.2.2.2.2.2.2.2.2.1), (f2.2.2.2.2.2.2.2.2.2.2.2.2.2.2.2.2.2.2.2.2.2.2.2.2.2.1).trans (fV.2.2.2.2.2.2.2.2.2.2.2.2.2.2.2.2.2.2.2.2.2.2.2.2.2.1), (f2.2.2.2.2.2.2.2.2.2.2.2.2.2.2.2.2.2.2.2.2.2.2.2.2.2.2.1).trans (fV.2.2.2.2.2.2.2.2.2.2.2.2.2.2.2.2.2.2.2.2.2.2.2.2.2.2.1), (f2.2.2.2.2.2.2.2.2.2.2.2.2.2.2.2.2.2.2.2.2.2.2.2.2.2.2.2.1).trans (fV.2.2.2.2.2.2.2.2.2.2.2.2.2.2.2.2.2.2.2.2.2.2.2.2.2.2.2.1), (f2.2.2.2.2.2.2.2.2.2.2.2.2.2.2.2.2.2.2.2.2.2.2.2.2.2.2.2.2.1).trans (fV.2.2.2.2.2.2.2.2.2.2.2.2.2.2.2.2.2.2.2.2.2.2.2.2.2.2.2.2.1), (f2.2.2.2.2.2.2.2.2.2.2.2.2.2.2.2.2.2.2.2.2.2.2.2.2.2.2.2.2.2.1).trans (fV.2.2.2.2.2.2.2.2.2.2.2.2.2.2.2.2.2.2.2.2.2.2.2.2.2.2.2.2.2.1), (f2.2.2.2.2.2.2.2.2.2.2.2.2.2.2.2.2.2.2.2.2.2.2.2.2.2.2.2.2.2.2.1).trans (fV.2.2.2.2.2.2.2.2.2.2.2.2.2.2.2.2.2.2.2.2.2.2.2.2.2.2.2.2.2.2.1), (f2.2.2.2.2.2.2.2.2.2.2.2.2.2.2.2.2.2.2.2.2.2.2.2.2.2.2.2.2.2.2.2.1).trans (fV.2.2.2.2.2.2.2.2.2.2.2.2.2.2.2.2.2.2.2.2.2.2.2.2.2.2.2.2.2.2.2.1), (f2.2.2.2.2.2.2.2.2.2.2.2.2.2.2.2.2.2.2.2.2.2.2.2.2.2.2.2.2.2.2.2.2.1).trans (fV.2.2.2.2.2.2.2.2.2.2.2.2.2.2.2.2.2.2.2.2.2.2.2.2.2.2.2.2.2.2.2.2.1), (f2.2.2.2.2.2.2.2.2.2.2.2.2.2.2.2.2.2.2.2.2.2.2.2.2.2.2.2.2.2.2.2.2.2.1).trans (fV.2.2.2.2.2.2.2.2.2.2.2.2.2.2.2.2.2.2.2.2.2.2.2.2.2.2.2.2.2.2.2.2.2.1), (f2.2.2.2.2.2.2.2.2.2.2.2.2.2.2.2.2.2.2.2.2.2.2.2.2.2.2.2.2.2.2.2.2.2.2.1).trans (fV.2.2.2.2.2.2.2.2.2.2.2.2.2.2.2.2.2.2.2.2.2.2.2.2.2.2.2.2.2.2.2.2.2.2.1), (f2.2.2.2.2.2.2.2.2.2.2.2.2.2.2.2.2.2.2.2.2.2.2.2.2.2.2.2.2.2.2.2.2.2.2.2.1).trans (fV.2.2.2.2.2.2.2.2.2.2.2.2.2.2.2.2.2.2.2.2.2.2.2.2.2.2.2.2.2.2.2.2.2.2.2.1), (f2.2.2.2.2.2.2.2.2.2.2.2.2.2.2.2.2.2.2.2.2.2.2.2.2.2.2.2.2.2.2.2.2.2.2.2.2.1).trans (fV.2.2.2.2.2.2.2.2.2.2.2.2.2.2.2.2.2.2.2.2.2.2.2.2.2.2.2.2.2.2.2.2.2.2.2.2.1), (f2.2.2.2.2.2.2.2.2.2.2.2.2.2.2.2.2.2.2.2.2.2.2.2.2.2.2.2.2.2.2.2.2.2.2.2.2.2.1).trans (fV.2.2.2.2.2.2.2.2.2.2.2.2.2.2.2.2.2.2.2.2.2.2.2.2.2.2.2.2.2.2.2.2.2.2.2.2.2.1), (f2.2.2.2.2.2.2.2.2.2.2.2.2.2.2.2.2.2.2.2.2.2.2.2.2.2.2.2.2.2.2.2.2.2.2.2.2.2.2).trans (fV.2.2.2.2.2.2.2.2.2.2.2.2.2.2.2.2.2.2.2.2.2.2.2.2.2.2.2.2.2.2.2.2.2.2.2.2.2.2)⟩
  have n2 : b9g_now u2 = b9g_now S := f2'.2.1
  have k2 : b9g_keys u2 = b9g_keys S := f2'.2.2.1
  have l2 : b9g_lengths u2 = b9g_lengths S := f2'.2.2.2.1
  unfold SR9 at h2
  rw [kV, lV, nV] at h2
  have ex : ((SR9 S ∧ CLN (fun j => b9g_keys S (64 + j)) (fun j => b9g_lengths S (64 + j)) (b9g_now S 9).toInt ∧ QO9 S) ∧ (0 ≤ a1.toInt ∧ a1.toInt ≤ 8) ∧ (0 ≤ a2.toInt ∧ a2.toInt ≤ 8)) → (r1.toInt = 1 ∧ ∃ y : Nat, (y : Int) < (b9g_now S 9).toInt ∧ (¬ NLT (ub (b9g_keys S (128 + i))) (b9g_lengths S (128 + i)).toInt.toNat (LOV (fun j => b9g_keys S (64 + j)) (fun j => b9g_lengths S (64 + j)) (b9g_now S 9).toInt a2 y) (LOL (fun j => b9g_keys S (64 + j)) (fun j => b9g_lengths S (64 + j)) (b9g_now S 9).toInt a2 y) ∧ ¬ NLT (HIV (fun j => b9g_keys S (64 + j)) (fun j => b9g_lengths S (64 + j)) (b9g_now S 9).toInt a2 y) (HIL (fun j => b9g_keys S (64 + j)) (fun j => b9g_lengths S (64 + j)) (b9g_now S 9).toInt y) (ub (b9g_keys S (128 + i))) (b9g_lengths S (128 + i)).toInt.toNat) ∧ LWS (MIX (b9g_now S 16) (b9g_keys S (128 + i)) (b9g_lengths S (128 + i))) a1 = LWS (MIX (b9g_now S 16) (b9g_keys S (64 + y)) (b9g_lengths S (64 + y))) a1) ∨ (r1.toInt = 0 ∧ ¬ ∃ y : Nat, (y : Int) < (b9g_now S 9).toInt ∧ (¬ NLT (ub (b9g_keys S (128 + i))) (b9g_lengths S (128 + i)).toInt.toNat (LOV (fun j => b9g_keys S (64 + j)) (fun j => b9g_lengths S (64 + j)) (b9g_now S 9).toInt a2 y) (LOL (fun j => b9g_keys S (64 + j)) (fun j => b9g_lengths S (64 + j)) (b9g_now S 9).toInt a2 y) ∧ ¬ NLT (HIV (fun j => b9g_keys S (64 + j)) (fun j => b9g_lengths S (64 + j)) (b9g_now S 9).toInt a2 y) (HIL (fun j => b9g_keys S (64 + j)) (fun j => b9g_lengths S (64 + j)) (b9g_now S 9).toInt y) (ub (b9g_keys S (128 + i))) (b9g_lengths S (128 + i)).toInt.toNat) ∧ LWS (MIX (b9g_now S 16) (b9g_keys S (128 + i)) (b9g_lengths S (128 + i))) a1 = LWS (MIX (b9g_now S 16) (b9g_keys S (64 + y)) (b9g_lengths S (64 + y))) a1) := by
    rintro ⟨⟨o1, o2, o3⟩, o4, o5⟩
    exact MAY_ex o1 o2 o5.1 o5.2 (h2 o1 (o3 i ilt) lr.2 o5.1 o5.2)
  have no : (((SR9 S ∧ CLN (fun j => b9g_keys S (64 + j)) (fun j => b9g_lengths S (64 + j)) (b9g_now S 9).toInt ∧ QO9 S) ∧ (0 ≤ a1.toInt ∧ a1.toInt ≤ 8) ∧ (0 ≤ a2.toInt ∧ a2.toInt ≤ 8)) → ¬ (fun i => FBQ (fun j => b9g_keys S (64 + j)) (fun j => b9g_lengths S (64 + j)) (b9g_now S 9).toInt (b9g_now S 16) a1 a2 (b9g_keys S (128 + i)) (b9g_lengths S (128 + i))) i) → ∀ W : bT9, J9 W → F_X9_wrongBy S W → wp_X9_wrongBy_71 W a1 a2 x3 x4 Q B := by
    intro np W jW fW
    unfold wp_X9_wrongBy_71
    exact hB x3 W ilt v0 (by omega) jW fW (fun oo => by rw [CTP_n (np oo)]; exact hv oo)
  refine ⟨fun d => no (fun oo z => ?_) u2 j2 f2', fun d => ?_⟩
  · rcases ex oo with ⟨y, _⟩ | ⟨_, y⟩
    · rw [d] at y
      exact absurd y (by decide)
    · exact y z.1
  · refine sf_X9_isOfFilter j2.1 (fun r3 z3 h3 => ?_)
    unfold SR9 at h3
    rw [k2, l2, n2] at h3
    refine ⟨fun e => no (fun oo z => ?_) u2 j2 f2', fun e => ?_⟩
    · rcases h3 oo.1.1 with ⟨_, w, w1, w2⟩ | ⟨y, _⟩
      · exact z.2 w w1 w2
      · exact e (Int32.toInt_inj.mp y)
    · unfold wp_X9_wrongBy_71
      refine hB (x3 + 1) u2 ilt (by omega) (by omega) j2 f2' (fun oo => ?_)
      have pi : (fun i => FBQ (fun j => b9g_keys S (64 + j)) (fun j => b9g_lengths S (64 + j)) (b9g_now S 9).toInt (b9g_now S 16) a1 a2 (b9g_keys S (128 + i)) (b9g_lengths S (128 + i))) i := by
        rcases ex oo with ⟨_, y⟩ | ⟨y, _⟩
        · refine ⟨y, fun w w1 w2 => ?_⟩
          rcases h3 oo.1.1 with ⟨q, _⟩ | ⟨_, q⟩
          · rw [e] at q
            exact absurd q (by decide)
          · exact q ⟨w, w1, w2⟩
        · exact absurd (Int32.toInt_inj.mp y) d
      rw [CTP_y (P := (fun i => FBQ (fun j => b9g_keys S (64 + j)) (fun j => b9g_lengths S (64 + j)) (b9g_now S 9).toInt (b9g_now S 16) a1 a2 (b9g_keys S (128 + i)) (b9g_lengths S (128 + i)))) pi, x3', hv oo]
def F_X9_tuned (S u : bT9) : Prop := (b9g_now u) = (b9g_now S) ∧ (b9g_keys u) = (b9g_keys S) ∧ (b9g_lengths u) = (b9g_lengths S) ∧ (b9g_drawn u) = (b9g_drawn S) ∧ (b9g_drawnLength u) = (b9g_drawnLength S) ∧ (b9g_tape u) = (b9g_tape S) ∧ (b9g_taped u) = (b9g_taped S) ∧ (b9g_names u) = (b9g_names S) ∧ (b9g_chosen u) = (b9g_chosen S) ∧ (b9g_nodeLevel u) = (b9g_nodeLevel S) ∧ (b9g_nodeLeaf u) = (b9g_nodeLeaf S) ∧ (b9g_nodeLeaves u) = (b9g_nodeLeaves S) ∧ (b9g_nodeMany u) = (b9g_nodeMany S) ∧ (b9g_levelMany u) = (b9g_levelMany S) ∧ (b9g_upper u) = (b9g_upper S) ∧ (b9g_upperNodes u) = (b9g_upperNodes S) ∧ (b9g_areNodesLaid u) = (b9g_areNodesLaid S) ∧ (b9g_itemNode u) = (b9g_itemNode S) ∧ (b9g_itemByte u) = (b9g_itemByte S) ∧ (b9g_itemChild u) = (b9g_itemChild S) ∧ (b9g_itemMany u) = (b9g_itemMany S) ∧ (b9g_placeOf u) = (b9g_placeOf S) ∧ (b9g_leafOfPlace u) = (b9g_leafOfPlace S) ∧ (b9g_places u) = (b9g_places S) ∧ (b9g_fromKey u) = (b9g_fromKey S) ∧ (b9g_toKey u) = (b9g_toKey S) ∧ (b9g_fromLength u) = (b9g_fromLength S) ∧ (b9g_toLength u) = (b9g_toLength S) ∧ (b9g_ones u) = (b9g_ones S) ∧ (b9g_oneMany u) = (b9g_oneMany S) ∧ (b9g_rowLong u) = (b9g_rowLong S) ∧ (b9g_laidFor u) = (b9g_laidFor S) ∧ (b9g_signs u) = (b9g_signs S) ∧ (b9g_signMany u) = (b9g_signMany S) ∧ (b9g_hasImage u) = (b9g_hasImage S) ∧ (b9g_images u) = (b9g_images S) ∧ (b9g_keyImages u) = (b9g_keyImages S) ∧ (b9g_lengthImages u) = (b9g_lengthImages S)
set_option maxRecDepth 20000 in
set_option maxHeartbeats 8000000 in
theorem sj_X9_tuned {S : bT9} (hJ : J9 S) {a1 : Int32} {a2 : Int32} {Q : Int32 → (bT9) → Prop} (hq : ∀ (r : Int32) (u : bT9), (J9 u) → F_X9_tuned S u → Q r u) : wp_X9_tuned S a1 a2 Q := by
  unfold wp_X9_tuned
  have hFS : F_X9_tuned S S := ⟨rfl, rfl, rfl, rfl, rfl, rfl, rfl, rfl, rfl, rfl, rfl, rfl, rfl, rfl, rfl, rfl, rfl, rfl, rfl, rfl, rfl, rfl, rfl, rfl, rfl, rfl, rfl, rfl, rfl, rfl, rfl, rfl, rfl, rfl, rfl, rfl, rfl, rfl⟩
  have jf1 : (-4 ≤ ((b9g_now S) 1).toInt ∧ ((b9g_now S) 1).toInt ≤ 4) ∧ (-3 ≤ ((b9g_now S) 4).toInt ∧ ((b9g_now S) 4).toInt ≤ 252) ∧ (0 ≤ ((b9g_now S) 8).toInt ∧ ((b9g_now S) 8).toInt ≤ 64) ∧ (0 ≤ ((b9g_now S) 9).toInt ∧ ((b9g_now S) 9).toInt ≤ 64) ∧ (0 ≤ ((b9g_now S) 10).toInt ∧ ((b9g_now S) 10).toInt ≤ 16) ∧ (0 ≤ ((b9g_now S) 12).toInt ∧ ((b9g_now S) 12).toInt ≤ 8) := J9g_now hJ
  have ju1_S := hJ.2.1
  have rga1 := pt_rg a1
  have rga2 := pt_rg a2
  intro S1 eS1
  have hJS1 : J9 S1 := by rw [eS1]; exact (J9s_told hJ)
  have hFS1 : F_X9_tuned S S1 := by rw [eS1]; exact hFS
  have je3 : ((b9g_now S1) 1).toInt = ((b9g_now S) 1).toInt := congrArg (fun z => (z 1).toInt) hFS1.1
  have je5 : ((b9g_now S1) 4).toInt = ((b9g_now S) 4).toInt := congrArg (fun z => (z 4).toInt) hFS1.1
  have je7 : ((b9g_now S1) 7).toInt = ((b9g_now S) 7).toInt := congrArg (fun z => (z 7).toInt) hFS1.1
  have je9 : ((b9g_now S1) 8).toInt = ((b9g_now S) 8).toInt := congrArg (fun z => (z 8).toInt) hFS1.1
  have je11 : ((b9g_now S1) 9).toInt = ((b9g_now S) 9).toInt := congrArg (fun z => (z 9).toInt) hFS1.1
  have je13 : ((b9g_now S1) 10).toInt = ((b9g_now S) 10).toInt := congrArg (fun z => (z 10).toInt) hFS1.1
  have je15 : ((b9g_now S1) 12).toInt = ((b9g_now S) 12).toInt := congrArg (fun z => (z 12).toInt) hFS1.1
  have ju15_S1 := hJS1.2.1
  refine sf_X9_isIn hJS1.1 (fun r2 hzr2 hr2_0 => ?_)
  try simp (disch := first | ((try simp (disch := first | ((try simp only [pn]) <;> omega) | fail) only [pn, pq]) <;> omega) | fail) only [pn, pq] at hr2_0
  refine ⟨fun c4 => ?_, fun c4 => ?_⟩
  · try simp (disch := first | ((try simp (disch := first | ((try simp only [pn]) <;> omega) | fail) only [pn, pq]) <;> omega) | fail) only [pn, pq] at c4
    exact hq _ _ hJS1 hFS1 
  · try simp (disch := first | ((try simp (disch := first | ((try simp only [pn]) <;> omega) | fail) only [pn, pq]) <;> omega) | fail) only [pn, pq] at c4
    refine sf_X9_isIn hJS1.1 (fun r5 hzr5 hr5_0 => ?_)
    try simp (disch := first | ((try simp (disch := first | ((try simp only [pn]) <;> omega) | fail) only [pn, pq]) <;> omega) | fail) only [pn, pq] at hr5_0
    refine ⟨fun c7 => ?_, fun c7 => ?_⟩
    · try simp (disch := first | ((try simp (disch := first | ((try simp only [pn]) <;> omega) | fail) only [pn, pq]) <;> omega) | fail) only [pn, pq] at c7
      refine ⟨fun n x1q8 x2q8 x3q8 x4q8 x5q8 Sq8 => (J9 Sq8) ∧ (F_X9_tuned S Sq8) ∧ (x1q8 = a1) ∧ (x2q8 = a2) ∧ (0 ≤ (x5q8).toInt) ∧ ((x1q8).toInt ≤ 16) ∧ ((x5q8).toInt ≤ 17) ∧ n = (18 - (x5q8).toInt).toNat, ⟨_, hJS1, hFS1, rfl, rfl, (by (try simp (disch := first | ((try simp (disch := first | ((try simp only [pn]) <;> omega) | fail) only [pn, pq]) <;> omega) | fail) only [pn, pq]) <;> (intros; (try simp (disch := first | ((try simp (disch := first | ((try simp only [pn]) <;> omega) | fail) only [pn, pq]) <;> omega) | fail) only [pn, pq]) <;> omega)), (by (try simp (disch := first | ((try simp (disch := first | ((try simp only [pn]) <;> omega) | fail) only [pn, pq]) <;> omega) | fail) only [pn, pq]) <;> (intros; (try simp (disch := first | ((try simp (disch := first | ((try simp only [pn]) <;> omega) | fail) only [pn, pq]) <;> omega) | fail) only [pn, pq]) <;> omega)), (by (try simp (disch := first | ((try simp (disch := first | ((try simp only [pn]) <;> omega) | fail) only [pn, pq]) <;> omega) | fail) only [pn, pq]) <;> (intros; (try simp (disch := first | ((try simp (disch := first | ((try simp only [pn]) <;> omega) | fail) only [pn, pq]) <;> omega) | fail) only [pn, pq]) <;> omega)), rfl⟩, ?_⟩
      rintro n9 x1q8 x2q8 x3q8 x4q8 x5q8 Sq8 ⟨hJSq8, hFSq8, hkq8_0, hkq8_1, hiq8_0, hiq8_1, hiq8_2, hn9⟩
      subst hkq8_0
      subst hkq8_1
      have rgx1q8 := pt_rg x1q8
      have rgx2q8 := pt_rg x2q8
      have rgx3q8 := pt_rg x3q8
      have rgx4q8 := pt_rg x4q8
      have rgx5q8 := pt_rg x5q8
      unfold wp_X9_tuned_37b
      have je17 : ((b9g_now Sq8) 1).toInt = ((b9g_now S) 1).toInt := congrArg (fun z => (z 1).toInt) hFSq8.1
      have je19 : ((b9g_now Sq8) 4).toInt = ((b9g_now S) 4).toInt := congrArg (fun z => (z 4).toInt) hFSq8.1
      have je21 : ((b9g_now Sq8) 7).toInt = ((b9g_now S) 7).toInt := congrArg (fun z => (z 7).toInt) hFSq8.1
      have je23 : ((b9g_now Sq8) 8).toInt = ((b9g_now S) 8).toInt := congrArg (fun z => (z 8).toInt) hFSq8.1
      have je25 : ((b9g_now Sq8) 9).toInt = ((b9g_now S) 9).toInt := congrArg (fun z => (z 9).toInt) hFSq8.1
      have je27 : ((b9g_now Sq8) 10).toInt = ((b9g_now S) 10).toInt := congrArg (fun z => (z 10).toInt) hFSq8.1
      have je29 : ((b9g_now Sq8) 12).toInt = ((b9g_now S) 12).toInt := congrArg (fun z => (z 12).toInt) hFSq8.1
      have ju29_Sq8 := hJSq8.2.1
      refine ⟨fun c10 => ?_, fun c10 => ?_⟩
      · try simp (disch := first | ((try simp (disch := first | ((try simp only [pn]) <;> omega) | fail) only [pn, pq]) <;> omega) | fail) only [pn, pq] at c10
        refine ⟨fun c11 => ?_, fun c11 => ?_⟩
        · try simp (disch := first | ((try simp (disch := first | ((try simp only [pn]) <;> omega) | fail) only [pn, pq]) <;> omega) | fail) only [pn, pq] at c11
          refine ⟨fun c12 => ?_, fun c12 => ?_⟩
          · try simp (disch := first | ((try simp (disch := first | ((try simp only [pn]) <;> omega) | fail) only [pn, pq]) <;> omega) | fail) only [pn, pq] at c12
            exact hq _ _ hJSq8 hFSq8 
          · try simp (disch := first | ((try simp (disch := first | ((try simp only [pn]) <;> omega) | fail) only [pn, pq]) <;> omega) | fail) only [pn, pq] at c12
            refine ⟨(by (try simp (disch := first | ((try simp (disch := first | ((try simp only [pn]) <;> omega) | fail) only [pn, pq]) <;> omega) | fail) only [pn, pq]) <;> (intros; (try simp (disch := first | ((try simp (disch := first | ((try simp only [pn]) <;> omega) | fail) only [pn, pq]) <;> omega) | fail) only [pn, pq]) <;> omega)), ?_⟩
            exact hq _ _ hJSq8 hFSq8 
        · try simp (disch := first | ((try simp (disch := first | ((try simp only [pn]) <;> omega) | fail) only [pn, pq]) <;> omega) | fail) only [pn, pq] at c11
          refine ⟨(by (try simp (disch := first | ((try simp (disch := first | ((try simp only [pn]) <;> omega) | fail) only [pn, pq]) <;> omega) | fail) only [pn, pq]) <;> (intros; (try simp (disch := first | ((try simp (disch := first | ((try simp only [pn]) <;> omega) | fail) only [pn, pq]) <;> omega) | fail) only [pn, pq]) <;> omega)), ?_⟩
          exact hq _ _ hJSq8 hFSq8 
      · try simp (disch := first | ((try simp (disch := first | ((try simp only [pn]) <;> omega) | fail) only [pn, pq]) <;> omega) | fail) only [pn, pq] at c10
        refine ⟨fun n x1q13 x2q13 x3q13 x4q13 x5q13 x6q13 Sq13 => (J9 Sq13) ∧ (F_X9_tuned S Sq13) ∧ (x1q13 = x1q8) ∧ (x2q13 = x2q8) ∧ (x5q13 = x5q8) ∧ (0 ≤ (x6q13).toInt) ∧ ((x6q13).toInt ≤ 9) ∧ ((x5q13).toInt ≤ 16) ∧ n = (10 - (x6q13).toInt).toNat, ⟨_, hJSq8, hFSq8, rfl, rfl, rfl, (by (try simp (disch := first | ((try simp (disch := first | ((try simp only [pn]) <;> omega) | fail) only [pn, pq]) <;> omega) | fail) only [pn, pq]) <;> (intros; (try simp (disch := first | ((try simp (disch := first | ((try simp only [pn]) <;> omega) | fail) only [pn, pq]) <;> omega) | fail) only [pn, pq]) <;> omega)), (by (try simp (disch := first | ((try simp (disch := first | ((try simp only [pn]) <;> omega) | fail) only [pn, pq]) <;> omega) | fail) only [pn, pq]) <;> (intros; (try simp (disch := first | ((try simp (disch := first | ((try simp only [pn]) <;> omega) | fail) only [pn, pq]) <;> omega) | fail) only [pn, pq]) <;> omega)), (by (try simp (disch := first | ((try simp (disch := first | ((try simp only [pn]) <;> omega) | fail) only [pn, pq]) <;> omega) | fail) only [pn, pq]) <;> (intros; (try simp (disch := first | ((try simp (disch := first | ((try simp only [pn]) <;> omega) | fail) only [pn, pq]) <;> omega) | fail) only [pn, pq]) <;> omega)), rfl⟩, ?_⟩
        rintro n14 x1q13 x2q13 x3q13 x4q13 x5q13 x6q13 Sq13 ⟨hJSq13, hFSq13, hkq13_0, hkq13_1, hkq13_2, hiq13_0, hiq13_1, hiq13_2, hn14⟩
        subst hkq13_0
        subst hkq13_1
        subst hkq13_2
        have rgx1q13 := pt_rg x1q13
        have rgx2q13 := pt_rg x2q13
        have rgx3q13 := pt_rg x3q13
        have rgx4q13 := pt_rg x4q13
        have rgx5q13 := pt_rg x5q13
        have rgx6q13 := pt_rg x6q13
        unfold wp_X9_tuned_46b
        have je31 : ((b9g_now Sq13) 1).toInt = ((b9g_now S) 1).toInt := congrArg (fun z => (z 1).toInt) hFSq13.1
        have je33 : ((b9g_now Sq13) 4).toInt = ((b9g_now S) 4).toInt := congrArg (fun z => (z 4).toInt) hFSq13.1
        have je35 : ((b9g_now Sq13) 7).toInt = ((b9g_now S) 7).toInt := congrArg (fun z => (z 7).toInt) hFSq13.1
        have je37 : ((b9g_now Sq13) 8).toInt = ((b9g_now S) 8).toInt := congrArg (fun z => (z 8).toInt) hFSq13.1
        have je39 : ((b9g_now Sq13) 9).toInt = ((b9g_now S) 9).toInt := congrArg (fun z => (z 9).toInt) hFSq13.1
        have je41 : ((b9g_now Sq13) 10).toInt = ((b9g_now S) 10).toInt := congrArg (fun z => (z 10).toInt) hFSq13.1
        have je43 : ((b9g_now Sq13) 12).toInt = ((b9g_now S) 12).toInt := congrArg (fun z => (z 12).toInt) hFSq13.1
        have ju43_Sq13 := hJSq13.2.1
        refine ⟨fun c15 => ?_, fun c15 => ?_⟩
        · try simp (disch := first | ((try simp (disch := first | ((try simp only [pn]) <;> omega) | fail) only [pn, pq]) <;> omega) | fail) only [pn, pq] at c15
          unfold wp_X9_tuned_117
          refine ⟨_, ?_, ?_, ?_, ?_, ?_, ?_, ?_, ?_, rfl⟩
          · (try simp (disch := first | ((try simp (disch := first | ((try simp only [pn]) <;> omega) | fail) only [pn, pq]) <;> omega) | fail) only [pn, pq]) <;> (intros; (try simp (disch := first | ((try simp (disch := first | ((try simp only [pn]) <;> omega) | fail) only [pn, pq]) <;> omega) | fail) only [pn, pq]) <;> omega)
          · exact hJSq13
          · exact hFSq13
          · first | rfl | assumption
          · first | rfl | assumption
          · (try simp (disch := first | ((try simp (disch := first | ((try simp only [pn]) <;> omega) | fail) only [pn, pq]) <;> omega) | fail) only [pn, pq]) <;> (intros; (try simp (disch := first | ((try simp (disch := first | ((try simp only [pn]) <;> omega) | fail) only [pn, pq]) <;> omega) | fail) only [pn, pq]) <;> omega)
          · (try simp (disch := first | ((try simp (disch := first | ((try simp only [pn]) <;> omega) | fail) only [pn, pq]) <;> omega) | fail) only [pn, pq]) <;> (intros; (try simp (disch := first | ((try simp (disch := first | ((try simp only [pn]) <;> omega) | fail) only [pn, pq]) <;> omega) | fail) only [pn, pq]) <;> omega)
          · (try simp (disch := first | ((try simp (disch := first | ((try simp only [pn]) <;> omega) | fail) only [pn, pq]) <;> omega) | fail) only [pn, pq]) <;> (intros; (try simp (disch := first | ((try simp (disch := first | ((try simp only [pn]) <;> omega) | fail) only [pn, pq]) <;> omega) | fail) only [pn, pq]) <;> omega)
        · try simp (disch := first | ((try simp (disch := first | ((try simp only [pn]) <;> omega) | fail) only [pn, pq]) <;> omega) | fail) only [pn, pq] at c15
          refine ⟨fun c16 => ?_, fun c16 => ?_⟩
          · try simp (disch := first | ((try simp (disch := first | ((try simp only [pn]) <;> omega) | fail) only [pn, pq]) <;> omega) | fail) only [pn, pq] at c16
            unfold wp_X9_tuned_117
            refine ⟨_, ?_, ?_, ?_, ?_, ?_, ?_, ?_, ?_, rfl⟩
            · (try simp (disch := first | ((try simp (disch := first | ((try simp only [pn]) <;> omega) | fail) only [pn, pq]) <;> omega) | fail) only [pn, pq]) <;> (intros; (try simp (disch := first | ((try simp (disch := first | ((try simp only [pn]) <;> omega) | fail) only [pn, pq]) <;> omega) | fail) only [pn, pq]) <;> omega)
            · exact hJSq13
            · exact hFSq13
            · first | rfl | assumption
            · first | rfl | assumption
            · (try simp (disch := first | ((try simp (disch := first | ((try simp only [pn]) <;> omega) | fail) only [pn, pq]) <;> omega) | fail) only [pn, pq]) <;> (intros; (try simp (disch := first | ((try simp (disch := first | ((try simp only [pn]) <;> omega) | fail) only [pn, pq]) <;> omega) | fail) only [pn, pq]) <;> omega)
            · (try simp (disch := first | ((try simp (disch := first | ((try simp only [pn]) <;> omega) | fail) only [pn, pq]) <;> omega) | fail) only [pn, pq]) <;> (intros; (try simp (disch := first | ((try simp (disch := first | ((try simp only [pn]) <;> omega) | fail) only [pn, pq]) <;> omega) | fail) only [pn, pq]) <;> omega)
            · (try simp (disch := first | ((try simp (disch := first | ((try simp only [pn]) <;> omega) | fail) only [pn, pq]) <;> omega) | fail) only [pn, pq]) <;> (intros; (try simp (disch := first | ((try simp (disch := first | ((try simp only [pn]) <;> omega) | fail) only [pn, pq]) <;> omega) | fail) only [pn, pq]) <;> omega)
          · try simp (disch := first | ((try simp (disch := first | ((try simp only [pn]) <;> omega) | fail) only [pn, pq]) <;> omega) | fail) only [pn, pq] at c16
            refine ⟨fun c17 => ?_, fun c17 => ?_⟩
            · try simp (disch := first | ((try simp (disch := first | ((try simp only [pn]) <;> omega) | fail) only [pn, pq]) <;> omega) | fail) only [pn, pq] at c17
              refine sf_X9_wrongBy hJSq13 (fun r18 u19 hJu19 hfu19 hr18_0 => ?_)
              have hFu19 : F_X9_tuned S u19 := ⟨(congrArg (fun z => z) hfu19.2.1).trans hFSq13.1, (congrArg (fun z => z) hfu19.2.2.1).trans hFSq13.2.1, (congrArg (fun z => z) hfu19.2.2.2.1).trans hFSq13.2.2.1, (congrArg (fun z => z) hfu19.2.2.2.2.1).trans hFSq13.2.2.2.1, (congrArg (fun z => z) hfu19.2.2.2.2.2.1).trans hFSq13.2.2.2.2.1, (congrArg (fun z => z) hfu19.2.2.2.2.2.2.1).trans hFSq13.2.2.2.2.2.1, (congrArg (fun z => z) hfu19.2.2.2.2.2.2.2.1).trans hFSq13.2.2.2.2.2.2.1, (congrArg (fun z => z) hfu19.2.2.2.2.2.2.2.2.1).trans hFSq13.2.2.2.2.2.2.2.1, (congrArg (fun z => z) hfu19.2.2.2.2.2.2.2.2.2.1).trans hFSq13.2.2.2.2.2.2.2.2.1, (congrArg (fun z => z) hfu19.2.2.2.2.2.2.2.2.2.2.1).trans hFSq13.2.2.2.2.2.2.2.2.2.1, (congrArg (fun z => z) hfu19.2.2.2.2.2.2.2.2.2.2.2.1).trans hFSq13.2.2.2.2.2.2.2.2.2.2.1, (congrArg (fun z => z) hfu19.2.2.2.2.2.2.2.2.2.2.2.2.1).trans hFSq13.2.2.2.2.2.2.2.2.2.2.2.1, (congrArg (fun z => z) hfu19.2.2.2.2.2.2.2.2.2.2.2.2.2.1).trans hFSq13.2.2.2.2.2.2.2.2.2.2.2.2.1, (congrArg (fun z => z) hfu19.2.2.2.2.2.2.2.2.2.2.2.2.2.2.1).trans hFSq13.2.2.2.2.2.2.2.2.2.2.2.2.2.1, (congrArg (fun z => z) hfu19.2.2.2.2.2.2.2.2.2.2.2.2.2.2.2.1).trans hFSq13.2.2.2.2.2.2.2.2.2.2.2.2.2.2.1, (congrArg (fun z => z) hfu19.2.2.2.2.2.2.2.2.2.2.2.2.2.2.2.2.1).trans hFSq13.2.2.2.2.2.2.2.2.2.2.2.2.2.2.2.1, (congrArg (fun z => z) hfu19.2.2.2.2.2.2.2.2.2.2.2.2.2.2.2.2.2.1).trans hFSq13.2.2.2.2.2.2.2.2.2.2.2.2.2.2.2.2.1, (congrArg (fun z => z) hfu19.2.2.2.2.2.2.2.2.2.2.2.2.2.2.2.2.2.2.1).trans hFSq13.2.2.2.2.2.2.2.2.2.2.2.2.2.2.2.2.2.1, (congrArg (fun z => z) hfu19.2.2.2.2.2.2.2.2.2.2.2.2.2.2.2.2.2.2.2.1).trans hFSq13.2.2.2.2.2.2.2.2.2.2.2.2.2.2.2.2.2.2.1, (congrArg (fun z => z) hfu19.2.2.2.2.2.2.2.2.2.2.2.2.2.2.2.2.2.2.2.2.1).trans hFSq13.2.2.2.2.2.2.2.2.2.2.2.2.2.2.2.2.2.2.2.1, (congrArg (fun z => z) hfu19.2.2.2.2.2.2.2.2.2.2.2.2.2.2.2.2.2.2.2.2.2.1).trans hFSq13.2.2.2.2.2.2.2.2.2.2.2.2.2.2.2.2.2.2.2.2.1, (congrArg (fun z => z) hfu19.2.2.2.2.2.2.2.2.2.2.2.2.2.2.2.2.2.2.2.2.2.2.1).trans hFSq13.2.2.2.2.2.2.2.2.2.2.2.2.2.2.2.2.2.2.2.2.2.1, (congrArg (fun z => z) hfu19.2.2.2.2.2.2.2.2.2.2.2.2.2.2.2.2.2.2.2.2.2.2.2.1).trans hFSq13.2.2.2.2.2.2.2.2.2.2.2.2.2.2.2.2.2.2.2.2.2.2.1, (congrArg (fun z => z) hfu19.2.2.2.2.2.2.2.2.2.2.2.2.2.2.2.2.2.2.2.2.2.2.2.2.1).trans hFSq13.2.2.2.2.2.2.2.2.2.2.2.2.2.2.2.2.2.2.2.2.2.2.2.1, (congrArg (fun z => z) hfu19.2.2.2.2.2.2.2.2.2.2.2.2.2.2.2.2.2.2.2.2.2.2.2.2.2.1).trans hFSq13.2.2.2.2.2.2.2.2.2.2.2.2.2.2.2.2.2.2.2.2.2.2.2.2.1, (congrArg (fun z => z) hfu19.2.2.2.2.2.2.2.2.2.2.2.2.2.2.2.2.2.2.2.2.2.2.2.2.2.2.1).trans hFSq13.2.2.2.2.2.2.2.2.2.2.2.2.2.2.2.2.2.2.2.2.2.2.2.2.2.1, (congrArg (fun z => z) hfu19.2.2.2.2.2.2.2.2.2.2.2.2.2.2.2.2.2.2.2.2.2.2.2.2.2.2.2.1).trans hFSq13.2.2.2.2.2.2.2.2.2.2.2.2.2.2.2.2.2.2.2.2.2.2.2.2.2.2.1, (congrArg (fun z => z) hfu19.2.2.2.2.2.2.2.2.2.2.2.2.2.2.2.2.2.2.2.2.2.2.2.2.2.2.2.2.1).trans hFSq13.2.2.2.2.2.2.2.2.2.2.2.2.2.2.2.2.2.2.2.2.2.2.2.2.2.2.2.1, (congrArg (fun z => z) hfu19.2.2.2.2.2.2.2.2.2.2.2.2.2.2.2.2.2.2.2.2.2.2.2.2.2.2.2.2.2.1).trans hFSq13.2.2.2.2.2.2.2.2.2.2.2.2.2.2.2.2.2.2.2.2.2.2.2.2.2.2.2.2.1, (congrArg (fun z => z) hfu19.2.2.2.2.2.2.2.2.2.2.2.2.2.2.2.2.2.2.2.2.2.2.2.2.2.2.2.2.2.2.1).trans hFSq13.2.2.2.2.2.2.2.2.2.2.2.2.2.2.2.2.2.2.2.2.2.2.2.2.2.2.2.2.2.1, (congrArg (fun z => z) hfu19.2.2.2.2.2.2.2.2.2.2.2.2.2.2.2.2.2.2.2.2.2.2.2.2.2.2.2.2.2.2.2.1).trans hFSq13.2.2.2.2.2.2.2.2.2.2.2.2.2.2.2.2.2.2.2.2.2.2.2.2.2.2.2.2.2.2.1, (congrArg (fun z => z) hfu19.2.2.2.2.2.2.2.2.2.2.2.2.2.2.2.2.2.2.2.2.2.2.2.2.2.2.2.2.2.2.2.2.1).trans hFSq13.2.2.2.2.2.2.2.2.2.2.2.2.2.2.2.2.2.2.2.2.2.2.2.2.2.2.2.2.2.2.2.1, (congrArg (fun z => z) hfu19.2.2.2.2.2.2.2.2.2.2.2.2.2.2.2.2.2.2.2.2.2.2.2.2.2.2.2.2.2.2.2.2.2.1).trans hFSq13.2.2.2.2.2.2.2.2.2.2.2.2.2.2.2.2.2.2.2.2.2.2.2.2.2.2.2.2.2.2.2.2.1, (congrArg (fun z => z) hfu19.2.2.2.2.2.2.2.2.2.2.2.2.2.2.2.2.2.2.2.2.2.2.2.2.2.2.2.2.2.2.2.2.2.2.1).trans hFSq13.2.2.2.2.2.2.2.2.2.2.2.2.2.2.2.2.2.2.2.2.2.2.2.2.2.2.2.2.2.2.2.2.2.1, (congrArg (fun z => z) hfu19.2.2.2.2.2.2.2.2.2.2.2.2.2.2.2.2.2.2.2.2.2.2.2.2.2.2.2.2.2.2.2.2.2.2.2.1).trans hFSq13.2.2.2.2.2.2.2.2.2.2.2.2.2.2.2.2.2.2.2.2.2.2.2.2.2.2.2.2.2.2.2.2.2.2.1, (congrArg (fun z => z) hfu19.2.2.2.2.2.2.2.2.2.2.2.2.2.2.2.2.2.2.2.2.2.2.2.2.2.2.2.2.2.2.2.2.2.2.2.2.1).trans hFSq13.2.2.2.2.2.2.2.2.2.2.2.2.2.2.2.2.2.2.2.2.2.2.2.2.2.2.2.2.2.2.2.2.2.2.2.1, (congrArg (fun z => z) hfu19.2.2.2.2.2.2.2.2.2.2.2.2.2.2.2.2.2.2.2.2.2.2.2.2.2.2.2.2.2.2.2.2.2.2.2.2.2.1).trans hFSq13.2.2.2.2.2.2.2.2.2.2.2.2.2.2.2.2.2.2.2.2.2.2.2.2.2.2.2.2.2.2.2.2.2.2.2.2.1, (congrArg (fun z => z) hfu19.2.2.2.2.2.2.2.2.2.2.2.2.2.2.2.2.2.2.2.2.2.2.2.2.2.2.2.2.2.2.2.2.2.2.2.2.2.2).trans hFSq13.2.2.2.2.2.2.2.2.2.2.2.2.2.2.2.2.2.2.2.2.2.2.2.2.2.2.2.2.2.2.2.2.2.2.2.2.2⟩
              have je45 : ((b9g_now u19) 1).toInt = ((b9g_now S) 1).toInt := congrArg (fun z => (z 1).toInt) hFu19.1
              have je47 : ((b9g_now u19) 4).toInt = ((b9g_now S) 4).toInt := congrArg (fun z => (z 4).toInt) hFu19.1
              have je49 : ((b9g_now u19) 7).toInt = ((b9g_now S) 7).toInt := congrArg (fun z => (z 7).toInt) hFu19.1
              have je51 : ((b9g_now u19) 8).toInt = ((b9g_now S) 8).toInt := congrArg (fun z => (z 8).toInt) hFu19.1
              have je53 : ((b9g_now u19) 9).toInt = ((b9g_now S) 9).toInt := congrArg (fun z => (z 9).toInt) hFu19.1
              have je55 : ((b9g_now u19) 10).toInt = ((b9g_now S) 10).toInt := congrArg (fun z => (z 10).toInt) hFu19.1
              have je57 : ((b9g_now u19) 12).toInt = ((b9g_now S) 12).toInt := congrArg (fun z => (z 12).toInt) hFu19.1
              have ju57_u19 := hJu19.2.1
              have rgr18 := pt_rg r18
              refine ⟨fun c20 => ?_, fun c20 => ?_⟩
              · try simp (disch := first | ((try simp (disch := first | ((try simp only [pn]) <;> omega) | fail) only [pn, pq]) <;> omega) | fail) only [pn, pq] at c20
                unfold wp_X9_tuned_111
                refine ⟨_, ?_, ?_, ?_, ?_, ?_, ?_, ?_, ?_, ?_, rfl⟩
                · (try simp (disch := first | ((try simp (disch := first | ((try simp only [pn]) <;> omega) | fail) only [pn, pq]) <;> omega) | fail) only [pn, pq]) <;> (intros; (try simp (disch := first | ((try simp (disch := first | ((try simp only [pn]) <;> omega) | fail) only [pn, pq]) <;> omega) | fail) only [pn, pq]) <;> omega)
                · exact hJu19
                · exact hFu19
                · first | rfl | assumption
                · first | rfl | assumption
                · first | rfl | assumption
                · (try simp (disch := first | ((try simp (disch := first | ((try simp only [pn]) <;> omega) | fail) only [pn, pq]) <;> omega) | fail) only [pn, pq]) <;> (intros; (try simp (disch := first | ((try simp (disch := first | ((try simp only [pn]) <;> omega) | fail) only [pn, pq]) <;> omega) | fail) only [pn, pq]) <;> omega)
                · (try simp (disch := first | ((try simp (disch := first | ((try simp only [pn]) <;> omega) | fail) only [pn, pq]) <;> omega) | fail) only [pn, pq]) <;> (intros; (try simp (disch := first | ((try simp (disch := first | ((try simp only [pn]) <;> omega) | fail) only [pn, pq]) <;> omega) | fail) only [pn, pq]) <;> omega)
                · (try simp (disch := first | ((try simp (disch := first | ((try simp only [pn]) <;> omega) | fail) only [pn, pq]) <;> omega) | fail) only [pn, pq]) <;> (intros; (try simp (disch := first | ((try simp (disch := first | ((try simp only [pn]) <;> omega) | fail) only [pn, pq]) <;> omega) | fail) only [pn, pq]) <;> omega)
              · try simp (disch := first | ((try simp (disch := first | ((try simp only [pn]) <;> omega) | fail) only [pn, pq]) <;> omega) | fail) only [pn, pq] at c20
                unfold wp_X9_tuned_111
                refine ⟨_, ?_, ?_, ?_, ?_, ?_, ?_, ?_, ?_, ?_, rfl⟩
                · (try simp (disch := first | ((try simp (disch := first | ((try simp only [pn]) <;> omega) | fail) only [pn, pq]) <;> omega) | fail) only [pn, pq]) <;> (intros; (try simp (disch := first | ((try simp (disch := first | ((try simp only [pn]) <;> omega) | fail) only [pn, pq]) <;> omega) | fail) only [pn, pq]) <;> omega)
                · exact hJu19
                · exact hFu19
                · first | rfl | assumption
                · first | rfl | assumption
                · first | rfl | assumption
                · (try simp (disch := first | ((try simp (disch := first | ((try simp only [pn]) <;> omega) | fail) only [pn, pq]) <;> omega) | fail) only [pn, pq]) <;> (intros; (try simp (disch := first | ((try simp (disch := first | ((try simp only [pn]) <;> omega) | fail) only [pn, pq]) <;> omega) | fail) only [pn, pq]) <;> omega)
                · (try simp (disch := first | ((try simp (disch := first | ((try simp only [pn]) <;> omega) | fail) only [pn, pq]) <;> omega) | fail) only [pn, pq]) <;> (intros; (try simp (disch := first | ((try simp (disch := first | ((try simp only [pn]) <;> omega) | fail) only [pn, pq]) <;> omega) | fail) only [pn, pq]) <;> omega)
                · (try simp (disch := first | ((try simp (disch := first | ((try simp only [pn]) <;> omega) | fail) only [pn, pq]) <;> omega) | fail) only [pn, pq]) <;> (intros; (try simp (disch := first | ((try simp (disch := first | ((try simp only [pn]) <;> omega) | fail) only [pn, pq]) <;> omega) | fail) only [pn, pq]) <;> omega)
            · try simp (disch := first | ((try simp (disch := first | ((try simp only [pn]) <;> omega) | fail) only [pn, pq]) <;> omega) | fail) only [pn, pq] at c17
              unfold wp_X9_tuned_111
              refine ⟨_, ?_, ?_, ?_, ?_, ?_, ?_, ?_, ?_, ?_, rfl⟩
              · (try simp (disch := first | ((try simp (disch := first | ((try simp only [pn]) <;> omega) | fail) only [pn, pq]) <;> omega) | fail) only [pn, pq]) <;> (intros; (try simp (disch := first | ((try simp (disch := first | ((try simp only [pn]) <;> omega) | fail) only [pn, pq]) <;> omega) | fail) only [pn, pq]) <;> omega)
              · exact hJSq13
              · exact hFSq13
              · first | rfl | assumption
              · first | rfl | assumption
              · first | rfl | assumption
              · (try simp (disch := first | ((try simp (disch := first | ((try simp only [pn]) <;> omega) | fail) only [pn, pq]) <;> omega) | fail) only [pn, pq]) <;> (intros; (try simp (disch := first | ((try simp (disch := first | ((try simp only [pn]) <;> omega) | fail) only [pn, pq]) <;> omega) | fail) only [pn, pq]) <;> omega)
              · (try simp (disch := first | ((try simp (disch := first | ((try simp only [pn]) <;> omega) | fail) only [pn, pq]) <;> omega) | fail) only [pn, pq]) <;> (intros; (try simp (disch := first | ((try simp (disch := first | ((try simp only [pn]) <;> omega) | fail) only [pn, pq]) <;> omega) | fail) only [pn, pq]) <;> omega)
              · (try simp (disch := first | ((try simp (disch := first | ((try simp only [pn]) <;> omega) | fail) only [pn, pq]) <;> omega) | fail) only [pn, pq]) <;> (intros; (try simp (disch := first | ((try simp (disch := first | ((try simp only [pn]) <;> omega) | fail) only [pn, pq]) <;> omega) | fail) only [pn, pq]) <;> omega)
    · try simp (disch := first | ((try simp (disch := first | ((try simp only [pn]) <;> omega) | fail) only [pn, pq]) <;> omega) | fail) only [pn, pq] at c7
      exact hq _ _ hJS1 hFS1 
theorem sf_X9_tuned {S : bT9} (hJ : J9 S) {a1 : Int32} {a2 : Int32} {Q : Int32 → (bT9) → Prop} (hq : ∀ (r : Int32) (u : bT9), (J9 u) → F_X9_tuned S u → ((SR9 S ∧ CLN (fun j => b9g_keys S (64 + j)) (fun j => b9g_lengths S (64 + j)) (b9g_now S 9).toInt ∧ QO9 S) → TUV (FQN (fun j => b9g_keys S (64 + j)) (fun j => b9g_lengths S (64 + j)) (b9g_now S 9).toInt (b9g_now S 16) (fun j => b9g_keys S (128 + j)) (fun j => b9g_lengths S (128 + j)) (b9g_now S 10).toInt.toNat) a1.toInt a2.toInt r.toInt) → Q r u) : wp_X9_tuned S a1 a2 Q := by
  by_cases hyp : SR9 S ∧ CLN (fun j => b9g_keys S (64 + j)) (fun j => b9g_lengths S (64 + j)) (b9g_now S 9).toInt ∧ QO9 S
  case neg => exact sj_X9_tuned hJ (fun r u j f => hq r u j f (fun a => absurd a hyp))
  case pos =>
    have jn := (J9g_now hJ).2.2.2.2.1
    unfold wp_X9_tuned
    intro S3 e3
    have jS3 : J9 S3 := by rw [e3]; exact J9s_told hJ
    have fS3 : F_X9_tuned S S3 := by rw [e3]; exact ⟨rfl, rfl, rfl, rfl, rfl, rfl, rfl, rfl, rfl, rfl, rfl, rfl, rfl, rfl, rfl, rfl, rfl, rfl, rfl, rfl, rfl, rfl, rfl, rfl, rfl, rfl, rfl, rfl, rfl, rfl, rfl, rfl, rfl, rfl, rfl, rfl, rfl, rfl⟩
    refine sf_X9_isIn jS3.1 (fun r4 _ h4 => ⟨fun c => hq _ S3 jS3 fS3 (fun _ => ⟨fun z => ?_, fun _ => rfl⟩), fun c => sf_X9_isIn jS3.1 (fun r6 _ h6 => ⟨fun d => ?_, fun d => hq _ S3 jS3 fS3 (fun _ => ⟨fun z => ?_, fun _ => rfl⟩)⟩)⟩)
    · have c0 : r4.toInt = 0 := congrArg Int32.toInt c
      simp only [pn] at h4
      omega
    rotate_left
    · have d0 : r6.toInt = 0 := congrArg Int32.toInt d
      simp only [pn] at h6
      omega
    have c0 : ¬ r4.toInt = 0 := fun z => c (Int32.toInt_inj.mp z)
    have d0 : ¬ r6.toInt = 0 := fun z => d (Int32.toInt_inj.mp z)
    simp only [pn] at h4 h6
    have a1r : 0 ≤ a1.toInt ∧ a1.toInt ≤ 16 := by omega
    have a2r : 0 ≤ a2.toInt ∧ a2.toInt ≤ 2 := by omega
    have Frng : ∀ x y : Int, 0 ≤ (FQN (fun j => b9g_keys S (64 + j)) (fun j => b9g_lengths S (64 + j)) (b9g_now S 9).toInt (b9g_now S 16) (fun j => b9g_keys S (128 + j)) (fun j => b9g_lengths S (128 + j)) (b9g_now S 10).toInt.toNat) x y ∧ (FQN (fun j => b9g_keys S (64 + j)) (fun j => b9g_lengths S (64 + j)) (b9g_now S 9).toInt (b9g_now S 16) (fun j => b9g_keys S (128 + j)) (fun j => b9g_lengths S (128 + j)) (b9g_now S 10).toInt.toNat) x y ≤ 16 := by
      intro x y
      have := CTP_rng (fun i => FBQ (fun j => b9g_keys S (64 + j)) (fun j => b9g_lengths S (64 + j)) (b9g_now S 9).toInt (b9g_now S 16) (nI x.toNat) (nI y.toNat) (b9g_keys S (128 + i)) (b9g_lengths S (128 + i))) (b9g_now S 10).toInt.toNat
      exact ⟨this.1, Int.le_trans this.2 (by omega)⟩
    unfold wp_X9_tuned_37
    refine ⟨fun n x1 x2 x3 x4 x5 V => ∃ s : Nat, a1 = x1 ∧ a2 = x2 ∧ x5.toInt = (s : Int) ∧ (s : Int) ≤ a1.toInt + 1 ∧ J9 V ∧ F_X9_tuned S V ∧ STT (FQN (fun j => b9g_keys S (64 + j)) (fun j => b9g_lengths S (64 + j)) (b9g_now S 9).toInt (b9g_now S 16) (fun j => b9g_keys S (128 + j)) (fun j => b9g_lengths S (128 + j)) (b9g_now S 10).toInt.toNat) (s : Int) 0 x3.toInt x4.toInt ∧ n = 20 - s, ⟨_, 0, rfl, rfl, rfl, by omega, jS3, fS3, Or.inl ⟨rfl, rfl, rfl, rfl⟩, rfl⟩, ?_⟩
    rintro n x1 x2 x3 x4 x5 V ⟨s, rfl, rfl, e5, sw, jV, fV, st, hn⟩
    suffices H : ∀ B : Int32 → Int32 → Int32 → Int32 → Int32 → bT9 → Prop, (∀ (y3 y4 : Int32) (W : bT9), (s : Int) ≤ a1.toInt → J9 W → F_X9_tuned S W → STT (FQN (fun j => b9g_keys S (64 + j)) (fun j => b9g_lengths S (64 + j)) (b9g_now S 9).toInt (b9g_now S 16) (fun j => b9g_keys S (128 + j)) (fun j => b9g_lengths S (128 + j)) (b9g_now S 10).toInt.toNat) ((s : Int) + 1) 0 y3.toInt y4.toInt → B a1 a2 y3 y4 (x5 + 1) W) → wp_X9_tuned_37b V a1 a2 x3 x4 x5 Q B from H _ (fun y3 y4 W h1 h2 h3 h4 => ⟨20 - (s + 1), by omega, s + 1, rfl, rfl, by rw [pt_add (by rw [pl_1]; omega) (by rw [pl_1]; omega), pl_1, e5]; omega, by omega, h2, h3, h4, rfl⟩)
    intro B hB
    unfold wp_X9_tuned_37b
    refine ⟨fun g => ?_, fun g => ?_⟩
    · simp only [pn] at g
      have es : (s : Int) = a1.toInt + 1 := by omega
      rcases st with ⟨z, _⟩ | ⟨h, t, c, o, f1, f2⟩
      · omega
      rw [es] at o
      have o' := OPT_end o
      have ob := o'.1
      unfold VPR at ob
      have d9 : (x4 / (9 : Int32)).toInt = h := by
        rw [pt_div (by omega) (by decide)]
        show x4.toInt / 9 = h
        omega
      have m9 : (x4 / (9 : Int32) * (9 : Int32)).toInt = 9 * h := by
        rw [pt_mul (by rw [d9]; show _ ≤ h * 9; omega) (by rw [d9]; show h * 9 < _; omega), d9]
        show h * 9 = 9 * h
        omega
      have t9 : (x4 - x4 / (9 : Int32) * (9 : Int32)).toInt = t := by
        rw [pt_sub (by rw [m9]; omega) (by rw [m9]; omega), m9]
        omega
      have fin : ∀ r : Int32, (a2.toInt = 0 → r.toInt = h) → (a2.toInt = 1 → r.toInt = t) → (a2.toInt = 2 → r.toInt = c) → Q r V := fun r y0 y1 y2 => hq r V jV fV (fun _ => ⟨fun _ => ⟨h, t, c, o', y0, y1, y2⟩, fun z => absurd ⟨a1r, a2r⟩ z⟩)
      refine ⟨fun k => ⟨fun k2 => fin _ (fun z => absurd (Int32.toInt_inj.mp z) k) (fun z => absurd (Int32.toInt_inj.mp z) k2) (fun _ => f1), fun k2 => ⟨by decide, fin _ (fun z => absurd (Int32.toInt_inj.mp z) k) (fun _ => t9) (fun z => ?_)⟩⟩, fun k => ⟨by decide, fin _ (fun _ => d9) (fun z => ?_) (fun z => ?_)⟩⟩
      · rw [k2] at z
        exact absurd z (by decide)
      · rw [k] at z
        exact absurd z (by decide)
      · rw [k] at z
        exact absurd z (by decide)
    · simp only [pn] at g
      unfold wp_X9_tuned_46
      refine ⟨fun n x1 x2 x3 x4 x5' x6 V => ∃ t : Nat, a1 = x1 ∧ a2 = x2 ∧ x5 = x5' ∧ x6.toInt = (t : Int) ∧ t ≤ 9 ∧ (t : Int) ≤ (s : Int) + 1 ∧ J9 V ∧ F_X9_tuned S V ∧ STT (FQN (fun j => b9g_keys S (64 + j)) (fun j => b9g_lengths S (64 + j)) (b9g_now S 9).toInt (b9g_now S 16) (fun j => b9g_keys S (128 + j)) (fun j => b9g_lengths S (128 + j)) (b9g_now S 10).toInt.toNat) (s : Int) (t : Int) x3.toInt x4.toInt ∧ n = 20 - t, ⟨_, 0, rfl, rfl, rfl, rfl, by omega, by omega, jV, fV, st, rfl⟩, ?_⟩
      rintro n2 x1 x2 y3 y4 x5' x6 W ⟨t, rfl, rfl, rfl, e6, t9, ts, jW, fW, su, hn2⟩
      suffices H2 : ∀ B46 : Int32 → Int32 → Int32 → Int32 → Int32 → Int32 → bT9 → Prop, (∀ (z3 z4 : Int32) (U : bT9), (t : Int) ≤ 8 → (t : Int) ≤ (s : Int) → J9 U → F_X9_tuned S U → STT (FQN (fun j => b9g_keys S (64 + j)) (fun j => b9g_lengths S (64 + j)) (b9g_now S 9).toInt (b9g_now S 16) (fun j => b9g_keys S (128 + j)) (fun j => b9g_lengths S (128 + j)) (b9g_now S 10).toInt.toNat) (s : Int) ((t : Int) + 1) z3.toInt z4.toInt → B46 a1 a2 z3 z4 x5 (x6 + 1) U) → wp_X9_tuned_46b W a1 a2 y3 y4 x5 x6 Q B B46 from H2 _ (fun z3 z4 U h1 h2 h3 h4 h5 => ⟨20 - (t + 1), by omega, t + 1, rfl, rfl, rfl, by rw [pt_add (by rw [pl_1]; omega) (by rw [pl_1]; omega), pl_1, e6]; omega, by omega, by omega, h3, h4, h5, rfl⟩)
      intro B46 hB46
      unfold wp_X9_tuned_46b wp_X9_tuned_117 wp_X9_tuned_111
      have d56 : (x5 - x6).toInt = (s : Int) - (t : Int) := by rw [pt_sub (by omega) (by omega), e5, e6]
      refine ⟨fun k => ?_, fun k => ⟨fun k2 => ?_, fun k2 => ⟨fun k3 => ?_, fun k3 => ?_⟩⟩⟩
      · simp only [pn] at k
        exact hB y3 y4 W (by omega) jW fW (STT_lev su (by omega) (by omega))
      · simp only [pn] at k2
        exact hB y3 y4 W (by omega) jW fW (STT_lev su (by omega) (by omega))
      · simp only [pn] at k k2
        have k3' : (x5 - x6).toInt ≤ 8 := Int32.le_iff_toInt_le.mp k3
        rw [d56] at k3'
        have t8 : (t : Int) ≤ 8 := by
          apply Classical.byContradiction
          intro y
          exact k (by omega)
        have nW : b9g_now W = b9g_now S := fW.1
        have kW : b9g_keys W = b9g_keys S := fW.2.1
        have lW : b9g_lengths W = b9g_lengths S := fW.2.2.1
        refine sf_X9_wrongBy jW (fun r1 u2 j2 f2 w2 => ?_)
        have f2' : F_X9_tuned S u2 := ⟨(f2.2.1).trans (fW.1), (f2.2.2.1).trans (fW.2.1), (f2.2.2.2.1).trans (fW.2.2.1), (f2.2.2.2.2.1).trans (fW.2.2.2.1), (f2.2.2.2.2.2.1).trans (fW.2.2.2.2.1), (f2.2.2.2.2.2.2.1).trans (fW.2.2.2.2.2.1), (f2.2.2.2.2.2.2.2.1).trans (fW.2.2.2.2.2.2.1), (f2.2.2.2.2.2.2.2.2.1).trans (fW.2.2.2.2.2.2.2.1), (f2.2.2.2.2.2.2.2.2.2.1).trans (fW.2.2.2.2.2.2.2.2.1), (f2.2.2.2.2.2.2.2.2.2.2.1).trans (fW.2.2.2.2.2.2.2.2.2.1), (f2.2.2.2.2.2.2.2.2.2.2.2.1).trans (fW.2.2.2.2.2.2.2.2.2.2.1), (f2.2.2.2.2.2.2.2.2.2.2.2.2.1).trans (fW.2.2.2.2.2.2.2.2.2.2.2.1), (f2.2.2.2.2.2.2.2.2.2.2.2.2.2.1).trans (fW.2.2.2.2.2.2.2.2.2.2.2.2.1), (f2.2.2.2.2.2.2.2.2.2.2.2.2.2.2.1).trans (fW.2.2.2.2.2.2.2.2.2.2.2.2.2.1), (f2.2.2.2.2.2.2.2.2.2.2.2.2.2.2.2.1).trans (fW.2.2.2.2.2.2.2.2.2.2.2.2.2.2.1), (f2.2.2.2.2.2.2.2.2.2.2.2.2.2.2.2.2.1).trans (fW.2.2.2.2.2.2.2.2.2.2.2.2.2.2.2.1), (f2.2.2.2.2.2.2.2.2.2.2.2.2.2.2.2.2.2.1).trans (fW.2.2.2.2.2.2.2.2.2.2.2.2.2.2.2.2.1), (f2.2.2.2.2.2.2.2.2.2.2.2.2.2.2.2.2.2.2.1).trans (fW.2.2.2.2.2.2.2.2.2.2.2.2.2.2.2.2.2.1), (f2.2.2.2.2.2.2.2.2.2.2.2.2.2.2.2.2.2.2.2.1).trans (fW.2.2.2.2.2.2.2.2.2.2.2.2.2.2.2.2.2.2.1), (f2.2.2.2.2.2.2.2.2.2.2.2.2.2.2.2.2.2.2.2.2.1).trans (fW.2.2.2.2.2.2.2.2.2.2.2.2.2.2.2.2.2.2.2.1), (f2.2.2.2.2.2.2.2.2.2.2.2.2.2.2.2.2.2.2.2.2.2.1).trans (fW.2.2.2.2.2.2.2.2.2.2.2.2.2.2.2.2.2.2.2.2.1), (f2.2.2.2.2.2.2.2.2.2.2.2.2.2.2.2.2.2.2.2.2.2.2.1).trans (fW.2.2.2.2.2.2.2.2.2.2.2.2.2.2.2.2.2.2.2.2.2.1), (f2.2.2.2.2.2.2.2.2.2.2.2.2.2.2.2.2.2.2.2.2.2.2.2.1).trans (fW.2.2.2.2.2.2.2.2.2.2.2.2.2.2.2.2.2.2.2.2.2.2.1), (f2.2.2.2.2.2.2.2.2.2.2.2.2.2.2.2.2.2.2.2.2.2.2.2.2.1).trans (fW.2.2.2.2.2.2.2.2.2.2.2.2.2.2.2.2.2.2.2.2.2.2.2.1), (f2.2.2.2.2.2.2.2.2.2.2.2.2.2.2.2.2.2.2.2.2.2.2.2.2.2.1).trans (fW.2.2.2.2.2.2.2.2.2.2.2.2.2.2.2.2.2.2.2.2.2.2.2.2.1), (f2.2.2.2.2.2.2.2.2.2.2.2.2.2.2.2.2.2.2.2.2.2.2.2.2.2.2.1).trans (fW.2.2.2.2.2.2.2.2.2.2.2.2.2.2.2.2.2.2.2.2.2.2.2.2.2.1), (f2.2.2.2.2.2.2.2.2.2.2.2.2.2.2.2.2.2.2.2.2.2.2.2.2.2.2.2.1).trans (fW.2.2.2.2.2.2.2.2.2.2.2.2.2.2.2.2.2.2.2.2.2.2.2.2.2.2.1), (f2.2.2.2.2.2.2.2.2.2.2.2.2.2.2.2.2.2.2.2.2.2.2.2.2.2.2.2.2.1).trans (fW.2.2.2.2.2.2.2.2.2.2.2.2.2.2.2.2.2.2.2.2.2.2.2.2.2.2.2.1), (f2.2.2.2.2.2.2.2.2.2.2.2.2.2.2.2.2.2.2.2.2.2.2.2.2.2.2.2.2.2.1).trans (fW.2.2.2.2.2.2.2.2.2.2.2.2.2.2.2.2.2.2.2.2.2.2.2.2.2.2.2.2.1), (f2.2.2.2.2.2.2.2.2.2.2.2.2.2.2.2.2.2.2.2.2.2.2.2.2.2.2.2.2.2.2.1).trans (fW.2.2.2.2.2.2.2.2.2.2.2.2.2.2.2.2.2.2.2.2.2.2.2.2.2.2.2.2.2.1), (f2.2.2.2.2.2.2.2.2.2.2.2.2.2.2.2.2.2.2.2.2.2.2.2.2.2.2.2.2.2.2.2.1).trans (fW.2.2.2.2.2.2.2.2.2.2.2.2.2.2.2.2.2.2.2.2.2.2.2.2.2.2.2.2.2.2.1), (f2.2.2.2.2.2.2.2.2.2.2.2.2.2.2.2.2.2.2.2.2.2.2.2.2.2.2.2.2.2.2.2.2.1).trans (fW.2.2.2.2.2.2.2.2.2.2.2.2.2.2.2.2.2.2.2.2.2.2.2.2.2.2.2.2.2.2.2.1), (f2.2.2.2.2.2.2.2.2.2.2.2.2.2.2.2.2.2.2.2.2.2.2.2.2.2.2.2.2.2.2.2.2.2.1).trans (fW.2.2.2.2.2.2.2.2.2.2.2.2.2.2.2.2.2.2.2.2.2.2.2.2.2.2.2.2.2.2.2.2.1), (f2.2.2.2.2.2.2.2.2.2.2.2.2.2.2.2.2.2.2.2.2.2.2.2.2.2.2.2.2.2.2.2.2.2.2.1).trans (fW.2.2.2.2.2.2.2.2.2.2.2.2.2.2.2.2.2.2.2.2.2.2.2.2.2.2.2.2.2.2.2.2.2.1), (f2.2.2.2.2.2.2.2.2.2.2.2.2.2.2.2.2.2.2.2.2.2.2.2.2.2.2.2.2.2.2.2.2.2.2.2.1).trans (fW.2.2.2.2.2.2.2.2.2.2.2.2.2.2.2.2.2.2.2.2.2.2.2.2.2.2.2.2.2.2.2.2.2.2.1), (f2.2.2.2.2.2.2.2.2.2.2.2.2.2.2.2.2.2.2.2.2.2.2.2.2.2.2.2.2.2.2.2.2.2.2.2.2.1).trans (fW.2.2.2.2.2.2.2.2.2.2.2.2.2.2.2.2.2.2.2.2.2.2.2.2.2.2.2.2.2.2.2.2.2.2.2.1), (f2.2.2.2.2.2.2.2.2.2.2.2.2.2.2.2.2.2.2.2.2.2.2.2.2.2.2.2.2.2.2.2.2.2.2.2.2.2.1).trans (fW.2.2.2.2.2.2.2.2.2.2.2.2.2.2.2.2.2.2.2.2.2.2.2.2.2.2.2.2.2.2.2.2.2.2.2.2.1), (f2.2.2.2.2.2.2.2.2.2.2.2.2.2.2.2.2.2.2.2.2.2.2.2.2.2.2.2.2.2.2.2.2.2.2.2.2.2.2).trans (fW.2.2.2.2.2.2.2.2.2.2.2.2.2.2.2.2.2.2.2.2.2.2.2.2.2.2.2.2.2.2.2.2.2.2.2.2.2)⟩
        unfold SR9 QO9 at w2
        rw [kW, lW, nW] at w2
        have r1v : r1.toInt = (FQN (fun j => b9g_keys S (64 + j)) (fun j => b9g_lengths S (64 + j)) (b9g_now S 9).toInt (b9g_now S 16) (fun j => b9g_keys S (128 + j)) (fun j => b9g_lengths S (128 + j)) (b9g_now S 10).toInt.toNat) (t : Int) ((s : Int) - (t : Int)) := by
          rw [w2 hyp ⟨by omega, by omega⟩ ⟨by omega, by omega⟩]
          unfold FQN
          rw [show nI ((t : Int)).toNat = x6 by rw [← e6]; exact nI_back (by omega), show nI ((s : Int) - (t : Int)).toNat = x5 - x6 by rw [← d56]; exact nI_back (by omega)]
        have fr := Frng (t : Int) ((s : Int) - (t : Int))
        refine ⟨fun m => ?_, fun m => ?_⟩
        · simp only [pn] at m
          have m1 : ((9 : Int32) * x6).toInt = 9 * (t : Int) := by
            rw [pt_mul (by rw [e6]; show _ ≤ 9 * _; omega) (by rw [e6]; show 9 * _ < _; omega), e6]
            rfl
          have m2 : ((9 : Int32) * x6 + x5).toInt = 9 * (t : Int) + (s : Int) := by rw [pt_add (by omega) (by omega), m1, e5]
          have m3 : ((9 : Int32) * x6 + x5 - x6).toInt = 9 * (t : Int) + ((s : Int) - (t : Int)) := by
            rw [pt_sub (by omega) (by omega), m2, e6]
            omega
          refine hB46 r1 _ u2 t8 (by omega) j2 f2' ?_
          rw [m3, r1v]
          exact STT_new su ⟨by omega, by omega, by omega, by omega⟩ (by rw [← r1v]; exact m)
        · simp only [pn] at m
          exact hB46 y3 y4 u2 t8 (by omega) j2 f2' (STT_old su (fun _ => ⟨by omega, fr.2⟩))
      · simp only [pn] at k k2
        have k3' : ¬ (x5 - x6).toInt ≤ 8 := fun y => k3 (Int32.le_iff_toInt_le.mpr y)
        rw [d56] at k3'
        have t8 : (t : Int) ≤ 8 := by
          apply Classical.byContradiction
          intro y
          exact k (by omega)
        exact hB46 y3 y4 W t8 (by omega) jW fW (STT_old su (fun z => by exfalso; omega))
def F_X9_storm (S u : bT9) : Prop := (b9g_keys u) = (b9g_keys S) ∧ (b9g_lengths u) = (b9g_lengths S) ∧ (b9g_tape u) = (b9g_tape S) ∧ (b9g_taped u) = (b9g_taped S) ∧ (b9g_names u) = (b9g_names S) ∧ (b9g_chosen u) = (b9g_chosen S) ∧ (b9g_nodeLevel u) = (b9g_nodeLevel S) ∧ (b9g_nodeLeaf u) = (b9g_nodeLeaf S) ∧ (b9g_nodeLeaves u) = (b9g_nodeLeaves S) ∧ (b9g_nodeMany u) = (b9g_nodeMany S) ∧ (b9g_levelMany u) = (b9g_levelMany S) ∧ (b9g_upper u) = (b9g_upper S) ∧ (b9g_upperNodes u) = (b9g_upperNodes S) ∧ (b9g_areNodesLaid u) = (b9g_areNodesLaid S) ∧ (b9g_itemNode u) = (b9g_itemNode S) ∧ (b9g_itemByte u) = (b9g_itemByte S) ∧ (b9g_itemChild u) = (b9g_itemChild S) ∧ (b9g_itemMany u) = (b9g_itemMany S) ∧ (b9g_placeOf u) = (b9g_placeOf S) ∧ (b9g_leafOfPlace u) = (b9g_leafOfPlace S) ∧ (b9g_places u) = (b9g_places S) ∧ (b9g_fromKey u) = (b9g_fromKey S) ∧ (b9g_toKey u) = (b9g_toKey S) ∧ (b9g_fromLength u) = (b9g_fromLength S) ∧ (b9g_toLength u) = (b9g_toLength S) ∧ (b9g_ones u) = (b9g_ones S) ∧ (b9g_oneMany u) = (b9g_oneMany S) ∧ (b9g_rowLong u) = (b9g_rowLong S) ∧ (b9g_laidFor u) = (b9g_laidFor S) ∧ (b9g_signs u) = (b9g_signs S) ∧ (b9g_signMany u) = (b9g_signMany S) ∧ (b9g_hasImage u) = (b9g_hasImage S) ∧ (b9g_images u) = (b9g_images S) ∧ (b9g_keyImages u) = (b9g_keyImages S) ∧ (b9g_lengthImages u) = (b9g_lengthImages S)
theorem sf_X9_storm {S : bT9} (hJ : J9 S) {a1 : Int32} {a2 : Int32} {Q : Int32 → (bT9) → Prop} (hq : ∀ (r : Int32) (u : bT9), (J9 u) → F_X9_storm S u → (b9g_now u 7 = filS a1 a2 200 (b9g_now S 7)) → (∀ i : Nat, i < 17 → i ≠ 7 → b9g_now u i = b9g_now S i) → (SR9 S → (1 ≤ a1.toInt ∧ a1.toInt ≤ 200 ∧ 1 ≤ a2.toInt ∧ a2.toInt ≤ 8 → STR (fun j v => VRD (fun j => b9g_keys S (64 + j)) (fun j => b9g_lengths S (64 + j)) (b9g_now S 9).toInt (NBT (b9g_now S)) (b9g_now S 16) (HBT (b9g_now S)) (KN (b9g_now S 4 + 4) a2 (b9g_now S 7) j) (NN a2 (b9g_now S 7) j) v.toInt) 0 a1.toInt.toNat (fun j => b9g_now S (17 + j)) (fun j => b9g_now u (17 + j)) r) ∧ (¬ (1 ≤ a1.toInt ∧ a1.toInt ≤ 200 ∧ 1 ≤ a2.toInt ∧ a2.toInt ≤ 8) → r.toInt = -1 ∧ b9g_now u = b9g_now S)) → (b9g_now u 10 = b9g_now S 10) → (b9g_now u 4 = b9g_now S 4) → (b9g_now u 8 = b9g_now S 8) → Q r u) : wp_X9_storm S a1 a2 Q := by
  unfold wp_X9_storm
  intro S1 e1
  have hJ1 : J9 S1 := by rw [e1]; exact J9s_told hJ
  have hF1 : F_X9_storm S S1 := by rw [e1]; exact ⟨rfl, rfl, rfl, rfl, rfl, rfl, rfl, rfl, rfl, rfl, rfl, rfl, rfl, rfl, rfl, rfl, rfl, rfl, rfl, rfl, rfl, rfl, rfl, rfl, rfl, rfl, rfl, rfl, rfl, rfl, rfl, rfl, rfl, rfl, rfl⟩
  have en : b9g_now S1 = b9g_now S := by rw [e1]
  have bad : ¬ (1 ≤ a1.toInt ∧ a1.toInt ≤ 200 ∧ 1 ≤ a2.toInt ∧ a2.toInt ≤ 8) → Q (-1) S1 := fun h => hq _ _ hJ1 hF1 (by rw [en]; exact (filS_0 h).symm) (fun i _ _ => by rw [en]) (fun _ => ⟨fun g => absurd g h, fun _ => ⟨rfl, en⟩⟩) (by rw [en]) (by rw [en]) (by rw [en])
  refine sf_X9_isIn hJ1.1 (fun r6 hz6 h6 => ⟨fun c => bad ?_, fun c => sf_X9_isIn hJ1.1 (fun r8 hz8 h8 => ⟨fun d => ?_, fun d => bad ?_⟩)⟩)
  · simp only [pn] at c h6; omega
  rotate_left
  · simp only [pn] at d h8; omega
  simp only [pn] at c d h6 h8
  have hok : 1 ≤ a1.toInt ∧ a1.toInt ≤ 200 ∧ 1 ≤ a2.toInt ∧ a2.toInt ≤ 8 := by omega
  unfold wp_X9_storm_35
  refine ⟨fun n x1 x2 x3 x4 V => x1 = a1 ∧ x2 = a2 ∧ 0 ≤ x4.toInt ∧ x4.toInt ≤ a1.toInt ∧ J9 V ∧ F_X9_storm S V ∧ b9g_now V 7 = stpN a2 x4.toInt.toNat (b9g_now S 7) ∧ (∀ i : Nat, i < 17 → i ≠ 7 → b9g_now V i = b9g_now S i) ∧ (SR9 S → STR (fun j v => VRD (fun j => b9g_keys S (64 + j)) (fun j => b9g_lengths S (64 + j)) (b9g_now S 9).toInt (NBT (b9g_now S)) (b9g_now S 16) (HBT (b9g_now S)) (KN (b9g_now S 4 + 4) a2 (b9g_now S 7) j) (NN a2 (b9g_now S 7) j) v.toInt) 0 x4.toInt.toNat (fun j => b9g_now S (17 + j)) (fun j => b9g_now V (17 + j)) x3) ∧ n = (a1.toInt - x4.toInt).toNat, ⟨_, rfl, rfl, by decide, by rw [pl_0]; omega, hJ1, hF1, by rw [z0, stpN0, en], fun i _ _ => by rw [en], fun _ => by rw [z0, en]; exact ⟨rfl, rfl⟩, rfl⟩, ?_⟩
  rintro n x1 x2 x3 x4 V ⟨e1', e2, h0, h1, hJV, hFV, hd, ho, hC, hn⟩
  unfold wp_X9_storm_35b
  rw [e1', e2]
  refine ⟨fun c2 => ?_, fun c2 => ?_⟩
  · simp only [pn] at c2
    have ex : x4.toInt = a1.toInt := by omega
    rw [ex] at hd hC
    exact hq _ _ hJV hFV (hd.trans (filS_1 hok).symm) ho (fun hs => ⟨fun _ => hC hs, fun h => absurd hok h⟩) (ho 10 (by decide) (by decide)) (ho 4 (by decide) (by decide)) (ho 8 (by decide) (by decide))
  simp only [pn] at c2
  have x4' : (x4 + 1).toInt = x4.toInt + 1 := by rw [pt_add (by rw [pl_1]; omega) (by rw [pl_1]; omega), pl_1]
  refine sf_X9_draws hJV (by omega) (by omega) (fun u2 hJ2 hf2 l1 l8 d2 n2 k2 o2 t2 => sf_X9_asks hJ2 (fun r3 u4 hJ4 hf4 hv t1 t3 t4 t5 => ?_))
  have hF2 : F_X9_storm S u2 := ⟨(hf2.2.1).trans (hFV.1), (hf2.2.2.1).trans (hFV.2.1), (hf2.2.2.2.1).trans (hFV.2.2.1), (hf2.2.2.2.2.1).trans (hFV.2.2.2.1), (hf2.2.2.2.2.2.1).trans (hFV.2.2.2.2.1), (hf2.2.2.2.2.2.2.1).trans (hFV.2.2.2.2.2.1), (hf2.2.2.2.2.2.2.2.2.2.2.1).trans (hFV.2.2.2.2.2.2.1), (hf2.2.2.2.2.2.2.2.2.2.2.2.1).trans (hFV.2.2.2.2.2.2.2.1), (hf2.2.2.2.2.2.2.2.2.2.2.2.2.1).trans (hFV.2.2.2.2.2.2.2.2.1), (hf2.2.2.2.2.2.2.2.2.2.2.2.2.2.1).trans (hFV.2.2.2.2.2.2.2.2.2.1), (hf2.2.2.2.2.2.2.2.2.2.2.2.2.2.2.1).trans (hFV.2.2.2.2.2.2.2.2.2.2.1), (hf2.2.2.2.2.2.2.2.2.2.2.2.2.2.2.2.1).trans (hFV.2.2.2.2.2.2.2.2.2.2.2.1), (hf2.2.2.2.2.2.2.2.2.2.2.2.2.2.2.2.2.1).trans (hFV.2.2.2.2.2.2.2.2.2.2.2.2.1), (hf2.2.2.2.2.2.2.2.2.2.2.2.2.2.2.2.2.2.1).trans (hFV.2.2.2.2.2.2.2.2.2.2.2.2.2.1), (hf2.2.2.2.2.2.2.2.2.2.2.2.2.2.2.2.2.2.2.1).trans (hFV.2.2.2.2.2.2.2.2.2.2.2.2.2.2.1), (hf2.2.2.2.2.2.2.2.2.2.2.2.2.2.2.2.2.2.2.2.1).trans (hFV.2.2.2.2.2.2.2.2.2.2.2.2.2.2.2.1), (hf2.2.2.2.2.2.2.2.2.2.2.2.2.2.2.2.2.2.2.2.2.1).trans (hFV.2.2.2.2.2.2.2.2.2.2.2.2.2.2.2.2.1), (hf2.2.2.2.2.2.2.2.2.2.2.2.2.2.2.2.2.2.2.2.2.2.1).trans (hFV.2.2.2.2.2.2.2.2.2.2.2.2.2.2.2.2.2.1), (hf2.2.2.2.2.2.2.2.2.2.2.2.2.2.2.2.2.2.2.2.2.2.2.1).trans (hFV.2.2.2.2.2.2.2.2.2.2.2.2.2.2.2.2.2.2.1), (hf2.2.2.2.2.2.2.2.2.2.2.2.2.2.2.2.2.2.2.2.2.2.2.2.1).trans (hFV.2.2.2.2.2.2.2.2.2.2.2.2.2.2.2.2.2.2.2.1), (hf2.2.2.2.2.2.2.2.2.2.2.2.2.2.2.2.2.2.2.2.2.2.2.2.2.1).trans (hFV.2.2.2.2.2.2.2.2.2.2.2.2.2.2.2.2.2.2.2.2.1), (hf2.2.2.2.2.2.2.2.2.2.2.2.2.2.2.2.2.2.2.2.2.2.2.2.2.2.2.2.2.2.1).trans (hFV.2.2.2.2.2.2.2.2.2.2.2.2.2.2.2.2.2.2.2.2.2.1), (hf2.2.2.2.2.2.2.2.2.2.2.2.2.2.2.2.2.2.2.2.2.2.2.2.2.2.2.2.2.2.2.1).trans (hFV.2.2.2.2.2.2.2.2.2.2.2.2.2.2.2.2.2.2.2.2.2.2.1), (hf2.2.2.2.2.2.2.2.2.2.2.2.2.2.2.2.2.2.2.2.2.2.2.2.2.2.2.2.2.2.2.2.1).trans (hFV.2.2.2.2.2.2.2.2.2.2.2.2.2.2.2.2.2.2.2.2.2.2.2.1), (hf2.2.2.2.2.2.2.2.2.2.2.2.2.2.2.2.2.2.2.2.2.2.2.2.2.2.2.2.2.2.2.2.2.1).trans (hFV.2.2.2.2.2.2.2.2.2.2.2.2.2.2.2.2.2.2.2.2.2.2.2.2.1), (hf2.2.2.2.2.2.2.2.2.2.2.2.2.2.2.2.2.2.2.2.2.2.2.2.2.2.2.2.2.2.2.2.2.2.1).trans (hFV.2.2.2.2.2.2.2.2.2.2.2.2.2.2.2.2.2.2.2.2.2.2.2.2.2.1), (hf2.2.2.2.2.2.2.2.2.2.2.2.2.2.2.2.2.2.2.2.2.2.2.2.2.2.2.2.2.2.2.2.2.2.2.1).trans (hFV.2.2.2.2.2.2.2.2.2.2.2.2.2.2.2.2.2.2.2.2.2.2.2.2.2.2.1), (hf2.2.2.2.2.2.2.2.2.2.2.2.2.2.2.2.2.2.2.2.2.2.2.2.2.2.2.2.2.2.2.2.2.2.2.2.1).trans (hFV.2.2.2.2.2.2.2.2.2.2.2.2.2.2.2.2.2.2.2.2.2.2.2.2.2.2.2.1), (hf2.2.2.2.2.2.2.2.2.2.2.2.2.2.2.2.2.2.2.2.2.2.2.2.2.2.2.2.2.2.2.2.2.2.2.2.2.1).trans (hFV.2.2.2.2.2.2.2.2.2.2.2.2.2.2.2.2.2.2.2.2.2.2.2.2.2.2.2.2.1), (hf2.2.2.2.2.2.2.2.2.2.2.2.2.2.2.2.2.2.2.2.2.2.2.2.2.2.2.2.2.2.2.2.2.2.2.2.2.2.1).trans (hFV.2.2.2.2.2.2.2.2.2.2.2.2.2.2.2.2.2.2.2.2.2.2.2.2.2.2.2.2.2.1), (hf2.2.2.2.2.2.2.2.2.2.2.2.2.2.2.2.2.2.2.2.2.2.2.2.2.2.2.2.2.2.2.2.2.2.2.2.2.2.2.1).trans (hFV.2.2.2.2.2.2.2.2.2.2.2.2.2.2.2.2.2.2.2.2.2.2.2.2.2.2.2.2.2.2.1), (hf2.2.2.2.2.2.2.2.2.2.2.2.2.2.2.2.2.2.2.2.2.2.2.2.2.2.2.2.2.2.2.2.2.2.2.2.2.2.2.2.1).trans (hFV.2.2.2.2.2.2.2.2.2.2.2.2.2.2.2.2.2.2.2.2.2.2.2.2.2.2.2.2.2.2.2.1), (hf2.2.2.2.2.2.2.2.2.2.2.2.2.2.2.2.2.2.2.2.2.2.2.2.2.2.2.2.2.2.2.2.2.2.2.2.2.2.2.2.2.1).trans (hFV.2.2.2.2.2.2.2.2.2.2.2.2.2.2.2.2.2.2.2.2.2.2.2.2.2.2.2.2.2.2.2.2.1), (hf2.2.2.2.2.2.2.2.2.2.2.2.2.2.2.2.2.2.2.2.2.2.2.2.2.2.2.2.2.2.2.2.2.2.2.2.2.2.2.2.2.2.1).trans (hFV.2.2.2.2.2.2.2.2.2.2.2.2.2.2.2.2.2.2.2.2.2.2.2.2.2.2.2.2.2.2.2.2.2.1), (hf2.2.2.2.2.2.2.2.2.2.2.2.2.2.2.2.2.2.2.2.2.2.2.2.2.2.2.2.2.2.2.2.2.2.2.2.2.2.2.2.2.2.2).trans (hFV.2.2.2.2.2.2.2.2.2.2.2.2.2.2.2.2.2.2.2.2.2.2.2.2.2.2.2.2.2.2.2.2.2.2)⟩
  have hF4 : F_X9_storm S u4 := ⟨(hf4.2.1).trans (hF2.1), (hf4.2.2.1).trans (hF2.2.1), (hf4.2.2.2.2.2.1).trans (hF2.2.2.1), (hf4.2.2.2.2.2.2.1).trans (hF2.2.2.2.1), (hf4.2.2.2.2.2.2.2.1).trans (hF2.2.2.2.2.1), (hf4.2.2.2.2.2.2.2.2.1).trans (hF2.2.2.2.2.2.1), (hf4.2.2.2.2.2.2.2.2.2.1).trans (hF2.2.2.2.2.2.2.1), (hf4.2.2.2.2.2.2.2.2.2.2.1).trans (hF2.2.2.2.2.2.2.2.1), (hf4.2.2.2.2.2.2.2.2.2.2.2.1).trans (hF2.2.2.2.2.2.2.2.2.1), (hf4.2.2.2.2.2.2.2.2.2.2.2.2.1).trans (hF2.2.2.2.2.2.2.2.2.2.1), (hf4.2.2.2.2.2.2.2.2.2.2.2.2.2.1).trans (hF2.2.2.2.2.2.2.2.2.2.2.1), (hf4.2.2.2.2.2.2.2.2.2.2.2.2.2.2.1).trans (hF2.2.2.2.2.2.2.2.2.2.2.2.1), (hf4.2.2.2.2.2.2.2.2.2.2.2.2.2.2.2.1).trans (hF2.2.2.2.2.2.2.2.2.2.2.2.2.1), (hf4.2.2.2.2.2.2.2.2.2.2.2.2.2.2.2.2.1).trans (hF2.2.2.2.2.2.2.2.2.2.2.2.2.2.1), (hf4.2.2.2.2.2.2.2.2.2.2.2.2.2.2.2.2.2.1).trans (hF2.2.2.2.2.2.2.2.2.2.2.2.2.2.2.1), (hf4.2.2.2.2.2.2.2.2.2.2.2.2.2.2.2.2.2.2.1).trans (hF2.2.2.2.2.2.2.2.2.2.2.2.2.2.2.2.1), (hf4.2.2.2.2.2.2.2.2.2.2.2.2.2.2.2.2.2.2.2.1).trans (hF2.2.2.2.2.2.2.2.2.2.2.2.2.2.2.2.2.1), (hf4.2.2.2.2.2.2.2.2.2.2.2.2.2.2.2.2.2.2.2.2.1).trans (hF2.2.2.2.2.2.2.2.2.2.2.2.2.2.2.2.2.2.1), (hf4.2.2.2.2.2.2.2.2.2.2.2.2.2.2.2.2.2.2.2.2.2.1).trans (hF2.2.2.2.2.2.2.2.2.2.2.2.2.2.2.2.2.2.2.1), (hf4.2.2.2.2.2.2.2.2.2.2.2.2.2.2.2.2.2.2.2.2.2.2.1).trans (hF2.2.2.2.2.2.2.2.2.2.2.2.2.2.2.2.2.2.2.2.1), (hf4.2.2.2.2.2.2.2.2.2.2.2.2.2.2.2.2.2.2.2.2.2.2.2.1).trans (hF2.2.2.2.2.2.2.2.2.2.2.2.2.2.2.2.2.2.2.2.2.1), (hf4.2.2.2.2.2.2.2.2.2.2.2.2.2.2.2.2.2.2.2.2.2.2.2.2.1).trans (hF2.2.2.2.2.2.2.2.2.2.2.2.2.2.2.2.2.2.2.2.2.2.1), (hf4.2.2.2.2.2.2.2.2.2.2.2.2.2.2.2.2.2.2.2.2.2.2.2.2.2.1).trans (hF2.2.2.2.2.2.2.2.2.2.2.2.2.2.2.2.2.2.2.2.2.2.2.1), (hf4.2.2.2.2.2.2.2.2.2.2.2.2.2.2.2.2.2.2.2.2.2.2.2.2.2.2.1).trans (hF2.2.2.2.2.2.2.2.2.2.2.2.2.2.2.2.2.2.2.2.2.2.2.2.1), (hf4.2.2.2.2.2.2.2.2.2.2.2.2.2.2.2.2.2.2.2.2.2.2.2.2.2.2.2.1).trans (hF2.2.2.2.2.2.2.2.2.2.2.2.2.2.2.2.2.2.2.2.2.2.2.2.2.1), (hf4.2.2.2.2.2.2.2.2.2.2.2.2.2.2.2.2.2.2.2.2.2.2.2.2.2.2.2.2.1).trans (hF2.2.2.2.2.2.2.2.2.2.2.2.2.2.2.2.2.2.2.2.2.2.2.2.2.2.1), (hf4.2.2.2.2.2.2.2.2.2.2.2.2.2.2.2.2.2.2.2.2.2.2.2.2.2.2.2.2.2.1).trans (hF2.2.2.2.2.2.2.2.2.2.2.2.2.2.2.2.2.2.2.2.2.2.2.2.2.2.2.1), (hf4.2.2.2.2.2.2.2.2.2.2.2.2.2.2.2.2.2.2.2.2.2.2.2.2.2.2.2.2.2.2.1).trans (hF2.2.2.2.2.2.2.2.2.2.2.2.2.2.2.2.2.2.2.2.2.2.2.2.2.2.2.2.1), (hf4.2.2.2.2.2.2.2.2.2.2.2.2.2.2.2.2.2.2.2.2.2.2.2.2.2.2.2.2.2.2.2.1).trans (hF2.2.2.2.2.2.2.2.2.2.2.2.2.2.2.2.2.2.2.2.2.2.2.2.2.2.2.2.2.1), (hf4.2.2.2.2.2.2.2.2.2.2.2.2.2.2.2.2.2.2.2.2.2.2.2.2.2.2.2.2.2.2.2.2.1).trans (hF2.2.2.2.2.2.2.2.2.2.2.2.2.2.2.2.2.2.2.2.2.2.2.2.2.2.2.2.2.2.1), (hf4.2.2.2.2.2.2.2.2.2.2.2.2.2.2.2.2.2.2.2.2.2.2.2.2.2.2.2.2.2.2.2.2.2.1).trans (hF2.2.2.2.2.2.2.2.2.2.2.2.2.2.2.2.2.2.2.2.2.2.2.2.2.2.2.2.2.2.2.1), (hf4.2.2.2.2.2.2.2.2.2.2.2.2.2.2.2.2.2.2.2.2.2.2.2.2.2.2.2.2.2.2.2.2.2.2.1).trans (hF2.2.2.2.2.2.2.2.2.2.2.2.2.2.2.2.2.2.2.2.2.2.2.2.2.2.2.2.2.2.2.2.1), (hf4.2.2.2.2.2.2.2.2.2.2.2.2.2.2.2.2.2.2.2.2.2.2.2.2.2.2.2.2.2.2.2.2.2.2.2.1).trans (hF2.2.2.2.2.2.2.2.2.2.2.2.2.2.2.2.2.2.2.2.2.2.2.2.2.2.2.2.2.2.2.2.2.1), (hf4.2.2.2.2.2.2.2.2.2.2.2.2.2.2.2.2.2.2.2.2.2.2.2.2.2.2.2.2.2.2.2.2.2.2.2.2.1).trans (hF2.2.2.2.2.2.2.2.2.2.2.2.2.2.2.2.2.2.2.2.2.2.2.2.2.2.2.2.2.2.2.2.2.2.1), (hf4.2.2.2.2.2.2.2.2.2.2.2.2.2.2.2.2.2.2.2.2.2.2.2.2.2.2.2.2.2.2.2.2.2.2.2.2.2).trans (hF2.2.2.2.2.2.2.2.2.2.2.2.2.2.2.2.2.2.2.2.2.2.2.2.2.2.2.2.2.2.2.2.2.2.2)⟩
  obtain ⟨v, hV, hr, hN⟩ := hv
  have kk : b9g_keys u2 = b9g_keys S := hF2.1
  have kl : b9g_lengths u2 = b9g_lengths S := hF2.2.1
  have eN : b9g_drawnLength u2 = NN a2 (b9g_now S 7) x4.toInt.toNat := by
    rw [n2, hd]
    rfl
  have eK : b9g_drawn u2 = KN (b9g_now S 4 + 4) a2 (b9g_now S 7) x4.toInt.toNat := by
    rw [k2, eN, hd, ho 4 (by decide) (by decide)]
    rfl
  have o2' : ∀ i : Nat, i < 17 → i ≠ 7 → b9g_now u2 i = b9g_now S i := fun i a b => (o2 i b).trans (ho i a b)
  have q9 : b9g_now u2 9 = b9g_now S 9 := o2' 9 (by decide) (by decide)
  have q16 : b9g_now u2 16 = b9g_now S 16 := o2' 16 (by decide) (by decide)
  have qb : NBT (b9g_now u2) = NBT (b9g_now S) := by
    unfold NBT
    rw [o2' 15 (by decide) (by decide), o2' 12 (by decide) (by decide)]
  have qh : HBT (b9g_now u2) = HBT (b9g_now S) := by
    unfold HBT
    rw [o2' 15 (by decide) (by decide), o2' 11 (by decide) (by decide)]
  rw [eN] at l1 l8
  unfold SR9 at hV
  rw [kk, kl, q9, q16, qb, qh, eK, eN] at hV
  have sl : (fun j => b9g_now u4 (17 + j)) = NTE (fun j => b9g_now V (17 + j)) 0 (YN v) (IS2 v) := by
    have a : (fun j => b9g_now V (17 + j)) = (fun j => b9g_now u2 (17 + j)) := by
      funext j
      exact (o2 (17 + j) (by omega)).symm
    rw [a, ← NTE_slice, hN]
  refine ⟨_, ?_, rfl, rfl, by omega, by omega, hJ4, hF4, ?_, fun i hi h7 => ?_, fun hs => STR_step h0 (by omega) (hC hs) (hV hs l1 l8) sl (by rw [hr]), rfl⟩
  · omega
  · rw [hN, NTE_lt (by omega), d2, hd, stpN_s h0 (by omega)]
  · rw [hN, NTE_lt (by omega), o2 i h7, ho i hi h7]
def F_X9_stormRange (S u : bT9) : Prop := (b9g_keys u) = (b9g_keys S) ∧ (b9g_lengths u) = (b9g_lengths S) ∧ (b9g_tape u) = (b9g_tape S) ∧ (b9g_taped u) = (b9g_taped S) ∧ (b9g_names u) = (b9g_names S) ∧ (b9g_chosen u) = (b9g_chosen S) ∧ (b9g_nodeLevel u) = (b9g_nodeLevel S) ∧ (b9g_nodeLeaf u) = (b9g_nodeLeaf S) ∧ (b9g_nodeLeaves u) = (b9g_nodeLeaves S) ∧ (b9g_nodeMany u) = (b9g_nodeMany S) ∧ (b9g_levelMany u) = (b9g_levelMany S) ∧ (b9g_upper u) = (b9g_upper S) ∧ (b9g_upperNodes u) = (b9g_upperNodes S) ∧ (b9g_areNodesLaid u) = (b9g_areNodesLaid S) ∧ (b9g_itemNode u) = (b9g_itemNode S) ∧ (b9g_itemByte u) = (b9g_itemByte S) ∧ (b9g_itemChild u) = (b9g_itemChild S) ∧ (b9g_itemMany u) = (b9g_itemMany S) ∧ (b9g_placeOf u) = (b9g_placeOf S) ∧ (b9g_leafOfPlace u) = (b9g_leafOfPlace S) ∧ (b9g_places u) = (b9g_places S) ∧ (b9g_ones u) = (b9g_ones S) ∧ (b9g_oneMany u) = (b9g_oneMany S) ∧ (b9g_rowLong u) = (b9g_rowLong S) ∧ (b9g_laidFor u) = (b9g_laidFor S) ∧ (b9g_signs u) = (b9g_signs S) ∧ (b9g_signMany u) = (b9g_signMany S) ∧ (b9g_hasImage u) = (b9g_hasImage S) ∧ (b9g_images u) = (b9g_images S) ∧ (b9g_keyImages u) = (b9g_keyImages S) ∧ (b9g_lengthImages u) = (b9g_lengthImages S)
theorem sf_X9_stormRange {S : bT9} (hJ : J9 S) {a1 : Int32} {a2 : Int32} {a3 : Int32} {Q : Int32 → (bT9) → Prop} (hq : ∀ (r : Int32) (u : bT9), (J9 u) → F_X9_stormRange S u → (b9g_now u 7 = filR a1 a2 a3 (b9g_now S 7)) → (∀ i : Nat, i < 17 → i ≠ 7 → b9g_now u i = b9g_now S i) → (SR9 S → (1 ≤ a1.toInt ∧ a1.toInt ≤ 200 ∧ 1 ≤ a2.toInt ∧ a2.toInt ≤ 8 ∧ 0 ≤ a3.toInt ∧ a3.toInt ≤ 255 → STR (fun j v => STQ (fun j => b9g_keys S (64 + j)) (fun j => b9g_lengths S (64 + j)) (b9g_now S 9).toInt (NBT (b9g_now S)) (KN (b9g_now S 4 + 4) a2 (b9g_now S 7) j) (NN a2 (b9g_now S 7) j) a3 v) 3 a1.toInt.toNat (fun j => b9g_now S (17 + j)) (fun j => b9g_now u (17 + j)) r) ∧ (¬ (1 ≤ a1.toInt ∧ a1.toInt ≤ 200 ∧ 1 ≤ a2.toInt ∧ a2.toInt ≤ 8 ∧ 0 ≤ a3.toInt ∧ a3.toInt ≤ 255) → r.toInt = -1 ∧ b9g_now u = b9g_now S)) → (b9g_now u 10 = b9g_now S 10) → (b9g_now u 4 = b9g_now S 4) → (b9g_now u 8 = b9g_now S 8) → Q r u) : wp_X9_stormRange S a1 a2 a3 Q := by
  unfold wp_X9_stormRange
  intro S1 e1
  have hJ1 : J9 S1 := by rw [e1]; exact J9s_told hJ
  have hF1 : F_X9_stormRange S S1 := by rw [e1]; exact ⟨rfl, rfl, rfl, rfl, rfl, rfl, rfl, rfl, rfl, rfl, rfl, rfl, rfl, rfl, rfl, rfl, rfl, rfl, rfl, rfl, rfl, rfl, rfl, rfl, rfl, rfl, rfl, rfl, rfl, rfl, rfl⟩
  have en : b9g_now S1 = b9g_now S := by rw [e1]
  have bad : ¬ (1 ≤ a1.toInt ∧ a1.toInt ≤ 200 ∧ 1 ≤ a2.toInt ∧ a2.toInt ≤ 8 ∧ 0 ≤ a3.toInt ∧ a3.toInt ≤ 255) → Q (-1) S1 := fun h => hq _ _ hJ1 hF1 (by rw [en]; exact (filR_0 h).symm) (fun i _ _ => by rw [en]) (fun _ => ⟨fun g => absurd g h, fun _ => ⟨rfl, en⟩⟩) (by rw [en]) (by rw [en]) (by rw [en])
  refine sf_X9_isIn hJ1.1 (fun r6 hz6 h6 => ⟨fun c => bad ?_, fun c => sf_X9_isIn hJ1.1 (fun r8 hz8 h8 => ⟨fun d => bad ?_, fun d => sf_X9_isIn hJ1.1 (fun r9 hz9 h9 => ⟨fun e => ?_, fun e => bad ?_⟩)⟩)⟩)
  · simp only [pn] at c h6; omega
  · simp only [pn] at d h8; omega
  rotate_left
  · simp only [pn] at e h9; omega
  simp only [pn] at c d e h6 h8 h9
  have hok : 1 ≤ a1.toInt ∧ a1.toInt ≤ 200 ∧ 1 ≤ a2.toInt ∧ a2.toInt ≤ 8 ∧ 0 ≤ a3.toInt ∧ a3.toInt ≤ 255 := by omega
  unfold wp_X9_stormRange_48
  refine ⟨fun n x1 x2 x3 x4 x5 V => x1 = a1 ∧ x2 = a2 ∧ x3 = a3 ∧ 0 ≤ x5.toInt ∧ x5.toInt ≤ a1.toInt ∧ J9 V ∧ F_X9_stormRange S V ∧ b9g_now V 7 = stpN a2 x5.toInt.toNat (b9g_now S 7) ∧ (∀ i : Nat, i < 17 → i ≠ 7 → b9g_now V i = b9g_now S i) ∧ (SR9 S → STR (fun j v => STQ (fun j => b9g_keys S (64 + j)) (fun j => b9g_lengths S (64 + j)) (b9g_now S 9).toInt (NBT (b9g_now S)) (KN (b9g_now S 4 + 4) a2 (b9g_now S 7) j) (NN a2 (b9g_now S 7) j) a3 v) 3 x5.toInt.toNat (fun j => b9g_now S (17 + j)) (fun j => b9g_now V (17 + j)) x4) ∧ n = (a1.toInt - x5.toInt).toNat, ⟨_, rfl, rfl, rfl, by decide, by rw [pl_0]; omega, hJ1, hF1, by rw [z0, stpN0, en], fun i _ _ => by rw [en], fun _ => by rw [z0, en]; exact ⟨rfl, rfl⟩, rfl⟩, ?_⟩
  rintro n x1 x2 x3 x4 x5 V ⟨e1', e2, e3, h0, h1, hJV, hFV, hd, ho, hC, hn⟩
  unfold wp_X9_stormRange_48b
  rw [e1', e2, e3]
  refine ⟨fun c2 => ?_, fun c2 => ?_⟩
  · simp only [pn] at c2
    have ex : x5.toInt = a1.toInt := by omega
    rw [ex] at hd hC
    exact hq _ _ hJV hFV (hd.trans (filR_1 hok).symm) ho (fun hs => ⟨fun _ => hC hs, fun h => absurd hok h⟩) (ho 10 (by decide) (by decide)) (ho 4 (by decide) (by decide)) (ho 8 (by decide) (by decide))
  simp only [pn] at c2
  have x5' : (x5 + 1).toInt = x5.toInt + 1 := by rw [pt_add (by rw [pl_1]; omega) (by rw [pl_1]; omega), pl_1]
  refine sf_X9_draws hJV (by omega) (by omega) (fun u7 hJ7 hf7 l1 l8 d2 n2 k2 o2 t2 => fx9_byteOf ?_)
  have hF7 : F_X9_stormRange S u7 := ⟨(hf7.2.1).trans (hFV.1), (hf7.2.2.1).trans (hFV.2.1), (hf7.2.2.2.1).trans (hFV.2.2.1), (hf7.2.2.2.2.1).trans (hFV.2.2.2.1), (hf7.2.2.2.2.2.1).trans (hFV.2.2.2.2.1), (hf7.2.2.2.2.2.2.1).trans (hFV.2.2.2.2.2.1), (hf7.2.2.2.2.2.2.2.2.2.2.1).trans (hFV.2.2.2.2.2.2.1), (hf7.2.2.2.2.2.2.2.2.2.2.2.1).trans (hFV.2.2.2.2.2.2.2.1), (hf7.2.2.2.2.2.2.2.2.2.2.2.2.1).trans (hFV.2.2.2.2.2.2.2.2.1), (hf7.2.2.2.2.2.2.2.2.2.2.2.2.2.1).trans (hFV.2.2.2.2.2.2.2.2.2.1), (hf7.2.2.2.2.2.2.2.2.2.2.2.2.2.2.1).trans (hFV.2.2.2.2.2.2.2.2.2.2.1), (hf7.2.2.2.2.2.2.2.2.2.2.2.2.2.2.2.1).trans (hFV.2.2.2.2.2.2.2.2.2.2.2.1), (hf7.2.2.2.2.2.2.2.2.2.2.2.2.2.2.2.2.1).trans (hFV.2.2.2.2.2.2.2.2.2.2.2.2.1), (hf7.2.2.2.2.2.2.2.2.2.2.2.2.2.2.2.2.2.1).trans (hFV.2.2.2.2.2.2.2.2.2.2.2.2.2.1), (hf7.2.2.2.2.2.2.2.2.2.2.2.2.2.2.2.2.2.2.1).trans (hFV.2.2.2.2.2.2.2.2.2.2.2.2.2.2.1), (hf7.2.2.2.2.2.2.2.2.2.2.2.2.2.2.2.2.2.2.2.1).trans (hFV.2.2.2.2.2.2.2.2.2.2.2.2.2.2.2.1), (hf7.2.2.2.2.2.2.2.2.2.2.2.2.2.2.2.2.2.2.2.2.1).trans (hFV.2.2.2.2.2.2.2.2.2.2.2.2.2.2.2.2.1), (hf7.2.2.2.2.2.2.2.2.2.2.2.2.2.2.2.2.2.2.2.2.2.1).trans (hFV.2.2.2.2.2.2.2.2.2.2.2.2.2.2.2.2.2.1), (hf7.2.2.2.2.2.2.2.2.2.2.2.2.2.2.2.2.2.2.2.2.2.2.1).trans (hFV.2.2.2.2.2.2.2.2.2.2.2.2.2.2.2.2.2.2.1), (hf7.2.2.2.2.2.2.2.2.2.2.2.2.2.2.2.2.2.2.2.2.2.2.2.1).trans (hFV.2.2.2.2.2.2.2.2.2.2.2.2.2.2.2.2.2.2.2.1), (hf7.2.2.2.2.2.2.2.2.2.2.2.2.2.2.2.2.2.2.2.2.2.2.2.2.1).trans (hFV.2.2.2.2.2.2.2.2.2.2.2.2.2.2.2.2.2.2.2.2.1), (hf7.2.2.2.2.2.2.2.2.2.2.2.2.2.2.2.2.2.2.2.2.2.2.2.2.2.2.2.2.2.2.2.2.2.1).trans (hFV.2.2.2.2.2.2.2.2.2.2.2.2.2.2.2.2.2.2.2.2.2.1), (hf7.2.2.2.2.2.2.2.2.2.2.2.2.2.2.2.2.2.2.2.2.2.2.2.2.2.2.2.2.2.2.2.2.2.2.1).trans (hFV.2.2.2.2.2.2.2.2.2.2.2.2.2.2.2.2.2.2.2.2.2.2.1), (hf7.2.2.2.2.2.2.2.2.2.2.2.2.2.2.2.2.2.2.2.2.2.2.2.2.2.2.2.2.2.2.2.2.2.2.2.1).trans (hFV.2.2.2.2.2.2.2.2.2.2.2.2.2.2.2.2.2.2.2.2.2.2.2.1), (hf7.2.2.2.2.2.2.2.2.2.2.2.2.2.2.2.2.2.2.2.2.2.2.2.2.2.2.2.2.2.2.2.2.2.2.2.2.1).trans (hFV.2.2.2.2.2.2.2.2.2.2.2.2.2.2.2.2.2.2.2.2.2.2.2.2.1), (hf7.2.2.2.2.2.2.2.2.2.2.2.2.2.2.2.2.2.2.2.2.2.2.2.2.2.2.2.2.2.2.2.2.2.2.2.2.2.1).trans (hFV.2.2.2.2.2.2.2.2.2.2.2.2.2.2.2.2.2.2.2.2.2.2.2.2.2.1), (hf7.2.2.2.2.2.2.2.2.2.2.2.2.2.2.2.2.2.2.2.2.2.2.2.2.2.2.2.2.2.2.2.2.2.2.2.2.2.2.1).trans (hFV.2.2.2.2.2.2.2.2.2.2.2.2.2.2.2.2.2.2.2.2.2.2.2.2.2.2.1), (hf7.2.2.2.2.2.2.2.2.2.2.2.2.2.2.2.2.2.2.2.2.2.2.2.2.2.2.2.2.2.2.2.2.2.2.2.2.2.2.2.1).trans (hFV.2.2.2.2.2.2.2.2.2.2.2.2.2.2.2.2.2.2.2.2.2.2.2.2.2.2.2.1), (hf7.2.2.2.2.2.2.2.2.2.2.2.2.2.2.2.2.2.2.2.2.2.2.2.2.2.2.2.2.2.2.2.2.2.2.2.2.2.2.2.2.1).trans (hFV.2.2.2.2.2.2.2.2.2.2.2.2.2.2.2.2.2.2.2.2.2.2.2.2.2.2.2.2.1), (hf7.2.2.2.2.2.2.2.2.2.2.2.2.2.2.2.2.2.2.2.2.2.2.2.2.2.2.2.2.2.2.2.2.2.2.2.2.2.2.2.2.2.1).trans (hFV.2.2.2.2.2.2.2.2.2.2.2.2.2.2.2.2.2.2.2.2.2.2.2.2.2.2.2.2.2.1), (hf7.2.2.2.2.2.2.2.2.2.2.2.2.2.2.2.2.2.2.2.2.2.2.2.2.2.2.2.2.2.2.2.2.2.2.2.2.2.2.2.2.2.2).trans (hFV.2.2.2.2.2.2.2.2.2.2.2.2.2.2.2.2.2.2.2.2.2.2.2.2.2.2.2.2.2.2)⟩
  intro S10 e10 S11 e11
  have hJ11 : J9 S11 := by rw [e11, e10]; exact J9s_fromLength (J9s_fromKey hJ7)
  have hF11 : F_X9_stormRange S S11 := by rw [e11, e10]; exact hF7
  have n11 : b9g_now S11 = b9g_now u7 := by rw [e11, e10]
  have kk : b9g_keys u7 = b9g_keys S := hF7.1
  have kl : b9g_lengths u7 = b9g_lengths S := hF7.2.1
  have eN : b9g_drawnLength u7 = NN a2 (b9g_now S 7) x5.toInt.toNat := by
    rw [n2, hd]
    rfl
  have eK : b9g_drawn u7 = KN (b9g_now S 4 + 4) a2 (b9g_now S 7) x5.toInt.toNat := by
    rw [k2, eN, hd, ho 4 (by decide) (by decide)]
    rfl
  have o2' : ∀ i : Nat, i < 17 → i ≠ 7 → b9g_now u7 i = b9g_now S i := fun i a b => (o2 i b).trans (ho i a b)
  have q9 : b9g_now u7 9 = b9g_now S 9 := o2' 9 (by decide) (by decide)
  have qb : NBT (b9g_now u7) = NBT (b9g_now S) := by
    unfold NBT
    rw [o2' 15 (by decide) (by decide), o2' 12 (by decide) (by decide)]
  obtain ⟨N, hN'⟩ : ∃ N : Int32, NN a2 (b9g_now S 7) x5.toInt.toNat = N := ⟨_, rfl⟩
  obtain ⟨K, hK'⟩ : ∃ K : Int64, KN (b9g_now S 4 + 4) a2 (b9g_now S 7) x5.toInt.toNat = K := ⟨_, rfl⟩
  have ck : CLK K N := by
    rw [← hN', ← hK']
    exact CLK_NN (by omega) (by omega) _
  rw [hN'] at eN
  rw [hK'] at eK
  rw [eN] at l1 l8
  have dr11 : b9g_drawn S11 = K := by rw [e11, e10]; exact eK
  have dl11 : b9g_drawnLength S11 = N := by rw [e11, e10]; exact eN
  have fk11 : b9g_fromKey S11 = K := by rw [e11, e10]; exact eK
  have fl11 : b9g_fromLength S11 = N := by
    have : b9g_fromLength S11 = b9g_drawnLength S10 := by rw [e11]
    rw [this, e10]
    exact eN
  have em : (N - 1).toInt = N.toInt - 1 := by rw [pt_sub (by rw [pl_1]; omega) (by rw [pl_1]; omega), pl_1]
  have oc7 := OCT_n K (i := N - 1) (by omega) (by omega)
  rw [em, show (N.toInt - 1).toNat + 1 = N.toInt.toNat by omega] at oc7
  have tail : ∀ t : Int32, t.toInt = min a3.toInt (255 - ((PX (ub K) N.toInt.toNat % 256 : Nat) : Int)) → wp_X9_stormRange_116 S11 a1 a2 a3 x4 x5 (b9g_drawn S11) t Q (fun x1 x2 x3 x4 x5 S_1 => ∃ n2 : Nat, n2 < n ∧ x1 = a1 ∧ x2 = a2 ∧ x3 = a3 ∧ 0 ≤ x5.toInt ∧ x5.toInt ≤ a1.toInt ∧ J9 S_1 ∧ F_X9_stormRange S S_1 ∧ b9g_now S_1 7 = stpN a2 x5.toInt.toNat (b9g_now S 7) ∧ (∀ i : Nat, i < 17 → i ≠ 7 → b9g_now S_1 i = b9g_now S i) ∧ (SR9 S → STR (fun j v => STQ (fun j => b9g_keys S (64 + j)) (fun j => b9g_lengths S (64 + j)) (b9g_now S 9).toInt (NBT (b9g_now S)) (KN (b9g_now S 4 + 4) a2 (b9g_now S 7) j) (NN a2 (b9g_now S 7) j) a3 v) 3 x5.toInt.toNat (fun j => b9g_now S (17 + j)) (fun j => b9g_now S_1 (17 + j)) x4) ∧ n2 = (a1.toInt - x5.toInt).toNat) := by
    intro t ht
    unfold wp_X9_stormRange_116
    rw [dr11, dl11]
    intro v1 ev S2 e2' S3 e3'
    have hJ3 : J9 S3 := by rw [e3', e2']; exact J9s_toLength (J9s_toKey hJ11)
    have hF3 : F_X9_stormRange S S3 := by rw [e3', e2']; exact hF11
    have n3 : b9g_now S3 = b9g_now u7 := by rw [e3', e2']; exact n11
    have k3 : b9g_keys S3 = b9g_keys S := hF3.1
    have l3 : b9g_lengths S3 = b9g_lengths S := hF3.2.1
    have w1 : b9g_fromKey S3 = K := by rw [e3', e2']; exact fk11
    have w2 : b9g_fromLength S3 = N := by rw [e3', e2']; exact fl11
    have w3 : b9g_toKey S3 = v1 := by rw [e3', e2']
    have w4 : b9g_toLength S3 = N := by
      have : b9g_toLength S3 = b9g_drawnLength S2 := by rw [e3']
      rw [this, e2']
      exact dl11
    have et : ub v1 = TOV (ub K) N.toInt.toNat a3.toInt.toNat := by
      rw [ev]
      exact to_ref l1 l8 ck (by omega) ht
    refine sf_X9_asksRange hJ3 (fun r4 u5 hJ5 hf5 hv t1 t3 t4 t5 => ?_)
    have hF5 : F_X9_stormRange S u5 := ⟨(hf5.2.1).trans (hF3.1), (hf5.2.2.1).trans (hF3.2.1), (hf5.2.2.2.2.2.1).trans (hF3.2.2.1), (hf5.2.2.2.2.2.2.1).trans (hF3.2.2.2.1), (hf5.2.2.2.2.2.2.2.1).trans (hF3.2.2.2.2.1), (hf5.2.2.2.2.2.2.2.2.1).trans (hF3.2.2.2.2.2.1), (hf5.2.2.2.2.2.2.2.2.2.1).trans (hF3.2.2.2.2.2.2.1), (hf5.2.2.2.2.2.2.2.2.2.2.1).trans (hF3.2.2.2.2.2.2.2.1), (hf5.2.2.2.2.2.2.2.2.2.2.2.1).trans (hF3.2.2.2.2.2.2.2.2.1), (hf5.2.2.2.2.2.2.2.2.2.2.2.2.1).trans (hF3.2.2.2.2.2.2.2.2.2.1), (hf5.2.2.2.2.2.2.2.2.2.2.2.2.2.1).trans (hF3.2.2.2.2.2.2.2.2.2.2.1), (hf5.2.2.2.2.2.2.2.2.2.2.2.2.2.2.1).trans (hF3.2.2.2.2.2.2.2.2.2.2.2.1), (hf5.2.2.2.2.2.2.2.2.2.2.2.2.2.2.2.1).trans (hF3.2.2.2.2.2.2.2.2.2.2.2.2.1), (hf5.2.2.2.2.2.2.2.2.2.2.2.2.2.2.2.2.1).trans (hF3.2.2.2.2.2.2.2.2.2.2.2.2.2.1), (hf5.2.2.2.2.2.2.2.2.2.2.2.2.2.2.2.2.2.1).trans (hF3.2.2.2.2.2.2.2.2.2.2.2.2.2.2.1), (hf5.2.2.2.2.2.2.2.2.2.2.2.2.2.2.2.2.2.2.1).trans (hF3.2.2.2.2.2.2.2.2.2.2.2.2.2.2.2.1), (hf5.2.2.2.2.2.2.2.2.2.2.2.2.2.2.2.2.2.2.2.1).trans (hF3.2.2.2.2.2.2.2.2.2.2.2.2.2.2.2.2.1), (hf5.2.2.2.2.2.2.2.2.2.2.2.2.2.2.2.2.2.2.2.2.1).trans (hF3.2.2.2.2.2.2.2.2.2.2.2.2.2.2.2.2.2.1), (hf5.2.2.2.2.2.2.2.2.2.2.2.2.2.2.2.2.2.2.2.2.2.1).trans (hF3.2.2.2.2.2.2.2.2.2.2.2.2.2.2.2.2.2.2.1), (hf5.2.2.2.2.2.2.2.2.2.2.2.2.2.2.2.2.2.2.2.2.2.2.1).trans (hF3.2.2.2.2.2.2.2.2.2.2.2.2.2.2.2.2.2.2.2.1), (hf5.2.2.2.2.2.2.2.2.2.2.2.2.2.2.2.2.2.2.2.2.2.2.2.1).trans (hF3.2.2.2.2.2.2.2.2.2.2.2.2.2.2.2.2.2.2.2.2.1), (hf5.2.2.2.2.2.2.2.2.2.2.2.2.2.2.2.2.2.2.2.2.2.2.2.2.2.2.2.2.1).trans (hF3.2.2.2.2.2.2.2.2.2.2.2.2.2.2.2.2.2.2.2.2.2.1), (hf5.2.2.2.2.2.2.2.2.2.2.2.2.2.2.2.2.2.2.2.2.2.2.2.2.2.2.2.2.2.1).trans (hF3.2.2.2.2.2.2.2.2.2.2.2.2.2.2.2.2.2.2.2.2.2.2.1), (hf5.2.2.2.2.2.2.2.2.2.2.2.2.2.2.2.2.2.2.2.2.2.2.2.2.2.2.2.2.2.2.1).trans (hF3.2.2.2.2.2.2.2.2.2.2.2.2.2.2.2.2.2.2.2.2.2.2.2.1), (hf5.2.2.2.2.2.2.2.2.2.2.2.2.2.2.2.2.2.2.2.2.2.2.2.2.2.2.2.2.2.2.2.1).trans (hF3.2.2.2.2.2.2.2.2.2.2.2.2.2.2.2.2.2.2.2.2.2.2.2.2.1), (hf5.2.2.2.2.2.2.2.2.2.2.2.2.2.2.2.2.2.2.2.2.2.2.2.2.2.2.2.2.2.2.2.2.1).trans (hF3.2.2.2.2.2.2.2.2.2.2.2.2.2.2.2.2.2.2.2.2.2.2.2.2.2.1), (hf5.2.2.2.2.2.2.2.2.2.2.2.2.2.2.2.2.2.2.2.2.2.2.2.2.2.2.2.2.2.2.2.2.2.1).trans (hF3.2.2.2.2.2.2.2.2.2.2.2.2.2.2.2.2.2.2.2.2.2.2.2.2.2.2.1), (hf5.2.2.2.2.2.2.2.2.2.2.2.2.2.2.2.2.2.2.2.2.2.2.2.2.2.2.2.2.2.2.2.2.2.2.1).trans (hF3.2.2.2.2.2.2.2.2.2.2.2.2.2.2.2.2.2.2.2.2.2.2.2.2.2.2.2.1), (hf5.2.2.2.2.2.2.2.2.2.2.2.2.2.2.2.2.2.2.2.2.2.2.2.2.2.2.2.2.2.2.2.2.2.2.2.1).trans (hF3.2.2.2.2.2.2.2.2.2.2.2.2.2.2.2.2.2.2.2.2.2.2.2.2.2.2.2.2.1), (hf5.2.2.2.2.2.2.2.2.2.2.2.2.2.2.2.2.2.2.2.2.2.2.2.2.2.2.2.2.2.2.2.2.2.2.2.2.1).trans (hF3.2.2.2.2.2.2.2.2.2.2.2.2.2.2.2.2.2.2.2.2.2.2.2.2.2.2.2.2.2.1), (hf5.2.2.2.2.2.2.2.2.2.2.2.2.2.2.2.2.2.2.2.2.2.2.2.2.2.2.2.2.2.2.2.2.2.2.2.2.2).trans (hF3.2.2.2.2.2.2.2.2.2.2.2.2.2.2.2.2.2.2.2.2.2.2.2.2.2.2.2.2.2.2)⟩
    obtain ⟨v, hV, hr, hNN⟩ := hv
    unfold SR9 at hV
    rw [k3, l3, n3, q9, qb, w1, w2, w3, w4] at hV
    rw [n3] at hNN
    have sl : (fun j => b9g_now u5 (17 + j)) = NTE (fun j => b9g_now V (17 + j)) 3 (YN v) (IS2 v) := by
      have a : (fun j => b9g_now V (17 + j)) = (fun j => b9g_now u7 (17 + j)) := by
        funext j
        exact (o2 (17 + j) (by omega)).symm
      rw [a, ← NTE_slice, hNN]
    refine ⟨_, ?_, rfl, rfl, rfl, by omega, by omega, hJ5, hF5, ?_, fun i hi h7 => ?_, fun hs => STR_step h0 (by omega) (hC hs) (by rw [hN', hK']; exact ⟨v1, et, hV ⟨hs, ⟨l1, l8⟩, ⟨l1, l8⟩⟩⟩) sl (by rw [hr]), rfl⟩
    · omega
    · rw [hNN, NTE_lt (by omega), d2, hd, stpN_s h0 (by omega)]
    · rw [hNN, NTE_lt (by omega), o2 i h7, ho i hi h7]
  rw [eK, eN]
  have r8 := OCT_rng K (i := N - 1) (by omega) (by omega)
  have ea : (OCT K (N - 1) + a3).toInt = (OCT K (N - 1)).toInt + a3.toInt := pt_add (by omega) (by omega)
  have eb : ((255 : Int32) - OCT K (N - 1)).toInt = 255 - (OCT K (N - 1)).toInt := by
    have : ((255 : Int32)).toInt = 255 := rfl
    rw [pt_sub (by omega) (by omega), this]
  refine ⟨fun z => tail _ ?_, fun z => tail _ ?_⟩
  · simp only [pn] at z
    rw [ea] at z
    omega
  · simp only [pn] at z
    rw [ea] at z
    rw [eb]
    omega
