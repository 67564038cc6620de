def F_X9_laysBeginnings (S u : bT9) : Prop := (b9g_told u) = (b9g_told S) ∧ (b9g_now u) = (b9g_now S) ∧ (b9g_keys u) = (b9g_keys S) ∧ (b9g_lengths u) = (b9g_lengths S) ∧ (b9g_drawn u) = (b9g_drawn S) ∧ (b9g_drawnLength u) = (b9g_drawnLength S) ∧ (b9g_tape u) = (b9g_tape S) ∧ (b9g_taped u) = (b9g_taped S) ∧ (b9g_names u) = (b9g_names S) ∧ (b9g_chosen u) = (b9g_chosen S) ∧ (b9g_nodeLevel u) = (b9g_nodeLevel S) ∧ (b9g_nodeLeaf u) = (b9g_nodeLeaf S) ∧ (b9g_nodeLeaves u) = (b9g_nodeLeaves S) ∧ (b9g_nodeMany u) = (b9g_nodeMany S) ∧ (b9g_levelMany u) = (b9g_levelMany S) ∧ (b9g_upper u) = (b9g_upper S) ∧ (b9g_upperNodes u) = (b9g_upperNodes S) ∧ (b9g_areNodesLaid u) = (b9g_areNodesLaid S) ∧ (b9g_itemNode u) = (b9g_itemNode S) ∧ (b9g_itemByte u) = (b9g_itemByte S) ∧ (b9g_itemChild u) = (b9g_itemChild S) ∧ (b9g_itemMany u) = (b9g_itemMany S) ∧ (b9g_placeOf u) = (b9g_placeOf S) ∧ (b9g_leafOfPlace u) = (b9g_leafOfPlace S) ∧ (b9g_places u) = (b9g_places S) ∧ (b9g_lowKey u) = (b9g_lowKey S) ∧ (b9g_highKey u) = (b9g_highKey S) ∧ (b9g_lowLength u) = (b9g_lowLength S) ∧ (b9g_highLength u) = (b9g_highLength S) ∧ (b9g_fromKey u) = (b9g_fromKey S) ∧ (b9g_toKey u) = (b9g_toKey S) ∧ (b9g_fromLength u) = (b9g_fromLength S) ∧ (b9g_toLength u) = (b9g_toLength S) ∧ (b9g_ones u) = (b9g_ones S) ∧ (b9g_oneMany u) = (b9g_oneMany S) ∧ (b9g_rowLong u) = (b9g_rowLong S) ∧ (b9g_laidFor u) = (b9g_laidFor S) ∧ (b9g_signs u) = (b9g_signs S) ∧ (b9g_signMany u) = (b9g_signMany S) ∧ (b9g_hasImage u) = (b9g_hasImage S) ∧ (b9g_images u) = (b9g_images S) ∧ (b9g_keyImages u) = (b9g_keyImages S) ∧ (b9g_lengthImages u) = (b9g_lengthImages S)
theorem sf_X9_laysBeginnings {S : bT9} (hJ : J9 S) {Q : (bT9) → Prop} (hq : ∀ u : bT9, (J9 u) → F_X9_laysBeginnings S u → ((b9g_isLaid u).toInt ≠ 0) → Q u) : wp_X9_laysBeginnings S Q := by
  unfold wp_X9_laysBeginnings
  refine ⟨fun c => ?_, fun c => ?_⟩
  rotate_left
  · refine hq _ hJ ⟨rfl, rfl, rfl, rfl, rfl, rfl, rfl, rfl, rfl, rfl, rfl, rfl, rfl, rfl, rfl, rfl, rfl, rfl, rfl, rfl, rfl, rfl, rfl, rfl, rfl, rfl, rfl, rfl, rfl, rfl, rfl, rfl, rfl, rfl, rfl, rfl, rfl, rfl, rfl, rfl, rfl, rfl, rfl⟩ (fun h => c (Int32.toInt_inj.mp h))
  intro S9 e9
  have hK9 : K9 S9 := by rw [e9]; exact K9s_isLaid hJ.1
  have hF9 : F_X9_laysBeginnings S S9 := by rw [e9]; exact ⟨rfl, rfl, rfl, rfl, rfl, rfl, rfl, rfl, rfl, rfl, rfl, rfl, rfl, rfl, rfl, rfl, rfl, rfl, rfl, rfl, rfl, rfl, rfl, rfl, rfl, rfl, rfl, rfl, rfl, rfl, rfl, rfl, rfl, rfl, rfl, rfl, rfl, rfl, rfl, rfl, rfl, rfl, rfl⟩
  have u9 : (b9g_upperNodes S9).toInt ≤ (b9g_nodeMany S9).toInt := by rw [e9]; exact hJ.2.1
  have i9 : b9g_isLaid S9 = 1 := by rw [e9]
  have c9 : ((9 : Int32)).toNatClampNeg = 9 := by decide
  have n64 := (J9g_now hJ).2.2.2.1
  obtain ⟨F, hF⟩ : ∃ F : Nat → Int64, (fun j => b9g_keys S (64 + j)) = F := ⟨_, rfl⟩
  obtain ⟨G, hG⟩ : ∃ G : Nat → Int32, (fun j => b9g_lengths S (64 + j)) = G := ⟨_, rfl⟩
  unfold wp_X9_laysBeginnings_15
  refine ⟨fun n x1 V => 0 ≤ x1.toInt ∧ x1.toInt ≤ (b9g_now S 9).toInt ∧ K9 V ∧ F_X9_laysBeginnings S V ∧ (b9g_upperNodes V).toInt ≤ (b9g_nodeMany V).toInt ∧ b9g_isLaid V = 1 ∧ (∀ i : Nat, (i : Int) < x1.toInt → (b9g_common V i).toInt = (COM F G (b9g_now S 9).toInt i : Nat) ∧ (b9g_beginning V i).toInt = (BEG F G (b9g_now S 9).toInt i : Nat)) ∧ n = ((b9g_now S 9).toInt - x1.toInt).toNat, ⟨_, by decide, by rw [pl_0]; exact n64.1, hK9, hF9, u9, i9, fun i hi => by rw [pl_0] at hi; omega, rfl⟩, ?_⟩
  rintro n x1 V ⟨h0, h1, hKV, hFV, hu, hil, hL, hn⟩
  have kV : b9g_keys V = b9g_keys S := hFV.2.2.1
  have lV : b9g_lengths V = b9g_lengths S := hFV.2.2.2.1
  have nV : b9g_now V = b9g_now S := hFV.2.1
  unfold wp_X9_laysBeginnings_15b
  rw [c9, nV]
  refine ⟨pt_in (by decide) (by decide), fun c1 => ?_, fun c1 => ?_⟩
  · simp only [pn] at c1
    refine hq V ⟨hKV, hu, ?_⟩ hFV (by rw [hil]; decide)
    intro _ i hlt
    rw [kV, lV, nV, hF, hG]
    rw [nV] at hlt
    exact hL i (by omega)
  simp only [pn] at c1
  have cx := pt_clamp h0
  have em : (x1 - 1).toInt = x1.toInt - 1 := by rw [pt_sub (by rw [pl_1]; omega) (by rw [pl_1]; omega), pl_1]
  have ep : (x1 + 1).toInt = x1.toInt + 1 := by rw [pt_add (by rw [pl_1]; omega) (by rw [pl_1]; omega), pl_1]
  have vin : vp_in x1 64 := pt_in h0 (by omega)
  refine fx9_alike hKV (by rw [em]; omega) (by rw [em]; omega) (by rw [em]; omega) (fun r5 g5 z5 p5 q5 => fx9_alike hKV (by omega) (by omega) (by rw [ep]) (fun r7 g7 z7 p7 q7 => ?_))
  rw [kV, lV, nV, hF, hG] at g5 g7
  rw [nV] at z5 z7
  obtain ⟨i, hi⟩ : ∃ i : Nat, x1.toNatClampNeg = i := ⟨_, rfl⟩
  rw [hi] at cx g5 g7
  have v5 : r5.toInt = ((if i = 0 then 0 else ALR F G i (i - 1) : Nat) : Int) := by
    by_cases h : i = 0
    · rw [if_pos h, z5 (by rw [em]; omega)]
      rfl
    · rw [if_neg h, g5 (by rw [em]; omega) (by omega), ALR_comm, show (x1 - 1).toNatClampNeg = i - 1 by have := pt_clamp (i := x1 - 1) (by rw [em]; omega); omega]
  have v7 : r7.toInt = ((if ((i + 1 : Nat) : Int) < (b9g_now S 9).toInt then ALR F G i (i + 1) else 0 : Nat) : Int) := by
    by_cases h : ((i + 1 : Nat) : Int) < (b9g_now S 9).toInt
    · rw [if_pos h, g7 h0 (by rw [ep]; omega), show (x1 + 1).toNatClampNeg = i + 1 by have := pt_clamp (i := x1 + 1) (by rw [ep]; omega); omega]
    · rw [if_neg h, z7 (by rw [ep]; omega)]
      rfl
  have step : ∀ m : Int32, m.toInt = (COM F G (b9g_now S 9).toInt i : Nat) → wp_X9_laysBeginnings_59 V x1 x1 m Q (fun x1 S_1 => ∃ n2 : Nat, n2 < n ∧ 0 ≤ x1.toInt ∧ x1.toInt ≤ (b9g_now S 9).toInt ∧ K9 S_1 ∧ F_X9_laysBeginnings S S_1 ∧ (b9g_upperNodes S_1).toInt ≤ (b9g_nodeMany S_1).toInt ∧ b9g_isLaid S_1 = 1 ∧ (∀ i : Nat, (i : Int) < x1.toInt → (b9g_common S_1 i).toInt = (COM F G (b9g_now S 9).toInt i : Nat) ∧ (b9g_beginning S_1 i).toInt = (BEG F G (b9g_now S 9).toInt i : Nat)) ∧ n2 = ((b9g_now S 9).toInt - x1.toInt).toNat) := by
    intro m hm
    have gi : G i = b9g_lengths S (64 + i) := by rw [← hG]
    have gr := J9g_lengths hJ (64 + i)
    rw [← gi] at gr
    have cl := COM_le F G (b9g_now S 9).toInt i
    unfold wp_X9_laysBeginnings_59
    refine ⟨vin, fun S2 e2 => ⟨vin, fx9_lengthOf h0 (by omega) ?_⟩⟩
    have hK2 : K9 S2 := by rw [e2]; exact K9s_common hKV (pt_updr (K9g_common hKV) ⟨by omega, by omega⟩)
    have m2 : b9g_common S2 = upd (b9g_common V) i m := by rw [e2, hi]
    have b2 : b9g_beginning S2 = b9g_beginning V := by rw [e2]
    have l2 : b9g_lengths S2 = b9g_lengths S := by rw [e2]; exact lV
    rw [l2, hi, ← gi, m2, up_s]
    have t96 : ∀ t2 : Int32, t2.toInt = (BEG F G (b9g_now S 9).toInt i : Nat) → wp_X9_laysBeginnings_96 S2 x1 x1 t2 Q (fun x1 S_1 => ∃ n2 : Nat, n2 < n ∧ 0 ≤ x1.toInt ∧ x1.toInt ≤ (b9g_now S 9).toInt ∧ K9 S_1 ∧ F_X9_laysBeginnings S S_1 ∧ (b9g_upperNodes S_1).toInt ≤ (b9g_nodeMany S_1).toInt ∧ b9g_isLaid S_1 = 1 ∧ (∀ i : Nat, (i : Int) < x1.toInt → (b9g_common S_1 i).toInt = (COM F G (b9g_now S 9).toInt i : Nat) ∧ (b9g_beginning S_1 i).toInt = (BEG F G (b9g_now S 9).toInt i : Nat)) ∧ n2 = ((b9g_now S 9).toInt - x1.toInt).toNat) := by
      intro t2 ht
      have bl : BEG F G (b9g_now S 9).toInt i ≤ (G i).toInt.toNat := Nat.min_le_right _ _
      unfold wp_X9_laysBeginnings_96
      refine ⟨vin, fun S1 e1 => ⟨_, ?_, by omega, by omega, ?_, by rw [e1, e2]; exact hFV, by rw [e1, e2]; exact hu, by rw [e1, e2]; exact hil, fun j hj => ?_, rfl⟩⟩
      · omega
      · rw [e1]
        exact K9s_beginning hK2 (pt_updr (K9g_beginning hK2) ⟨by omega, by omega⟩)
      · have cc : b9g_common S1 = upd (b9g_common V) i m := by rw [e1]; exact m2
        have cb : b9g_beginning S1 = upd (b9g_beginning V) i t2 := by rw [e1, b2, hi]
        rw [cc, cb]
        by_cases e : j = i
        · rw [e, up_s, up_s]
          exact ⟨hm, ht⟩
        · rw [up_n e, up_n e]
          exact hL j (by omega)
    have mp : (m + 1).toInt = m.toInt + 1 := by rw [pt_add (by rw [pl_1]; omega) (by rw [pl_1]; omega), pl_1]
    refine ⟨fun d => ⟨vin, t96 _ ?_⟩, fun d => ⟨vin, t96 _ ?_⟩⟩
    · have d' : ¬ m.toInt = (G i).toInt := fun h => d (Int32.toInt_inj.mp h)
      rw [mp, hm]
      unfold BEG
      omega
    · have d' : m.toInt = (G i).toInt := by rw [d]
      rw [hm]
      unfold BEG
      omega
  have fin : ∀ A B : Nat, (if i = 0 then 0 else ALR F G i (i - 1)) = A → (if ((i + 1 : Nat) : Int) < (b9g_now S 9).toInt then ALR F G i (i + 1) else 0) = B → COM F G (b9g_now S 9).toInt i = max A B := by
    intro A B ha hb
    unfold COM
    rw [ha, hb]
  have cm := fin _ _ rfl rfl
  refine ⟨fun d => step r7 ?_, fun d => step r5 ?_⟩
  · simp only [pn] at d
    omega
  · simp only [pn] at d
    omega
def F_X9_leaves (S u : bT9) : Prop := (b9g_told u) = (b9g_told S) ∧ (b9g_now u) = (b9g_now S) ∧ (b9g_keys u) = (b9g_keys S) ∧ (b9g_lengths u) = (b9g_lengths S) ∧ (b9g_drawn u) = (b9g_drawn S) ∧ (b9g_drawnLength u) = (b9g_drawnLength S) ∧ (b9g_tape u) = (b9g_tape S) ∧ (b9g_taped u) = (b9g_taped S) ∧ (b9g_names u) = (b9g_names S) ∧ (b9g_chosen u) = (b9g_chosen S) ∧ (b9g_nodeLevel u) = (b9g_nodeLevel S) ∧ (b9g_nodeLeaf u) = (b9g_nodeLeaf S) ∧ (b9g_nodeLeaves u) = (b9g_nodeLeaves S) ∧ (b9g_nodeMany u) = (b9g_nodeMany S) ∧ (b9g_levelMany u) = (b9g_levelMany S) ∧ (b9g_upper u) = (b9g_upper S) ∧ (b9g_upperNodes u) = (b9g_upperNodes S) ∧ (b9g_areNodesLaid u) = (b9g_areNodesLaid S) ∧ (b9g_itemNode u) = (b9g_itemNode S) ∧ (b9g_itemByte u) = (b9g_itemByte S) ∧ (b9g_itemChild u) = (b9g_itemChild S) ∧ (b9g_itemMany u) = (b9g_itemMany S) ∧ (b9g_placeOf u) = (b9g_placeOf S) ∧ (b9g_leafOfPlace u) = (b9g_leafOfPlace S) ∧ (b9g_places u) = (b9g_places S) ∧ (b9g_lowKey u) = (b9g_lowKey S) ∧ (b9g_highKey u) = (b9g_highKey S) ∧ (b9g_lowLength u) = (b9g_lowLength S) ∧ (b9g_highLength u) = (b9g_highLength S) ∧ (b9g_fromKey u) = (b9g_fromKey S) ∧ (b9g_toKey u) = (b9g_toKey S) ∧ (b9g_fromLength u) = (b9g_fromLength S) ∧ (b9g_toLength u) = (b9g_toLength S) ∧ (b9g_ones u) = (b9g_ones S) ∧ (b9g_oneMany u) = (b9g_oneMany S) ∧ (b9g_rowLong u) = (b9g_rowLong S) ∧ (b9g_laidFor u) = (b9g_laidFor S) ∧ (b9g_signs u) = (b9g_signs S) ∧ (b9g_signMany u) = (b9g_signMany S) ∧ (b9g_hasImage u) = (b9g_hasImage S) ∧ (b9g_images u) = (b9g_images S) ∧ (b9g_keyImages u) = (b9g_keyImages S) ∧ (b9g_lengthImages u) = (b9g_lengthImages S)
set_option maxRecDepth 20000 in
set_option maxHeartbeats 8000000 in
theorem sf_X9_leaves {S : bT9} (hJ : J9 S) {Q : Int32 → (bT9) → Prop} (hq : ∀ (r : Int32) (u : bT9), (J9 u) → F_X9_leaves S u → (r.toInt = (b9g_now u 9).toInt) → ((b9g_isLaid u).toInt ≠ 0) → Q r u) : wp_X9_leaves S Q := by
  unfold wp_X9_leaves
  have hFS : F_X9_leaves S S := ⟨rfl, rfl, rfl, rfl, rfl, rfl, rfl, rfl, rfl, rfl, rfl, rfl, rfl, rfl, rfl, rfl, rfl, rfl, rfl, rfl, rfl, rfl, rfl, rfl, rfl, rfl, rfl, rfl, rfl, rfl, rfl, rfl, rfl, rfl, rfl, rfl, rfl, rfl, rfl, rfl, rfl, rfl, rfl⟩
  have jf1 : (-4 ≤ ((b9g_now S) 1).toInt ∧ ((b9g_now S) 1).toInt ≤ 4) ∧ (-3 ≤ ((b9g_now S) 4).toInt ∧ ((b9g_now S) 4).toInt ≤ 252) ∧ (0 ≤ ((b9g_now S) 8).toInt ∧ ((b9g_now S) 8).toInt ≤ 64) ∧ (0 ≤ ((b9g_now S) 9).toInt ∧ ((b9g_now S) 9).toInt ≤ 64) ∧ (0 ≤ ((b9g_now S) 10).toInt ∧ ((b9g_now S) 10).toInt ≤ 16) ∧ (0 ≤ ((b9g_now S) 12).toInt ∧ ((b9g_now S) 12).toInt ≤ 8) := J9g_now hJ
  have ju1_S := hJ.2.1
  refine sf_X9_laysBeginnings hJ (fun u2 hJu2 hfu2 hr1_0 => ?_)
  have hFu2 : F_X9_leaves S u2 := ⟨(congrArg (fun z => z) hfu2.1).trans hFS.1, (congrArg (fun z => z) hfu2.2.1).trans hFS.2.1, (congrArg (fun z => z) hfu2.2.2.1).trans hFS.2.2.1, (congrArg (fun z => z) hfu2.2.2.2.1).trans hFS.2.2.2.1, (congrArg (fun z => z) hfu2.2.2.2.2.1).trans hFS.2.2.2.2.1, (congrArg (fun z => z) hfu2.2.2.2.2.2.1).trans hFS.2.2.2.2.2.1, (congrArg (fun z => z) hfu2.2.2.2.2.2.2.1).trans hFS.2.2.2.2.2.2.1, (congrArg (fun z => z) hfu2.2.2.2.2.2.2.2.1).trans hFS.2.2.2.2.2.2.2.1, (congrArg (fun z => z) hfu2.2.2.2.2.2.2.2.2.1).trans hFS.2.2.2.2.2.2.2.2.1, (congrArg (fun z => z) hfu2.2.2.2.2.2.2.2.2.2.1).trans hFS.2.2.2.2.2.2.2.2.2.1, (congrArg (fun z => z) hfu2.2.2.2.2.2.2.2.2.2.2.1).trans hFS.2.2.2.2.2.2.2.2.2.2.1, (congrArg (fun z => z) hfu2.2.2.2.2.2.2.2.2.2.2.2.1).trans hFS.2.2.2.2.2.2.2.2.2.2.2.1, (congrArg (fun z => z) hfu2.2.2.2.2.2.2.2.2.2.2.2.2.1).trans hFS.2.2.2.2.2.2.2.2.2.2.2.2.1, (congrArg (fun z => z) hfu2.2.2.2.2.2.2.2.2.2.2.2.2.2.1).trans hFS.2.2.2.2.2.2.2.2.2.2.2.2.2.1, (congrArg (fun z => z) hfu2.2.2.2.2.2.2.2.2.2.2.2.2.2.2.1).trans hFS.2.2.2.2.2.2.2.2.2.2.2.2.2.2.1, (congrArg (fun z => z) hfu2.2.2.2.2.2.2.2.2.2.2.2.2.2.2.2.1).trans hFS.2.2.2.2.2.2.2.2.2.2.2.2.2.2.2.1, (congrArg (fun z => z) hfu2.2.2.2.2.2.2.2.2.2.2.2.2.2.2.2.2.1).trans hFS.2.2.2.2.2.2.2.2.2.2.2.2.2.2.2.2.1, (congrArg (fun z => z) hfu2.2.2.2.2.2.2.2.2.2.2.2.2.2.2.2.2.2.1).trans hFS.2.2.2.2.2.2.2.2.2.2.2.2.2.2.2.2.2.1, (congrArg (fun z => z) hfu2.2.2.2.2.2.2.2.2.2.2.2.2.2.2.2.2.2.2.1).trans hFS.2.2.2.2.2.2.2.2.2.2.2.2.2.2.2.2.2.2.1, (congrArg (fun z => z) hfu2.2.2.2.2.2.2.2.2.2.2.2.2.2.2.2.2.2.2.2.1).trans hFS.2.2.2.2.2.2.2.2.2.2.2.2.2.2.2.2.2.2.2.1, (congrArg (fun z => z) hfu2.2.2.2.2.2.2.2.2.2.2.2.2.2.2.2.2.2.2.2.2.1).trans hFS.2.2.2.2.2.2.2.2.2.2.2.2.2.2.2.2.2.2.2.2.1, (congrArg (fun z => z) hfu2.2.2.2.2.2.2.2.2.2.2.2.2.2.2.2.2.2.2.2.2.2.1).trans hFS.2.2.2.2.2.2.2.2.2.2.2.2.2.2.2.2.2.2.2.2.2.1, (congrArg (fun z => z) hfu2.2.2.2.2.2.2.2.2.2.2.2.2.2.2.2.2.2.2.2.2.2.2.1).trans hFS.2.2.2.2.2.2.2.2.2.2.2.2.2.2.2.2.2.2.2.2.2.2.1, (congrArg (fun z => z) hfu2.2.2.2.2.2.2.2.2.2.2.2.2.2.2.2.2.2.2.2.2.2.2.2.1).trans hFS.2.2.2.2.2.2.2.2.2.2.2.2.2.2.2.2.2.2.2.2.2.2.2.1, (congrArg (fun z => z) hfu2.2.2.2.2.2.2.2.2.2.2.2.2.2.2.2.2.2.2.2.2.2.2.2.2.1).trans hFS.2.2.2.2.2.2.2.2.2.2.2.2.2.2.2.2.2.2.2.2.2.2.2.2.1, (congrArg (fun z => z) hfu2.2.2.2.2.2.2.2.2.2.2.2.2.2.2.2.2.2.2.2.2.2.2.2.2.2.1).trans hFS.2.2.2.2.2.2.2.2.2.2.2.2.2.2.2.2.2.2.2.2.2.2.2.2.2.1, (congrArg (fun z => z) hfu2.2.2.2.2.2.2.2.2.2.2.2.2.2.2.2.2.2.2.2.2.2.2.2.2.2.2.1).trans hFS.2.2.2.2.2.2.2.2.2.2.2.2.2.2.2.2.2.2.2.2.2.2.2.2.2.2.1, (congrArg (fun z => z) hfu2.2.2.2.2.2.2.2.2.2.2.2.2.2.2.2.2.2.2.2.2.2.2.2.2.2.2.2.1).trans hFS.2.2.2.2.2.2.2.2.2.2.2.2.2.2.2.2.2.2.2.2.2.2.2.2.2.2.2.1, (congrArg (fun z => z) hfu2.2.2.2.2.2.2.2.2.2.2.2.2.2.2.2.2.2.2.2.2.2.2.2.2.2.2.2.2.1).trans hFS.2.2.2.2.2.2.2.2.2.2.2.2.2.2.2.2.2.2.2.2.2.2.2.2.2.2.2.2.1, (congrArg (fun z => z) hfu2.2.2.2.2.2.2.2.2.2.2.2.2.2.2.2.2.2.2.2.2.2.2.2.2.2.2.2.2.2.1).trans hFS.2.2.2.2.2.2.2.2.2.2.2.2.2.2.2.2.2.2.2.2.2.2.2.2.2.2.2.2.2.1, (congrArg (fun z => z) hfu2.2.2.2.2.2.2.2.2.2.2.2.2.2.2.2.2.2.2.2.2.2.2.2.2.2.2.2.2.2.2.1).trans hFS.2.2.2.2.2.2.2.2.2.2.2.2.2.2.2.2.2.2.2.2.2.2.2.2.2.2.2.2.2.2.1, (congrArg (fun z => z) hfu2.2.2.2.2.2.2.2.2.2.2.2.2.2.2.2.2.2.2.2.2.2.2.2.2.2.2.2.2.2.2.2.1).trans hFS.2.2.2.2.2.2.2.2.2.2.2.2.2.2.2.2.2.2.2.2.2.2.2.2.2.2.2.2.2.2.2.1, (congrArg (fun z => z) hfu2.2.2.2.2.2.2.2.2.2.2.2.2.2.2.2.2.2.2.2.2.2.2.2.2.2.2.2.2.2.2.2.2.1).trans hFS.2.2.2.2.2.2.2.2.2.2.2.2.2.2.2.2.2.2.2.2.2.2.2.2.2.2.2.2.2.2.2.2.1, (congrArg (fun z => z) hfu2.2.2.2.2.2.2.2.2.2.2.2.2.2.2.2.2.2.2.2.2.2.2.2.2.2.2.2.2.2.2.2.2.2.1).trans hFS.2.2.2.2.2.2.2.2.2.2.2.2.2.2.2.2.2.2.2.2.2.2.2.2.2.2.2.2.2.2.2.2.2.1, (congrArg (fun z => z) hfu2.2.2.2.2.2.2.2.2.2.2.2.2.2.2.2.2.2.2.2.2.2.2.2.2.2.2.2.2.2.2.2.2.2.2.1).trans hFS.2.2.2.2.2.2.2.2.2.2.2.2.2.2.2.2.2.2.2.2.2.2.2.2.2.2.2.2.2.2.2.2.2.2.1, (congrArg (fun z => z) hfu2.2.2.2.2.2.2.2.2.2.2.2.2.2.2.2.2.2.2.2.2.2.2.2.2.2.2.2.2.2.2.2.2.2.2.2.1).trans hFS.2.2.2.2.2.2.2.2.2.2.2.2.2.2.2.2.2.2.2.2.2.2.2.2.2.2.2.2.2.2.2.2.2.2.2.1, (congrArg (fun z => z) hfu2.2.2.2.2.2.2.2.2.2.2.2.2.2.2.2.2.2.2.2.2.2.2.2.2.2.2.2.2.2.2.2.2.2.2.2.2.1).trans hFS.2.2.2.2.2.2.2.2.2.2.2.2.2.2.2.2.2.2.2.2.2.2.2.2.2.2.2.2.2.2.2.2.2.2.2.2.1, (congrArg (fun z => z) hfu2.2.2.2.2.2.2.2.2.2.2.2.2.2.2.2.2.2.2.2.2.2.2.2.2.2.2.2.2.2.2.2.2.2.2.2.2.2.1).trans hFS.2.2.2.2.2.2.2.2.2.2.2.2.2.2.2.2.2.2.2.2.2.2.2.2.2.2.2.2.2.2.2.2.2.2.2.2.2.1, (congrArg (fun z => z) hfu2.2.2.2.2.2.2.2.2.2.2.2.2.2.2.2.2.2.2.2.2.2.2.2.2.2.2.2.2.2.2.2.2.2.2.2.2.2.2.1).trans hFS.2.2.2.2.2.2.2.2.2.2.2.2.2.2.2.2.2.2.2.2.2.2.2.2.2.2.2.2.2.2.2.2.2.2.2.2.2.2.1, (congrArg (fun z => z) hfu2.2.2.2.2.2.2.2.2.2.2.2.2.2.2.2.2.2.2.2.2.2.2.2.2.2.2.2.2.2.2.2.2.2.2.2.2.2.2.2.1).trans hFS.2.2.2.2.2.2.2.2.2.2.2.2.2.2.2.2.2.2.2.2.2.2.2.2.2.2.2.2.2.2.2.2.2.2.2.2.2.2.2.1, (congrArg (fun z => z) hfu2.2.2.2.2.2.2.2.2.2.2.2.2.2.2.2.2.2.2.2.2.2.2.2.2.2.2.2.2.2.2.2.2.2.2.2.2.2.2.2.2.1).trans hFS.2.2.2.2.2.2.2.2.2.2.2.2.2.2.2.2.2.2.2.2.2.2.2.2.2.2.2.2.2.2.2.2.2.2.2.2.2.2.2.2.1, (congrArg (fun z => z) hfu2.2.2.2.2.2.2.2.2.2.2.2.2.2.2.2.2.2.2.2.2.2.2.2.2.2.2.2.2.2.2.2.2.2.2.2.2.2.2.2.2.2.1).trans hFS.2.2.2.2.2.2.2.2.2.2.2.2.2.2.2.2.2.2.2.2.2.2.2.2.2.2.2.2.2.2.2.2.2.2.2.2.2.2.2.2.2.1, (congrArg (fun z => z) hfu2.2.2.2.2.2.2.2.2.2.2.2.2.2.2.2.2.2.2.2.2.2.2.2.2.2.2.2.2.2.2.2.2.2.2.2.2.2.2.2.2.2.2).trans hFS.2.2.2.2.2.2.2.2.2.2.2.2.2.2.2.2.2.2.2.2.2.2.2.2.2.2.2.2.2.2.2.2.2.2.2.2.2.2.2.2.2.2⟩
  have je3 : ((b9g_now u2) 1).toInt = ((b9g_now S) 1).toInt := congrArg (fun z => (z 1).toInt) hFu2.2.1
  have je5 : ((b9g_now u2) 4).toInt = ((b9g_now S) 4).toInt := congrArg (fun z => (z 4).toInt) hFu2.2.1
  have je7 : ((b9g_now u2) 7).toInt = ((b9g_now S) 7).toInt := congrArg (fun z => (z 7).toInt) hFu2.2.1
  have je9 : ((b9g_now u2) 8).toInt = ((b9g_now S) 8).toInt := congrArg (fun z => (z 8).toInt) hFu2.2.1
  have je11 : ((b9g_now u2) 9).toInt = ((b9g_now S) 9).toInt := congrArg (fun z => (z 9).toInt) hFu2.2.1
  have je13 : ((b9g_now u2) 10).toInt = ((b9g_now S) 10).toInt := congrArg (fun z => (z 10).toInt) hFu2.2.1
  have je15 : ((b9g_now u2) 12).toInt = ((b9g_now S) 12).toInt := congrArg (fun z => (z 12).toInt) hFu2.2.1
  have ju15_u2 := hJu2.2.1
  refine ⟨pt_in (by (try simp (disch := first | ((try simp (disch := first | ((try simp only [pn]) <;> omega) | fail) only [pn, pq]) <;> omega) | fail) only [pn, pq]) <;> (intros; (try simp (disch := first | ((try simp (disch := first | ((try simp only [pn]) <;> omega) | fail) only [pn, pq]) <;> omega) | fail) only [pn, pq]) <;> omega)) (by (try simp (disch := first | ((try simp (disch := first | ((try simp only [pn]) <;> omega) | fail) only [pn, pq]) <;> omega) | fail) only [pn, pq]) <;> (intros; (try simp (disch := first | ((try simp (disch := first | ((try simp only [pn]) <;> omega) | fail) only [pn, pq]) <;> omega) | fail) only [pn, pq]) <;> omega)), ?_⟩
  exact hq _ _ hJu2 hFu2 (by (try simp (disch := first | ((try simp (disch := first | ((try simp only [pn]) <;> omega) | fail) only [pn, pq]) <;> omega) | fail) only [pn, pq]) <;> (intros; (try simp (disch := first | ((try simp (disch := first | ((try simp only [pn]) <;> omega) | fail) only [pn, pq]) <;> omega) | fail) only [pn, pq]) <;> omega)) (by (assumption))
set_option maxRecDepth 20000 in
set_option maxHeartbeats 8000000 in
theorem sf_X9_isEnded {S : bT9} (hJ : K9 S) {a1 : Int32} {Q : Int32 → Prop} (hp0 : 0 ≤ a1.toInt) (hp1 : a1.toInt ≤ 63) (hq : ∀ r : Int32, bf_bool r → Q r) : wp_X9_isEnded S a1 Q := by
  unfold wp_X9_isEnded
  have jf1 : (-4 ≤ ((b9g_now S) 1).toInt ∧ ((b9g_now S) 1).toInt ≤ 4) ∧ (-3 ≤ ((b9g_now S) 4).toInt ∧ ((b9g_now S) 4).toInt ≤ 252) ∧ (0 ≤ ((b9g_now S) 8).toInt ∧ ((b9g_now S) 8).toInt ≤ 64) ∧ (0 ≤ ((b9g_now S) 9).toInt ∧ ((b9g_now S) 9).toInt ≤ 64) ∧ (0 ≤ ((b9g_now S) 10).toInt ∧ ((b9g_now S) 10).toInt ≤ 16) ∧ (0 ≤ ((b9g_now S) 12).toInt ∧ ((b9g_now S) 12).toInt ≤ 8) := K9g_now hJ
  have rga1 := pt_rg a1
  refine ⟨pt_in (by (try simp (disch := first | ((try simp (disch := first | ((try simp only [pn]) <;> omega) | fail) only [pn, pq]) <;> omega) | fail) only [pn, pq]) <;> (intros; (try simp (disch := first | ((try simp (disch := first | ((try simp only [pn]) <;> omega) | fail) only [pn, pq]) <;> omega) | fail) only [pn, pq]) <;> omega)) (by (try simp (disch := first | ((try simp (disch := first | ((try simp only [pn]) <;> omega) | fail) only [pn, pq]) <;> omega) | fail) only [pn, pq]) <;> (intros; (try simp (disch := first | ((try simp (disch := first | ((try simp only [pn]) <;> omega) | fail) only [pn, pq]) <;> omega) | fail) only [pn, pq]) <;> omega)), ?_⟩
  have jr2 := K9g_common hJ (a1).toNatClampNeg
  try simp (disch := first | ((try simp (disch := first | ((try simp only [pn]) <;> omega) | fail) only [pn, pq]) <;> omega) | fail) only [pn, pq] at jr2
  refine sf_X9_lengthOf hJ (by (try simp (disch := first | ((try simp (disch := first | ((try simp only [pn]) <;> omega) | fail) only [pn, pq]) <;> omega) | fail) only [pn, pq]) <;> (intros; (try simp (disch := first | ((try simp (disch := first | ((try simp only [pn]) <;> omega) | fail) only [pn, pq]) <;> omega) | fail) only [pn, pq]) <;> omega)) (by (try simp (disch := first | ((try simp (disch := first | ((try simp only [pn]) <;> omega) | fail) only [pn, pq]) <;> omega) | fail) only [pn, pq]) <;> (intros; (try simp (disch := first | ((try simp (disch := first | ((try simp only [pn]) <;> omega) | fail) only [pn, pq]) <;> omega) | fail) only [pn, pq]) <;> omega)) (fun r1 hr1_0 hr1_1 hr1_2 => ?_)
  have rgr1 := pt_rg r1
  try simp (disch := first | ((try simp (disch := first | ((try simp only [pn]) <;> omega) | fail) only [pn, pq]) <;> omega) | fail) only [pn, pq] at hr1_0
  try simp (disch := first | ((try simp (disch := first | ((try simp only [pn]) <;> omega) | fail) only [pn, pq]) <;> omega) | fail) only [pn, pq] at hr1_1
  try simp (disch := first | ((try simp (disch := first | ((try simp only [pn]) <;> omega) | fail) only [pn, pq]) <;> omega) | fail) only [pn, pq] at hr1_2
  refine ⟨fun c3 => ?_, fun c3 => ?_⟩
  · try simp (disch := first | ((try simp (disch := first | ((try simp only [pn]) <;> omega) | fail) only [pn, pq]) <;> omega) | fail) only [pn, pq] at c3
    exact ⟨by first | rfl | assumption, hq _ (by first | rfl | assumption) ⟩
  · try simp (disch := first | ((try simp (disch := first | ((try simp only [pn]) <;> omega) | fail) only [pn, pq]) <;> omega) | fail) only [pn, pq] at c3
    exact ⟨by first | rfl | assumption, hq _ (by first | rfl | assumption) ⟩
def F_X9_build (S u : bT9) : Prop := (b9g_drawn u) = (b9g_drawn S) ∧ (b9g_drawnLength u) = (b9g_drawnLength S) ∧ (b9g_tape u) = (b9g_tape S) ∧ (b9g_taped u) = (b9g_taped S) ∧ (b9g_names u) = (b9g_names S) ∧ (b9g_chosen u) = (b9g_chosen S) ∧ (b9g_common u) = (b9g_common S) ∧ (b9g_beginning u) = (b9g_beginning S) ∧ (b9g_nodeLevel u) = (b9g_nodeLevel S) ∧ (b9g_nodeLeaf u) = (b9g_nodeLeaf S) ∧ (b9g_nodeLeaves u) = (b9g_nodeLeaves S) ∧ (b9g_nodeMany u) = (b9g_nodeMany S) ∧ (b9g_levelMany u) = (b9g_levelMany S) ∧ (b9g_upper u) = (b9g_upper S) ∧ (b9g_upperNodes u) = (b9g_upperNodes S) ∧ (b9g_itemNode u) = (b9g_itemNode S) ∧ (b9g_itemByte u) = (b9g_itemByte S) ∧ (b9g_itemChild u) = (b9g_itemChild S) ∧ (b9g_itemMany u) = (b9g_itemMany S) ∧ (b9g_placeOf u) = (b9g_placeOf S) ∧ (b9g_leafOfPlace u) = (b9g_leafOfPlace S) ∧ (b9g_places u) = (b9g_places S) ∧ (b9g_lowKey u) = (b9g_lowKey S) ∧ (b9g_highKey u) = (b9g_highKey S) ∧ (b9g_lowLength u) = (b9g_lowLength S) ∧ (b9g_highLength u) = (b9g_highLength S) ∧ (b9g_fromKey u) = (b9g_fromKey S) ∧ (b9g_toKey u) = (b9g_toKey S) ∧ (b9g_fromLength u) = (b9g_fromLength S) ∧ (b9g_toLength u) = (b9g_toLength S) ∧ (b9g_ones u) = (b9g_ones S) ∧ (b9g_oneMany u) = (b9g_oneMany S) ∧ (b9g_rowLong u) = (b9g_rowLong S) ∧ (b9g_laidFor u) = (b9g_laidFor S) ∧ (b9g_signs u) = (b9g_signs S) ∧ (b9g_signMany u) = (b9g_signMany S) ∧ (b9g_hasImage u) = (b9g_hasImage S) ∧ (b9g_images u) = (b9g_images S) ∧ (b9g_keyImages u) = (b9g_keyImages S) ∧ (b9g_lengthImages u) = (b9g_lengthImages S)
theorem sf_X9_build {S : bT9} (hJ : J9 S) {Q : Int32 → (bT9) → Prop} (hq : ∀ (r : Int32) (u : bT9), (J9 u) → F_X9_build S u → (r.toInt = (b9g_now S 8).toInt) → (b9g_now u 8 = b9g_now S 8) → (b9g_now u 4 = b9g_now S 4) → (∀ j : Nat, j < 64 → b9g_keys u j = b9g_keys S j ∧ b9g_lengths u j = b9g_lengths S j) → (∀ j : Nat, (j : Int) < (b9g_now S 8).toInt → b9g_keys u (64 + j) = b9g_keys S j ∧ b9g_lengths u (64 + j) = b9g_lengths S j) → (b9g_now u 9 = b9g_now S 8) → (b9g_now u 11 = b9g_now S 0 + 4 ∧ b9g_now u 12 = b9g_now S 1 + 4 ∧ b9g_now u 13 = b9g_now S 2 + 9 + 1 ∧ b9g_now u 14 = b9g_now S 3 + 16 ∧ b9g_now u 15 = b9g_now S 6 ∧ b9g_now u 16 = b9g_now S 5) → (∀ i : Nat, i < 11 → i ≠ 9 → b9g_now u i = b9g_now S i) → (∀ i : Nat, 17 ≤ i → b9g_now u i = b9g_now S i) → ((b9g_areNodesLaid u).toInt = 0) → (b9g_now u 10 = b9g_now S 10) → (b9g_now u 7 = b9g_now S 7) → Q r u) : wp_X9_build S Q := by
  have jn := (J9g_now hJ).2.2.1
  have c8 : ((8 : Int32)).toNatClampNeg = 8 := by decide
  have v8 : vp_in (8 : Int32) 23 := pt_in (by decide) (by decide)
  unfold wp_X9_build
  intro S0 e0
  have hJ0 : M9 S0 := by rw [e0]; exact ⟨K9s_told hJ.1, hJ.2.1⟩
  have hF0 : F_X9_build S S0 := by rw [e0]; exact ⟨rfl, rfl, rfl, rfl, rfl, rfl, rfl, rfl, rfl, rfl, rfl, rfl, rfl, rfl, rfl, rfl, rfl, rfl, rfl, rfl, rfl, rfl, rfl, rfl, rfl, rfl, rfl, rfl, rfl, rfl, rfl, rfl, rfl, rfl, rfl, rfl, rfl, rfl, rfl, rfl⟩
  have k0 : b9g_keys S0 = b9g_keys S := by rw [e0]
  have l0 : b9g_lengths S0 = b9g_lengths S := by rw [e0]
  have n0 : b9g_now S0 = b9g_now S := by rw [e0]
  unfold wp_X9_build_7
  refine ⟨fun n x1 V => 0 ≤ x1.toInt ∧ x1.toInt ≤ (b9g_now S 8).toInt ∧ M9 V ∧ F_X9_build S V ∧ b9g_now V = b9g_now S ∧ (∀ j : Nat, j < 64 → b9g_keys V j = b9g_keys S j ∧ b9g_lengths V j = b9g_lengths S j) ∧ (∀ j : Nat, (j : Int) < x1.toInt → b9g_keys V (64 + j) = b9g_keys S j ∧ b9g_lengths V (64 + j) = b9g_lengths S j) ∧ n = ((b9g_now S 8).toInt - x1.toInt).toNat, ⟨_, by decide, by rw [pl_0]; exact jn.1, hJ0, hF0, n0, fun j hj => ⟨by rw [k0], by rw [l0]⟩, fun j hj => by rw [pl_0] at hj; omega, rfl⟩, ?_⟩
  rintro n x1 V ⟨h0, h1, hJV, hFV, nV, lo, hi, hn⟩
  unfold wp_X9_build_7b
  rw [c8, nV]
  refine ⟨v8, fun c => ?_, fun c => ?_⟩
  · simp only [pn] at c
    have ex : x1.toInt = (b9g_now S 8).toInt := by omega
    rw [ex] at hi
    refine ⟨v8, pt_in (by decide) (by decide), fun S1 e1 => ?_⟩
    have n1 : b9g_now S1 = upd (b9g_now S) 9 (b9g_now S 8) := by rw [e1]; rfl
    have hJ1 : M9 S1 := by rw [e1, ← nV]; exact ⟨K9s_now hJV.1 (NW_set (K9g_now hJV.1) (fun e => absurd e (by decide)) (fun e => absurd e (by decide)) (fun e => absurd e (by decide)) (fun _ => by rw [nV]; exact jn) (fun e => absurd e (by decide)) (fun e => absurd e (by decide))), hJV.2⟩
    refine sf_X9_settingOf hJ1.1 (by decide) (by decide) (fun r2 _ _ _ s2 => ⟨pt_in (by decide) (by decide), fun S4 e4 => ?_⟩)
    have n4 : b9g_now S4 = upd (b9g_now S1) 11 r2 := by rw [e4]; rfl
    have hJ4 : M9 S4 := by rw [e4]; exact ⟨K9s_now hJ1.1 (NW_set (K9g_now hJ1.1) (fun e => absurd e (by decide)) (fun e => absurd e (by decide)) (fun e => absurd e (by decide)) (fun e => absurd e (by decide)) (fun e => absurd e (by decide)) (fun e => absurd e (by decide))), hJ1.2⟩
    refine sf_X9_settingOf hJ4.1 (by decide) (by decide) (fun r5 _ q5 _ s5 => ⟨pt_in (by decide) (by decide), fun S7 e7 => ?_⟩)
    have n7 : b9g_now S7 = upd (b9g_now S4) 12 r5 := by rw [e7]; rfl
    have hJ7 : M9 S7 := by rw [e7]; exact ⟨K9s_now hJ4.1 (NW_set (K9g_now hJ4.1) (fun e => absurd e (by decide)) (fun e => absurd e (by decide)) (fun e => absurd e (by decide)) (fun e => absurd e (by decide)) (fun e => absurd e (by decide)) (fun _ => q5 (by decide))), hJ4.2⟩
    refine sf_X9_settingOf hJ7.1 (by decide) (by decide) (fun r8 _ _ _ s8 => ⟨pt_in (by decide) (by decide), fun S10 e10 => ?_⟩)
    have n10 : b9g_now S10 = upd (b9g_now S7) 13 (r8 + 1) := by rw [e10]; rfl
    have hJ10 : M9 S10 := by rw [e10]; exact ⟨K9s_now hJ7.1 (NW_set (K9g_now hJ7.1) (fun e => absurd e (by decide)) (fun e => absurd e (by decide)) (fun e => absurd e (by decide)) (fun e => absurd e (by decide)) (fun e => absurd e (by decide)) (fun e => absurd e (by decide))), hJ7.2⟩
    refine sf_X9_settingOf hJ10.1 (by decide) (by decide) (fun r11 _ _ _ s11 => ⟨pt_in (by decide) (by decide), fun S13 e13 => ?_⟩)
    have n13 : b9g_now S13 = upd (b9g_now S10) 14 r11 := by rw [e13]; rfl
    have hJ13 : M9 S13 := by rw [e13]; exact ⟨K9s_now hJ10.1 (NW_set (K9g_now hJ10.1) (fun e => absurd e (by decide)) (fun e => absurd e (by decide)) (fun e => absurd e (by decide)) (fun e => absurd e (by decide)) (fun e => absurd e (by decide)) (fun e => absurd e (by decide))), hJ10.2⟩
    refine ⟨pt_in (by decide) (by decide), pt_in (by decide) (by decide), fun S14 e14 => ?_⟩
    have n14 : b9g_now S14 = upd (b9g_now S13) 15 (b9g_now S13 6) := by rw [e14]; rfl
    have hJ14 : M9 S14 := by rw [e14]; exact ⟨K9s_now hJ13.1 (NW_set (K9g_now hJ13.1) (fun e => absurd e (by decide)) (fun e => absurd e (by decide)) (fun e => absurd e (by decide)) (fun e => absurd e (by decide)) (fun e => absurd e (by decide)) (fun e => absurd e (by decide))), hJ13.2⟩
    refine ⟨pt_in (by decide) (by decide), pt_in (by decide) (by decide), fun S15 e15 S16 e16 S17 e17 => ⟨pt_in (by decide) (by decide), ?_⟩⟩
    have n15 : b9g_now S15 = upd (b9g_now S14) 16 (b9g_now S14 5) := by rw [e15]; rfl
    have hJ15 : M9 S15 := by rw [e15]; exact ⟨K9s_now hJ14.1 (NW_set (K9g_now hJ14.1) (fun e => absurd e (by decide)) (fun e => absurd e (by decide)) (fun e => absurd e (by decide)) (fun e => absurd e (by decide)) (fun e => absurd e (by decide)) (fun e => absurd e (by decide))), hJ14.2⟩
    have hJ17 : J9 S17 := by rw [e17, e16]; exact ⟨K9s_areNodesLaid (K9s_isLaid hJ15.1), hJ15.2, LD_0 rfl⟩
    have n17 : b9g_now S17 = b9g_now S15 := by rw [e17, e16]
    have oth : ∀ i : Nat, i ≠ 9 → i < 11 → b9g_now S17 i = b9g_now S i := by
      intro i h9 h11
      rw [n17, n15, n14, n13, n10, n7, n4, n1]
      unfold upd
      rw [if_neg (by omega), if_neg (by omega), if_neg (by omega), if_neg (by omega), if_neg (by omega), if_neg (by omega), if_neg h9]
    have o9 : b9g_now S17 9 = b9g_now S 8 := by
      rw [n17, n15, n14, n13, n10, n7, n4, n1]
      unfold upd
      rw [if_neg (by decide), if_neg (by decide), if_neg (by decide), if_neg (by decide), if_neg (by decide), if_neg (by decide), if_pos rfl]
    have k17 : b9g_keys S17 = b9g_keys V := by rw [e17, e16, e15, e14, e13, e10, e7, e4, e1]
    have l17 : b9g_lengths S17 = b9g_lengths V := by rw [e17, e16, e15, e14, e13, e10, e7, e4, e1]
    have hF17 : F_X9_build S S17 := by rw [e17, e16, e15, e14, e13, e10, e7, e4, e1]; exact hFV
    have b11 : b9g_now S17 11 = b9g_now S 0 + 4 := by
      have q : b9g_now S1 0 = b9g_now S 0 := by rw [n1, up_n (by decide)]
      have z : r2 = b9g_now S1 0 + FST 0 := s2
      rw [n17, n15, n14, n13, n10, n7, n4, up_n (by decide), up_n (by decide), up_n (by decide), up_n (by decide), up_n (by decide), up_s, z, q]
      rfl
    have b12 : b9g_now S17 12 = b9g_now S 1 + 4 := by
      have q : b9g_now S4 1 = b9g_now S 1 := by rw [n4, n1, up_n (by decide), up_n (by decide)]
      have z : r5 = b9g_now S4 1 + FST 1 := s5
      rw [n17, n15, n14, n13, n10, n7, up_n (by decide), up_n (by decide), up_n (by decide), up_n (by decide), up_s, z, q]
      rfl
    have b13 : b9g_now S17 13 = b9g_now S 2 + 9 + 1 := by
      have q : b9g_now S7 2 = b9g_now S 2 := by rw [n7, n4, n1, up_n (by decide), up_n (by decide), up_n (by decide)]
      have z : r8 = b9g_now S7 2 + FST 2 := s8
      rw [n17, n15, n14, n13, n10, up_n (by decide), up_n (by decide), up_n (by decide), up_s, z, q]
      rfl
    have b14 : b9g_now S17 14 = b9g_now S 3 + 16 := by
      have q : b9g_now S10 3 = b9g_now S 3 := by rw [n10, n7, n4, n1, up_n (by decide), up_n (by decide), up_n (by decide), up_n (by decide)]
      have z : r11 = b9g_now S10 3 + FST 3 := s11
      rw [n17, n15, n14, n13, up_n (by decide), up_n (by decide), up_s, z, q]
      rfl
    have b15 : b9g_now S17 15 = b9g_now S 6 := by
      have q : b9g_now S13 6 = b9g_now S 6 := by rw [n13, n10, n7, n4, n1, up_n (by decide), up_n (by decide), up_n (by decide), up_n (by decide), up_n (by decide)]
      rw [n17, n15, n14, up_n (by decide), up_s, q]
    have b16 : b9g_now S17 16 = b9g_now S 5 := by
      have q : b9g_now S14 5 = b9g_now S 5 := by rw [n14, n13, n10, n7, n4, n1, up_n (by decide), up_n (by decide), up_n (by decide), up_n (by decide), up_n (by decide), up_n (by decide)]
      rw [n17, n15, up_s, q]
    have hi17 : ∀ i : Nat, 17 ≤ i → b9g_now S17 i = b9g_now S i := by
      intro i hi
      rw [n17, n15, n14, n13, n10, n7, n4, n1, up_n (by omega), up_n (by omega), up_n (by omega), up_n (by omega), up_n (by omega), up_n (by omega), up_n (by omega)]
    have c9 : ((9 : Int32)).toNatClampNeg = 9 := by decide
    rw [c9]
    exact hq _ _ hJ17 hF17 (by rw [o9]) (by rw [oth 8 (by decide) (by decide)]) (by rw [oth 4 (by decide) (by decide)]) (fun j hj => by rw [k17, l17]; exact lo j hj) (fun j hj => by rw [k17, l17]; exact hi j hj) o9 ⟨b11, b12, b13, b14, b15, b16⟩ (fun i h1 h2 => oth i h2 h1) hi17 (by rw [e17]; rfl) (oth 10 (by decide) (by decide)) (oth 7 (by decide) (by decide))
  · simp only [pn] at c
    have e64 : ((64 : Int32) + x1).toInt = 64 + x1.toInt := by rw [pt_add (by rw [pl_64]; omega) (by rw [pl_64]; omega), pl_64]
    have x1' : (x1 + 1).toInt = x1.toInt + 1 := by rw [pt_add (by rw [pl_1]; omega) (by rw [pl_1]; omega), pl_1]
    have cx := pt_clamp h0
    have c64 := pt_clamp (i := (64 : Int32) + x1) (by omega)
    have v1 : vp_in x1 144 := pt_in (by omega) (by omega)
    have v2 : vp_in ((64 : Int32) + x1) 144 := pt_in (by omega) (by omega)
    refine ⟨v1, v2, fun S4 d4 => ⟨v1, v2, fun S5 d5 => ?_⟩⟩
    have hJ4 : M9 S4 := by rw [d4]; exact ⟨K9s_keys hJV.1, hJV.2⟩
    have hJ5 : M9 S5 := by rw [d5]; exact ⟨K9s_lengths hJ4.1 (pt_updr (K9g_lengths hJ4.1) (K9g_lengths hJ4.1 _)), hJ4.2⟩
    have eb : b9g_keys S5 = vp_updL (b9g_keys V) ((64 : Int32) + x1).toNatClampNeg (b9g_keys V x1.toNatClampNeg) := by rw [d5, d4]
    have eg : b9g_lengths S5 = upd (b9g_lengths V) ((64 : Int32) + x1).toNatClampNeg (b9g_lengths V x1.toNatClampNeg) := by rw [d5, d4]
    refine ⟨_, ?_, by omega, by omega, hJ5, by rw [d5, d4]; exact hFV, by rw [d5, d4]; exact nV, fun j hj => ?_, fun j hj => ?_, rfl⟩
    · omega
    · rw [eb, eg]
      unfold vp_updL upd
      rw [if_neg (by omega), if_neg (by omega)]
      exact lo j hj
    · rw [eb, eg]
      unfold vp_updL upd
      by_cases h : 64 + j = ((64 : Int32) + x1).toNatClampNeg
      · rw [if_pos h, if_pos h, show x1.toNatClampNeg = j by omega]
        exact lo j (by omega)
      · rw [if_neg h, if_neg h]
        exact hi j (by omega)
theorem sf_X9_hashBits {S : bT9} (hJ : K9 S) {Q : Int32 → Prop} (hq : ∀ r : Int32, (r = HBT (b9g_now S)) → Q r) : wp_X9_hashBits S Q := by
  unfold wp_X9_hashBits
  refine ⟨pt_in (by decide) (by decide), by decide, fun c => ?_, fun c => ⟨pt_in (by decide) (by decide), ?_⟩⟩
  · have c' : ¬ b9g_now S 15 - b9g_now S 15 / (2 : Int32) * (2 : Int32) = (1 : Int32) := c
    exact hq _ (by unfold HBT; rw [if_neg c'])
  · have c' : b9g_now S 15 - b9g_now S 15 / (2 : Int32) * (2 : Int32) = (1 : Int32) := c
    exact hq _ (by unfold HBT; rw [if_pos c']; rfl)
theorem sf_X9_nextBits {S : bT9} (hJ : K9 S) {Q : Int32 → Prop} (hq : ∀ r : Int32, (0 ≤ r.toInt) → (r.toInt ≤ 8) → (r = NBT (b9g_now S)) → Q r) : wp_X9_nextBits S Q := by
  have n12 := (K9g_now hJ).2.2.2.2.2
  unfold wp_X9_nextBits
  refine ⟨pt_in (by decide) (by decide), fun c => ?_, fun c => ⟨pt_in (by decide) (by decide), ?_⟩⟩
  · have c' : b9g_now S 15 ≤ (1 : Int32) := c
    exact hq _ (by decide) (by decide) (by unfold NBT; rw [if_pos c'])
  · have c' : ¬ b9g_now S 15 ≤ (1 : Int32) := c
    exact hq _ n12.1 n12.2 (by unfold NBT; rw [if_neg c']; rfl)
theorem sf_X9_isAlike {S : bT9} (hJ : K9 S) {a1 : Int32} {a2 : Int32} {a3 : Int32} {Q : Int32 → Prop} (hp0 : 0 ≤ a1.toInt) (hp1 : a1.toInt ≤ 63) (hp2 : 0 ≤ a2.toInt) (hp3 : a2.toInt ≤ 63) (hq : ∀ r : Int32, bf_bool r → ((r.toInt = 1 ∧ AK (b9g_keys S) a3 a1.toNatClampNeg a2.toNatClampNeg) ∨ (r.toInt = 0 ∧ ¬ AK (b9g_keys S) a3 a1.toNatClampNeg a2.toNatClampNeg)) → Q r) : wp_X9_isAlike S a1 a2 a3 Q := by
  unfold wp_X9_isAlike
  refine sf_X9_key hJ hp0 hp1 (fun r1 e1 => sf_X9_cut hJ (fun r3 e3 => sf_X9_key hJ hp2 hp3 (fun r5 e5 => sf_X9_cut hJ (fun r7 e7 => ?_))))
  rw [ix64 hp0 hp1] at e1
  rw [ix64 hp2 hp3] at e5
  have hAK : AK (b9g_keys S) a3 a1.toNatClampNeg a2.toNatClampNeg ↔ r3 = r7 := by
    unfold AK
    rw [e3, e7, e1, e5]
  refine ⟨fun c => ⟨rfl, hq _ rfl (Or.inr ⟨rfl, ?_⟩)⟩, fun c => ⟨rfl, hq _ rfl (Or.inl ⟨rfl, ?_⟩)⟩⟩
  · intro h
    apply c
    rw [hAK.mp h]
    exact (lg_cmp_eq _ _).mpr rfl
  · rw [hAK]
    exact (lg_cmp_eq _ _).mp c
theorem sf_X9_firstLike {S : bT9} (hJ : K9 S) {a1 : Int32} {a2 : Int32} {Q : Int32 → Prop} (hp0 : 0 ≤ a1.toInt) (hp1 : a1.toInt ≤ 63) (hq : ∀ r : Int32, (0 ≤ r.toInt) → (r.toInt ≤ a1.toInt) → (∀ j : Nat, r.toInt ≤ j → (j : Int) < a1.toInt → a2.toInt ≤ (b9g_beginning S j).toInt ∧ AK (b9g_keys S) a2 j a1.toNatClampNeg) → (∀ j : Nat, (j : Int) + 1 = r.toInt → a2.toInt ≤ (b9g_beginning S j).toInt → ¬ AK (b9g_keys S) a2 j a1.toNatClampNeg) → Q r) : wp_X9_firstLike S a1 a2 Q := by
  unfold wp_X9_firstLike wp_X9_firstLike_2
  refine ⟨fun n x1 x2 x3 => x1 = a1 ∧ x2 = a2 ∧ 0 ≤ x3.toInt ∧ x3.toInt ≤ a1.toInt ∧ (∀ j : Nat, x3.toInt ≤ j → (j : Int) < a1.toInt → a2.toInt ≤ (b9g_beginning S j).toInt ∧ AK (b9g_keys S) a2 j a1.toNatClampNeg) ∧ n = x3.toInt.toNat, ⟨_, rfl, rfl, hp0, Int.le_refl _, fun j h1 h2 => by omega, rfl⟩, ?_⟩
  rintro n x1 x2 x3 ⟨rfl, rfl, h0, h1, h2, hn⟩
  unfold wp_X9_firstLike_2b
  refine ⟨fun c => ?_, fun c => ?_⟩
  · simp (disch := first | ((try simp (disch := first | ((try simp only [pn]) <;> omega) | fail) only [pn, pq]) <;> omega) | fail) only [pn, pq] at c
    exact hq _ h0 h1 h2 (fun j e => by omega)
  · simp (disch := first | ((try simp (disch := first | ((try simp only [pn]) <;> omega) | fail) only [pn, pq]) <;> omega) | fail) only [pn, pq] at c
    have e1 : (x3 - 1).toInt = x3.toInt - 1 := by rw [pt_sub (by rw [pl_1]; omega) (by rw [pl_1]; omega), pl_1]
    have e2 := pt_clamp (i := x3 - 1) (by omega)
    refine ⟨pt_in (by omega) (by omega), fun c2 => ?_, fun c2 => ?_⟩
    · simp (disch := first | ((try simp (disch := first | ((try simp only [pn]) <;> omega) | fail) only [pn, pq]) <;> omega) | fail) only [pn, pq] at c2
      refine hq _ h0 h1 h2 (fun j e h => ?_)
      have : j = (x3 - 1).toNatClampNeg := by omega
      subst this
      omega
    · simp (disch := first | ((try simp (disch := first | ((try simp only [pn]) <;> omega) | fail) only [pn, pq]) <;> omega) | fail) only [pn, pq] at c2
      refine sf_X9_isAlike hJ (by omega) (by omega) hp0 hp1 (fun r1 hz hr => ⟨fun c3 => ?_, fun c3 => ?_⟩)
      · simp (disch := first | ((try simp (disch := first | ((try simp only [pn]) <;> omega) | fail) only [pn, pq]) <;> omega) | fail) only [pn, pq] at c3
        refine hq _ h0 h1 h2 (fun j e h => ?_)
        have : j = (x3 - 1).toNatClampNeg := by omega
        subst this
        rcases hr with hr | hr
        · omega
        · exact hr.2
      · simp (disch := first | ((try simp (disch := first | ((try simp only [pn]) <;> omega) | fail) only [pn, pq]) <;> omega) | fail) only [pn, pq] at c3
        have hA : AK (b9g_keys S) x2 (x3 - 1).toNatClampNeg x1.toNatClampNeg := by
          rcases hr with hr | hr
          · exact hr.2
          · omega
        refine ⟨_, ?_, rfl, rfl, by omega, by omega, ?_, rfl⟩
        · omega
        · intro j h3 h4
          by_cases e : j = (x3 - 1).toNatClampNeg
          · subst e
            exact ⟨by omega, hA⟩
          · exact h2 j (by omega) h4
theorem sf_X9_manyLike {S : bT9} (hJ : K9 S) {a1 : Int32} {a2 : Int32} {Q : Int32 → Prop} (hp0 : 0 ≤ a1.toInt) (hp1 : a1.toInt ≤ (b9g_now S 9).toInt) (hp2 : a1.toInt ≤ 63) (hq : ∀ r : Int32, (0 ≤ r.toInt) → (a1.toInt + r.toInt ≤ (b9g_now S 9).toInt) → (∀ j : Nat, a1.toInt ≤ j → (j : Int) < a1.toInt + r.toInt → a2.toInt ≤ (b9g_beginning S j).toInt ∧ AK (b9g_keys S) a2 j a1.toNatClampNeg) → (∀ e : Nat, (e : Int) = a1.toInt + r.toInt → (e : Int) < (b9g_now S 9).toInt → a2.toInt ≤ (b9g_beginning S e).toInt → ¬ AK (b9g_keys S) a2 e a1.toNatClampNeg) → Q r) : wp_X9_manyLike S a1 a2 Q := by
  unfold wp_X9_manyLike wp_X9_manyLike_2
  have jn := (K9g_now hJ).2.2.2.1
  refine ⟨fun n x1 x2 x3 => x1 = a1 ∧ x2 = a2 ∧ a1.toInt ≤ x3.toInt ∧ x3.toInt ≤ (b9g_now S 9).toInt ∧ (∀ j : Nat, a1.toInt ≤ j → (j : Int) < x3.toInt → a2.toInt ≤ (b9g_beginning S j).toInt ∧ AK (b9g_keys S) a2 j a1.toNatClampNeg) ∧ n = (64 - x3.toInt).toNat, ⟨_, rfl, rfl, Int.le_refl _, hp1, fun j h1 h2 => by omega, rfl⟩, ?_⟩
  rintro n x1 x2 x3 ⟨rfl, rfl, h0, h1, h2, hn⟩
  unfold wp_X9_manyLike_2b
  have es : (x3 - x1).toInt = x3.toInt - x1.toInt := pt_sub (by omega) (by omega)
  have e9 : b9g_now S ((9 : Int32)).toNatClampNeg = b9g_now S 9 := rfl
  have e2 := pt_clamp (i := x3) (by omega)
  refine ⟨pt_in (by decide) (by decide), fun c => ?_, fun c => ?_⟩
  · simp (disch := first | ((try simp (disch := first | ((try simp only [pn]) <;> omega) | fail) only [pn, pq]) <;> omega) | fail) only [pn, pq] at c
    refine hq _ (by omega) (by omega) (fun j h3 h4 => h2 j h3 (by omega)) (fun e h3 h4 => by omega)
  · simp (disch := first | ((try simp (disch := first | ((try simp only [pn]) <;> omega) | fail) only [pn, pq]) <;> omega) | fail) only [pn, pq] at c
    refine ⟨pt_in (by omega) (by omega), fun c2 => ?_, fun c2 => ?_⟩
    · simp (disch := first | ((try simp (disch := first | ((try simp only [pn]) <;> omega) | fail) only [pn, pq]) <;> omega) | fail) only [pn, pq] at c2
      refine hq _ (by omega) (by omega) (fun j h3 h4 => h2 j h3 (by omega)) (fun e h3 h4 h5 => ?_)
      have : e = x3.toNatClampNeg := by omega
      subst this
      omega
    · simp (disch := first | ((try simp (disch := first | ((try simp only [pn]) <;> omega) | fail) only [pn, pq]) <;> omega) | fail) only [pn, pq] at c2
      refine sf_X9_isAlike hJ (by omega) (by omega) hp0 hp2 (fun r1 hz hr => ⟨fun c3 => ?_, fun c3 => ?_⟩)
      · simp (disch := first | ((try simp (disch := first | ((try simp only [pn]) <;> omega) | fail) only [pn, pq]) <;> omega) | fail) only [pn, pq] at c3
        refine hq _ (by omega) (by omega) (fun j h3 h4 => h2 j h3 (by omega)) (fun e h3 h4 h5 => ?_)
        have : e = x3.toNatClampNeg := by omega
        subst this
        rcases hr with hr | hr
        · omega
        · exact hr.2
      · simp (disch := first | ((try simp (disch := first | ((try simp only [pn]) <;> omega) | fail) only [pn, pq]) <;> omega) | fail) only [pn, pq] at c3
        have hA : AK (b9g_keys S) x2 x3.toNatClampNeg x1.toNatClampNeg := by
          rcases hr with hr | hr
          · exact hr.2
          · omega
        have e1 : (x3 + 1).toInt = x3.toInt + 1 := by rw [pt_add (by rw [pl_1]; omega) (by rw [pl_1]; omega), pl_1]
        refine ⟨_, ?_, rfl, rfl, by omega, by omega, ?_, rfl⟩
        · omega
        · intro j h3 h4
          by_cases e : j = x3.toNatClampNeg
          · subst e
            exact ⟨by omega, hA⟩
          · exact h2 j h3 (by omega)
theorem sf_X9_childAt {S : bT9} (hJ : K9 S) {a1 : Int32} {a2 : Int32} {Q : Int32 → Prop} (hp0 : 0 ≤ a1.toInt) (hp1 : a1.toInt < (b9g_nodeMany S).toInt) (hq : ∀ r : Int32, (r.toInt = -1 → ∀ y : Nat, a1.toNatClampNeg < y → (y : Int) < (b9g_nodeMany S).toInt → (b9g_nodeLevel S y).toInt = (b9g_nodeLevel S a1.toNatClampNeg).toInt + 1 → (b9g_nodeLeaf S y).toInt ≠ a2.toInt) → Q r) : wp_X9_childAt S a1 a2 Q := by
  have jx := ND_at (K9g_ND hJ) hp0 hp1
  have jm := K9g_nodeMany hJ
  have hN := K9g_ND hJ
  unfold wp_X9_childAt wp_X9_childAt_14
  have e1 : (a1 + 1).toInt = a1.toInt + 1 := by rw [pt_add (by rw [pl_1]; omega) (by rw [pl_1]; omega), pl_1]
  have el : (b9g_nodeLevel S a1.toNatClampNeg + 1).toInt = (b9g_nodeLevel S a1.toNatClampNeg).toInt + 1 := by rw [pt_add (by rw [pl_1]; omega) (by rw [pl_1]; omega), pl_1]
  have ea := pt_clamp hp0
  refine ⟨pt_in (by omega) (by omega), fun n x2 x3 x4 => x2 = a2 ∧ x3.toInt = (b9g_nodeLevel S a1.toNatClampNeg).toInt + 1 ∧ a1.toInt < x4.toInt ∧ (∀ y : Nat, a1.toNatClampNeg < y → (y : Int) < x4.toInt → (b9g_nodeLevel S y).toInt = (b9g_nodeLevel S a1.toNatClampNeg).toInt + 1 → (b9g_nodeLeaf S y).toInt ≠ a2.toInt) ∧ n = ((b9g_nodeMany S).toInt + 1 - x4.toInt).toNat, ⟨_, rfl, el, by omega, fun y h1 h2 => by omega, rfl⟩, ?_⟩
  rintro n x2 x3 x4 ⟨rfl, h3, h4, h5, hn⟩
  unfold wp_X9_childAt_14b
  refine ⟨fun c => ?_, fun c => ?_⟩
  · simp (disch := first | ((try simp (disch := first | ((try simp only [pn]) <;> omega) | fail) only [pn, pq]) <;> omega) | fail) only [pn, pq] at c
    exact hq _ (fun _ y h1 h2 => h5 y h1 (by omega))
  · simp (disch := first | ((try simp (disch := first | ((try simp only [pn]) <;> omega) | fail) only [pn, pq]) <;> omega) | fail) only [pn, pq] at c
    have jy := ND_at (K9g_ND hJ) (x := x4) (by omega) (by omega)
    have e4 := pt_clamp (i := x4) (by omega)
    refine ⟨pt_in (by omega) (by omega), fun c2 => ?_, fun c2 => ?_⟩
    · simp (disch := first | ((try simp (disch := first | ((try simp only [pn]) <;> omega) | fail) only [pn, pq]) <;> omega) | fail) only [pn, pq] at c2
      refine hq _ (fun _ y h1 h2 h6 => ?_)
      by_cases e : (y : Int) < x4.toInt
      · exact h5 y h1 e h6
      · exfalso
        by_cases e2 : y = x4.toNatClampNeg
        · subst e2
          omega
        · have p := ND_pos hN (show x4.toNatClampNeg < y by omega) h2
          have b := (hN y h2).1
          omega
    · simp (disch := first | ((try simp (disch := first | ((try simp only [pn]) <;> omega) | fail) only [pn, pq]) <;> omega) | fail) only [pn, pq] at c2
      have e5 : (x4 + 1).toInt = x4.toInt + 1 := by rw [pt_add (by rw [pl_1]; omega) (by rw [pl_1]; omega), pl_1]
      have next : ((b9g_nodeLevel S x4.toNatClampNeg).toInt = (b9g_nodeLevel S a1.toNatClampNeg).toInt + 1 → (b9g_nodeLeaf S x4.toNatClampNeg).toInt ≠ x2.toInt) → wp_X9_childAt_59 S x2 x3 x4 Q (fun x2_1 x3_1 x4_1 => ∃ n2 : Nat, n2 < n ∧ x2_1 = x2 ∧ x3_1.toInt = (b9g_nodeLevel S a1.toNatClampNeg).toInt + 1 ∧ a1.toInt < x4_1.toInt ∧ (∀ y : Nat, a1.toNatClampNeg < y → (y : Int) < x4_1.toInt → (b9g_nodeLevel S y).toInt = (b9g_nodeLevel S a1.toNatClampNeg).toInt + 1 → (b9g_nodeLeaf S y).toInt ≠ x2.toInt) ∧ n2 = ((b9g_nodeMany S).toInt + 1 - x4_1.toInt).toNat) := by
        intro hx
        unfold wp_X9_childAt_59
        refine ⟨_, ?_, rfl, h3, by omega, ?_, rfl⟩
        · omega
        · intro y h1 h2 h6
          by_cases e : y = x4.toNatClampNeg
          · subst e
            exact hx h6
          · exact h5 y h1 (by omega) h6
      refine ⟨pt_in (by omega) (by omega), fun c3 => next (fun h => ?_), fun c3 => ⟨pt_in (by omega) (by omega), fun c4 => next (fun _ => ?_), fun c4 => hq _ (fun h => by omega)⟩⟩
      · simp (disch := first | ((try simp (disch := first | ((try simp only [pn]) <;> omega) | fail) only [pn, pq]) <;> omega) | fail) only [pn, pq] at c3
        omega
      · simp (disch := first | ((try simp (disch := first | ((try simp only [pn]) <;> omega) | fail) only [pn, pq]) <;> omega) | fail) only [pn, pq] at c4
        exact c4
theorem sf_X9_isBranch {S : bT9} (hJ : K9 S) {a1 : Int32} {a2 : Int32} {Q : Int32 → Prop} (hp0 : 0 ≤ a1.toInt) (hp1 : a1.toInt < (b9g_nodeMany S).toInt) (hp2 : (b9g_nodeLeaf S a1.toNatClampNeg).toInt ≤ a2.toInt) (hp3 : a2.toInt ≤ 63) (hq : ∀ r : Int32, bf_bool r → (r.toInt = 0 ∨ BRd S a1 a2) → Q r) : wp_X9_isBranch S a1 a2 Q := by
  have jx := ND_at (K9g_ND hJ) hp0 hp1
  have jm := K9g_nodeMany hJ
  unfold wp_X9_isBranch
  have e2 := pt_clamp (i := a2) (by omega)
  refine ⟨pt_in (by omega) (by omega), pt_in (by omega) (by omega), fun c => ⟨rfl, hq _ rfl (Or.inl rfl)⟩, fun c => ?_⟩
  simp (disch := first | ((try simp (disch := first | ((try simp only [pn]) <;> omega) | fail) only [pn, pq]) <;> omega) | fail) only [pn, pq] at c
  refine ⟨pt_in (by omega) (by omega), fun c2 => ?_, fun c2 => ?_⟩
  · unfold wp_X9_isBranch_53
    exact ⟨rfl, hq _ rfl (Or.inr (show BRd S a1 a2 from ⟨by omega, Or.inl (by rw [c2])⟩))⟩
  · simp (disch := first | ((try simp (disch := first | ((try simp only [pn]) <;> omega) | fail) only [pn, pq]) <;> omega) | fail) only [pn, pq] at c2
    have e1 : (a2 - 1).toInt = a2.toInt - 1 := by rw [pt_sub (by rw [pl_1]; omega) (by rw [pl_1]; omega), pl_1]
    have e3 := pt_clamp (i := a2 - 1) (by omega)
    refine ⟨pt_in (by omega) (by omega), fun c3 => ?_, fun c3 => ?_⟩
    · simp (disch := first | ((try simp (disch := first | ((try simp only [pn]) <;> omega) | fail) only [pn, pq]) <;> omega) | fail) only [pn, pq] at c3
      unfold wp_X9_isBranch_53
      exact ⟨rfl, hq _ rfl (Or.inr (show BRd S a1 a2 from ⟨by omega, Or.inr ⟨(a2 - 1).toNatClampNeg, by omega, Or.inl c3⟩⟩))⟩
    · refine sf_X9_isAlike hJ (by omega) (by omega) (by omega) (by omega) (fun r1 hz hr => ⟨fun c4 => ⟨rfl, hq _ rfl (Or.inl rfl)⟩, fun c4 => ?_⟩)
      simp (disch := first | ((try simp (disch := first | ((try simp only [pn]) <;> omega) | fail) only [pn, pq]) <;> omega) | fail) only [pn, pq] at c4
      unfold wp_X9_isBranch_53
      refine ⟨rfl, hq _ rfl (Or.inr (show BRd S a1 a2 from ⟨by omega, Or.inr ⟨(a2 - 1).toNatClampNeg, by omega, Or.inr ?_⟩⟩))⟩
      rcases hr with hr | hr
      · omega
      · exact hr.2
set_option maxRecDepth 20000 in
set_option maxHeartbeats 8000000 in
theorem sf_X9_isNodeEnd {S : bT9} (hJ : K9 S) {a1 : Int32} {Q : Int32 → Prop} (hp0 : 0 ≤ a1.toInt) (hp1 : a1.toInt < (b9g_nodeMany S).toInt) (hq : ∀ r : Int32, bf_bool r → (r.toInt = 0 ∨ (b9g_beginning S (b9g_nodeLeaf S a1.toNatClampNeg).toNatClampNeg).toInt = (b9g_nodeLevel S a1.toNatClampNeg).toInt) → Q r) : wp_X9_isNodeEnd S a1 Q := by
  unfold wp_X9_isNodeEnd
  have jf1 := K9g_nodeMany hJ
  have jf2 : (-4 ≤ ((b9g_now S) 1).toInt ∧ ((b9g_now S) 1).toInt ≤ 4) ∧ (-3 ≤ ((b9g_now S) 4).toInt ∧ ((b9g_now S) 4).toInt ≤ 252) ∧ (0 ≤ ((b9g_now S) 8).toInt ∧ ((b9g_now S) 8).toInt ≤ 64) ∧ (0 ≤ ((b9g_now S) 9).toInt ∧ ((b9g_now S) 9).toInt ≤ 64) ∧ (0 ≤ ((b9g_now S) 10).toInt ∧ ((b9g_now S) 10).toInt ≤ 16) ∧ (0 ≤ ((b9g_now S) 12).toInt ∧ ((b9g_now S) 12).toInt ≤ 8) := K9g_now hJ
  have rga1 := pt_rg a1
  refine ⟨pt_in (by (try simp (disch := first | ((try simp (disch := first | ((try simp only [pn]) <;> omega) | fail) only [pn, pq]) <;> omega) | fail) only [pn, pq]) <;> (intros; (try simp (disch := first | ((try simp (disch := first | ((try simp only [pn]) <;> omega) | fail) only [pn, pq]) <;> omega) | fail) only [pn, pq]) <;> omega)) (by (try simp (disch := first | ((try simp (disch := first | ((try simp only [pn]) <;> omega) | fail) only [pn, pq]) <;> omega) | fail) only [pn, pq]) <;> (intros; (try simp (disch := first | ((try simp (disch := first | ((try simp only [pn]) <;> omega) | fail) only [pn, pq]) <;> omega) | fail) only [pn, pq]) <;> omega)), ?_⟩
  have jr3 := ND_at (K9g_ND hJ) (x := a1) (by (try simp (disch := first | ((try simp (disch := first | ((try simp only [pn]) <;> omega) | fail) only [pn, pq]) <;> omega) | fail) only [pn, pq]) <;> (intros; (try simp (disch := first | ((try simp (disch := first | ((try simp only [pn]) <;> omega) | fail) only [pn, pq]) <;> omega) | fail) only [pn, pq]) <;> omega)) (by (try simp (disch := first | ((try simp (disch := first | ((try simp only [pn]) <;> omega) | fail) only [pn, pq]) <;> omega) | fail) only [pn, pq]) <;> (intros; (try simp (disch := first | ((try simp (disch := first | ((try simp only [pn]) <;> omega) | fail) only [pn, pq]) <;> omega) | fail) only [pn, pq]) <;> omega))
  try simp (disch := first | ((try simp (disch := first | ((try simp only [pn]) <;> omega) | fail) only [pn, pq]) <;> omega) | fail) only [pn, pq] at jr3
  refine ⟨pt_in (by (try simp (disch := first | ((try simp (disch := first | ((try simp only [pn]) <;> omega) | fail) only [pn, pq]) <;> omega) | fail) only [pn, pq]) <;> (intros; (try simp (disch := first | ((try simp (disch := first | ((try simp only [pn]) <;> omega) | fail) only [pn, pq]) <;> omega) | fail) only [pn, pq]) <;> omega)) (by (try simp (disch := first | ((try simp (disch := first | ((try simp only [pn]) <;> omega) | fail) only [pn, pq]) <;> omega) | fail) only [pn, pq]) <;> (intros; (try simp (disch := first | ((try simp (disch := first | ((try simp only [pn]) <;> omega) | fail) only [pn, pq]) <;> omega) | fail) only [pn, pq]) <;> omega)), ?_⟩
  have jr4 := K9g_beginning hJ (((b9g_nodeLeaf S) (a1).toNatClampNeg)).toNatClampNeg
  try simp (disch := first | ((try simp (disch := first | ((try simp only [pn]) <;> omega) | fail) only [pn, pq]) <;> omega) | fail) only [pn, pq] at jr4
  refine ⟨pt_in (by (try simp (disch := first | ((try simp (disch := first | ((try simp only [pn]) <;> omega) | fail) only [pn, pq]) <;> omega) | fail) only [pn, pq]) <;> (intros; (try simp (disch := first | ((try simp (disch := first | ((try simp only [pn]) <;> omega) | fail) only [pn, pq]) <;> omega) | fail) only [pn, pq]) <;> omega)) (by (try simp (disch := first | ((try simp (disch := first | ((try simp only [pn]) <;> omega) | fail) only [pn, pq]) <;> omega) | fail) only [pn, pq]) <;> (intros; (try simp (disch := first | ((try simp (disch := first | ((try simp only [pn]) <;> omega) | fail) only [pn, pq]) <;> omega) | fail) only [pn, pq]) <;> omega)), ?_⟩
  have jr5 := ND_at (K9g_ND hJ) (x := a1) (by (try simp (disch := first | ((try simp (disch := first | ((try simp only [pn]) <;> omega) | fail) only [pn, pq]) <;> omega) | fail) only [pn, pq]) <;> (intros; (try simp (disch := first | ((try simp (disch := first | ((try simp only [pn]) <;> omega) | fail) only [pn, pq]) <;> omega) | fail) only [pn, pq]) <;> omega)) (by (try simp (disch := first | ((try simp (disch := first | ((try simp only [pn]) <;> omega) | fail) only [pn, pq]) <;> omega) | fail) only [pn, pq]) <;> (intros; (try simp (disch := first | ((try simp (disch := first | ((try simp only [pn]) <;> omega) | fail) only [pn, pq]) <;> omega) | fail) only [pn, pq]) <;> omega))
  try simp (disch := first | ((try simp (disch := first | ((try simp only [pn]) <;> omega) | fail) only [pn, pq]) <;> omega) | fail) only [pn, pq] at jr5
  refine ⟨fun c1 => ?_, fun c1 => ?_⟩
  · try simp (disch := first | ((try simp (disch := first | ((try simp only [pn]) <;> omega) | fail) only [pn, pq]) <;> omega) | fail) only [pn, pq] at c1
    exact ⟨by first | rfl | assumption, hq _ (by first | rfl | assumption) (by (try simp (disch := first | ((try simp (disch := first | ((try simp only [pn]) <;> omega) | fail) only [pn, pq]) <;> omega) | fail) only [pn, pq]) <;> (intros; (try simp (disch := first | ((try simp (disch := first | ((try simp only [pn]) <;> omega) | fail) only [pn, pq]) <;> omega) | fail) only [pn, pq]) <;> omega))⟩
  · try simp (disch := first | ((try simp (disch := first | ((try simp only [pn]) <;> omega) | fail) only [pn, pq]) <;> omega) | fail) only [pn, pq] at c1
    exact ⟨by first | rfl | assumption, hq _ (by first | rfl | assumption) (by (try simp (disch := first | ((try simp (disch := first | ((try simp only [pn]) <;> omega) | fail) only [pn, pq]) <;> omega) | fail) only [pn, pq]) <;> (intros; (try simp (disch := first | ((try simp (disch := first | ((try simp only [pn]) <;> omega) | fail) only [pn, pq]) <;> omega) | fail) only [pn, pq]) <;> omega))⟩
set_option maxRecDepth 20000 in
set_option maxHeartbeats 8000000 in
theorem sf_X9_lastOf {S : bT9} (hJ : K9 S) {a1 : Int32} {Q : Int32 → Prop} (hp0 : 0 ≤ a1.toInt) (hp1 : a1.toInt < (b9g_nodeMany S).toInt) (hq : ∀ r : Int32, (r.toInt = (b9g_nodeLeaf S a1.toNatClampNeg).toInt + (b9g_nodeLeaves S a1.toNatClampNeg).toInt - 1) → (r.toInt ≤ 63) → Q r) : wp_X9_lastOf S a1 Q := by
  unfold wp_X9_lastOf
  have jf1 := K9g_nodeMany hJ
  have jf2 : (-4 ≤ ((b9g_now S) 1).toInt ∧ ((b9g_now S) 1).toInt ≤ 4) ∧ (-3 ≤ ((b9g_now S) 4).toInt ∧ ((b9g_now S) 4).toInt ≤ 252) ∧ (0 ≤ ((b9g_now S) 8).toInt ∧ ((b9g_now S) 8).toInt ≤ 64) ∧ (0 ≤ ((b9g_now S) 9).toInt ∧ ((b9g_now S) 9).toInt ≤ 64) ∧ (0 ≤ ((b9g_now S) 10).toInt ∧ ((b9g_now S) 10).toInt ≤ 16) ∧ (0 ≤ ((b9g_now S) 12).toInt ∧ ((b9g_now S) 12).toInt ≤ 8) := K9g_now hJ
  have rga1 := pt_rg a1
  refine ⟨pt_in (by (try simp (disch := first | ((try simp (disch := first | ((try simp only [pn]) <;> omega) | fail) only [pn, pq]) <;> omega) | fail) only [pn, pq]) <;> (intros; (try simp (disch := first | ((try simp (disch := first | ((try simp only [pn]) <;> omega) | fail) only [pn, pq]) <;> omega) | fail) only [pn, pq]) <;> omega)) (by (try simp (disch := first | ((try simp (disch := first | ((try simp only [pn]) <;> omega) | fail) only [pn, pq]) <;> omega) | fail) only [pn, pq]) <;> (intros; (try simp (disch := first | ((try simp (disch := first | ((try simp only [pn]) <;> omega) | fail) only [pn, pq]) <;> omega) | fail) only [pn, pq]) <;> omega)), ?_⟩
  have jr3 := ND_at (K9g_ND hJ) (x := a1) (by (try simp (disch := first | ((try simp (disch := first | ((try simp only [pn]) <;> omega) | fail) only [pn, pq]) <;> omega) | fail) only [pn, pq]) <;> (intros; (try simp (disch := first | ((try simp (disch := first | ((try simp only [pn]) <;> omega) | fail) only [pn, pq]) <;> omega) | fail) only [pn, pq]) <;> omega)) (by (try simp (disch := first | ((try simp (disch := first | ((try simp only [pn]) <;> omega) | fail) only [pn, pq]) <;> omega) | fail) only [pn, pq]) <;> (intros; (try simp (disch := first | ((try simp (disch := first | ((try simp only [pn]) <;> omega) | fail) only [pn, pq]) <;> omega) | fail) only [pn, pq]) <;> omega))
  try simp (disch := first | ((try simp (disch := first | ((try simp only [pn]) <;> omega) | fail) only [pn, pq]) <;> omega) | fail) only [pn, pq] at jr3
  refine ⟨pt_in (by (try simp (disch := first | ((try simp (disch := first | ((try simp only [pn]) <;> omega) | fail) only [pn, pq]) <;> omega) | fail) only [pn, pq]) <;> (intros; (try simp (disch := first | ((try simp (disch := first | ((try simp only [pn]) <;> omega) | fail) only [pn, pq]) <;> omega) | fail) only [pn, pq]) <;> omega)) (by (try simp (disch := first | ((try simp (disch := first | ((try simp only [pn]) <;> omega) | fail) only [pn, pq]) <;> omega) | fail) only [pn, pq]) <;> (intros; (try simp (disch := first | ((try simp (disch := first | ((try simp only [pn]) <;> omega) | fail) only [pn, pq]) <;> omega) | fail) only [pn, pq]) <;> omega)), ?_⟩
  have jr4 := ND_at (K9g_ND hJ) (x := a1) (by (try simp (disch := first | ((try simp (disch := first | ((try simp only [pn]) <;> omega) | fail) only [pn, pq]) <;> omega) | fail) only [pn, pq]) <;> (intros; (try simp (disch := first | ((try simp (disch := first | ((try simp only [pn]) <;> omega) | fail) only [pn, pq]) <;> omega) | fail) only [pn, pq]) <;> omega)) (by (try simp (disch := first | ((try simp (disch := first | ((try simp only [pn]) <;> omega) | fail) only [pn, pq]) <;> omega) | fail) only [pn, pq]) <;> (intros; (try simp (disch := first | ((try simp (disch := first | ((try simp only [pn]) <;> omega) | fail) only [pn, pq]) <;> omega) | fail) only [pn, pq]) <;> omega))
  try simp (disch := first | ((try simp (disch := first | ((try simp only [pn]) <;> omega) | fail) only [pn, pq]) <;> omega) | fail) only [pn, pq] at jr4
  exact hq _ (by (try simp (disch := first | ((try simp (disch := first | ((try simp only [pn]) <;> omega) | fail) only [pn, pq]) <;> omega) | fail) only [pn, pq]) <;> (intros; (try simp (disch := first | ((try simp (disch := first | ((try simp only [pn]) <;> omega) | fail) only [pn, pq]) <;> omega) | fail) only [pn, pq]) <;> omega)) (by (try simp (disch := first | ((try simp (disch := first | ((try simp only [pn]) <;> omega) | fail) only [pn, pq]) <;> omega) | fail) only [pn, pq]) <;> (intros; (try simp (disch := first | ((try simp (disch := first | ((try simp only [pn]) <;> omega) | fail) only [pn, pq]) <;> omega) | fail) only [pn, pq]) <;> omega))
def F_X9_laysItem (S u : bT9) : Prop := (b9g_told u) = (b9g_told S) ∧ (b9g_now u) = (b9g_now S) ∧ (b9g_keys u) = (b9g_keys S) ∧ (b9g_lengths u) = (b9g_lengths S) ∧ (b9g_drawn u) = (b9g_drawn S) ∧ (b9g_drawnLength u) = (b9g_drawnLength S) ∧ (b9g_tape u) = (b9g_tape S) ∧ (b9g_taped u) = (b9g_taped S) ∧ (b9g_names u) = (b9g_names S) ∧ (b9g_chosen u) = (b9g_chosen S) ∧ (b9g_common u) = (b9g_common S) ∧ (b9g_beginning u) = (b9g_beginning S) ∧ (b9g_isLaid u) = (b9g_isLaid S) ∧ (b9g_nodeLevel u) = (b9g_nodeLevel S) ∧ (b9g_nodeLeaf u) = (b9g_nodeLeaf S) ∧ (b9g_nodeLeaves u) = (b9g_nodeLeaves S) ∧ (b9g_nodeMany u) = (b9g_nodeMany S) ∧ (b9g_levelMany u) = (b9g_levelMany S) ∧ (b9g_upper u) = (b9g_upper S) ∧ (b9g_upperNodes u) = (b9g_upperNodes S) ∧ (b9g_areNodesLaid u) = (b9g_areNodesLaid S) ∧ (b9g_placeOf u) = (b9g_placeOf S) ∧ (b9g_leafOfPlace u) = (b9g_leafOfPlace S) ∧ (b9g_places u) = (b9g_places S) ∧ (b9g_lowKey u) = (b9g_lowKey S) ∧ (b9g_highKey u) = (b9g_highKey S) ∧ (b9g_lowLength u) = (b9g_lowLength S) ∧ (b9g_highLength u) = (b9g_highLength S) ∧ (b9g_fromKey u) = (b9g_fromKey S) ∧ (b9g_toKey u) = (b9g_toKey S) ∧ (b9g_fromLength u) = (b9g_fromLength S) ∧ (b9g_toLength u) = (b9g_toLength S) ∧ (b9g_ones u) = (b9g_ones S) ∧ (b9g_oneMany u) = (b9g_oneMany S) ∧ (b9g_rowLong u) = (b9g_rowLong S) ∧ (b9g_laidFor u) = (b9g_laidFor S) ∧ (b9g_signs u) = (b9g_signs S) ∧ (b9g_signMany u) = (b9g_signMany S) ∧ (b9g_hasImage u) = (b9g_hasImage S) ∧ (b9g_images u) = (b9g_images S) ∧ (b9g_keyImages u) = (b9g_keyImages S) ∧ (b9g_lengthImages u) = (b9g_lengthImages S)
theorem sf_X9_laysItem {S : bT9} (hJ : J9 S) {a1 : Int32} {a2 : Int32} {a3 : Int32} {Q : (bT9) → Prop} (hp0 : (b9g_itemMany S).toInt ≤ 699) (hq : ∀ u : bT9, (J9 u) → F_X9_laysItem S u → ((b9g_itemMany u).toInt = (b9g_itemMany S).toInt + 1) → (b9g_itemNode u = upd (b9g_itemNode S) (b9g_itemMany S).toNatClampNeg a1) → (b9g_itemByte u = upd (b9g_itemByte S) (b9g_itemMany S).toNatClampNeg a2) → (b9g_itemChild u = upd (b9g_itemChild S) (b9g_itemMany S).toNatClampNeg a3) → Q u) : wp_X9_laysItem S a1 a2 a3 Q := by
  have jp := J9g_itemMany hJ
  unfold wp_X9_laysItem
  refine ⟨pt_in jp.1 (by omega), fun S1 e1 => ?_⟩
  have p1 : b9g_itemMany S1 = b9g_itemMany S := by rw [e1]
  rw [p1]
  refine ⟨pt_in jp.1 (by omega), fun S2 e2 => ?_⟩
  have p2 : b9g_itemMany S2 = b9g_itemMany S := by rw [e2]; exact p1
  rw [p2]
  refine ⟨pt_in jp.1 (by omega), fun S3 e3 S4 e4 => ?_⟩
  have v2 : (b9g_itemMany S + 1).toInt = (b9g_itemMany S).toInt + 1 := by rw [pt_add (by rw [pl_1]; omega) (by rw [pl_1]; omega), pl_1]
  refine hq S4 ?_ ?_ ?_ ?_ ?_ ?_
  · rw [e4, e3, e2, e1]
    exact J9s_itemMany (J9s_itemChild (J9s_itemByte (J9s_itemNode hJ))) ⟨by show 0 ≤ (b9g_itemMany S + 1).toInt; omega, by show (b9g_itemMany S + 1).toInt ≤ 700; omega⟩
  · rw [e4, e3, e2, e1]
    exact ⟨rfl, rfl, rfl, rfl, rfl, rfl, rfl, rfl, rfl, rfl, rfl, rfl, rfl, rfl, rfl, rfl, rfl, rfl, rfl, rfl, rfl, rfl, rfl, rfl, rfl, rfl, rfl, rfl, rfl, rfl, rfl, rfl, rfl, rfl, rfl, rfl, rfl, rfl, rfl, rfl, rfl, rfl⟩
  · rw [e4, e3, e2, e1]
    exact v2
  · rw [e4, e3, e2, e1]
  · rw [e4, e3, e2, e1]
  · rw [e4, e3, e2, e1]
def F_X9_places (S u : bT9) : Prop := (b9g_told u) = (b9g_told S) ∧ (b9g_now u) = (b9g_now S) ∧ (b9g_keys u) = (b9g_keys S) ∧ (b9g_lengths u) = (b9g_lengths S) ∧ (b9g_drawn u) = (b9g_drawn S) ∧ (b9g_drawnLength u) = (b9g_drawnLength S) ∧ (b9g_tape u) = (b9g_tape S) ∧ (b9g_taped u) = (b9g_taped S) ∧ (b9g_names u) = (b9g_names S) ∧ (b9g_chosen u) = (b9g_chosen S) ∧ (b9g_common u) = (b9g_common S) ∧ (b9g_beginning u) = (b9g_beginning S) ∧ (b9g_isLaid u) = (b9g_isLaid S) ∧ (b9g_nodeLevel u) = (b9g_nodeLevel S) ∧ (b9g_nodeLeaf u) = (b9g_nodeLeaf S) ∧ (b9g_nodeLeaves u) = (b9g_nodeLeaves S) ∧ (b9g_nodeMany u) = (b9g_nodeMany S) ∧ (b9g_levelMany u) = (b9g_levelMany S) ∧ (b9g_upper u) = (b9g_upper S) ∧ (b9g_upperNodes u) = (b9g_upperNodes S) ∧ (b9g_areNodesLaid u) = (b9g_areNodesLaid S) ∧ (b9g_itemNode u) = (b9g_itemNode S) ∧ (b9g_itemByte u) = (b9g_itemByte S) ∧ (b9g_itemChild u) = (b9g_itemChild S) ∧ (b9g_itemMany u) = (b9g_itemMany S) ∧ (b9g_lowKey u) = (b9g_lowKey S) ∧ (b9g_highKey u) = (b9g_highKey S) ∧ (b9g_lowLength u) = (b9g_lowLength S) ∧ (b9g_highLength u) = (b9g_highLength S) ∧ (b9g_fromKey u) = (b9g_fromKey S) ∧ (b9g_toKey u) = (b9g_toKey S) ∧ (b9g_fromLength u) = (b9g_fromLength S) ∧ (b9g_toLength u) = (b9g_toLength S) ∧ (b9g_ones u) = (b9g_ones S) ∧ (b9g_oneMany u) = (b9g_oneMany S) ∧ (b9g_rowLong u) = (b9g_rowLong S) ∧ (b9g_laidFor u) = (b9g_laidFor S) ∧ (b9g_signs u) = (b9g_signs S) ∧ (b9g_signMany u) = (b9g_signMany S) ∧ (b9g_hasImage u) = (b9g_hasImage S) ∧ (b9g_images u) = (b9g_images S) ∧ (b9g_keyImages u) = (b9g_keyImages S) ∧ (b9g_lengthImages u) = (b9g_lengthImages S)
theorem sf_X9_places {S : bT9} (hJ : J9 S) {a1 : Int32} {Q : (bT9) → Prop} (hp0 : 0 ≤ a1.toInt) (hp1 : a1.toInt ≤ 63) (hp2 : (b9g_places S).toInt ≤ 63) (hq : ∀ u : bT9, (J9 u) → F_X9_places S u → ((b9g_places u).toInt = (b9g_places S).toInt + 1) → (b9g_placeOf u = upd (b9g_placeOf S) a1.toNatClampNeg (b9g_places S)) → (b9g_leafOfPlace u = upd (b9g_leafOfPlace S) (b9g_places S).toNatClampNeg a1) → Q u) : wp_X9_places S a1 Q := by
  have jp := J9g_places hJ
  unfold wp_X9_places
  refine ⟨pt_in hp0 (by omega), fun S1 e1 => ?_⟩
  have p1 : b9g_places S1 = b9g_places S := by rw [e1]
  rw [p1]
  refine ⟨pt_in jp.1 (by omega), fun S2 e2 S3 e3 => ?_⟩
  have p2 : b9g_places S2 = b9g_places S := by rw [e2]; exact p1
  have v : (b9g_places S2 + 1).toInt = (b9g_places S).toInt + 1 := by rw [p2, pt_add (by rw [pl_1]; omega) (by rw [pl_1]; omega), pl_1]
  refine hq S3 ?_ ?_ ?_ ?_ ?_
  · rw [e3, e2, e1]
    have v2 : (b9g_places S + 1).toInt = (b9g_places S).toInt + 1 := by rw [pt_add (by rw [pl_1]; omega) (by rw [pl_1]; omega), pl_1]
    exact J9s_places (J9s_leafOfPlace (J9s_placeOf hJ)) ⟨by show 0 ≤ (b9g_places S + 1).toInt; omega, by show (b9g_places S + 1).toInt ≤ 64; omega⟩
  · rw [e3, e2, e1]
    exact ⟨rfl, rfl, rfl, rfl, rfl, rfl, rfl, rfl, rfl, rfl, rfl, rfl, rfl, rfl, rfl, rfl, rfl, rfl, rfl, rfl, rfl, rfl, rfl, rfl, rfl, rfl, rfl, rfl, rfl, rfl, rfl, rfl, rfl, rfl, rfl, rfl, rfl, rfl, rfl, rfl, rfl, rfl, rfl⟩
  · rw [e3]
    exact v
  · rw [e3, e2, e1]
  · rw [e3, e2, e1]
def F_X9_laysNode (S u : bT9) : Prop := (b9g_told u) = (b9g_told S) ∧ (b9g_now u) = (b9g_now S) ∧ (b9g_keys u) = (b9g_keys S) ∧ (b9g_lengths u) = (b9g_lengths S) ∧ (b9g_drawn u) = (b9g_drawn S) ∧ (b9g_drawnLength u) = (b9g_drawnLength S) ∧ (b9g_tape u) = (b9g_tape S) ∧ (b9g_taped u) = (b9g_taped S) ∧ (b9g_names u) = (b9g_names S) ∧ (b9g_chosen u) = (b9g_chosen S) ∧ (b9g_common u) = (b9g_common S) ∧ (b9g_beginning u) = (b9g_beginning S) ∧ (b9g_isLaid u) = (b9g_isLaid S) ∧ (b9g_nodeLevel u) = (b9g_nodeLevel S) ∧ (b9g_nodeLeaf u) = (b9g_nodeLeaf S) ∧ (b9g_nodeLeaves u) = (b9g_nodeLeaves S) ∧ (b9g_nodeMany u) = (b9g_nodeMany S) ∧ (b9g_levelMany u) = (b9g_levelMany S) ∧ (b9g_upper u) = (b9g_upper S) ∧ (b9g_upperNodes u) = (b9g_upperNodes S) ∧ (b9g_areNodesLaid u) = (b9g_areNodesLaid S) ∧ (b9g_lowKey u) = (b9g_lowKey S) ∧ (b9g_highKey u) = (b9g_highKey S) ∧ (b9g_lowLength u) = (b9g_lowLength S) ∧ (b9g_highLength u) = (b9g_highLength S) ∧ (b9g_fromKey u) = (b9g_fromKey S) ∧ (b9g_toKey u) = (b9g_toKey S) ∧ (b9g_fromLength u) = (b9g_fromLength S) ∧ (b9g_toLength u) = (b9g_toLength S) ∧ (b9g_ones u) = (b9g_ones S) ∧ (b9g_oneMany u) = (b9g_oneMany S) ∧ (b9g_rowLong u) = (b9g_rowLong S) ∧ (b9g_laidFor u) = (b9g_laidFor S) ∧ (b9g_signs u) = (b9g_signs S) ∧ (b9g_signMany u) = (b9g_signMany S) ∧ (b9g_hasImage u) = (b9g_hasImage S) ∧ (b9g_images u) = (b9g_images S) ∧ (b9g_keyImages u) = (b9g_keyImages S) ∧ (b9g_lengthImages u) = (b9g_lengthImages S)
theorem sf_X9_laysNode {S : bT9} (hJ : J9 S) {a1 : Int32} {Q : (bT9) → Prop} (hp0 : 0 ≤ a1.toInt) (hp1 : a1.toInt < (b9g_nodeMany S).toInt) (hp2 : TR S 8 0) (hp3 : (b9g_itemMany S).toInt ≤ 64 * (b9g_nodeLevel S a1.toNatClampNeg).toInt + (b9g_nodeLeaf S a1.toNatClampNeg).toInt) (hp4 : ∃ T : Nat → Bool, (∀ i : Nat, T i = true → ∃ y : Nat, y < a1.toNatClampNeg ∧ PLS S y i) ∧ (b9g_places S).toInt = cntB T 64) (hq : ∀ u : bT9, (J9 u) → F_X9_laysNode S u → ((b9g_itemMany u).toInt ≤ (b9g_itemMany S).toInt + (b9g_nodeLeaves S a1.toNatClampNeg).toInt) → (∃ T : Nat → Bool, (∀ i : Nat, T i = true → ∃ y : Nat, y < a1.toNatClampNeg + 1 ∧ PLS S y i) ∧ (b9g_places u).toInt = cntB T 64) → Q u) : wp_X9_laysNode S a1 Q := by
  have jx := ND_at (J9g_ND hJ) hp0 hp1
  have hN := J9g_ND hJ
  have jm := J9g_nodeMany hJ
  have jb := J9g_beginning hJ
  have ex := pt_clamp hp0
  have elf := pt_clamp (i := b9g_nodeLeaf S a1.toNatClampNeg) (by omega)
  have hTR := hp2
  obtain ⟨hM, hC, hE, _⟩ := hTR
  have hEx := hE a1.toNatClampNeg (by omega)
  obtain ⟨T0, t1, t2⟩ := hp4
  have loop : ∀ (x2 : Int32) (U : bT9), J9 U → F_X9_laysNode S U → (∃ T : Nat → Bool, (∀ i : Nat, T i = true → (∃ y : Nat, y < a1.toNatClampNeg ∧ PLS S y i) ∨ (PLS S a1.toNatClampNeg i ∧ ((i : Int) < (b9g_nodeLeaf S a1.toNatClampNeg).toInt ∨ (b9g_beginning S i).toInt = (b9g_nodeLevel S a1.toNatClampNeg).toInt))) ∧ (b9g_places U).toInt = cntB T 64) → ((b9g_itemMany U).toInt ≤ (b9g_itemMany S).toInt + ((b9g_nodeLeaf S a1.toNatClampNeg).toInt - (b9g_nodeLeaf S a1.toNatClampNeg).toInt) ∨ ((b9g_nodeLeaf S a1.toNatClampNeg).toInt = (b9g_nodeLeaf S a1.toNatClampNeg).toInt ∧ (b9g_beginning S (b9g_nodeLeaf S a1.toNatClampNeg).toNatClampNeg).toInt = (b9g_nodeLevel S a1.toNatClampNeg).toInt ∧ (b9g_itemMany U).toInt ≤ (b9g_itemMany S).toInt + 1)) → wp_X9_laysNode_43 U a1 x2 Q := by
    intro x2 U hJU hFU hpU hiU
    have eFU : b9g_nodeLeaf U = b9g_nodeLeaf S := hFU.2.2.2.2.2.2.2.2.2.2.2.2.2.2.1
    unfold wp_X9_laysNode_43 wp_X9_laysNode_50
    rw [eFU]
    refine ⟨pt_in (by omega) (by omega), fun n x1 y2 x3 V => a1 = x1 ∧ J9 V ∧ F_X9_laysNode S V ∧ (b9g_nodeLeaf S a1.toNatClampNeg).toInt ≤ x3.toInt ∧ x3.toInt ≤ (b9g_nodeLeaf S a1.toNatClampNeg).toInt + (b9g_nodeLeaves S a1.toNatClampNeg).toInt ∧ (∃ T : Nat → Bool, (∀ i : Nat, T i = true → (∃ y : Nat, y < a1.toNatClampNeg ∧ PLS S y i) ∨ (PLS S a1.toNatClampNeg i ∧ ((i : Int) < x3.toInt ∨ (b9g_beginning S i).toInt = (b9g_nodeLevel S a1.toNatClampNeg).toInt))) ∧ (b9g_places V).toInt = cntB T 64) ∧ ((b9g_itemMany V).toInt ≤ (b9g_itemMany S).toInt + (x3.toInt - (b9g_nodeLeaf S a1.toNatClampNeg).toInt) ∨ (x3.toInt = (b9g_nodeLeaf S a1.toNatClampNeg).toInt ∧ (b9g_beginning S (b9g_nodeLeaf S a1.toNatClampNeg).toNatClampNeg).toInt = (b9g_nodeLevel S a1.toNatClampNeg).toInt ∧ (b9g_itemMany V).toInt ≤ (b9g_itemMany S).toInt + 1)) ∧ n = ((b9g_nodeLeaf S a1.toNatClampNeg).toInt + (b9g_nodeLeaves S a1.toNatClampNeg).toInt - x3.toInt).toNat, ⟨_, rfl, hJU, hFU, by omega, by omega, hpU, hiU, rfl⟩, ?_⟩
    rintro n x1 y2 x3 V ⟨rfl, hJV, hF, h1, h2, hpV, hiV, hn⟩
    have eL : b9g_nodeLevel V = b9g_nodeLevel S := hF.2.2.2.2.2.2.2.2.2.2.2.2.2.1
    have eF : b9g_nodeLeaf V = b9g_nodeLeaf S := hF.2.2.2.2.2.2.2.2.2.2.2.2.2.2.1
    have eS : b9g_nodeLeaves V = b9g_nodeLeaves S := hF.2.2.2.2.2.2.2.2.2.2.2.2.2.2.2.1
    have eM : b9g_nodeMany V = b9g_nodeMany S := hF.2.2.2.2.2.2.2.2.2.2.2.2.2.2.2.2.1
    have eB : b9g_beginning V = b9g_beginning S := hF.2.2.2.2.2.2.2.2.2.2.2.1
    have eK : b9g_keys V = b9g_keys S := hF.2.2.1
    have hmV : a1.toInt < (b9g_nodeMany V).toInt := by rw [eM]; exact hp1
    have e3 := pt_clamp (i := x3) (by omega)
    unfold wp_X9_laysNode_50b
    refine sf_X9_lastOf hJV.1 hp0 hmV (fun r7 h71 h72 => ?_)
    rw [eF, eS] at h71
    refine ⟨fun c => ?_, fun c => ?_⟩
    · simp (disch := first | ((try simp (disch := first | ((try simp only [pn]) <;> omega) | fail) only [pn, pq]) <;> omega) | fail) only [pn, pq] at c
      refine hq V hJV hF (by omega) ?_
      obtain ⟨T, ta, tb⟩ := hpV
      refine ⟨T, fun i hi => ?_, tb⟩
      rcases ta i hi with ⟨y, y1, y2⟩ | ⟨y1, _⟩
      · exact ⟨y, by omega, y2⟩
      · exact ⟨a1.toNatClampNeg, by omega, y1⟩
    · simp (disch := first | ((try simp (disch := first | ((try simp only [pn]) <;> omega) | fail) only [pn, pq]) <;> omega) | fail) only [pn, pq] at c
      have e31 : (x3 + 1).toInt = x3.toInt + 1 := by rw [pt_add (by rw [pl_1]; omega) (by rw [pl_1]; omega), pl_1]
      have next : ∀ W : bT9, J9 W → F_X9_laysNode S W → (∃ T : Nat → Bool, (∀ i : Nat, T i = true → (∃ y : Nat, y < a1.toNatClampNeg ∧ PLS S y i) ∨ (PLS S a1.toNatClampNeg i ∧ ((i : Int) < (x3.toInt + 1) ∨ (b9g_beginning S i).toInt = (b9g_nodeLevel S a1.toNatClampNeg).toInt))) ∧ (b9g_places W).toInt = cntB T 64) → (b9g_itemMany W).toInt ≤ (b9g_itemMany S).toInt + (x3.toInt + 1 - (b9g_nodeLeaf S a1.toNatClampNeg).toInt) → wp_X9_laysNode_116 W a1 y2 x3 Q (fun z1 z2 z3 Z => ∃ n2 : Nat, n2 < n ∧ a1 = z1 ∧ J9 Z ∧ F_X9_laysNode S Z ∧ (b9g_nodeLeaf S a1.toNatClampNeg).toInt ≤ z3.toInt ∧ z3.toInt ≤ (b9g_nodeLeaf S a1.toNatClampNeg).toInt + (b9g_nodeLeaves S a1.toNatClampNeg).toInt ∧ (∃ T : Nat → Bool, (∀ i : Nat, T i = true → (∃ y : Nat, y < a1.toNatClampNeg ∧ PLS S y i) ∨ (PLS S a1.toNatClampNeg i ∧ ((i : Int) < z3.toInt ∨ (b9g_beginning S i).toInt = (b9g_nodeLevel S a1.toNatClampNeg).toInt))) ∧ (b9g_places Z).toInt = cntB T 64) ∧ ((b9g_itemMany Z).toInt ≤ (b9g_itemMany S).toInt + (z3.toInt - (b9g_nodeLeaf S a1.toNatClampNeg).toInt) ∨ (z3.toInt = (b9g_nodeLeaf S a1.toNatClampNeg).toInt ∧ (b9g_beginning S (b9g_nodeLeaf S a1.toNatClampNeg).toNatClampNeg).toInt = (b9g_nodeLevel S a1.toNatClampNeg).toInt ∧ (b9g_itemMany Z).toInt ≤ (b9g_itemMany S).toInt + 1)) ∧ n2 = ((b9g_nodeLeaf S a1.toNatClampNeg).toInt + (b9g_nodeLeaves S a1.toNatClampNeg).toInt - z3.toInt).toNat) := by
        intro W hW hFW hpW hiW
        unfold wp_X9_laysNode_116
        refine ⟨_, ?_, rfl, hW, hFW, by omega, by omega, ?_, ?_, rfl⟩
        · omega
        · rw [e31]; exact hpW
        · left; omega
      have weak : (∃ T : Nat → Bool, (∀ i : Nat, T i = true → (∃ y : Nat, y < a1.toNatClampNeg ∧ PLS S y i) ∨ (PLS S a1.toNatClampNeg i ∧ ((i : Int) < (x3.toInt + 1) ∨ (b9g_beginning S i).toInt = (b9g_nodeLevel S a1.toNatClampNeg).toInt))) ∧ (b9g_places V).toInt = cntB T 64) := by
        obtain ⟨T, ta, tb⟩ := hpV
        refine ⟨T, fun i hi => ?_, tb⟩
        rcases ta i hi with h | ⟨y1, y2⟩
        · exact Or.inl h
        · exact Or.inr ⟨y1, by omega⟩
      refine sf_X9_isBranch hJV.1 hp0 hmV (by rw [eF]; omega) (by omega) (fun r9 hz9 h9 => ⟨fun c2 => ?_, fun c2 => ?_⟩)
      · simp (disch := first | ((try simp (disch := first | ((try simp only [pn]) <;> omega) | fail) only [pn, pq]) <;> omega) | fail) only [pn, pq] at c2
        have hBR : BRd V a1 x3 := by
          rcases h9 with h9 | h9
          · omega
          · exact h9
        unfold BRd at hBR
        rw [eL, eB, eF, eK] at hBR
        obtain ⟨b1, b2⟩ := hBR
        have hi2 : (b9g_itemMany V).toInt ≤ (b9g_itemMany S).toInt + (x3.toInt - (b9g_nodeLeaf S a1.toNatClampNeg).toInt) := by
          rcases hiV with h | ⟨h, h', h''⟩
          · exact h
          · exfalso
            have : x3.toNatClampNeg = (b9g_nodeLeaf S a1.toNatClampNeg).toNatClampNeg := by omega
            rw [this] at b1
            omega
        have fin : ∀ (W : bT9) (r : Int32), J9 W → F_X9_laysNode S W → (∃ T : Nat → Bool, (∀ i : Nat, T i = true → (∃ y : Nat, y < a1.toNatClampNeg ∧ PLS S y i) ∨ (PLS S a1.toNatClampNeg i ∧ ((i : Int) < (x3.toInt + 1) ∨ (b9g_beginning S i).toInt = (b9g_nodeLevel S a1.toNatClampNeg).toInt))) ∧ (b9g_places W).toInt = cntB T 64) → (b9g_itemMany W).toInt ≤ (b9g_itemMany S).toInt + (x3.toInt - (b9g_nodeLeaf S a1.toNatClampNeg).toInt) → wp_X9_laysNode_90 W a1 y2 x3 r Q (fun z1 z2 z3 Z => ∃ n2 : Nat, n2 < n ∧ a1 = z1 ∧ J9 Z ∧ F_X9_laysNode S Z ∧ (b9g_nodeLeaf S a1.toNatClampNeg).toInt ≤ z3.toInt ∧ z3.toInt ≤ (b9g_nodeLeaf S a1.toNatClampNeg).toInt + (b9g_nodeLeaves S a1.toNatClampNeg).toInt ∧ (∃ T : Nat → Bool, (∀ i : Nat, T i = true → (∃ y : Nat, y < a1.toNatClampNeg ∧ PLS S y i) ∨ (PLS S a1.toNatClampNeg i ∧ ((i : Int) < z3.toInt ∨ (b9g_beginning S i).toInt = (b9g_nodeLevel S a1.toNatClampNeg).toInt))) ∧ (b9g_places Z).toInt = cntB T 64) ∧ ((b9g_itemMany Z).toInt ≤ (b9g_itemMany S).toInt + (z3.toInt - (b9g_nodeLeaf S a1.toNatClampNeg).toInt) ∨ (z3.toInt = (b9g_nodeLeaf S a1.toNatClampNeg).toInt ∧ (b9g_beginning S (b9g_nodeLeaf S a1.toNatClampNeg).toNatClampNeg).toInt = (b9g_nodeLevel S a1.toNatClampNeg).toInt ∧ (b9g_itemMany Z).toInt ≤ (b9g_itemMany S).toInt + 1)) ∧ n2 = ((b9g_nodeLeaf S a1.toNatClampNeg).toInt + (b9g_nodeLeaves S a1.toNatClampNeg).toInt - z3.toInt).toNat) := by
          intro W r hW hFW hpW hiW
          have eMW : b9g_nodeMany W = b9g_nodeMany S := hFW.2.2.2.2.2.2.2.2.2.2.2.2.2.2.2.2.1
          unfold wp_X9_laysNode_90
          refine ⟨fun _ => next W hW hFW hpW (by omega), fun _ => ?_⟩
          refine sf_X9_key hW.1 (by omega) (by omega) (fun r1 _ => ⟨pt_in (by omega) (by omega), sf_X9_byteOf hW.1 (fun r3 => ?_)⟩)
          refine sf_X9_laysItem hW (by omega) (fun u6 hJ6 hf6 h6 _ _ _ => ?_)
          have ep : b9g_places u6 = b9g_places W := hf6.2.2.2.2.2.2.2.2.2.2.2.2.2.2.2.2.2.2.2.2.2.2.2.1
          refine next u6 hJ6 ⟨(hf6.1).trans (hFW.1), (hf6.2.1).trans (hFW.2.1), (hf6.2.2.1).trans (hFW.2.2.1), (hf6.2.2.2.1).trans (hFW.2.2.2.1), (hf6.2.2.2.2.1).trans (hFW.2.2.2.2.1), (hf6.2.2.2.2.2.1).trans (hFW.2.2.2.2.2.1), (hf6.2.2.2.2.2.2.1).trans (hFW.2.2.2.2.2.2.1), (hf6.2.2.2.2.2.2.2.1).trans (hFW.2.2.2.2.2.2.2.1), (hf6.2.2.2.2.2.2.2.2.1).trans (hFW.2.2.2.2.2.2.2.2.1), (hf6.2.2.2.2.2.2.2.2.2.1).trans (hFW.2.2.2.2.2.2.2.2.2.1), (hf6.2.2.2.2.2.2.2.2.2.2.1).trans (hFW.2.2.2.2.2.2.2.2.2.2.1), (hf6.2.2.2.2.2.2.2.2.2.2.2.1).trans (hFW.2.2.2.2.2.2.2.2.2.2.2.1), (hf6.2.2.2.2.2.2.2.2.2.2.2.2.1).trans (hFW.2.2.2.2.2.2.2.2.2.2.2.2.1), (hf6.2.2.2.2.2.2.2.2.2.2.2.2.2.1).trans (hFW.2.2.2.2.2.2.2.2.2.2.2.2.2.1), (hf6.2.2.2.2.2.2.2.2.2.2.2.2.2.2.1).trans (hFW.2.2.2.2.2.2.2.2.2.2.2.2.2.2.1), (hf6.2.2.2.2.2.2.2.2.2.2.2.2.2.2.2.1).trans (hFW.2.2.2.2.2.2.2.2.2.2.2.2.2.2.2.1), (hf6.2.2.2.2.2.2.2.2.2.2.2.2.2.2.2.2.1).trans (hFW.2.2.2.2.2.2.2.2.2.2.2.2.2.2.2.2.1), (hf6.2.2.2.2.2.2.2.2.2.2.2.2.2.2.2.2.2.1).trans (hFW.2.2.2.2.2.2.2.2.2.2.2.2.2.2.2.2.2.1), (hf6.2.2.2.2.2.2.2.2.2.2.2.2.2.2.2.2.2.2.1).trans (hFW.2.2.2.2.2.2.2.2.2.2.2.2.2.2.2.2.2.2.1), (hf6.2.2.2.2.2.2.2.2.2.2.2.2.2.2.2.2.2.2.2.1).trans (hFW.2.2.2.2.2.2.2.2.2.2.2.2.2.2.2.2.2.2.2.1), (hf6.2.2.2.2.2.2.2.2.2.2.2.2.2.2.2.2.2.2.2.2.1).trans (hFW.2.2.2.2.2.2.2.2.2.2.2.2.2.2.2.2.2.2.2.2.1), (hf6.2.2.2.2.2.2.2.2.2.2.2.2.2.2.2.2.2.2.2.2.2.2.2.2.1).trans (hFW.2.2.2.2.2.2.2.2.2.2.2.2.2.2.2.2.2.2.2.2.2.1), (hf6.2.2.2.2.2.2.2.2.2.2.2.2.2.2.2.2.2.2.2.2.2.2.2.2.2.1).trans (hFW.2.2.2.2.2.2.2.2.2.2.2.2.2.2.2.2.2.2.2.2.2.2.1), (hf6.2.2.2.2.2.2.2.2.2.2.2.2.2.2.2.2.2.2.2.2.2.2.2.2.2.2.1).trans (hFW.2.2.2.2.2.2.2.2.2.2.2.2.2.2.2.2.2.2.2.2.2.2.2.1), (hf6.2.2.2.2.2.2.2.2.2.2.2.2.2.2.2.2.2.2.2.2.2.2.2.2.2.2.2.1).trans (hFW.2.2.2.2.2.2.2.2.2.2.2.2.2.2.2.2.2.2.2.2.2.2.2.2.1), (hf6.2.2.2.2.2.2.2.2.2.2.2.2.2.2.2.2.2.2.2.2.2.2.2.2.2.2.2.2.1).trans (hFW.2.2.2.2.2.2.2.2.2.2.2.2.2.2.2.2.2.2.2.2.2.2.2.2.2.1), (hf6.2.2.2.2.2.2.2.2.2.2.2.2.2.2.2.2.2.2.2.2.2.2.2.2.2.2.2.2.2.1).trans (hFW.2.2.2.2.2.2.2.2.2.2.2.2.2.2.2.2.2.2.2.2.2.2.2.2.2.2.1), (hf6.2.2.2.2.2.2.2.2.2.2.2.2.2.2.2.2.2.2.2.2.2.2.2.2.2.2.2.2.2.2.1).trans (hFW.2.2.2.2.2.2.2.2.2.2.2.2.2.2.2.2.2.2.2.2.2.2.2.2.2.2.2.1), (hf6.2.2.2.2.2.2.2.2.2.2.2.2.2.2.2.2.2.2.2.2.2.2.2.2.2.2.2.2.2.2.2.1).trans (hFW.2.2.2.2.2.2.2.2.2.2.2.2.2.2.2.2.2.2.2.2.2.2.2.2.2.2.2.2.1), (hf6.2.2.2.2.2.2.2.2.2.2.2.2.2.2.2.2.2.2.2.2.2.2.2.2.2.2.2.2.2.2.2.2.1).trans (hFW.2.2.2.2.2.2.2.2.2.2.2.2.2.2.2.2.2.2.2.2.2.2.2.2.2.2.2.2.2.1), (hf6.2.2.2.2.2.2.2.2.2.2.2.2.2.2.2.2.2.2.2.2.2.2.2.2.2.2.2.2.2.2.2.2.2.1).trans (hFW.2.2.2.2.2.2.2.2.2.2.2.2.2.2.2.2.2.2.2.2.2.2.2.2.2.2.2.2.2.2.1), (hf6.2.2.2.2.2.2.2.2.2.2.2.2.2.2.2.2.2.2.2.2.2.2.2.2.2.2.2.2.2.2.2.2.2.2.1).trans (hFW.2.2.2.2.2.2.2.2.2.2.2.2.2.2.2.2.2.2.2.2.2.2.2.2.2.2.2.2.2.2.2.1), (hf6.2.2.2.2.2.2.2.2.2.2.2.2.2.2.2.2.2.2.2.2.2.2.2.2.2.2.2.2.2.2.2.2.2.2.2.1).trans (hFW.2.2.2.2.2.2.2.2.2.2.2.2.2.2.2.2.2.2.2.2.2.2.2.2.2.2.2.2.2.2.2.2.1), (hf6.2.2.2.2.2.2.2.2.2.2.2.2.2.2.2.2.2.2.2.2.2.2.2.2.2.2.2.2.2.2.2.2.2.2.2.2.1).trans (hFW.2.2.2.2.2.2.2.2.2.2.2.2.2.2.2.2.2.2.2.2.2.2.2.2.2.2.2.2.2.2.2.2.2.1), (hf6.2.2.2.2.2.2.2.2.2.2.2.2.2.2.2.2.2.2.2.2.2.2.2.2.2.2.2.2.2.2.2.2.2.2.2.2.2.1).trans (hFW.2.2.2.2.2.2.2.2.2.2.2.2.2.2.2.2.2.2.2.2.2.2.2.2.2.2.2.2.2.2.2.2.2.2.1), (hf6.2.2.2.2.2.2.2.2.2.2.2.2.2.2.2.2.2.2.2.2.2.2.2.2.2.2.2.2.2.2.2.2.2.2.2.2.2.2.1).trans (hFW.2.2.2.2.2.2.2.2.2.2.2.2.2.2.2.2.2.2.2.2.2.2.2.2.2.2.2.2.2.2.2.2.2.2.2.1), (hf6.2.2.2.2.2.2.2.2.2.2.2.2.2.2.2.2.2.2.2.2.2.2.2.2.2.2.2.2.2.2.2.2.2.2.2.2.2.2.2.1).trans (hFW.2.2.2.2.2.2.2.2.2.2.2.2.2.2.2.2.2.2.2.2.2.2.2.2.2.2.2.2.2.2.2.2.2.2.2.2.1), (hf6.2.2.2.2.2.2.2.2.2.2.2.2.2.2.2.2.2.2.2.2.2.2.2.2.2.2.2.2.2.2.2.2.2.2.2.2.2.2.2.2.1).trans (hFW.2.2.2.2.2.2.2.2.2.2.2.2.2.2.2.2.2.2.2.2.2.2.2.2.2.2.2.2.2.2.2.2.2.2.2.2.2.1), (hf6.2.2.2.2.2.2.2.2.2.2.2.2.2.2.2.2.2.2.2.2.2.2.2.2.2.2.2.2.2.2.2.2.2.2.2.2.2.2.2.2.2).trans (hFW.2.2.2.2.2.2.2.2.2.2.2.2.2.2.2.2.2.2.2.2.2.2.2.2.2.2.2.2.2.2.2.2.2.2.2.2.2.2)⟩ ?_ (by omega)
          rw [ep]
          exact hpW
        refine sf_X9_childAt hJV.1 hp0 hmV (fun r11 h11 => ⟨fun c3 => fin V r11 hJV hF weak hi2, fun c3 => ?_⟩)
        simp (disch := first | ((try simp (disch := first | ((try simp only [pn]) <;> omega) | fail) only [pn, pq]) <;> omega) | fail) only [pn, pq] at c3
        have hnc := h11 c3
        rw [eM, eL, eF] at hnc
        have hPL : PLS S a1.toNatClampNeg x3.toNatClampNeg := by
          refine PL_branch hN hM hC jb (by omega) (by omega) (by omega) (by omega) b1 ?_ (fun y q1 q2 q3 => by have := hnc y q1 q2 q3; omega)
          rcases b2 with b2 | b2
          · left; omega
          · right; exact b2
        obtain ⟨T, ta, tb⟩ := hpV
        have hTf : T x3.toNatClampNeg = false := by
          cases hT : T x3.toNatClampNeg with
          | false => rfl
          | true =>
            exfalso
            have hbeg : (b9g_beginning S x3.toNatClampNeg).toInt = (b9g_nodeLevel S a1.toNatClampNeg).toInt + 1 := by
              unfold PLS at hPL
              rcases hPL with ⟨_, q⟩ | ⟨_, _, q, _⟩
              · omega
              · exact q
            rcases ta _ hT with ⟨y, y1, y2⟩ | ⟨y1, y2⟩
            · exact PL_once hN y1 (by omega) y2 hPL
            · omega
        have hlt := cntB_lt (n := 64) (show x3.toNatClampNeg < 64 by omega) hTf
        have hset := cntB_set (n := 64) (show x3.toNatClampNeg < 64 by omega) hTf
        refine sf_X9_places hJV (by omega) (by omega) (by omega) (fun u14 hJ14 hf14 h14 _ _ => ?_)
        have eI : b9g_itemMany u14 = b9g_itemMany V := hf14.2.2.2.2.2.2.2.2.2.2.2.2.2.2.2.2.2.2.2.2.2.2.2.2.1
        refine fin u14 r11 hJ14 ⟨(hf14.1).trans (hF.1), (hf14.2.1).trans (hF.2.1), (hf14.2.2.1).trans (hF.2.2.1), (hf14.2.2.2.1).trans (hF.2.2.2.1), (hf14.2.2.2.2.1).trans (hF.2.2.2.2.1), (hf14.2.2.2.2.2.1).trans (hF.2.2.2.2.2.1), (hf14.2.2.2.2.2.2.1).trans (hF.2.2.2.2.2.2.1), (hf14.2.2.2.2.2.2.2.1).trans (hF.2.2.2.2.2.2.2.1), (hf14.2.2.2.2.2.2.2.2.1).trans (hF.2.2.2.2.2.2.2.2.1), (hf14.2.2.2.2.2.2.2.2.2.1).trans (hF.2.2.2.2.2.2.2.2.2.1), (hf14.2.2.2.2.2.2.2.2.2.2.1).trans (hF.2.2.2.2.2.2.2.2.2.2.1), (hf14.2.2.2.2.2.2.2.2.2.2.2.1).trans (hF.2.2.2.2.2.2.2.2.2.2.2.1), (hf14.2.2.2.2.2.2.2.2.2.2.2.2.1).trans (hF.2.2.2.2.2.2.2.2.2.2.2.2.1), (hf14.2.2.2.2.2.2.2.2.2.2.2.2.2.1).trans (hF.2.2.2.2.2.2.2.2.2.2.2.2.2.1), (hf14.2.2.2.2.2.2.2.2.2.2.2.2.2.2.1).trans (hF.2.2.2.2.2.2.2.2.2.2.2.2.2.2.1), (hf14.2.2.2.2.2.2.2.2.2.2.2.2.2.2.2.1).trans (hF.2.2.2.2.2.2.2.2.2.2.2.2.2.2.2.1), (hf14.2.2.2.2.2.2.2.2.2.2.2.2.2.2.2.2.1).trans (hF.2.2.2.2.2.2.2.2.2.2.2.2.2.2.2.2.1), (hf14.2.2.2.2.2.2.2.2.2.2.2.2.2.2.2.2.2.1).trans (hF.2.2.2.2.2.2.2.2.2.2.2.2.2.2.2.2.2.1), (hf14.2.2.2.2.2.2.2.2.2.2.2.2.2.2.2.2.2.2.1).trans (hF.2.2.2.2.2.2.2.2.2.2.2.2.2.2.2.2.2.2.1), (hf14.2.2.2.2.2.2.2.2.2.2.2.2.2.2.2.2.2.2.2.1).trans (hF.2.2.2.2.2.2.2.2.2.2.2.2.2.2.2.2.2.2.2.1), (hf14.2.2.2.2.2.2.2.2.2.2.2.2.2.2.2.2.2.2.2.2.1).trans (hF.2.2.2.2.2.2.2.2.2.2.2.2.2.2.2.2.2.2.2.2.1), (hf14.2.2.2.2.2.2.2.2.2.2.2.2.2.2.2.2.2.2.2.2.2.2.2.2.2.1).trans (hF.2.2.2.2.2.2.2.2.2.2.2.2.2.2.2.2.2.2.2.2.2.1), (hf14.2.2.2.2.2.2.2.2.2.2.2.2.2.2.2.2.2.2.2.2.2.2.2.2.2.2.1).trans (hF.2.2.2.2.2.2.2.2.2.2.2.2.2.2.2.2.2.2.2.2.2.2.1), (hf14.2.2.2.2.2.2.2.2.2.2.2.2.2.2.2.2.2.2.2.2.2.2.2.2.2.2.2.1).trans (hF.2.2.2.2.2.2.2.2.2.2.2.2.2.2.2.2.2.2.2.2.2.2.2.1), (hf14.2.2.2.2.2.2.2.2.2.2.2.2.2.2.2.2.2.2.2.2.2.2.2.2.2.2.2.2.1).trans (hF.2.2.2.2.2.2.2.2.2.2.2.2.2.2.2.2.2.2.2.2.2.2.2.2.1), (hf14.2.2.2.2.2.2.2.2.2.2.2.2.2.2.2.2.2.2.2.2.2.2.2.2.2.2.2.2.2.1).trans (hF.2.2.2.2.2.2.2.2.2.2.2.2.2.2.2.2.2.2.2.2.2.2.2.2.2.1), (hf14.2.2.2.2.2.2.2.2.2.2.2.2.2.2.2.2.2.2.2.2.2.2.2.2.2.2.2.2.2.2.1).trans (hF.2.2.2.2.2.2.2.2.2.2.2.2.2.2.2.2.2.2.2.2.2.2.2.2.2.2.1), (hf14.2.2.2.2.2.2.2.2.2.2.2.2.2.2.2.2.2.2.2.2.2.2.2.2.2.2.2.2.2.2.2.1).trans (hF.2.2.2.2.2.2.2.2.2.2.2.2.2.2.2.2.2.2.2.2.2.2.2.2.2.2.2.1), (hf14.2.2.2.2.2.2.2.2.2.2.2.2.2.2.2.2.2.2.2.2.2.2.2.2.2.2.2.2.2.2.2.2.1).trans (hF.2.2.2.2.2.2.2.2.2.2.2.2.2.2.2.2.2.2.2.2.2.2.2.2.2.2.2.2.1), (hf14.2.2.2.2.2.2.2.2.2.2.2.2.2.2.2.2.2.2.2.2.2.2.2.2.2.2.2.2.2.2.2.2.2.1).trans (hF.2.2.2.2.2.2.2.2.2.2.2.2.2.2.2.2.2.2.2.2.2.2.2.2.2.2.2.2.2.1), (hf14.2.2.2.2.2.2.2.2.2.2.2.2.2.2.2.2.2.2.2.2.2.2.2.2.2.2.2.2.2.2.2.2.2.2.1).trans (hF.2.2.2.2.2.2.2.2.2.2.2.2.2.2.2.2.2.2.2.2.2.2.2.2.2.2.2.2.2.2.1), (hf14.2.2.2.2.2.2.2.2.2.2.2.2.2.2.2.2.2.2.2.2.2.2.2.2.2.2.2.2.2.2.2.2.2.2.2.1).trans (hF.2.2.2.2.2.2.2.2.2.2.2.2.2.2.2.2.2.2.2.2.2.2.2.2.2.2.2.2.2.2.2.1), (hf14.2.2.2.2.2.2.2.2.2.2.2.2.2.2.2.2.2.2.2.2.2.2.2.2.2.2.2.2.2.2.2.2.2.2.2.2.1).trans (hF.2.2.2.2.2.2.2.2.2.2.2.2.2.2.2.2.2.2.2.2.2.2.2.2.2.2.2.2.2.2.2.2.1), (hf14.2.2.2.2.2.2.2.2.2.2.2.2.2.2.2.2.2.2.2.2.2.2.2.2.2.2.2.2.2.2.2.2.2.2.2.2.2.1).trans (hF.2.2.2.2.2.2.2.2.2.2.2.2.2.2.2.2.2.2.2.2.2.2.2.2.2.2.2.2.2.2.2.2.2.1), (hf14.2.2.2.2.2.2.2.2.2.2.2.2.2.2.2.2.2.2.2.2.2.2.2.2.2.2.2.2.2.2.2.2.2.2.2.2.2.2.1).trans (hF.2.2.2.2.2.2.2.2.2.2.2.2.2.2.2.2.2.2.2.2.2.2.2.2.2.2.2.2.2.2.2.2.2.2.1), (hf14.2.2.2.2.2.2.2.2.2.2.2.2.2.2.2.2.2.2.2.2.2.2.2.2.2.2.2.2.2.2.2.2.2.2.2.2.2.2.2.1).trans (hF.2.2.2.2.2.2.2.2.2.2.2.2.2.2.2.2.2.2.2.2.2.2.2.2.2.2.2.2.2.2.2.2.2.2.2.1), (hf14.2.2.2.2.2.2.2.2.2.2.2.2.2.2.2.2.2.2.2.2.2.2.2.2.2.2.2.2.2.2.2.2.2.2.2.2.2.2.2.2.1).trans (hF.2.2.2.2.2.2.2.2.2.2.2.2.2.2.2.2.2.2.2.2.2.2.2.2.2.2.2.2.2.2.2.2.2.2.2.2.1), (hf14.2.2.2.2.2.2.2.2.2.2.2.2.2.2.2.2.2.2.2.2.2.2.2.2.2.2.2.2.2.2.2.2.2.2.2.2.2.2.2.2.2.1).trans (hF.2.2.2.2.2.2.2.2.2.2.2.2.2.2.2.2.2.2.2.2.2.2.2.2.2.2.2.2.2.2.2.2.2.2.2.2.2.1), (hf14.2.2.2.2.2.2.2.2.2.2.2.2.2.2.2.2.2.2.2.2.2.2.2.2.2.2.2.2.2.2.2.2.2.2.2.2.2.2.2.2.2.2).trans (hF.2.2.2.2.2.2.2.2.2.2.2.2.2.2.2.2.2.2.2.2.2.2.2.2.2.2.2.2.2.2.2.2.2.2.2.2.2.2)⟩ ⟨setB T x3.toNatClampNeg, fun i hi => ?_, by omega⟩ (by rw [eI]; exact hi2)
        rcases setB_true hi with h | h
        · subst h
          exact Or.inr ⟨hPL, Or.inl (by omega)⟩
        · rcases ta i h with h | ⟨q1, q2⟩
          · exact Or.inl h
          · exact Or.inr ⟨q1, by omega⟩
      · refine next V hJV hF weak ?_
        rcases hiV with h | ⟨h, h', h''⟩
        · omega
        · omega
  have start : ∀ t0 : Int32, wp_X9_laysNode_13 S a1 t0 Q := by
    intro t0
    have hF0 : F_X9_laysNode S S := ⟨rfl, rfl, rfl, rfl, rfl, rfl, rfl, rfl, rfl, rfl, rfl, rfl, rfl, rfl, rfl, rfl, rfl, rfl, rfl, rfl, rfl, rfl, rfl, rfl, rfl, rfl, rfl, rfl, rfl, rfl, rfl, rfl, rfl, rfl, rfl, rfl, rfl, rfl, rfl⟩
    unfold wp_X9_laysNode_13
    refine sf_X9_isNodeEnd hJ.1 hp0 hp1 (fun r15 hz hr => ⟨fun c => ?_, fun c => ?_⟩)
    · exact loop t0 S hJ hF0 ⟨T0, fun i hi => Or.inl (t1 i hi), t2⟩ (Or.inl (by omega))
    · simp (disch := first | ((try simp (disch := first | ((try simp only [pn]) <;> omega) | fail) only [pn, pq]) <;> omega) | fail) only [pn, pq] at c
      have hbe : (b9g_beginning S (b9g_nodeLeaf S a1.toNatClampNeg).toNatClampNeg).toInt = (b9g_nodeLevel S a1.toNatClampNeg).toInt := by omega
      have hPL : PLS S a1.toNatClampNeg (b9g_nodeLeaf S a1.toNatClampNeg).toNatClampNeg := Or.inl ⟨by omega, hbe⟩
      have hTf : T0 (b9g_nodeLeaf S a1.toNatClampNeg).toNatClampNeg = false := by
        cases hT : T0 (b9g_nodeLeaf S a1.toNatClampNeg).toNatClampNeg with
        | false => rfl
        | true =>
          exfalso
          obtain ⟨y, y1, y2⟩ := t1 _ hT
          exact PL_once hN y1 (by omega) y2 hPL
      have hlt := cntB_lt (n := 64) (show (b9g_nodeLeaf S a1.toNatClampNeg).toNatClampNeg < 64 by omega) hTf
      have hset := cntB_set (n := 64) (show (b9g_nodeLeaf S a1.toNatClampNeg).toNatClampNeg < 64 by omega) hTf
      refine ⟨pt_in (by omega) (by omega), sf_X9_places hJ (by omega) (by omega) (by omega) (fun u18 hJ18 hf18 h18 _ _ => ?_)⟩
      have eI : b9g_itemMany u18 = b9g_itemMany S := hf18.2.2.2.2.2.2.2.2.2.2.2.2.2.2.2.2.2.2.2.2.2.2.2.2.1
      have hF18 : F_X9_laysNode S u18 := ⟨(hf18.1).trans (hF0.1), (hf18.2.1).trans (hF0.2.1), (hf18.2.2.1).trans (hF0.2.2.1), (hf18.2.2.2.1).trans (hF0.2.2.2.1), (hf18.2.2.2.2.1).trans (hF0.2.2.2.2.1), (hf18.2.2.2.2.2.1).trans (hF0.2.2.2.2.2.1), (hf18.2.2.2.2.2.2.1).trans (hF0.2.2.2.2.2.2.1), (hf18.2.2.2.2.2.2.2.1).trans (hF0.2.2.2.2.2.2.2.1), (hf18.2.2.2.2.2.2.2.2.1).trans (hF0.2.2.2.2.2.2.2.2.1), (hf18.2.2.2.2.2.2.2.2.2.1).trans (hF0.2.2.2.2.2.2.2.2.2.1), (hf18.2.2.2.2.2.2.2.2.2.2.1).trans (hF0.2.2.2.2.2.2.2.2.2.2.1), (hf18.2.2.2.2.2.2.2.2.2.2.2.1).trans (hF0.2.2.2.2.2.2.2.2.2.2.2.1), (hf18.2.2.2.2.2.2.2.2.2.2.2.2.1).trans (hF0.2.2.2.2.2.2.2.2.2.2.2.2.1), (hf18.2.2.2.2.2.2.2.2.2.2.2.2.2.1).trans (hF0.2.2.2.2.2.2.2.2.2.2.2.2.2.1), (hf18.2.2.2.2.2.2.2.2.2.2.2.2.2.2.1).trans (hF0.2.2.2.2.2.2.2.2.2.2.2.2.2.2.1), (hf18.2.2.2.2.2.2.2.2.2.2.2.2.2.2.2.1).trans (hF0.2.2.2.2.2.2.2.2.2.2.2.2.2.2.2.1), (hf18.2.2.2.2.2.2.2.2.2.2.2.2.2.2.2.2.1).trans (hF0.2.2.2.2.2.2.2.2.2.2.2.2.2.2.2.2.1), (hf18.2.2.2.2.2.2.2.2.2.2.2.2.2.2.2.2.2.1).trans (hF0.2.2.2.2.2.2.2.2.2.2.2.2.2.2.2.2.2.1), (hf18.2.2.2.2.2.2.2.2.2.2.2.2.2.2.2.2.2.2.1).trans (hF0.2.2.2.2.2.2.2.2.2.2.2.2.2.2.2.2.2.2.1), (hf18.2.2.2.2.2.2.2.2.2.2.2.2.2.2.2.2.2.2.2.1).trans (hF0.2.2.2.2.2.2.2.2.2.2.2.2.2.2.2.2.2.2.2.1), (hf18.2.2.2.2.2.2.2.2.2.2.2.2.2.2.2.2.2.2.2.2.1).trans (hF0.2.2.2.2.2.2.2.2.2.2.2.2.2.2.2.2.2.2.2.2.1), (hf18.2.2.2.2.2.2.2.2.2.2.2.2.2.2.2.2.2.2.2.2.2.2.2.2.2.1).trans (hF0.2.2.2.2.2.2.2.2.2.2.2.2.2.2.2.2.2.2.2.2.2.1), (hf18.2.2.2.2.2.2.2.2.2.2.2.2.2.2.2.2.2.2.2.2.2.2.2.2.2.2.1).trans (hF0.2.2.2.2.2.2.2.2.2.2.2.2.2.2.2.2.2.2.2.2.2.2.1), (hf18.2.2.2.2.2.2.2.2.2.2.2.2.2.2.2.2.2.2.2.2.2.2.2.2.2.2.2.1).trans (hF0.2.2.2.2.2.2.2.2.2.2.2.2.2.2.2.2.2.2.2.2.2.2.2.1), (hf18.2.2.2.2.2.2.2.2.2.2.2.2.2.2.2.2.2.2.2.2.2.2.2.2.2.2.2.2.1).trans (hF0.2.2.2.2.2.2.2.2.2.2.2.2.2.2.2.2.2.2.2.2.2.2.2.2.1), (hf18.2.2.2.2.2.2.2.2.2.2.2.2.2.2.2.2.2.2.2.2.2.2.2.2.2.2.2.2.2.1).trans (hF0.2.2.2.2.2.2.2.2.2.2.2.2.2.2.2.2.2.2.2.2.2.2.2.2.2.1), (hf18.2.2.2.2.2.2.2.2.2.2.2.2.2.2.2.2.2.2.2.2.2.2.2.2.2.2.2.2.2.2.1).trans (hF0.2.2.2.2.2.2.2.2.2.2.2.2.2.2.2.2.2.2.2.2.2.2.2.2.2.2.1), (hf18.2.2.2.2.2.2.2.2.2.2.2.2.2.2.2.2.2.2.2.2.2.2.2.2.2.2.2.2.2.2.2.1).trans (hF0.2.2.2.2.2.2.2.2.2.2.2.2.2.2.2.2.2.2.2.2.2.2.2.2.2.2.2.1), (hf18.2.2.2.2.2.2.2.2.2.2.2.2.2.2.2.2.2.2.2.2.2.2.2.2.2.2.2.2.2.2.2.2.1).trans (hF0.2.2.2.2.2.2.2.2.2.2.2.2.2.2.2.2.2.2.2.2.2.2.2.2.2.2.2.2.1), (hf18.2.2.2.2.2.2.2.2.2.2.2.2.2.2.2.2.2.2.2.2.2.2.2.2.2.2.2.2.2.2.2.2.2.1).trans (hF0.2.2.2.2.2.2.2.2.2.2.2.2.2.2.2.2.2.2.2.2.2.2.2.2.2.2.2.2.2.1), (hf18.2.2.2.2.2.2.2.2.2.2.2.2.2.2.2.2.2.2.2.2.2.2.2.2.2.2.2.2.2.2.2.2.2.2.1).trans (hF0.2.2.2.2.2.2.2.2.2.2.2.2.2.2.2.2.2.2.2.2.2.2.2.2.2.2.2.2.2.2.1), (hf18.2.2.2.2.2.2.2.2.2.2.2.2.2.2.2.2.2.2.2.2.2.2.2.2.2.2.2.2.2.2.2.2.2.2.2.1).trans (hF0.2.2.2.2.2.2.2.2.2.2.2.2.2.2.2.2.2.2.2.2.2.2.2.2.2.2.2.2.2.2.2.1), (hf18.2.2.2.2.2.2.2.2.2.2.2.2.2.2.2.2.2.2.2.2.2.2.2.2.2.2.2.2.2.2.2.2.2.2.2.2.1).trans (hF0.2.2.2.2.2.2.2.2.2.2.2.2.2.2.2.2.2.2.2.2.2.2.2.2.2.2.2.2.2.2.2.2.1), (hf18.2.2.2.2.2.2.2.2.2.2.2.2.2.2.2.2.2.2.2.2.2.2.2.2.2.2.2.2.2.2.2.2.2.2.2.2.2.1).trans (hF0.2.2.2.2.2.2.2.2.2.2.2.2.2.2.2.2.2.2.2.2.2.2.2.2.2.2.2.2.2.2.2.2.2.1), (hf18.2.2.2.2.2.2.2.2.2.2.2.2.2.2.2.2.2.2.2.2.2.2.2.2.2.2.2.2.2.2.2.2.2.2.2.2.2.2.1).trans (hF0.2.2.2.2.2.2.2.2.2.2.2.2.2.2.2.2.2.2.2.2.2.2.2.2.2.2.2.2.2.2.2.2.2.2.1), (hf18.2.2.2.2.2.2.2.2.2.2.2.2.2.2.2.2.2.2.2.2.2.2.2.2.2.2.2.2.2.2.2.2.2.2.2.2.2.2.2.1).trans (hF0.2.2.2.2.2.2.2.2.2.2.2.2.2.2.2.2.2.2.2.2.2.2.2.2.2.2.2.2.2.2.2.2.2.2.2.1), (hf18.2.2.2.2.2.2.2.2.2.2.2.2.2.2.2.2.2.2.2.2.2.2.2.2.2.2.2.2.2.2.2.2.2.2.2.2.2.2.2.2.1).trans (hF0.2.2.2.2.2.2.2.2.2.2.2.2.2.2.2.2.2.2.2.2.2.2.2.2.2.2.2.2.2.2.2.2.2.2.2.2.1), (hf18.2.2.2.2.2.2.2.2.2.2.2.2.2.2.2.2.2.2.2.2.2.2.2.2.2.2.2.2.2.2.2.2.2.2.2.2.2.2.2.2.2.1).trans (hF0.2.2.2.2.2.2.2.2.2.2.2.2.2.2.2.2.2.2.2.2.2.2.2.2.2.2.2.2.2.2.2.2.2.2.2.2.2.1), (hf18.2.2.2.2.2.2.2.2.2.2.2.2.2.2.2.2.2.2.2.2.2.2.2.2.2.2.2.2.2.2.2.2.2.2.2.2.2.2.2.2.2.2).trans (hF0.2.2.2.2.2.2.2.2.2.2.2.2.2.2.2.2.2.2.2.2.2.2.2.2.2.2.2.2.2.2.2.2.2.2.2.2.2.2)⟩
      have hp18 : ∀ W : bT9, b9g_places W = b9g_places u18 → (∃ T : Nat → Bool, (∀ i : Nat, T i = true → (∃ y : Nat, y < a1.toNatClampNeg ∧ PLS S y i) ∨ (PLS S a1.toNatClampNeg i ∧ ((i : Int) < (b9g_nodeLeaf S a1.toNatClampNeg).toInt ∨ (b9g_beginning S i).toInt = (b9g_nodeLevel S a1.toNatClampNeg).toInt))) ∧ (b9g_places W).toInt = cntB T 64) := by
        intro W eW
        refine ⟨setB T0 (b9g_nodeLeaf S a1.toNatClampNeg).toNatClampNeg, fun i hi => ?_, by rw [eW]; omega⟩
        rcases setB_true hi with h | h
        · subst h
          exact Or.inr ⟨hPL, Or.inr hbe⟩
        · exact Or.inl (t1 i h)
      refine ⟨fun _ => ?_, fun _ => ?_⟩
      · exact loop t0 u18 hJ18 hF18 (hp18 u18 rfl) (Or.inl (by rw [eI]; omega))
      · refine sf_X9_laysItem hJ18 (by rw [eI]; omega) (fun u20 hJ20 hf20 h20 _ _ _ => ?_)
        have ep : b9g_places u20 = b9g_places u18 := hf20.2.2.2.2.2.2.2.2.2.2.2.2.2.2.2.2.2.2.2.2.2.2.2.1
        refine loop t0 u20 hJ20 ⟨(hf20.1).trans (hF18.1), (hf20.2.1).trans (hF18.2.1), (hf20.2.2.1).trans (hF18.2.2.1), (hf20.2.2.2.1).trans (hF18.2.2.2.1), (hf20.2.2.2.2.1).trans (hF18.2.2.2.2.1), (hf20.2.2.2.2.2.1).trans (hF18.2.2.2.2.2.1), (hf20.2.2.2.2.2.2.1).trans (hF18.2.2.2.2.2.2.1), (hf20.2.2.2.2.2.2.2.1).trans (hF18.2.2.2.2.2.2.2.1), (hf20.2.2.2.2.2.2.2.2.1).trans (hF18.2.2.2.2.2.2.2.2.1), (hf20.2.2.2.2.2.2.2.2.2.1).trans (hF18.2.2.2.2.2.2.2.2.2.1), (hf20.2.2.2.2.2.2.2.2.2.2.1).trans (hF18.2.2.2.2.2.2.2.2.2.2.1), (hf20.2.2.2.2.2.2.2.2.2.2.2.1).trans (hF18.2.2.2.2.2.2.2.2.2.2.2.1), (hf20.2.2.2.2.2.2.2.2.2.2.2.2.1).trans (hF18.2.2.2.2.2.2.2.2.2.2.2.2.1), (hf20.2.2.2.2.2.2.2.2.2.2.2.2.2.1).trans (hF18.2.2.2.2.2.2.2.2.2.2.2.2.2.1), (hf20.2.2.2.2.2.2.2.2.2.2.2.2.2.2.1).trans (hF18.2.2.2.2.2.2.2.2.2.2.2.2.2.2.1), (hf20.2.2.2.2.2.2.2.2.2.2.2.2.2.2.2.1).trans (hF18.2.2.2.2.2.2.2.2.2.2.2.2.2.2.2.1), (hf20.2.2.2.2.2.2.2.2.2.2.2.2.2.2.2.2.1).trans (hF18.2.2.2.2.2.2.2.2.2.2.2.2.2.2.2.2.1), (hf20.2.2.2.2.2.2.2.2.2.2.2.2.2.2.2.2.2.1).trans (hF18.2.2.2.2.2.2.2.2.2.2.2.2.2.2.2.2.2.1), (hf20.2.2.2.2.2.2.2.2.2.2.2.2.2.2.2.2.2.2.1).trans (hF18.2.2.2.2.2.2.2.2.2.2.2.2.2.2.2.2.2.2.1), (hf20.2.2.2.2.2.2.2.2.2.2.2.2.2.2.2.2.2.2.2.1).trans (hF18.2.2.2.2.2.2.2.2.2.2.2.2.2.2.2.2.2.2.2.1), (hf20.2.2.2.2.2.2.2.2.2.2.2.2.2.2.2.2.2.2.2.2.1).trans (hF18.2.2.2.2.2.2.2.2.2.2.2.2.2.2.2.2.2.2.2.2.1), (hf20.2.2.2.2.2.2.2.2.2.2.2.2.2.2.2.2.2.2.2.2.2.2.2.2.1).trans (hF18.2.2.2.2.2.2.2.2.2.2.2.2.2.2.2.2.2.2.2.2.2.1), (hf20.2.2.2.2.2.2.2.2.2.2.2.2.2.2.2.2.2.2.2.2.2.2.2.2.2.1).trans (hF18.2.2.2.2.2.2.2.2.2.2.2.2.2.2.2.2.2.2.2.2.2.2.1), (hf20.2.2.2.2.2.2.2.2.2.2.2.2.2.2.2.2.2.2.2.2.2.2.2.2.2.2.1).trans (hF18.2.2.2.2.2.2.2.2.2.2.2.2.2.2.2.2.2.2.2.2.2.2.2.1), (hf20.2.2.2.2.2.2.2.2.2.2.2.2.2.2.2.2.2.2.2.2.2.2.2.2.2.2.2.1).trans (hF18.2.2.2.2.2.2.2.2.2.2.2.2.2.2.2.2.2.2.2.2.2.2.2.2.1), (hf20.2.2.2.2.2.2.2.2.2.2.2.2.2.2.2.2.2.2.2.2.2.2.2.2.2.2.2.2.1).trans (hF18.2.2.2.2.2.2.2.2.2.2.2.2.2.2.2.2.2.2.2.2.2.2.2.2.2.1), (hf20.2.2.2.2.2.2.2.2.2.2.2.2.2.2.2.2.2.2.2.2.2.2.2.2.2.2.2.2.2.1).trans (hF18.2.2.2.2.2.2.2.2.2.2.2.2.2.2.2.2.2.2.2.2.2.2.2.2.2.2.1), (hf20.2.2.2.2.2.2.2.2.2.2.2.2.2.2.2.2.2.2.2.2.2.2.2.2.2.2.2.2.2.2.1).trans (hF18.2.2.2.2.2.2.2.2.2.2.2.2.2.2.2.2.2.2.2.2.2.2.2.2.2.2.2.1), (hf20.2.2.2.2.2.2.2.2.2.2.2.2.2.2.2.2.2.2.2.2.2.2.2.2.2.2.2.2.2.2.2.1).trans (hF18.2.2.2.2.2.2.2.2.2.2.2.2.2.2.2.2.2.2.2.2.2.2.2.2.2.2.2.2.1), (hf20.2.2.2.2.2.2.2.2.2.2.2.2.2.2.2.2.2.2.2.2.2.2.2.2.2.2.2.2.2.2.2.2.1).trans (hF18.2.2.2.2.2.2.2.2.2.2.2.2.2.2.2.2.2.2.2.2.2.2.2.2.2.2.2.2.2.1), (hf20.2.2.2.2.2.2.2.2.2.2.2.2.2.2.2.2.2.2.2.2.2.2.2.2.2.2.2.2.2.2.2.2.2.1).trans (hF18.2.2.2.2.2.2.2.2.2.2.2.2.2.2.2.2.2.2.2.2.2.2.2.2.2.2.2.2.2.2.1), (hf20.2.2.2.2.2.2.2.2.2.2.2.2.2.2.2.2.2.2.2.2.2.2.2.2.2.2.2.2.2.2.2.2.2.2.1).trans (hF18.2.2.2.2.2.2.2.2.2.2.2.2.2.2.2.2.2.2.2.2.2.2.2.2.2.2.2.2.2.2.2.1), (hf20.2.2.2.2.2.2.2.2.2.2.2.2.2.2.2.2.2.2.2.2.2.2.2.2.2.2.2.2.2.2.2.2.2.2.2.1).trans (hF18.2.2.2.2.2.2.2.2.2.2.2.2.2.2.2.2.2.2.2.2.2.2.2.2.2.2.2.2.2.2.2.2.1), (hf20.2.2.2.2.2.2.2.2.2.2.2.2.2.2.2.2.2.2.2.2.2.2.2.2.2.2.2.2.2.2.2.2.2.2.2.2.1).trans (hF18.2.2.2.2.2.2.2.2.2.2.2.2.2.2.2.2.2.2.2.2.2.2.2.2.2.2.2.2.2.2.2.2.2.1), (hf20.2.2.2.2.2.2.2.2.2.2.2.2.2.2.2.2.2.2.2.2.2.2.2.2.2.2.2.2.2.2.2.2.2.2.2.2.2.1).trans (hF18.2.2.2.2.2.2.2.2.2.2.2.2.2.2.2.2.2.2.2.2.2.2.2.2.2.2.2.2.2.2.2.2.2.2.1), (hf20.2.2.2.2.2.2.2.2.2.2.2.2.2.2.2.2.2.2.2.2.2.2.2.2.2.2.2.2.2.2.2.2.2.2.2.2.2.2.1).trans (hF18.2.2.2.2.2.2.2.2.2.2.2.2.2.2.2.2.2.2.2.2.2.2.2.2.2.2.2.2.2.2.2.2.2.2.2.1), (hf20.2.2.2.2.2.2.2.2.2.2.2.2.2.2.2.2.2.2.2.2.2.2.2.2.2.2.2.2.2.2.2.2.2.2.2.2.2.2.2.1).trans (hF18.2.2.2.2.2.2.2.2.2.2.2.2.2.2.2.2.2.2.2.2.2.2.2.2.2.2.2.2.2.2.2.2.2.2.2.2.1), (hf20.2.2.2.2.2.2.2.2.2.2.2.2.2.2.2.2.2.2.2.2.2.2.2.2.2.2.2.2.2.2.2.2.2.2.2.2.2.2.2.2.1).trans (hF18.2.2.2.2.2.2.2.2.2.2.2.2.2.2.2.2.2.2.2.2.2.2.2.2.2.2.2.2.2.2.2.2.2.2.2.2.2.1), (hf20.2.2.2.2.2.2.2.2.2.2.2.2.2.2.2.2.2.2.2.2.2.2.2.2.2.2.2.2.2.2.2.2.2.2.2.2.2.2.2.2.2).trans (hF18.2.2.2.2.2.2.2.2.2.2.2.2.2.2.2.2.2.2.2.2.2.2.2.2.2.2.2.2.2.2.2.2.2.2.2.2.2.2)⟩ (hp18 u20 ep) (Or.inr ⟨rfl, hbe, ?_⟩)
        rw [eI] at h20
        omega
  unfold wp_X9_laysNode
  exact ⟨fun _ => start _, fun _ => start _⟩
theorem sg_X9_laysNode {S : bT9} (hJ : J9 S) {a1 : Int32} {Q : bT9 → Prop} {x l s e u : Nat} (h : R9 S) (hN : N9 S) (ha : AT9 S x l s e) (h1 : a1.toInt = (x : Int)) (hu8 : u ≤ 8) (hun : (b9g_upperNodes S).toInt = NB (n9 S) (C9 S) (P9 S) (64 * u)) (hi0 : ((b9g_itemMany S).toInt = max 0 ((EB (n9 S) (C9 S) (P9 S) (64 * l + s)) - (EB (n9 S) (C9 S) (P9 S) (64 * u))) ∧ IAR (n9 S) (C9 S) (L9 S) (P9 S) (fun j => b9g_keys S (64 + j)) (b9g_itemNode S) (b9g_itemByte S) (b9g_itemChild S) (64 * u) (64 * l + s))) (hz0 : ((b9g_places S).toInt = LB (n9 S) (C9 S) (64 * l + s) ∧ PLR (n9 S) (C9 S) (b9g_placeOf S) (b9g_leafOfPlace S) (64 * l + s))) (hq : ∀ V : bT9, J9 V → F_X9_laysNode S V → ((b9g_itemMany V).toInt = max 0 ((EB (n9 S) (C9 S) (P9 S) (64 * l + e)) - (EB (n9 S) (C9 S) (P9 S) (64 * u))) ∧ IAR (n9 S) (C9 S) (L9 S) (P9 S) (fun j => b9g_keys S (64 + j)) (b9g_itemNode V) (b9g_itemByte V) (b9g_itemChild V) (64 * u) (64 * l + e)) → ((b9g_places V).toInt = LB (n9 S) (C9 S) (64 * l + e) ∧ PLR (n9 S) (C9 S) (b9g_placeOf V) (b9g_leafOfPlace V) (64 * l + e)) → Q V) : wp_X9_laysNode S a1 Q := by
  have G := h.1
  have g64 := G.1
  have ha' := ha
  obtain ⟨x5, l7, hs, hg, hx, e1, e2, e3⟩ := ha'
  have sn := hs.1
  have ge := hg.1
  have gn := hg.2.1
  have em : a1.toNatClampNeg = x := by
    show a1.toInt.toNat = x
    omega
  have lbn : LB (n9 S) (C9 S) 512 = ((n9 S) : Int) := LB_all (n9 S) g64 (fun i hi => (G.2.1 i hi).2.2.2)
  have low : x < NB (n9 S) (C9 S) (P9 S) (64 * u) ↔ l < u := by
    constructor
    · intro t
      apply Classical.byContradiction
      intro t2
      have := NB_mono (n := (n9 S)) (C := (C9 S)) (P := (P9 S)) (show 64 * u ≤ 64 * l + s by omega)
      omega
    · intro t
      have lt : NB (n9 S) (C9 S) (P9 S) (64 * l + s) < NB (n9 S) (C9 S) (P9 S) (64 * u) := CTP_lt (by omega) ((IsN_at (by omega)).mpr hs)
      omega
  have sm : ∀ V : bT9, F_X9_laysNode S V → SM9 V S := fun V hF => ⟨hF.2.2.1, hF.2.2.2.1, hF.2.1⟩
  have rV : ∀ V : bT9, F_X9_laysNode S V → R9 V := fun V hF => R9_same h (sm V hF) (hF.2.2.2.2.2.2.2.2.2.2.2.1) (hF.2.2.2.2.2.2.2.2.2.2.1)
  have nV : ∀ V : bT9, F_X9_laysNode S V → N9 V := fun V hF => N9_same hN (sm V hF) (hF.2.2.2.2.2.2.2.2.2.2.2.2.2.1) (hF.2.2.2.2.2.2.2.2.2.2.2.2.2.2.1) (hF.2.2.2.2.2.2.2.2.2.2.2.2.2.2.2.1) (hF.2.2.2.2.2.2.2.2.2.2.2.2.2.2.2.2.1)
  have aV : ∀ V : bT9, F_X9_laysNode S V → AT9 V x l s e := fun V hF => AT9_same ha (sm V hF) (hF.2.2.2.2.2.2.2.2.2.2.2.2.2.1) (hF.2.2.2.2.2.2.2.2.2.2.2.2.2.2.1) (hF.2.2.2.2.2.2.2.2.2.2.2.2.2.2.2.1)
  have grp : ∀ i, i < e → ∀ q, s ≤ q → q ≤ i → l ≤ (C9 S) q ∧ (P9 S) l q = (P9 S) l s := fun i hi q q1 q2 => hg.2.2.1 q q1 (by omega)
  have w1 : ∀ i, i < 64 → (64 * l + i) / 64 = l := fun i hi => gd1 l hi
  have w2 : ∀ i, i < 64 → (64 * l + i) % 64 = i := fun i hi => gd2 l hi
  have place : ∀ (V : bT9) (i : Nat) (a : Int32) (R : bT9 → Prop), J9 V → F_X9_laysNode S V → a.toInt = (i : Int) → i < (n9 S) → (C9 S) i = l → ((b9g_places V).toInt = LB (n9 S) (C9 S) (64 * l + i) ∧ PLR (n9 S) (C9 S) (b9g_placeOf V) (b9g_leafOfPlace V) (64 * l + i)) → (∀ W : bT9, J9 W → F_X9_laysNode S W → ((b9g_places W).toInt = LB (n9 S) (C9 S) (64 * l + i + 1) ∧ PLR (n9 S) (C9 S) (b9g_placeOf W) (b9g_leafOfPlace W) (64 * l + i + 1)) → b9g_itemMany W = b9g_itemMany V → b9g_itemNode W = b9g_itemNode V → b9g_itemByte W = b9g_itemByte V → b9g_itemChild W = b9g_itemChild V → R W) → wp_X9_places V a R := by
    intro V i a R hJV hF hai hin hC hZ hR
    have hL : IsL (n9 S) (C9 S) (64 * l + i) := (IsL_at (by omega)).mpr ⟨hin, hC⟩
    have lt : LB (n9 S) (C9 S) (64 * l + i) < LB (n9 S) (C9 S) 512 := CTP_lt (by omega) hL
    have l0 : 0 ≤ LB (n9 S) (C9 S) (64 * l + i) := (CTP_rng _ _).1
    have t : LB (n9 S) (C9 S) (64 * l + i + 1) = LB (n9 S) (C9 S) (64 * l + i) + 1 := CTP_y hL
    have ea : a.toNatClampNeg = i := by
      show a.toInt.toNat = i
      omega
    have hZ1 := hZ.1
    obtain ⟨m, emm⟩ : ∃ m : Nat, (b9g_places V).toInt = (m : Int) := ⟨(b9g_places V).toInt.toNat, by omega⟩
    have epm : (b9g_places V).toNatClampNeg = m := by
      show (b9g_places V).toInt.toNat = m
      omega
    refine sf_X9_places hJV (by omega) (by omega) (by omega) (fun W hJW hfW p1 p2 p3 => ?_)
    rw [ea] at p2
    rw [epm] at p3
    refine hR W hJW ⟨(hfW.1).trans (hF.1), (hfW.2.1).trans (hF.2.1), (hfW.2.2.1).trans (hF.2.2.1), (hfW.2.2.2.1).trans (hF.2.2.2.1), (hfW.2.2.2.2.1).trans (hF.2.2.2.2.1), (hfW.2.2.2.2.2.1).trans (hF.2.2.2.2.2.1), (hfW.2.2.2.2.2.2.1).trans (hF.2.2.2.2.2.2.1), (hfW.2.2.2.2.2.2.2.1).trans (hF.2.2.2.2.2.2.2.1), (hfW.2.2.2.2.2.2.2.2.1).trans (hF.2.2.2.2.2.2.2.2.1), (hfW.2.2.2.2.2.2.2.2.2.1).trans (hF.2.2.2.2.2.2.2.2.2.1), (hfW.2.2.2.2.2.2.2.2.2.2.1).trans (hF.2.2.2.2.2.2.2.2.2.2.1), (hfW.2.2.2.2.2.2.2.2.2.2.2.1).trans (hF.2.2.2.2.2.2.2.2.2.2.2.1), (hfW.2.2.2.2.2.2.2.2.2.2.2.2.1).trans (hF.2.2.2.2.2.2.2.2.2.2.2.2.1), (hfW.2.2.2.2.2.2.2.2.2.2.2.2.2.1).trans (hF.2.2.2.2.2.2.2.2.2.2.2.2.2.1), (hfW.2.2.2.2.2.2.2.2.2.2.2.2.2.2.1).trans (hF.2.2.2.2.2.2.2.2.2.2.2.2.2.2.1), (hfW.2.2.2.2.2.2.2.2.2.2.2.2.2.2.2.1).trans (hF.2.2.2.2.2.2.2.2.2.2.2.2.2.2.2.1), (hfW.2.2.2.2.2.2.2.2.2.2.2.2.2.2.2.2.1).trans (hF.2.2.2.2.2.2.2.2.2.2.2.2.2.2.2.2.1), (hfW.2.2.2.2.2.2.2.2.2.2.2.2.2.2.2.2.2.1).trans (hF.2.2.2.2.2.2.2.2.2.2.2.2.2.2.2.2.2.1), (hfW.2.2.2.2.2.2.2.2.2.2.2.2.2.2.2.2.2.2.1).trans (hF.2.2.2.2.2.2.2.2.2.2.2.2.2.2.2.2.2.2.1), (hfW.2.2.2.2.2.2.2.2.2.2.2.2.2.2.2.2.2.2.2.1).trans (hF.2.2.2.2.2.2.2.2.2.2.2.2.2.2.2.2.2.2.2.1), (hfW.2.2.2.2.2.2.2.2.2.2.2.2.2.2.2.2.2.2.2.2.1).trans (hF.2.2.2.2.2.2.2.2.2.2.2.2.2.2.2.2.2.2.2.2.1), (hfW.2.2.2.2.2.2.2.2.2.2.2.2.2.2.2.2.2.2.2.2.2.2.2.2.2.1).trans (hF.2.2.2.2.2.2.2.2.2.2.2.2.2.2.2.2.2.2.2.2.2.1), (hfW.2.2.2.2.2.2.2.2.2.2.2.2.2.2.2.2.2.2.2.2.2.2.2.2.2.2.1).trans (hF.2.2.2.2.2.2.2.2.2.2.2.2.2.2.2.2.2.2.2.2.2.2.1), (hfW.2.2.2.2.2.2.2.2.2.2.2.2.2.2.2.2.2.2.2.2.2.2.2.2.2.2.2.1).trans (hF.2.2.2.2.2.2.2.2.2.2.2.2.2.2.2.2.2.2.2.2.2.2.2.1), (hfW.2.2.2.2.2.2.2.2.2.2.2.2.2.2.2.2.2.2.2.2.2.2.2.2.2.2.2.2.1).trans (hF.2.2.2.2.2.2.2.2.2.2.2.2.2.2.2.2.2.2.2.2.2.2.2.2.1), (hfW.2.2.2.2.2.2.2.2.2.2.2.2.2.2.2.2.2.2.2.2.2.2.2.2.2.2.2.2.2.1).trans (hF.2.2.2.2.2.2.2.2.2.2.2.2.2.2.2.2.2.2.2.2.2.2.2.2.2.1), (hfW.2.2.2.2.2.2.2.2.2.2.2.2.2.2.2.2.2.2.2.2.2.2.2.2.2.2.2.2.2.2.1).trans (hF.2.2.2.2.2.2.2.2.2.2.2.2.2.2.2.2.2.2.2.2.2.2.2.2.2.2.1), (hfW.2.2.2.2.2.2.2.2.2.2.2.2.2.2.2.2.2.2.2.2.2.2.2.2.2.2.2.2.2.2.2.1).trans (hF.2.2.2.2.2.2.2.2.2.2.2.2.2.2.2.2.2.2.2.2.2.2.2.2.2.2.2.1), (hfW.2.2.2.2.2.2.2.2.2.2.2.2.2.2.2.2.2.2.2.2.2.2.2.2.2.2.2.2.2.2.2.2.1).trans (hF.2.2.2.2.2.2.2.2.2.2.2.2.2.2.2.2.2.2.2.2.2.2.2.2.2.2.2.2.1), (hfW.2.2.2.2.2.2.2.2.2.2.2.2.2.2.2.2.2.2.2.2.2.2.2.2.2.2.2.2.2.2.2.2.2.1).trans (hF.2.2.2.2.2.2.2.2.2.2.2.2.2.2.2.2.2.2.2.2.2.2.2.2.2.2.2.2.2.1), (hfW.2.2.2.2.2.2.2.2.2.2.2.2.2.2.2.2.2.2.2.2.2.2.2.2.2.2.2.2.2.2.2.2.2.2.1).trans (hF.2.2.2.2.2.2.2.2.2.2.2.2.2.2.2.2.2.2.2.2.2.2.2.2.2.2.2.2.2.2.1), (hfW.2.2.2.2.2.2.2.2.2.2.2.2.2.2.2.2.2.2.2.2.2.2.2.2.2.2.2.2.2.2.2.2.2.2.2.1).trans (hF.2.2.2.2.2.2.2.2.2.2.2.2.2.2.2.2.2.2.2.2.2.2.2.2.2.2.2.2.2.2.2.1), (hfW.2.2.2.2.2.2.2.2.2.2.2.2.2.2.2.2.2.2.2.2.2.2.2.2.2.2.2.2.2.2.2.2.2.2.2.2.1).trans (hF.2.2.2.2.2.2.2.2.2.2.2.2.2.2.2.2.2.2.2.2.2.2.2.2.2.2.2.2.2.2.2.2.1), (hfW.2.2.2.2.2.2.2.2.2.2.2.2.2.2.2.2.2.2.2.2.2.2.2.2.2.2.2.2.2.2.2.2.2.2.2.2.2.1).trans (hF.2.2.2.2.2.2.2.2.2.2.2.2.2.2.2.2.2.2.2.2.2.2.2.2.2.2.2.2.2.2.2.2.2.1), (hfW.2.2.2.2.2.2.2.2.2.2.2.2.2.2.2.2.2.2.2.2.2.2.2.2.2.2.2.2.2.2.2.2.2.2.2.2.2.2.1).trans (hF.2.2.2.2.2.2.2.2.2.2.2.2.2.2.2.2.2.2.2.2.2.2.2.2.2.2.2.2.2.2.2.2.2.2.1), (hfW.2.2.2.2.2.2.2.2.2.2.2.2.2.2.2.2.2.2.2.2.2.2.2.2.2.2.2.2.2.2.2.2.2.2.2.2.2.2.2.1).trans (hF.2.2.2.2.2.2.2.2.2.2.2.2.2.2.2.2.2.2.2.2.2.2.2.2.2.2.2.2.2.2.2.2.2.2.2.1), (hfW.2.2.2.2.2.2.2.2.2.2.2.2.2.2.2.2.2.2.2.2.2.2.2.2.2.2.2.2.2.2.2.2.2.2.2.2.2.2.2.2.1).trans (hF.2.2.2.2.2.2.2.2.2.2.2.2.2.2.2.2.2.2.2.2.2.2.2.2.2.2.2.2.2.2.2.2.2.2.2.2.1), (hfW.2.2.2.2.2.2.2.2.2.2.2.2.2.2.2.2.2.2.2.2.2.2.2.2.2.2.2.2.2.2.2.2.2.2.2.2.2.2.2.2.2.1).trans (hF.2.2.2.2.2.2.2.2.2.2.2.2.2.2.2.2.2.2.2.2.2.2.2.2.2.2.2.2.2.2.2.2.2.2.2.2.2.1), (hfW.2.2.2.2.2.2.2.2.2.2.2.2.2.2.2.2.2.2.2.2.2.2.2.2.2.2.2.2.2.2.2.2.2.2.2.2.2.2.2.2.2.2).trans (hF.2.2.2.2.2.2.2.2.2.2.2.2.2.2.2.2.2.2.2.2.2.2.2.2.2.2.2.2.2.2.2.2.2.2.2.2.2.2)⟩ ⟨by omega, ?_⟩ (hfW.2.2.2.2.2.2.2.2.2.2.2.2.2.2.2.2.2.2.2.2.2.2.2.2.1) (hfW.2.2.2.2.2.2.2.2.2.2.2.2.2.2.2.2.2.2.2.2.2.1) (hfW.2.2.2.2.2.2.2.2.2.2.2.2.2.2.2.2.2.2.2.2.2.2.1) (hfW.2.2.2.2.2.2.2.2.2.2.2.2.2.2.2.2.2.2.2.2.2.2.2.1)
    rw [p2, p3]
    exact PLR_add hZ.2 hL (by omega) (w2 i (by omega)) emm hai
  have item : ∀ (V : bT9) (i : Nat) (a2 a3 : Int32) (R : bT9 → Prop), J9 V → F_X9_laysNode S V → s ≤ i → i < e → EST (n9 S) (C9 S) (P9 S) l i → u ≤ l → a2 = OCV (fun j => b9g_keys S (64 + j)) (L9 S) (64 * l + i) → (a3 = -1 ↔ (C9 S) i = l) → ((b9g_itemMany V).toInt = max 0 ((EB (n9 S) (C9 S) (P9 S) (64 * l + i)) - (EB (n9 S) (C9 S) (P9 S) (64 * u))) ∧ IAR (n9 S) (C9 S) (L9 S) (P9 S) (fun j => b9g_keys S (64 + j)) (b9g_itemNode V) (b9g_itemByte V) (b9g_itemChild V) (64 * u) (64 * l + i)) → (∀ W : bT9, J9 W → F_X9_laysNode S W → ((b9g_itemMany W).toInt = max 0 ((EB (n9 S) (C9 S) (P9 S) (64 * l + i + 1)) - (EB (n9 S) (C9 S) (P9 S) (64 * u))) ∧ IAR (n9 S) (C9 S) (L9 S) (P9 S) (fun j => b9g_keys S (64 + j)) (b9g_itemNode W) (b9g_itemByte W) (b9g_itemChild W) (64 * u) (64 * l + i + 1)) → b9g_places W = b9g_places V → b9g_placeOf W = b9g_placeOf V → b9g_leafOfPlace W = b9g_leafOfPlace V → R W) → wp_X9_laysItem V a1 a2 a3 R := by
    intro V i a2 a3 R hJV hF hsi hie hE hul h2 h3 hI hR
    have hIs : IsE (n9 S) (C9 S) (P9 S) (64 * l + i) := (IsE_at (by omega)).mpr hE
    have t : (EB (n9 S) (C9 S) (P9 S) (64 * l + i + 1)) = (EB (n9 S) (C9 S) (P9 S) (64 * l + i)) + 1 := CTP_y hIs
    have b1 := EB_le G (w := 64 * l + i) (by omega)
    have b2 := EB_le G (w := 64 * u) (by omega)
    have mn := EB_mono (n := (n9 S)) (C := (C9 S)) (P := (P9 S)) (show 64 * u ≤ 64 * l + i by omega)
    have hI1 := hI.1
    obtain ⟨m, emm⟩ : ∃ m : Nat, (b9g_itemMany V).toInt = (m : Int) := ⟨(b9g_itemMany V).toInt.toNat, by omega⟩
    have epm : (b9g_itemMany V).toNatClampNeg = m := by
      show (b9g_itemMany V).toInt.toNat = m
      omega
    refine sf_X9_laysItem hJV (by omega) (fun W hJW hfW p1 p2 p3 p4 => ?_)
    rw [epm] at p2 p3 p4
    refine hR W hJW ⟨(hfW.1).trans (hF.1), (hfW.2.1).trans (hF.2.1), (hfW.2.2.1).trans (hF.2.2.1), (hfW.2.2.2.1).trans (hF.2.2.2.1), (hfW.2.2.2.2.1).trans (hF.2.2.2.2.1), (hfW.2.2.2.2.2.1).trans (hF.2.2.2.2.2.1), (hfW.2.2.2.2.2.2.1).trans (hF.2.2.2.2.2.2.1), (hfW.2.2.2.2.2.2.2.1).trans (hF.2.2.2.2.2.2.2.1), (hfW.2.2.2.2.2.2.2.2.1).trans (hF.2.2.2.2.2.2.2.2.1), (hfW.2.2.2.2.2.2.2.2.2.1).trans (hF.2.2.2.2.2.2.2.2.2.1), (hfW.2.2.2.2.2.2.2.2.2.2.1).trans (hF.2.2.2.2.2.2.2.2.2.2.1), (hfW.2.2.2.2.2.2.2.2.2.2.2.1).trans (hF.2.2.2.2.2.2.2.2.2.2.2.1), (hfW.2.2.2.2.2.2.2.2.2.2.2.2.1).trans (hF.2.2.2.2.2.2.2.2.2.2.2.2.1), (hfW.2.2.2.2.2.2.2.2.2.2.2.2.2.1).trans (hF.2.2.2.2.2.2.2.2.2.2.2.2.2.1), (hfW.2.2.2.2.2.2.2.2.2.2.2.2.2.2.1).trans (hF.2.2.2.2.2.2.2.2.2.2.2.2.2.2.1), (hfW.2.2.2.2.2.2.2.2.2.2.2.2.2.2.2.1).trans (hF.2.2.2.2.2.2.2.2.2.2.2.2.2.2.2.1), (hfW.2.2.2.2.2.2.2.2.2.2.2.2.2.2.2.2.1).trans (hF.2.2.2.2.2.2.2.2.2.2.2.2.2.2.2.2.1), (hfW.2.2.2.2.2.2.2.2.2.2.2.2.2.2.2.2.2.1).trans (hF.2.2.2.2.2.2.2.2.2.2.2.2.2.2.2.2.2.1), (hfW.2.2.2.2.2.2.2.2.2.2.2.2.2.2.2.2.2.2.1).trans (hF.2.2.2.2.2.2.2.2.2.2.2.2.2.2.2.2.2.2.1), (hfW.2.2.2.2.2.2.2.2.2.2.2.2.2.2.2.2.2.2.2.1).trans (hF.2.2.2.2.2.2.2.2.2.2.2.2.2.2.2.2.2.2.2.1), (hfW.2.2.2.2.2.2.2.2.2.2.2.2.2.2.2.2.2.2.2.2.1).trans (hF.2.2.2.2.2.2.2.2.2.2.2.2.2.2.2.2.2.2.2.2.1), (hfW.2.2.2.2.2.2.2.2.2.2.2.2.2.2.2.2.2.2.2.2.2.2.2.2.1).trans (hF.2.2.2.2.2.2.2.2.2.2.2.2.2.2.2.2.2.2.2.2.2.1), (hfW.2.2.2.2.2.2.2.2.2.2.2.2.2.2.2.2.2.2.2.2.2.2.2.2.2.1).trans (hF.2.2.2.2.2.2.2.2.2.2.2.2.2.2.2.2.2.2.2.2.2.2.1), (hfW.2.2.2.2.2.2.2.2.2.2.2.2.2.2.2.2.2.2.2.2.2.2.2.2.2.2.1).trans (hF.2.2.2.2.2.2.2.2.2.2.2.2.2.2.2.2.2.2.2.2.2.2.2.1), (hfW.2.2.2.2.2.2.2.2.2.2.2.2.2.2.2.2.2.2.2.2.2.2.2.2.2.2.2.1).trans (hF.2.2.2.2.2.2.2.2.2.2.2.2.2.2.2.2.2.2.2.2.2.2.2.2.1), (hfW.2.2.2.2.2.2.2.2.2.2.2.2.2.2.2.2.2.2.2.2.2.2.2.2.2.2.2.2.1).trans (hF.2.2.2.2.2.2.2.2.2.2.2.2.2.2.2.2.2.2.2.2.2.2.2.2.2.1), (hfW.2.2.2.2.2.2.2.2.2.2.2.2.2.2.2.2.2.2.2.2.2.2.2.2.2.2.2.2.2.1).trans (hF.2.2.2.2.2.2.2.2.2.2.2.2.2.2.2.2.2.2.2.2.2.2.2.2.2.2.1), (hfW.2.2.2.2.2.2.2.2.2.2.2.2.2.2.2.2.2.2.2.2.2.2.2.2.2.2.2.2.2.2.1).trans (hF.2.2.2.2.2.2.2.2.2.2.2.2.2.2.2.2.2.2.2.2.2.2.2.2.2.2.2.1), (hfW.2.2.2.2.2.2.2.2.2.2.2.2.2.2.2.2.2.2.2.2.2.2.2.2.2.2.2.2.2.2.2.1).trans (hF.2.2.2.2.2.2.2.2.2.2.2.2.2.2.2.2.2.2.2.2.2.2.2.2.2.2.2.2.1), (hfW.2.2.2.2.2.2.2.2.2.2.2.2.2.2.2.2.2.2.2.2.2.2.2.2.2.2.2.2.2.2.2.2.1).trans (hF.2.2.2.2.2.2.2.2.2.2.2.2.2.2.2.2.2.2.2.2.2.2.2.2.2.2.2.2.2.1), (hfW.2.2.2.2.2.2.2.2.2.2.2.2.2.2.2.2.2.2.2.2.2.2.2.2.2.2.2.2.2.2.2.2.2.1).trans (hF.2.2.2.2.2.2.2.2.2.2.2.2.2.2.2.2.2.2.2.2.2.2.2.2.2.2.2.2.2.2.1), (hfW.2.2.2.2.2.2.2.2.2.2.2.2.2.2.2.2.2.2.2.2.2.2.2.2.2.2.2.2.2.2.2.2.2.2.1).trans (hF.2.2.2.2.2.2.2.2.2.2.2.2.2.2.2.2.2.2.2.2.2.2.2.2.2.2.2.2.2.2.2.1), (hfW.2.2.2.2.2.2.2.2.2.2.2.2.2.2.2.2.2.2.2.2.2.2.2.2.2.2.2.2.2.2.2.2.2.2.2.1).trans (hF.2.2.2.2.2.2.2.2.2.2.2.2.2.2.2.2.2.2.2.2.2.2.2.2.2.2.2.2.2.2.2.2.1), (hfW.2.2.2.2.2.2.2.2.2.2.2.2.2.2.2.2.2.2.2.2.2.2.2.2.2.2.2.2.2.2.2.2.2.2.2.2.1).trans (hF.2.2.2.2.2.2.2.2.2.2.2.2.2.2.2.2.2.2.2.2.2.2.2.2.2.2.2.2.2.2.2.2.2.1), (hfW.2.2.2.2.2.2.2.2.2.2.2.2.2.2.2.2.2.2.2.2.2.2.2.2.2.2.2.2.2.2.2.2.2.2.2.2.2.1).trans (hF.2.2.2.2.2.2.2.2.2.2.2.2.2.2.2.2.2.2.2.2.2.2.2.2.2.2.2.2.2.2.2.2.2.2.1), (hfW.2.2.2.2.2.2.2.2.2.2.2.2.2.2.2.2.2.2.2.2.2.2.2.2.2.2.2.2.2.2.2.2.2.2.2.2.2.2.1).trans (hF.2.2.2.2.2.2.2.2.2.2.2.2.2.2.2.2.2.2.2.2.2.2.2.2.2.2.2.2.2.2.2.2.2.2.2.1), (hfW.2.2.2.2.2.2.2.2.2.2.2.2.2.2.2.2.2.2.2.2.2.2.2.2.2.2.2.2.2.2.2.2.2.2.2.2.2.2.2.1).trans (hF.2.2.2.2.2.2.2.2.2.2.2.2.2.2.2.2.2.2.2.2.2.2.2.2.2.2.2.2.2.2.2.2.2.2.2.2.1), (hfW.2.2.2.2.2.2.2.2.2.2.2.2.2.2.2.2.2.2.2.2.2.2.2.2.2.2.2.2.2.2.2.2.2.2.2.2.2.2.2.2.1).trans (hF.2.2.2.2.2.2.2.2.2.2.2.2.2.2.2.2.2.2.2.2.2.2.2.2.2.2.2.2.2.2.2.2.2.2.2.2.2.1), (hfW.2.2.2.2.2.2.2.2.2.2.2.2.2.2.2.2.2.2.2.2.2.2.2.2.2.2.2.2.2.2.2.2.2.2.2.2.2.2.2.2.2).trans (hF.2.2.2.2.2.2.2.2.2.2.2.2.2.2.2.2.2.2.2.2.2.2.2.2.2.2.2.2.2.2.2.2.2.2.2.2.2.2)⟩ ⟨by rw [t]; omega, ?_⟩ (hfW.2.2.2.2.2.2.2.2.2.2.2.2.2.2.2.2.2.2.2.2.2.2.2.1) (hfW.2.2.2.2.2.2.2.2.2.2.2.2.2.2.2.2.2.2.2.2.2.1) (hfW.2.2.2.2.2.2.2.2.2.2.2.2.2.2.2.2.2.2.2.2.2.2.1)
    rw [p2, p3, p4]
    have nb := NB_in g64 hs (grp i hie) hsi (by omega)
    refine IAR_add hI.2 hIs (by omega) (by rw [nb]; omega) h2 ?_
    rw [w1 i (by omega), w2 i (by omega)]
    exact h3
  have noitem : ∀ (V : bT9) (i : Nat), i < 64 → l < u → ((b9g_itemMany V).toInt = max 0 ((EB (n9 S) (C9 S) (P9 S) (64 * l + i)) - (EB (n9 S) (C9 S) (P9 S) (64 * u))) ∧ IAR (n9 S) (C9 S) (L9 S) (P9 S) (fun j => b9g_keys S (64 + j)) (b9g_itemNode V) (b9g_itemByte V) (b9g_itemChild V) (64 * u) (64 * l + i)) → ((b9g_itemMany V).toInt = max 0 ((EB (n9 S) (C9 S) (P9 S) (64 * l + i + 1)) - (EB (n9 S) (C9 S) (P9 S) (64 * u))) ∧ IAR (n9 S) (C9 S) (L9 S) (P9 S) (fun j => b9g_keys S (64 + j)) (b9g_itemNode V) (b9g_itemByte V) (b9g_itemChild V) (64 * u) (64 * l + i + 1)) := by
    intro V i hi hlu hI
    have m1 := EB_mono (n := (n9 S)) (C := (C9 S)) (P := (P9 S)) (show 64 * l + i ≤ 64 * u by omega)
    have m2 := EB_mono (n := (n9 S)) (C := (C9 S)) (P := (P9 S)) (show 64 * l + i + 1 ≤ 64 * u by omega)
    exact ⟨by rw [hI.1]; omega, IAR_skip hI.2 (fun w p q r => by omega)⟩
  have loop : ∀ (t0 : Int32) (V : bT9) (b : Nat), (t0 = 0 ↔ l < u) → J9 V → F_X9_laysNode S V → ((L9 S) s = l → b = 64 * l + s + 1) → (¬ (L9 S) s = l → b = 64 * l + s) → ((b9g_itemMany V).toInt = max 0 ((EB (n9 S) (C9 S) (P9 S) (b)) - (EB (n9 S) (C9 S) (P9 S) (64 * u))) ∧ IAR (n9 S) (C9 S) (L9 S) (P9 S) (fun j => b9g_keys S (64 + j)) (b9g_itemNode V) (b9g_itemByte V) (b9g_itemChild V) (64 * u) (b)) → ((b9g_places V).toInt = LB (n9 S) (C9 S) (b) ∧ PLR (n9 S) (C9 S) (b9g_placeOf V) (b9g_leafOfPlace V) (b)) → wp_X9_laysNode_43 V a1 t0 Q := by
    intro t0 V b ht hJV hFV hb1 hb2 hIV hZV
    have eFU : b9g_nodeLeaf V = b9g_nodeLeaf S := hFV.2.2.2.2.2.2.2.2.2.2.2.2.2.2.1
    unfold wp_X9_laysNode_43 wp_X9_laysNode_50
    rw [em, eFU]
    refine ⟨pt_in (by omega) (by omega), fun k y1 y2 x3 W => ∃ i b : Nat, a1 = y1 ∧ t0 = y2 ∧ x3.toInt = (i : Int) ∧ s ≤ i ∧ i ≤ e ∧ (i = s ∧ (L9 S) s = l → b = 64 * l + s + 1) ∧ (¬ (i = s ∧ (L9 S) s = l) → b = 64 * l + i) ∧ J9 W ∧ F_X9_laysNode S W ∧ ((b9g_itemMany W).toInt = max 0 ((EB (n9 S) (C9 S) (P9 S) (b)) - (EB (n9 S) (C9 S) (P9 S) (64 * u))) ∧ IAR (n9 S) (C9 S) (L9 S) (P9 S) (fun j => b9g_keys S (64 + j)) (b9g_itemNode W) (b9g_itemByte W) (b9g_itemChild W) (64 * u) (b)) ∧ ((b9g_places W).toInt = LB (n9 S) (C9 S) (b) ∧ PLR (n9 S) (C9 S) (b9g_placeOf W) (b9g_leafOfPlace W) (b)) ∧ k = e - i, ⟨_, s, b, rfl, rfl, e2, Nat.le_refl _, by omega, fun z => hb1 z.2, fun z => hb2 (fun y => z ⟨rfl, y⟩), hJV, hFV, hIV, hZV, rfl⟩, ?_⟩
    rintro k y1 y2 x3 W ⟨i, b, rfl, rfl, e3', hsi, hie, hc1, hc2, hJW, hFW, hIW, hZW, hk⟩
    suffices H : ∀ B : Int32 → Int32 → Int32 → bT9 → Prop, (∀ W' : bT9, i < e → J9 W' → F_X9_laysNode S W' → ((b9g_itemMany W').toInt = max 0 ((EB (n9 S) (C9 S) (P9 S) (64 * l + i + 1)) - (EB (n9 S) (C9 S) (P9 S) (64 * u))) ∧ IAR (n9 S) (C9 S) (L9 S) (P9 S) (fun j => b9g_keys S (64 + j)) (b9g_itemNode W') (b9g_itemByte W') (b9g_itemChild W') (64 * u) (64 * l + i + 1)) → ((b9g_places W').toInt = LB (n9 S) (C9 S) (64 * l + i + 1) ∧ PLR (n9 S) (C9 S) (b9g_placeOf W') (b9g_leafOfPlace W') (64 * l + i + 1)) → B a1 t0 (x3 + 1) W') → wp_X9_laysNode_50b W a1 t0 x3 Q B from H _ (fun W' hi t1 t2 t3 t4 => ⟨e - (i + 1), by omega, i + 1, 64 * l + i + 1, rfl, rfl, by rw [pt_add (by rw [pl_1]; omega) (by rw [pl_1]; omega), pl_1, e3']; omega, by omega, by omega, fun z => by omega, fun _ => by omega, t1, t2, t3, t4, rfl⟩)
    intro B hB
    have rW := rV W hFW
    have aW := aV W hFW
    have nW := nV W hFW
    obtain ⟨q1, q2, q3, q4⟩ := SM9_n (sm W hFW)
    unfold wp_X9_laysNode_50b
    refine fx9_lastOf h1 x5 aW.2.2.2.2.2.2.1 aW.2.2.2.2.2.2.2 ge (by omega) (fun r7 hr7 => ⟨fun c => ?_, fun c => ?_⟩)
    · simp only [pn] at c
      have ei : i = e := by omega
      have hb := hc2 (by omega)
      rw [hb, ei] at hIW hZW
      exact hq W hJW hFW hIW hZW
    simp only [pn] at c
    have hi : i < e := by omega
    refine fx9_isBranch rW aW h1 e3' hsi hi (fun r9 hr9 => ⟨fun c2 => ?_, fun c2 => ?_⟩)
    · have br : EST (n9 W) (C9 W) (P9 W) l i ∧ ¬ L9 W i = l := Classical.byContradiction (fun z => c2 (hr9.mpr z))
      have br2 := br
      rw [q1, q2, q3, q4] at br2
      have hb := hc2 (fun z => br2.2 (by rw [z.1]; exact z.2))
      rw [hb] at hIW hZW
      have fin : ∀ (W' : bT9) (r : Int32), J9 W' → F_X9_laysNode S W' → ((b9g_itemMany W').toInt = max 0 ((EB (n9 S) (C9 S) (P9 S) (64 * l + i)) - (EB (n9 S) (C9 S) (P9 S) (64 * u))) ∧ IAR (n9 S) (C9 S) (L9 S) (P9 S) (fun j => b9g_keys S (64 + j)) (b9g_itemNode W') (b9g_itemByte W') (b9g_itemChild W') (64 * u) (64 * l + i)) → ((b9g_places W').toInt = LB (n9 S) (C9 S) (64 * l + i + 1) ∧ PLR (n9 S) (C9 S) (b9g_placeOf W') (b9g_leafOfPlace W') (64 * l + i + 1)) → (r = -1 ↔ (C9 S) i = l) → wp_X9_laysNode_90 W' a1 t0 x3 r Q B := by
        intro W' r hJ' hF' hI' hZ' hr
        unfold wp_X9_laysNode_90 wp_X9_laysNode_116
        refine ⟨fun z => hB W' hi hJ' hF' (noitem W' i (by omega) (ht.mp z) hI') hZ', fun z => ?_⟩
        have hul : u ≤ l := by
          apply Classical.byContradiction
          intro y
          exact z (ht.mpr (by omega))
        have eL' : b9g_nodeLevel W' = b9g_nodeLevel S := hF'.2.2.2.2.2.2.2.2.2.2.2.2.2.1
        have eK' : b9g_keys W' = b9g_keys S := hF'.2.2.1
        have ex3 : x3.toNatClampNeg = i := by
          show x3.toInt.toNat = i
          omega
        have lvn : b9g_nodeLevel S x = nI l := Int32.toInt_inj.mp (by rw [nI_toInt (by omega)]; exact e1)
        refine fx9_key (by omega) (by omega) ?_
        rw [em, ex3, eL', eK']
        refine ⟨pt_in (by omega) (by omega), fx9_byteOf (item W' i _ _ _ hJ' hF' hsi hi br2.1 hul ?_ hr hI' (fun V2 v1 v2 v3 v4 v5 v6 => hB V2 hi v1 v2 v3 ⟨by rw [v4]; exact hZ'.1, by rw [v5, v6]; exact hZ'.2⟩))⟩
        unfold OCV
        rw [w1 i (by omega), w2 i (by omega), if_neg br2.2, lvn]
      refine fx9_childAt rW nW aW h1 e3' hsi hi br.1 (fun r11 hr11 => ?_)
      rw [q2] at hr11
      refine ⟨fun c3 => fin W r11 hJW hFW hIW ?_ hr11, fun c3 => ?_⟩
      · have nl : ¬ IsL (n9 S) (C9 S) (64 * l + i) := fun z => c3 (hr11.mpr ((IsL_at (by omega)).mp z).2)
        have t : LB (n9 S) (C9 S) (64 * l + i + 1) = LB (n9 S) (C9 S) (64 * l + i) := CTP_n nl
        exact ⟨by rw [t]; exact hZW.1, PLR_skip hZW.2 (fun w p q => by rw [show w = 64 * l + i by omega]; exact nl)⟩
      · refine place W i x3 _ hJW hFW e3' (by omega) (hr11.mp c3) hZW (fun V2 v1 v2 v3 v4 v5 v6 v7 => fin V2 r11 v1 v2 ?_ v3 hr11)
        rw [v4, v5, v6, v7]
        exact hIW
    · have nb := hr9.mp c2
      rw [q1, q2, q3, q4] at nb
      unfold wp_X9_laysNode_116
      by_cases z : (L9 S) i = l
      · have is := END_first G (grp i hi) hsi (by omega) z
        have hb := hc1 ⟨is, by rw [← is]; exact z⟩
        rw [hb] at hIW hZW
        rw [← is] at hIW hZW
        exact hB W hi hJW hFW hIW hZW
      · have ne : ¬ EST (n9 S) (C9 S) (P9 S) l i := fun y => nb ⟨y, z⟩
        have hb := hc2 (fun y => z (by rw [y.1]; exact y.2))
        rw [hb] at hIW hZW
        have nE : ¬ IsE (n9 S) (C9 S) (P9 S) (64 * l + i) := fun y => ne ((IsE_at (by omega)).mp y)
        have nl : ¬ IsL (n9 S) (C9 S) (64 * l + i) := fun y => nE (IsL_E y)
        have t : LB (n9 S) (C9 S) (64 * l + i + 1) = LB (n9 S) (C9 S) (64 * l + i) := CTP_n nl
        have t2 : (EB (n9 S) (C9 S) (P9 S) (64 * l + i + 1)) = (EB (n9 S) (C9 S) (P9 S) (64 * l + i)) := CTP_n nE
        exact hB W hi hJW hFW ⟨by rw [t2]; exact hIW.1, IAR_skip hIW.2 (fun w _ p q => by rw [show w = 64 * l + i by omega]; exact nE)⟩ ⟨by rw [t]; exact hZW.1, PLR_skip hZW.2 (fun w p q => by rw [show w = 64 * l + i by omega]; exact nl)⟩
  have hF0 : F_X9_laysNode S S := ⟨rfl, rfl, rfl, rfl, rfl, rfl, rfl, rfl, rfl, rfl, rfl, rfl, rfl, rfl, rfl, rfl, rfl, rfl, rfl, rfl, rfl, rfl, rfl, rfl, rfl, rfl, rfl, rfl, rfl, rfl, rfl, rfl, rfl, rfl, rfl, rfl, rfl, rfl, rfl⟩
  have start : ∀ t0 : Int32, (t0 = 0 ↔ l < u) → wp_X9_laysNode_13 S a1 t0 Q := by
    intro t0 ht
    unfold wp_X9_laysNode_13
    refine fx9_isNodeEnd h ha h1 (fun r15 hr => ⟨fun c => ?_, fun c => ?_⟩)
    · have nl := hr.mp c
      exact loop t0 S (64 * l + s) ht hJ hF0 (fun z => absurd z nl) (fun _ => rfl) hi0 hz0
    · have hL : (L9 S) s = l := Classical.byContradiction (fun z => c (hr.mpr z))
      have as := G.2.1 s sn
      have cs := hs.2.1
      have hC : (C9 S) s = l := by omega
      have hE : EST (n9 S) (C9 S) (P9 S) l s := ⟨sn, Or.inl hC⟩
      rw [em]
      refine ⟨pt_in (by omega) (by omega), place S s _ _ hJ hF0 e2 sn hC hz0 (fun W v1 v2 v3 v4 v5 v6 v7 => ?_)⟩
      have hIW : ((b9g_itemMany W).toInt = max 0 ((EB (n9 S) (C9 S) (P9 S) (64 * l + s)) - (EB (n9 S) (C9 S) (P9 S) (64 * u))) ∧ IAR (n9 S) (C9 S) (L9 S) (P9 S) (fun j => b9g_keys S (64 + j)) (b9g_itemNode W) (b9g_itemByte W) (b9g_itemChild W) (64 * u) (64 * l + s)) := by
        rw [v4, v5, v6, v7]
        exact hi0
      refine ⟨fun z => loop t0 W (64 * l + s + 1) ht v1 v2 (fun _ => rfl) (fun y => absurd hL y) (noitem W s (by omega) (ht.mp z) hIW) v3, fun z => ?_⟩
      have hul : u ≤ l := by
        apply Classical.byContradiction
        intro y
        exact z (ht.mpr (by omega))
      refine item W s _ _ _ v1 v2 (Nat.le_refl _) ge hE hul ?_ ⟨fun _ => hC, fun _ => rfl⟩ hIW (fun V2 k1 k2 k3 k4 k5 k6 => loop t0 V2 (64 * l + s + 1) ht k1 k2 (fun _ => rfl) (fun y => absurd hL y) k3 ⟨by rw [k4]; exact v3.1, by rw [k5, k6]; exact v3.2⟩)
      unfold OCV
      rw [w1 s (by omega), w2 s (by omega), if_pos hL]
  unfold wp_X9_laysNode
  refine ⟨fun c => start 0 ⟨fun _ => ?_, fun _ => rfl⟩, fun c => start 1 ⟨fun z => absurd z (by decide), fun z => absurd ?_ c⟩⟩
  · simp only [pn] at c
    exact low.mp (by omega)
  · simp only [pn]
    have := low.mpr z
    omega
def F_X9_laysItems (S u : bT9) : Prop := (b9g_told u) = (b9g_told S) ∧ (b9g_now u) = (b9g_now S) ∧ (b9g_keys u) = (b9g_keys S) ∧ (b9g_lengths u) = (b9g_lengths S) ∧ (b9g_drawn u) = (b9g_drawn S) ∧ (b9g_drawnLength u) = (b9g_drawnLength S) ∧ (b9g_tape u) = (b9g_tape S) ∧ (b9g_taped u) = (b9g_taped S) ∧ (b9g_names u) = (b9g_names S) ∧ (b9g_chosen u) = (b9g_chosen S) ∧ (b9g_common u) = (b9g_common S) ∧ (b9g_beginning u) = (b9g_beginning S) ∧ (b9g_isLaid u) = (b9g_isLaid S) ∧ (b9g_nodeLevel u) = (b9g_nodeLevel S) ∧ (b9g_nodeLeaf u) = (b9g_nodeLeaf S) ∧ (b9g_nodeLeaves u) = (b9g_nodeLeaves S) ∧ (b9g_nodeMany u) = (b9g_nodeMany S) ∧ (b9g_levelMany u) = (b9g_levelMany S) ∧ (b9g_upper u) = (b9g_upper S) ∧ (b9g_upperNodes u) = (b9g_upperNodes S) ∧ (b9g_areNodesLaid u) = (b9g_areNodesLaid S) ∧ (b9g_lowKey u) = (b9g_lowKey S) ∧ (b9g_highKey u) = (b9g_highKey S) ∧ (b9g_lowLength u) = (b9g_lowLength S) ∧ (b9g_highLength u) = (b9g_highLength S) ∧ (b9g_fromKey u) = (b9g_fromKey S) ∧ (b9g_toKey u) = (b9g_toKey S) ∧ (b9g_fromLength u) = (b9g_fromLength S) ∧ (b9g_toLength u) = (b9g_toLength S) ∧ (b9g_ones u) = (b9g_ones S) ∧ (b9g_oneMany u) = (b9g_oneMany S) ∧ (b9g_rowLong u) = (b9g_rowLong S) ∧ (b9g_laidFor u) = (b9g_laidFor S) ∧ (b9g_signs u) = (b9g_signs S) ∧ (b9g_signMany u) = (b9g_signMany S) ∧ (b9g_hasImage u) = (b9g_hasImage S) ∧ (b9g_images u) = (b9g_images S) ∧ (b9g_keyImages u) = (b9g_keyImages S) ∧ (b9g_lengthImages u) = (b9g_lengthImages S)
theorem sf_X9_laysItems {S : bT9} (hJ : J9 S) {Q : (bT9) → Prop} (hp0 : TR S 8 0) (hq : ∀ u : bT9, (J9 u) → F_X9_laysItems S u → (∀ k : Nat, R9 S → N9 S → k ≤ 8 → (b9g_upper S).toInt = (k : Int) → (b9g_upperNodes S).toInt = NB (n9 S) (C9 S) (P9 S) (64 * k) → (b9g_itemMany u).toInt = EB (n9 S) (C9 S) (P9 S) 512 - EB (n9 S) (C9 S) (P9 S) (64 * k) ∧ IAR (n9 S) (C9 S) (L9 S) (P9 S) (fun j => b9g_keys S (64 + j)) (b9g_itemNode u) (b9g_itemByte u) (b9g_itemChild u) (64 * k) 512 ∧ PLR (n9 S) (C9 S) (b9g_placeOf u) (b9g_leafOfPlace u) 512) → Q u) : wp_X9_laysItems S Q := by
  by_cases hyp : ∃ k : Nat, R9 S ∧ N9 S ∧ k ≤ 8 ∧ (b9g_upper S).toInt = (k : Int) ∧ (b9g_upperNodes S).toInt = NB (n9 S) (C9 S) (P9 S) (64 * k)
  case neg =>
    have hN := J9g_ND hJ
    have jm := J9g_nodeMany hJ
    unfold wp_X9_laysItems
    intro S3 e3 S4 e4
    have hJ4 : J9 S4 := by rw [e4, e3]; exact J9s_places (J9s_itemMany hJ ⟨by decide, by decide⟩) ⟨by decide, by decide⟩
    have hF4 : F_X9_laysItems S S4 := by rw [e4, e3]; exact ⟨rfl, rfl, rfl, rfl, rfl, rfl, rfl, rfl, rfl, rfl, rfl, rfl, rfl, rfl, rfl, rfl, rfl, rfl, rfl, rfl, rfl, rfl, rfl, rfl, rfl, rfl, rfl, rfl, rfl, rfl, rfl, rfl, rfl, rfl, rfl, rfl, rfl, rfl, rfl⟩
    have hi4 : (b9g_itemMany S4).toInt = 0 := by rw [e4, e3]; rfl
    have hp4 : (b9g_places S4).toInt = 0 := by rw [e4]; rfl
    unfold wp_X9_laysItems_12
    refine ⟨fun n x1 V => 0 ≤ x1.toInt ∧ J9 V ∧ F_X9_laysItems S V ∧ (x1.toInt < (b9g_nodeMany S).toInt → (b9g_itemMany V).toInt ≤ 64 * (b9g_nodeLevel S x1.toNatClampNeg).toInt + (b9g_nodeLeaf S x1.toNatClampNeg).toInt) ∧ (∃ T : Nat → Bool, (∀ i : Nat, T i = true → ∃ y : Nat, y < x1.toNatClampNeg ∧ PLS S y i) ∧ (b9g_places V).toInt = cntB T 64) ∧ n = ((b9g_nodeMany S).toInt + 1 - x1.toInt).toNat, ⟨_, by decide, hJ4, hF4, ?_, ⟨fun _ => false, fun i h => absurd h Bool.false_ne_true, by rw [fzero (fun _ => rfl), hp4]; rfl⟩, rfl⟩, ?_⟩
    · intro h0
      have := (hN 0 (by rw [pl_0] at h0; omega)).1
      show (b9g_itemMany S4).toInt ≤ 64 * (b9g_nodeLevel S 0).toInt + (b9g_nodeLeaf S 0).toInt
      omega
    rintro n x1 V ⟨h0, hJV, hF, hi, hT, hn⟩
    have eL : b9g_nodeLevel V = b9g_nodeLevel S := hF.2.2.2.2.2.2.2.2.2.2.2.2.2.1
    have eF : b9g_nodeLeaf V = b9g_nodeLeaf S := hF.2.2.2.2.2.2.2.2.2.2.2.2.2.2.1
    have eS : b9g_nodeLeaves V = b9g_nodeLeaves S := hF.2.2.2.2.2.2.2.2.2.2.2.2.2.2.2.1
    have eM : b9g_nodeMany V = b9g_nodeMany S := hF.2.2.2.2.2.2.2.2.2.2.2.2.2.2.2.2.1
    have eB : b9g_beginning V = b9g_beginning S := hF.2.2.2.2.2.2.2.2.2.2.2.1
    have eK : b9g_keys V = b9g_keys S := hF.2.2.1
    have eN : b9g_now V = b9g_now S := hF.2.1
    have hTRV : TR V 8 0 := by
      unfold TR
      rw [eL, eF, eS, eM, eB, eK, eN, show b9g_isLaid V = b9g_isLaid S from hF.2.2.2.2.2.2.2.2.2.2.2.2.1, show b9g_common V = b9g_common S from hF.2.2.2.2.2.2.2.2.2.2.1, show b9g_lengths V = b9g_lengths S from hF.2.2.2.1]
      exact hp0
    have ePL : ∀ y i : Nat, PLS V y i = PLS S y i := by
      intro y i
      unfold PLS
      rw [eL, eF, eS, eM, eB]
    unfold wp_X9_laysItems_12b
    refine ⟨fun c => hq V hJV hF (fun k a b c d f => absurd ⟨k, a, b, c, d, f⟩ hyp), fun c => ?_⟩
    simp (disch := first | ((try simp (disch := first | ((try simp only [pn]) <;> omega) | fail) only [pn, pq]) <;> omega) | fail) only [pn, pq] at c
    have hx : x1.toInt < (b9g_nodeMany S).toInt := by rw [eM] at c; omega
    have e1 := pt_clamp h0
    have e2 : (x1 + 1).toInt = x1.toInt + 1 := by rw [pt_add (by rw [pl_1]; omega) (by rw [pl_1]; omega), pl_1]
    have e3 := pt_clamp (i := x1 + 1) (by omega)
    have e4 : (x1 + 1).toNatClampNeg = x1.toNatClampNeg + 1 := by omega
    refine sf_X9_laysNode hJV h0 (by rw [eM]; exact hx) hTRV (by rw [eL, eF]; exact hi hx) ?_ (fun u2 hJu hf r1 r2 => ?_)
    · obtain ⟨T, ta, tb⟩ := hT
      refine ⟨T, fun i hi2 => ?_, tb⟩
      obtain ⟨y, y1, y2⟩ := ta i hi2
      exact ⟨y, y1, by rw [ePL]; exact y2⟩
    · rw [eS] at r1
      refine ⟨_, ?_, by omega, hJu, ⟨(hf.1).trans (hF.1), (hf.2.1).trans (hF.2.1), (hf.2.2.1).trans (hF.2.2.1), (hf.2.2.2.1).trans (hF.2.2.2.1), (hf.2.2.2.2.1).trans (hF.2.2.2.2.1), (hf.2.2.2.2.2.1).trans (hF.2.2.2.2.2.1), (hf.2.2.2.2.2.2.1).trans (hF.2.2.2.2.2.2.1), (hf.2.2.2.2.2.2.2.1).trans (hF.2.2.2.2.2.2.2.1), (hf.2.2.2.2.2.2.2.2.1).trans (hF.2.2.2.2.2.2.2.2.1), (hf.2.2.2.2.2.2.2.2.2.1).trans (hF.2.2.2.2.2.2.2.2.2.1), (hf.2.2.2.2.2.2.2.2.2.2.1).trans (hF.2.2.2.2.2.2.2.2.2.2.1), (hf.2.2.2.2.2.2.2.2.2.2.2.1).trans (hF.2.2.2.2.2.2.2.2.2.2.2.1), (hf.2.2.2.2.2.2.2.2.2.2.2.2.1).trans (hF.2.2.2.2.2.2.2.2.2.2.2.2.1), (hf.2.2.2.2.2.2.2.2.2.2.2.2.2.1).trans (hF.2.2.2.2.2.2.2.2.2.2.2.2.2.1), (hf.2.2.2.2.2.2.2.2.2.2.2.2.2.2.1).trans (hF.2.2.2.2.2.2.2.2.2.2.2.2.2.2.1), (hf.2.2.2.2.2.2.2.2.2.2.2.2.2.2.2.1).trans (hF.2.2.2.2.2.2.2.2.2.2.2.2.2.2.2.1), (hf.2.2.2.2.2.2.2.2.2.2.2.2.2.2.2.2.1).trans (hF.2.2.2.2.2.2.2.2.2.2.2.2.2.2.2.2.1), (hf.2.2.2.2.2.2.2.2.2.2.2.2.2.2.2.2.2.1).trans (hF.2.2.2.2.2.2.2.2.2.2.2.2.2.2.2.2.2.1), (hf.2.2.2.2.2.2.2.2.2.2.2.2.2.2.2.2.2.2.1).trans (hF.2.2.2.2.2.2.2.2.2.2.2.2.2.2.2.2.2.2.1), (hf.2.2.2.2.2.2.2.2.2.2.2.2.2.2.2.2.2.2.2.1).trans (hF.2.2.2.2.2.2.2.2.2.2.2.2.2.2.2.2.2.2.2.1), (hf.2.2.2.2.2.2.2.2.2.2.2.2.2.2.2.2.2.2.2.2.1).trans (hF.2.2.2.2.2.2.2.2.2.2.2.2.2.2.2.2.2.2.2.2.1), (hf.2.2.2.2.2.2.2.2.2.2.2.2.2.2.2.2.2.2.2.2.2.1).trans (hF.2.2.2.2.2.2.2.2.2.2.2.2.2.2.2.2.2.2.2.2.2.1), (hf.2.2.2.2.2.2.2.2.2.2.2.2.2.2.2.2.2.2.2.2.2.2.1).trans (hF.2.2.2.2.2.2.2.2.2.2.2.2.2.2.2.2.2.2.2.2.2.2.1), (hf.2.2.2.2.2.2.2.2.2.2.2.2.2.2.2.2.2.2.2.2.2.2.2.1).trans (hF.2.2.2.2.2.2.2.2.2.2.2.2.2.2.2.2.2.2.2.2.2.2.2.1), (hf.2.2.2.2.2.2.2.2.2.2.2.2.2.2.2.2.2.2.2.2.2.2.2.2.1).trans (hF.2.2.2.2.2.2.2.2.2.2.2.2.2.2.2.2.2.2.2.2.2.2.2.2.1), (hf.2.2.2.2.2.2.2.2.2.2.2.2.2.2.2.2.2.2.2.2.2.2.2.2.2.1).trans (hF.2.2.2.2.2.2.2.2.2.2.2.2.2.2.2.2.2.2.2.2.2.2.2.2.2.1), (hf.2.2.2.2.2.2.2.2.2.2.2.2.2.2.2.2.2.2.2.2.2.2.2.2.2.2.1).trans (hF.2.2.2.2.2.2.2.2.2.2.2.2.2.2.2.2.2.2.2.2.2.2.2.2.2.2.1), (hf.2.2.2.2.2.2.2.2.2.2.2.2.2.2.2.2.2.2.2.2.2.2.2.2.2.2.2.1).trans (hF.2.2.2.2.2.2.2.2.2.2.2.2.2.2.2.2.2.2.2.2.2.2.2.2.2.2.2.1), (hf.2.2.2.2.2.2.2.2.2.2.2.2.2.2.2.2.2.2.2.2.2.2.2.2.2.2.2.2.1).trans (hF.2.2.2.2.2.2.2.2.2.2.2.2.2.2.2.2.2.2.2.2.2.2.2.2.2.2.2.2.1), (hf.2.2.2.2.2.2.2.2.2.2.2.2.2.2.2.2.2.2.2.2.2.2.2.2.2.2.2.2.2.1).trans (hF.2.2.2.2.2.2.2.2.2.2.2.2.2.2.2.2.2.2.2.2.2.2.2.2.2.2.2.2.2.1), (hf.2.2.2.2.2.2.2.2.2.2.2.2.2.2.2.2.2.2.2.2.2.2.2.2.2.2.2.2.2.2.1).trans (hF.2.2.2.2.2.2.2.2.2.2.2.2.2.2.2.2.2.2.2.2.2.2.2.2.2.2.2.2.2.2.1), (hf.2.2.2.2.2.2.2.2.2.2.2.2.2.2.2.2.2.2.2.2.2.2.2.2.2.2.2.2.2.2.2.1).trans (hF.2.2.2.2.2.2.2.2.2.2.2.2.2.2.2.2.2.2.2.2.2.2.2.2.2.2.2.2.2.2.2.1), (hf.2.2.2.2.2.2.2.2.2.2.2.2.2.2.2.2.2.2.2.2.2.2.2.2.2.2.2.2.2.2.2.2.1).trans (hF.2.2.2.2.2.2.2.2.2.2.2.2.2.2.2.2.2.2.2.2.2.2.2.2.2.2.2.2.2.2.2.2.1), (hf.2.2.2.2.2.2.2.2.2.2.2.2.2.2.2.2.2.2.2.2.2.2.2.2.2.2.2.2.2.2.2.2.2.1).trans (hF.2.2.2.2.2.2.2.2.2.2.2.2.2.2.2.2.2.2.2.2.2.2.2.2.2.2.2.2.2.2.2.2.2.1), (hf.2.2.2.2.2.2.2.2.2.2.2.2.2.2.2.2.2.2.2.2.2.2.2.2.2.2.2.2.2.2.2.2.2.2.1).trans (hF.2.2.2.2.2.2.2.2.2.2.2.2.2.2.2.2.2.2.2.2.2.2.2.2.2.2.2.2.2.2.2.2.2.2.1), (hf.2.2.2.2.2.2.2.2.2.2.2.2.2.2.2.2.2.2.2.2.2.2.2.2.2.2.2.2.2.2.2.2.2.2.2.1).trans (hF.2.2.2.2.2.2.2.2.2.2.2.2.2.2.2.2.2.2.2.2.2.2.2.2.2.2.2.2.2.2.2.2.2.2.2.1), (hf.2.2.2.2.2.2.2.2.2.2.2.2.2.2.2.2.2.2.2.2.2.2.2.2.2.2.2.2.2.2.2.2.2.2.2.2.1).trans (hF.2.2.2.2.2.2.2.2.2.2.2.2.2.2.2.2.2.2.2.2.2.2.2.2.2.2.2.2.2.2.2.2.2.2.2.2.1), (hf.2.2.2.2.2.2.2.2.2.2.2.2.2.2.2.2.2.2.2.2.2.2.2.2.2.2.2.2.2.2.2.2.2.2.2.2.2.1).trans (hF.2.2.2.2.2.2.2.2.2.2.2.2.2.2.2.2.2.2.2.2.2.2.2.2.2.2.2.2.2.2.2.2.2.2.2.2.2.1), (hf.2.2.2.2.2.2.2.2.2.2.2.2.2.2.2.2.2.2.2.2.2.2.2.2.2.2.2.2.2.2.2.2.2.2.2.2.2.2).trans (hF.2.2.2.2.2.2.2.2.2.2.2.2.2.2.2.2.2.2.2.2.2.2.2.2.2.2.2.2.2.2.2.2.2.2.2.2.2.2)⟩, ?_, ?_, rfl⟩
      · omega
      · intro h3
        have a := hi hx
        have b := (hN x1.toNatClampNeg (by omega)).2 (by omega)
        rw [e4]
        omega
      · obtain ⟨T, ta, tb⟩ := r2
        refine ⟨T, fun i hi2 => ?_, tb⟩
        obtain ⟨y, y1, y2⟩ := ta i hi2
        rw [ePL] at y2
        exact ⟨y, by omega, y2⟩
  case pos =>
    obtain ⟨u, h, hN, hu8, huu, hun⟩ := hyp
    have G := h.1
    have g64 := G.1
    have hm := hN.1
    have n5 := NB_le G (l := 7) (i := 64) (by omega) (by omega)
    have nb5 : NB (n9 S) (C9 S) (P9 S) (64 * 7 + 64) = NB (n9 S) (C9 S) (P9 S) 512 := rfl
    have eu := EB_le G (w := 64 * u) (by omega)
    obtain ⟨p0, q1, q2, q3, q4, q5, q6⟩ := NB_pos (n := (n9 S)) (C := (C9 S)) (P := (P9 S)) (b := 0) (x := 0) (by omega) rfl
    have z0E : (EB (n9 S) (C9 S) (P9 S) (p0)) = 0 := EB_gap g64 (l := 0) (e := 0) (by omega) (fun a b => ⟨a, b, Or.inl rfl⟩) (by omega) (fun w a b => q6 w (by omega) b)
    have z0L : LB (n9 S) (C9 S) p0 = 0 := (CTP_sub2 (P := IsE (n9 S) (C9 S) (P9 S)) (R := IsL (n9 S) (C9 S)) (a := p0) (b := 0) (fun v hv => IsL_E hv) (by show (EB (n9 S) (C9 S) (P9 S) (p0)) = (EB (n9 S) (C9 S) (P9 S) (0)); rw [z0E]; rfl)).trans rfl
    unfold wp_X9_laysItems
    intro S3 e3 S4 e4
    have hJ4 : J9 S4 := by rw [e4, e3]; exact J9s_places (J9s_itemMany hJ ⟨by decide, by decide⟩) ⟨by decide, by decide⟩
    have hF4 : F_X9_laysItems S S4 := by rw [e4, e3]; exact ⟨rfl, rfl, rfl, rfl, rfl, rfl, rfl, rfl, rfl, rfl, rfl, rfl, rfl, rfl, rfl, rfl, rfl, rfl, rfl, rfl, rfl, rfl, rfl, rfl, rfl, rfl, rfl, rfl, rfl, rfl, rfl, rfl, rfl, rfl, rfl, rfl, rfl, rfl, rfl⟩
    have hi4 : (b9g_itemMany S4).toInt = 0 := by rw [e4, e3]; rfl
    have hp4 : (b9g_places S4).toInt = 0 := by rw [e4]; rfl
    unfold wp_X9_laysItems_12
    refine ⟨fun k x1 V => ∃ x p : Nat, x1.toInt = (x : Int) ∧ J9 V ∧ F_X9_laysItems S V ∧ p ≤ 512 ∧ (x : Int) = NB (n9 S) (C9 S) (P9 S) p ∧ ((x : Int) < NB (n9 S) (C9 S) (P9 S) 512 → IsN (n9 S) (C9 S) (P9 S) p) ∧ (¬ (x : Int) < NB (n9 S) (C9 S) (P9 S) 512 → p = 512) ∧ ((b9g_itemMany V).toInt = max 0 ((EB (n9 S) (C9 S) (P9 S) (p)) - (EB (n9 S) (C9 S) (P9 S) (64 * u))) ∧ IAR (n9 S) (C9 S) (L9 S) (P9 S) (fun j => b9g_keys S (64 + j)) (b9g_itemNode V) (b9g_itemByte V) (b9g_itemChild V) (64 * u) (p)) ∧ ((b9g_places V).toInt = LB (n9 S) (C9 S) (p) ∧ PLR (n9 S) (C9 S) (b9g_placeOf V) (b9g_leafOfPlace V) (p)) ∧ k = 600 - x, ⟨_, 0, p0, rfl, hJ4, hF4, q2, q3, fun t => (q4 t).2, q5, ⟨by rw [hi4, z0E]; omega, fun w y w0 w1 w2 w3 => ?_⟩, ⟨by rw [hp4, z0L], fun w z w1 w2 w3 => ?_⟩, rfl⟩, ?_⟩
    · have a : (EB (n9 S) (C9 S) (P9 S) (w)) < (EB (n9 S) (C9 S) (P9 S) (p0)) := CTP_lt w1 w2
      have b := (EB_le G (w := w) (by omega)).1
      omega
    · have a : LB (n9 S) (C9 S) w < LB (n9 S) (C9 S) p0 := CTP_lt w1 w2
      have b : 0 ≤ LB (n9 S) (C9 S) w := (CTP_rng _ _).1
      omega
    rintro k x1 V ⟨x, p, e1, hJV, hF, p5, hx, pN, pE, hI, hZ, hk⟩
    have mx := NB_mono (n := (n9 S)) (C := (C9 S)) (P := (P9 S)) p5
    have eM : b9g_nodeMany V = b9g_nodeMany S := hF.2.2.2.2.2.2.2.2.2.2.2.2.2.2.2.2.1
    have sm : SM9 V S := ⟨hF.2.2.1, hF.2.2.2.1, hF.2.1⟩
    obtain ⟨s1, s2, s3, s4⟩ := SM9_n sm
    have rV : R9 V := R9_same h sm (hF.2.2.2.2.2.2.2.2.2.2.2.1) (hF.2.2.2.2.2.2.2.2.2.2.1)
    have nV : N9 V := N9_same hN sm (hF.2.2.2.2.2.2.2.2.2.2.2.2.2.1) (hF.2.2.2.2.2.2.2.2.2.2.2.2.2.2.1) (hF.2.2.2.2.2.2.2.2.2.2.2.2.2.2.2.1) (hF.2.2.2.2.2.2.2.2.2.2.2.2.2.2.2.2.1)
    unfold wp_X9_laysItems_12b
    rw [eM]
    refine ⟨fun c => ?_, fun c => ?_⟩
    · simp only [pn] at c
      have pp := pE (by omega)
      subst pp
      have mn := EB_mono (n := (n9 S)) (C := (C9 S)) (P := (P9 S)) (show 64 * u ≤ 512 by omega)
      refine hq V hJV hF (fun k' _ _ _ hk' _ => ?_)
      have kk : k' = u := by omega
      rw [kk]
      exact ⟨by rw [hI.1]; omega, hI.2, hZ.2⟩
    simp only [pn] at c
    have pI := pN (by omega)
    obtain ⟨l, s, e, ha⟩ := AT9_of h hN (x := x) (by omega)
    have ha' := ha
    obtain ⟨x5, l7, hs, hg, hx2, f1, f2, f3⟩ := ha'
    have sn := hs.1
    have gn := hg.2.1
    have ep : p = 64 * l + s := CTP_inj (P := IsN (n9 S) (C9 S) (P9 S)) pI ((IsN_at (by omega)).mpr hs) (by show NB _ _ _ p = NB _ _ _ (64 * l + s); omega)
    have ng := NB_grp g64 hs hg
    obtain ⟨p', r1, r2, r3, r4, r5, r6⟩ := NB_pos (n := (n9 S)) (C := (C9 S)) (P := (P9 S)) (b := 64 * l + e) (x := x + 1) (by omega) (by omega)
    have eg := EB_gap g64 (l := l) (e := e) (by omega) (GRQ_cl hg) r1 r6
    have noE : ∀ w, 64 * l + e ≤ w → w < p' → ¬ IsE (n9 S) (C9 S) (P9 S) w := by
      intro w w1 w2 w3
      have lt : (EB (n9 S) (C9 S) (P9 S) (w)) < (EB (n9 S) (C9 S) (P9 S) (p')) := CTP_lt w2 w3
      have mn := EB_mono (n := (n9 S)) (C := (C9 S)) (P := (P9 S)) w1
      omega
    have lg : LB (n9 S) (C9 S) p' = LB (n9 S) (C9 S) (64 * l + e) := CTP_sub2 (P := IsE (n9 S) (C9 S) (P9 S)) (R := IsL (n9 S) (C9 S)) (fun v hv => IsL_E hv) (by show (EB (n9 S) (C9 S) (P9 S) (p')) = (EB (n9 S) (C9 S) (P9 S) (64 * l + e)); exact eg)
    rw [ep] at hI hZ
    have key : ∀ W : bT9, J9 W → F_X9_laysNode V W → ((b9g_itemMany W).toInt = max 0 ((EB (n9 S) (C9 S) (P9 S) (64 * l + e)) - (EB (n9 S) (C9 S) (P9 S) (64 * u))) ∧ IAR (n9 S) (C9 S) (L9 S) (P9 S) (fun j => b9g_keys S (64 + j)) (b9g_itemNode W) (b9g_itemByte W) (b9g_itemChild W) (64 * u) (64 * l + e)) → ((b9g_places W).toInt = LB (n9 S) (C9 S) (64 * l + e) ∧ PLR (n9 S) (C9 S) (b9g_placeOf W) (b9g_leafOfPlace W) (64 * l + e)) → ∃ n2 : Nat, n2 < k ∧ ∃ x' p'' : Nat, (x1 + 1).toInt = (x' : Int) ∧ J9 W ∧ F_X9_laysItems S W ∧ p'' ≤ 512 ∧ (x' : Int) = NB (n9 S) (C9 S) (P9 S) p'' ∧ ((x' : Int) < NB (n9 S) (C9 S) (P9 S) 512 → IsN (n9 S) (C9 S) (P9 S) p'') ∧ (¬ (x' : Int) < NB (n9 S) (C9 S) (P9 S) 512 → p'' = 512) ∧ ((b9g_itemMany W).toInt = max 0 ((EB (n9 S) (C9 S) (P9 S) (p'')) - (EB (n9 S) (C9 S) (P9 S) (64 * u))) ∧ IAR (n9 S) (C9 S) (L9 S) (P9 S) (fun j => b9g_keys S (64 + j)) (b9g_itemNode W) (b9g_itemByte W) (b9g_itemChild W) (64 * u) (p'')) ∧ ((b9g_places W).toInt = LB (n9 S) (C9 S) (p'') ∧ PLR (n9 S) (C9 S) (b9g_placeOf W) (b9g_leafOfPlace W) (p'')) ∧ n2 = 600 - x' := by
      intro W hJW hfW hIW hZW
      refine ⟨600 - (x + 1), by omega, x + 1, p', by rw [pt_add (by rw [pl_1]; omega) (by rw [pl_1]; omega), pl_1, e1]; omega, hJW, ⟨(hfW.1).trans (hF.1), (hfW.2.1).trans (hF.2.1), (hfW.2.2.1).trans (hF.2.2.1), (hfW.2.2.2.1).trans (hF.2.2.2.1), (hfW.2.2.2.2.1).trans (hF.2.2.2.2.1), (hfW.2.2.2.2.2.1).trans (hF.2.2.2.2.2.1), (hfW.2.2.2.2.2.2.1).trans (hF.2.2.2.2.2.2.1), (hfW.2.2.2.2.2.2.2.1).trans (hF.2.2.2.2.2.2.2.1), (hfW.2.2.2.2.2.2.2.2.1).trans (hF.2.2.2.2.2.2.2.2.1), (hfW.2.2.2.2.2.2.2.2.2.1).trans (hF.2.2.2.2.2.2.2.2.2.1), (hfW.2.2.2.2.2.2.2.2.2.2.1).trans (hF.2.2.2.2.2.2.2.2.2.2.1), (hfW.2.2.2.2.2.2.2.2.2.2.2.1).trans (hF.2.2.2.2.2.2.2.2.2.2.2.1), (hfW.2.2.2.2.2.2.2.2.2.2.2.2.1).trans (hF.2.2.2.2.2.2.2.2.2.2.2.2.1), (hfW.2.2.2.2.2.2.2.2.2.2.2.2.2.1).trans (hF.2.2.2.2.2.2.2.2.2.2.2.2.2.1), (hfW.2.2.2.2.2.2.2.2.2.2.2.2.2.2.1).trans (hF.2.2.2.2.2.2.2.2.2.2.2.2.2.2.1), (hfW.2.2.2.2.2.2.2.2.2.2.2.2.2.2.2.1).trans (hF.2.2.2.2.2.2.2.2.2.2.2.2.2.2.2.1), (hfW.2.2.2.2.2.2.2.2.2.2.2.2.2.2.2.2.1).trans (hF.2.2.2.2.2.2.2.2.2.2.2.2.2.2.2.2.1), (hfW.2.2.2.2.2.2.2.2.2.2.2.2.2.2.2.2.2.1).trans (hF.2.2.2.2.2.2.2.2.2.2.2.2.2.2.2.2.2.1), (hfW.2.2.2.2.2.2.2.2.2.2.2.2.2.2.2.2.2.2.1).trans (hF.2.2.2.2.2.2.2.2.2.2.2.2.2.2.2.2.2.2.1), (hfW.2.2.2.2.2.2.2.2.2.2.2.2.2.2.2.2.2.2.2.1).trans (hF.2.2.2.2.2.2.2.2.2.2.2.2.2.2.2.2.2.2.2.1), (hfW.2.2.2.2.2.2.2.2.2.2.2.2.2.2.2.2.2.2.2.2.1).trans (hF.2.2.2.2.2.2.2.2.2.2.2.2.2.2.2.2.2.2.2.2.1), (hfW.2.2.2.2.2.2.2.2.2.2.2.2.2.2.2.2.2.2.2.2.2.1).trans (hF.2.2.2.2.2.2.2.2.2.2.2.2.2.2.2.2.2.2.2.2.2.1), (hfW.2.2.2.2.2.2.2.2.2.2.2.2.2.2.2.2.2.2.2.2.2.2.1).trans (hF.2.2.2.2.2.2.2.2.2.2.2.2.2.2.2.2.2.2.2.2.2.2.1), (hfW.2.2.2.2.2.2.2.2.2.2.2.2.2.2.2.2.2.2.2.2.2.2.2.1).trans (hF.2.2.2.2.2.2.2.2.2.2.2.2.2.2.2.2.2.2.2.2.2.2.2.1), (hfW.2.2.2.2.2.2.2.2.2.2.2.2.2.2.2.2.2.2.2.2.2.2.2.2.1).trans (hF.2.2.2.2.2.2.2.2.2.2.2.2.2.2.2.2.2.2.2.2.2.2.2.2.1), (hfW.2.2.2.2.2.2.2.2.2.2.2.2.2.2.2.2.2.2.2.2.2.2.2.2.2.1).trans (hF.2.2.2.2.2.2.2.2.2.2.2.2.2.2.2.2.2.2.2.2.2.2.2.2.2.1), (hfW.2.2.2.2.2.2.2.2.2.2.2.2.2.2.2.2.2.2.2.2.2.2.2.2.2.2.1).trans (hF.2.2.2.2.2.2.2.2.2.2.2.2.2.2.2.2.2.2.2.2.2.2.2.2.2.2.1), (hfW.2.2.2.2.2.2.2.2.2.2.2.2.2.2.2.2.2.2.2.2.2.2.2.2.2.2.2.1).trans (hF.2.2.2.2.2.2.2.2.2.2.2.2.2.2.2.2.2.2.2.2.2.2.2.2.2.2.2.1), (hfW.2.2.2.2.2.2.2.2.2.2.2.2.2.2.2.2.2.2.2.2.2.2.2.2.2.2.2.2.1).trans (hF.2.2.2.2.2.2.2.2.2.2.2.2.2.2.2.2.2.2.2.2.2.2.2.2.2.2.2.2.1), (hfW.2.2.2.2.2.2.2.2.2.2.2.2.2.2.2.2.2.2.2.2.2.2.2.2.2.2.2.2.2.1).trans (hF.2.2.2.2.2.2.2.2.2.2.2.2.2.2.2.2.2.2.2.2.2.2.2.2.2.2.2.2.2.1), (hfW.2.2.2.2.2.2.2.2.2.2.2.2.2.2.2.2.2.2.2.2.2.2.2.2.2.2.2.2.2.2.1).trans (hF.2.2.2.2.2.2.2.2.2.2.2.2.2.2.2.2.2.2.2.2.2.2.2.2.2.2.2.2.2.2.1), (hfW.2.2.2.2.2.2.2.2.2.2.2.2.2.2.2.2.2.2.2.2.2.2.2.2.2.2.2.2.2.2.2.1).trans (hF.2.2.2.2.2.2.2.2.2.2.2.2.2.2.2.2.2.2.2.2.2.2.2.2.2.2.2.2.2.2.2.1), (hfW.2.2.2.2.2.2.2.2.2.2.2.2.2.2.2.2.2.2.2.2.2.2.2.2.2.2.2.2.2.2.2.2.1).trans (hF.2.2.2.2.2.2.2.2.2.2.2.2.2.2.2.2.2.2.2.2.2.2.2.2.2.2.2.2.2.2.2.2.1), (hfW.2.2.2.2.2.2.2.2.2.2.2.2.2.2.2.2.2.2.2.2.2.2.2.2.2.2.2.2.2.2.2.2.2.1).trans (hF.2.2.2.2.2.2.2.2.2.2.2.2.2.2.2.2.2.2.2.2.2.2.2.2.2.2.2.2.2.2.2.2.2.1), (hfW.2.2.2.2.2.2.2.2.2.2.2.2.2.2.2.2.2.2.2.2.2.2.2.2.2.2.2.2.2.2.2.2.2.2.1).trans (hF.2.2.2.2.2.2.2.2.2.2.2.2.2.2.2.2.2.2.2.2.2.2.2.2.2.2.2.2.2.2.2.2.2.2.1), (hfW.2.2.2.2.2.2.2.2.2.2.2.2.2.2.2.2.2.2.2.2.2.2.2.2.2.2.2.2.2.2.2.2.2.2.2.1).trans (hF.2.2.2.2.2.2.2.2.2.2.2.2.2.2.2.2.2.2.2.2.2.2.2.2.2.2.2.2.2.2.2.2.2.2.2.1), (hfW.2.2.2.2.2.2.2.2.2.2.2.2.2.2.2.2.2.2.2.2.2.2.2.2.2.2.2.2.2.2.2.2.2.2.2.2.1).trans (hF.2.2.2.2.2.2.2.2.2.2.2.2.2.2.2.2.2.2.2.2.2.2.2.2.2.2.2.2.2.2.2.2.2.2.2.2.1), (hfW.2.2.2.2.2.2.2.2.2.2.2.2.2.2.2.2.2.2.2.2.2.2.2.2.2.2.2.2.2.2.2.2.2.2.2.2.2.1).trans (hF.2.2.2.2.2.2.2.2.2.2.2.2.2.2.2.2.2.2.2.2.2.2.2.2.2.2.2.2.2.2.2.2.2.2.2.2.2.1), (hfW.2.2.2.2.2.2.2.2.2.2.2.2.2.2.2.2.2.2.2.2.2.2.2.2.2.2.2.2.2.2.2.2.2.2.2.2.2.2).trans (hF.2.2.2.2.2.2.2.2.2.2.2.2.2.2.2.2.2.2.2.2.2.2.2.2.2.2.2.2.2.2.2.2.2.2.2.2.2.2)⟩, r2, r3, fun t => (r4 t).2, r5, ⟨by rw [eg]; exact hIW.1, IAR_skip hIW.2 (fun w _ a b => noE w a b)⟩, ⟨by rw [lg]; exact hZW.1, PLR_skip hZW.2 (fun w a b y => noE w a b (IsL_E y))⟩, rfl⟩
    refine sg_X9_laysNode (x := x) (l := l) (s := s) (e := e) (u := u) hJV rV nV (AT9_same ha sm (hF.2.2.2.2.2.2.2.2.2.2.2.2.2.1) (hF.2.2.2.2.2.2.2.2.2.2.2.2.2.2.1) (hF.2.2.2.2.2.2.2.2.2.2.2.2.2.2.2.1)) e1 hu8 ?_ ?_ ?_ (fun W hJW hfW hIW hZW => key W hJW hfW ?_ ?_)
    · rw [s1, s2, s4, show b9g_upperNodes V = b9g_upperNodes S from hF.2.2.2.2.2.2.2.2.2.2.2.2.2.2.2.2.2.2.2.1]
      exact hun
    · rw [s1, s2, s3, s4, sm.1]
      exact hI
    · rw [s1, s2]
      exact hZ
    · rw [s1, s2, s3, s4, sm.1] at hIW
      exact hIW
    · rw [s1, s2] at hZW
      exact hZW
set_option maxRecDepth 20000 in
set_option maxHeartbeats 8000000 in
theorem sf_X9_bitsAbove {S : bT9} (hJ : K9 S) {a1 : Int32} {Q : Int32 → Prop} (hq : ∀ r : Int32, (0 ≤ r.toInt) → (r.toInt ≤ 262656) → (a1.toInt ≤ 0 → r.toInt = 0) → Q r) : wp_X9_bitsAbove S a1 Q := by
  unfold wp_X9_bitsAbove
  have jf1 := K9g_nodeMany hJ
  have jf2 : (-4 ≤ ((b9g_now S) 1).toInt ∧ ((b9g_now S) 1).toInt ≤ 4) ∧ (-3 ≤ ((b9g_now S) 4).toInt ∧ ((b9g_now S) 4).toInt ≤ 252) ∧ (0 ≤ ((b9g_now S) 8).toInt ∧ ((b9g_now S) 8).toInt ≤ 64) ∧ (0 ≤ ((b9g_now S) 9).toInt ∧ ((b9g_now S) 9).toInt ≤ 64) ∧ (0 ≤ ((b9g_now S) 10).toInt ∧ ((b9g_now S) 10).toInt ≤ 16) ∧ (0 ≤ ((b9g_now S) 12).toInt ∧ ((b9g_now S) 12).toInt ≤ 8) := K9g_now hJ
  have rga1 := pt_rg a1
  refine ⟨fun n x1q1 x2q1 x3q1 => (x1q1 = a1) ∧ (0 ≤ (x3q1).toInt) ∧ ((x3q1).toInt ≤ 512) ∧ (0 ≤ (x2q1).toInt) ∧ ((x2q1).toInt ≤ 513 * (x3q1).toInt) ∧ ((x1q1).toInt ≤ 0 → (x2q1).toInt = 0) ∧ n = ((b9g_nodeMany S).toInt + 1 - (x3q1).toInt).toNat, ⟨_, rfl, (by (try simp (disch := first | ((try simp (disch := first | ((try simp only [pn]) <;> omega) | fail) only [pn, pq]) <;> omega) | fail) only [pn, pq]) <;> (intros; (try simp (disch := first | ((try simp (disch := first | ((try simp only [pn]) <;> omega) | fail) only [pn, pq]) <;> omega) | fail) only [pn, pq]) <;> omega)), (by (try simp (disch := first | ((try simp (disch := first | ((try simp only [pn]) <;> omega) | fail) only [pn, pq]) <;> omega) | fail) only [pn, pq]) <;> (intros; (try simp (disch := first | ((try simp (disch := first | ((try simp only [pn]) <;> omega) | fail) only [pn, pq]) <;> omega) | fail) only [pn, pq]) <;> omega)), (by (try simp (disch := first | ((try simp (disch := first | ((try simp only [pn]) <;> omega) | fail) only [pn, pq]) <;> omega) | fail) only [pn, pq]) <;> (intros; (try simp (disch := first | ((try simp (disch := first | ((try simp only [pn]) <;> omega) | fail) only [pn, pq]) <;> omega) | fail) only [pn, pq]) <;> omega)), (by (try simp (disch := first | ((try simp (disch := first | ((try simp only [pn]) <;> omega) | fail) only [pn, pq]) <;> omega) | fail) only [pn, pq]) <;> (intros; (try simp (disch := first | ((try simp (disch := first | ((try simp only [pn]) <;> omega) | fail) only [pn, pq]) <;> omega) | fail) only [pn, pq]) <;> omega)), (by (try simp (disch := first | ((try simp (disch := first | ((try simp only [pn]) <;> omega) | fail) only [pn, pq]) <;> omega) | fail) only [pn, pq]) <;> (intros; (try simp (disch := first | ((try simp (disch := first | ((try simp only [pn]) <;> omega) | fail) only [pn, pq]) <;> omega) | fail) only [pn, pq]) <;> omega)), rfl⟩, ?_⟩
  rintro n2 x1q1 x2q1 x3q1 ⟨hkq1_0, hiq1_0, hiq1_1, hiq1_2, hiq1_3, hiq1_4, hn2⟩
  subst hkq1_0
  have rgx1q1 := pt_rg x1q1
  have rgx2q1 := pt_rg x2q1
  have rgx3q1 := pt_rg x3q1
  unfold wp_X9_bitsAbove_4b
  refine ⟨fun c3 => ?_, fun c3 => ?_⟩
  · try simp (disch := first | ((try simp (disch := first | ((try simp only [pn]) <;> omega) | fail) only [pn, pq]) <;> omega) | fail) only [pn, pq] at c3
    exact hq _ (by (try simp (disch := first | ((try simp (disch := first | ((try simp only [pn]) <;> omega) | fail) only [pn, pq]) <;> omega) | fail) only [pn, pq]) <;> (intros; (try simp (disch := first | ((try simp (disch := first | ((try simp only [pn]) <;> omega) | fail) only [pn, pq]) <;> omega) | fail) only [pn, pq]) <;> omega)) (by (try simp (disch := first | ((try simp (disch := first | ((try simp only [pn]) <;> omega) | fail) only [pn, pq]) <;> omega) | fail) only [pn, pq]) <;> (intros; (try simp (disch := first | ((try simp (disch := first | ((try simp only [pn]) <;> omega) | fail) only [pn, pq]) <;> omega) | fail) only [pn, pq]) <;> omega)) (by (try simp (disch := first | ((try simp (disch := first | ((try simp only [pn]) <;> omega) | fail) only [pn, pq]) <;> omega) | fail) only [pn, pq]) <;> (intros; (try simp (disch := first | ((try simp (disch := first | ((try simp only [pn]) <;> omega) | fail) only [pn, pq]) <;> omega) | fail) only [pn, pq]) <;> omega))
  · try simp (disch := first | ((try simp (disch := first | ((try simp only [pn]) <;> omega) | fail) only [pn, pq]) <;> omega) | fail) only [pn, pq] at c3
    refine ⟨pt_in (by (try simp (disch := first | ((try simp (disch := first | ((try simp only [pn]) <;> omega) | fail) only [pn, pq]) <;> omega) | fail) only [pn, pq]) <;> (intros; (try simp (disch := first | ((try simp (disch := first | ((try simp only [pn]) <;> omega) | fail) only [pn, pq]) <;> omega) | fail) only [pn, pq]) <;> omega)) (by (try simp (disch := first | ((try simp (disch := first | ((try simp only [pn]) <;> omega) | fail) only [pn, pq]) <;> omega) | fail) only [pn, pq]) <;> (intros; (try simp (disch := first | ((try simp (disch := first | ((try simp only [pn]) <;> omega) | fail) only [pn, pq]) <;> omega) | fail) only [pn, pq]) <;> omega)), ?_⟩
    have jr3 := ND_at (K9g_ND hJ) (x := x3q1) (by (try simp (disch := first | ((try simp (disch := first | ((try simp only [pn]) <;> omega) | fail) only [pn, pq]) <;> omega) | fail) only [pn, pq]) <;> (intros; (try simp (disch := first | ((try simp (disch := first | ((try simp only [pn]) <;> omega) | fail) only [pn, pq]) <;> omega) | fail) only [pn, pq]) <;> omega)) (by (try simp (disch := first | ((try simp (disch := first | ((try simp only [pn]) <;> omega) | fail) only [pn, pq]) <;> omega) | fail) only [pn, pq]) <;> (intros; (try simp (disch := first | ((try simp (disch := first | ((try simp only [pn]) <;> omega) | fail) only [pn, pq]) <;> omega) | fail) only [pn, pq]) <;> omega))
    try simp (disch := first | ((try simp (disch := first | ((try simp only [pn]) <;> omega) | fail) only [pn, pq]) <;> omega) | fail) only [pn, pq] at jr3
    refine ⟨fun c4 => ?_, fun c4 => ?_⟩
    · try simp (disch := first | ((try simp (disch := first | ((try simp only [pn]) <;> omega) | fail) only [pn, pq]) <;> omega) | fail) only [pn, pq] at c4
      unfold wp_X9_bitsAbove_28
      refine ⟨_, ?_, ?_, ?_, ?_, ?_, ?_, ?_, rfl⟩
      · (try simp (disch := first | ((try simp (disch := first | ((try simp only [pn]) <;> omega) | fail) only [pn, pq]) <;> omega) | fail) only [pn, pq]) <;> (intros; (try simp (disch := first | ((try simp (disch := first | ((try simp only [pn]) <;> omega) | fail) only [pn, pq]) <;> omega) | fail) only [pn, pq]) <;> omega)
      · first | rfl | assumption
      · (try simp (disch := first | ((try simp (disch := first | ((try simp only [pn]) <;> omega) | fail) only [pn, pq]) <;> omega) | fail) only [pn, pq]) <;> (intros; (try simp (disch := first | ((try simp (disch := first | ((try simp only [pn]) <;> omega) | fail) only [pn, pq]) <;> omega) | fail) only [pn, pq]) <;> omega)
      · (try simp (disch := first | ((try simp (disch := first | ((try simp only [pn]) <;> omega) | fail) only [pn, pq]) <;> omega) | fail) only [pn, pq]) <;> (intros; (try simp (disch := first | ((try simp (disch := first | ((try simp only [pn]) <;> omega) | fail) only [pn, pq]) <;> omega) | fail) only [pn, pq]) <;> omega)
      · (try simp (disch := first | ((try simp (disch := first | ((try simp only [pn]) <;> omega) | fail) only [pn, pq]) <;> omega) | fail) only [pn, pq]) <;> (intros; (try simp (disch := first | ((try simp (disch := first | ((try simp only [pn]) <;> omega) | fail) only [pn, pq]) <;> omega) | fail) only [pn, pq]) <;> omega)
      · (try simp (disch := first | ((try simp (disch := first | ((try simp only [pn]) <;> omega) | fail) only [pn, pq]) <;> omega) | fail) only [pn, pq]) <;> (intros; (try simp (disch := first | ((try simp (disch := first | ((try simp only [pn]) <;> omega) | fail) only [pn, pq]) <;> omega) | fail) only [pn, pq]) <;> omega)
      · (try simp (disch := first | ((try simp (disch := first | ((try simp only [pn]) <;> omega) | fail) only [pn, pq]) <;> omega) | fail) only [pn, pq]) <;> (intros; (try simp (disch := first | ((try simp (disch := first | ((try simp only [pn]) <;> omega) | fail) only [pn, pq]) <;> omega) | fail) only [pn, pq]) <;> omega)
    · try simp (disch := first | ((try simp (disch := first | ((try simp only [pn]) <;> omega) | fail) only [pn, pq]) <;> omega) | fail) only [pn, pq] at c4
      intro v5 ev5
      have nv5 := congrArg Int32.toInt ev5
      try simp (disch := first | ((try simp (disch := first | ((try simp only [pn]) <;> omega) | fail) only [pn, pq]) <;> omega) | fail) only [pn, pq] at nv5
      unfold wp_X9_bitsAbove_28
      refine ⟨_, ?_, ?_, ?_, ?_, ?_, ?_, ?_, rfl⟩
      · (try simp (disch := first | ((try simp (disch := first | ((try simp only [pn]) <;> omega) | fail) only [pn, pq]) <;> omega) | fail) only [pn, pq]) <;> (intros; (try simp (disch := first | ((try simp (disch := first | ((try simp only [pn]) <;> omega) | fail) only [pn, pq]) <;> omega) | fail) only [pn, pq]) <;> omega)
      · first | rfl | assumption
      · (try simp (disch := first | ((try simp (disch := first | ((try simp only [pn]) <;> omega) | fail) only [pn, pq]) <;> omega) | fail) only [pn, pq]) <;> (intros; (try simp (disch := first | ((try simp (disch := first | ((try simp only [pn]) <;> omega) | fail) only [pn, pq]) <;> omega) | fail) only [pn, pq]) <;> omega)
      · (try simp (disch := first | ((try simp (disch := first | ((try simp only [pn]) <;> omega) | fail) only [pn, pq]) <;> omega) | fail) only [pn, pq]) <;> (intros; (try simp (disch := first | ((try simp (disch := first | ((try simp only [pn]) <;> omega) | fail) only [pn, pq]) <;> omega) | fail) only [pn, pq]) <;> omega)
      · (try simp (disch := first | ((try simp (disch := first | ((try simp only [pn]) <;> omega) | fail) only [pn, pq]) <;> omega) | fail) only [pn, pq]) <;> (intros; (try simp (disch := first | ((try simp (disch := first | ((try simp only [pn]) <;> omega) | fail) only [pn, pq]) <;> omega) | fail) only [pn, pq]) <;> omega)
      · (try simp (disch := first | ((try simp (disch := first | ((try simp only [pn]) <;> omega) | fail) only [pn, pq]) <;> omega) | fail) only [pn, pq]) <;> (intros; (try simp (disch := first | ((try simp (disch := first | ((try simp only [pn]) <;> omega) | fail) only [pn, pq]) <;> omega) | fail) only [pn, pq]) <;> omega)
      · (try simp (disch := first | ((try simp (disch := first | ((try simp only [pn]) <;> omega) | fail) only [pn, pq]) <;> omega) | fail) only [pn, pq]) <;> (intros; (try simp (disch := first | ((try simp (disch := first | ((try simp only [pn]) <;> omega) | fail) only [pn, pq]) <;> omega) | fail) only [pn, pq]) <;> omega)
