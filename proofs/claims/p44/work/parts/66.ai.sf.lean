def F_X9_seekBack (S u : bT9) : Prop := (b9g_now u) = (b9g_now S) ∧ (b9g_keys u) = (b9g_keys S) ∧ (b9g_lengths u) = (b9g_lengths S) ∧ (b9g_drawn u) = (b9g_drawn S) ∧ (b9g_drawnLength u) = (b9g_drawnLength S) ∧ (b9g_tape u) = (b9g_tape S) ∧ (b9g_taped u) = (b9g_taped S) ∧ (b9g_names u) = (b9g_names S) ∧ (b9g_chosen u) = (b9g_chosen S) ∧ (b9g_nodeLevel u) = (b9g_nodeLevel S) ∧ (b9g_nodeLeaf u) = (b9g_nodeLeaf S) ∧ (b9g_nodeLeaves u) = (b9g_nodeLeaves S) ∧ (b9g_nodeMany u) = (b9g_nodeMany S) ∧ (b9g_levelMany u) = (b9g_levelMany S) ∧ (b9g_upper u) = (b9g_upper S) ∧ (b9g_upperNodes u) = (b9g_upperNodes S) ∧ (b9g_areNodesLaid u) = (b9g_areNodesLaid S) ∧ (b9g_itemNode u) = (b9g_itemNode S) ∧ (b9g_itemByte u) = (b9g_itemByte S) ∧ (b9g_itemChild u) = (b9g_itemChild S) ∧ (b9g_itemMany u) = (b9g_itemMany S) ∧ (b9g_placeOf u) = (b9g_placeOf S) ∧ (b9g_leafOfPlace u) = (b9g_leafOfPlace S) ∧ (b9g_places u) = (b9g_places S) ∧ (b9g_fromKey u) = (b9g_fromKey S) ∧ (b9g_toKey u) = (b9g_toKey S) ∧ (b9g_fromLength u) = (b9g_fromLength S) ∧ (b9g_toLength u) = (b9g_toLength S) ∧ (b9g_ones u) = (b9g_ones S) ∧ (b9g_oneMany u) = (b9g_oneMany S) ∧ (b9g_rowLong u) = (b9g_rowLong S) ∧ (b9g_laidFor u) = (b9g_laidFor S) ∧ (b9g_signs u) = (b9g_signs S) ∧ (b9g_signMany u) = (b9g_signMany S) ∧ (b9g_hasImage u) = (b9g_hasImage S) ∧ (b9g_images u) = (b9g_images S) ∧ (b9g_keyImages u) = (b9g_keyImages S) ∧ (b9g_lengthImages u) = (b9g_lengthImages S)
theorem sf_X9_seekBack {S : bT9} (hJ : J9 S) {a1 : Int32} {a2 : Int32} {a3 : Int32} {Q : Int32 → (bT9) → Prop} (hq : ∀ (r : Int32) (u : bT9), (J9 u) → F_X9_seekBack S u → (SR9 S → (1 ≤ a3.toInt ∧ a3.toInt ≤ 8 → SKB (fun j => b9g_keys S (64 + j)) (fun j => b9g_lengths S (64 + j)) (b9g_now S 9).toInt (NBT (b9g_now S)) (KEY a1 a2 a3) a3 r.toInt) ∧ (¬ (1 ≤ a3.toInt ∧ a3.toInt ≤ 8) → r.toInt = -1)) → Q r u) : wp_X9_seekBack S a1 a2 a3 Q := by
  have n9 := (J9g_now hJ).2.2.2.1
  unfold wp_X9_seekBack
  intro S1 e1
  have hJ1 : J9 S1 := by rw [e1]; exact J9s_told hJ
  have hF1 : F_X9_seekBack S S1 := by rw [e1]; exact ⟨rfl, rfl, rfl, rfl, rfl, rfl, rfl, rfl, rfl, rfl, rfl, rfl, rfl, rfl, rfl, rfl, rfl, rfl, rfl, rfl, rfl, rfl, rfl, rfl, rfl, rfl, rfl, rfl, rfl, rfl, rfl, rfl, rfl, rfl, rfl, rfl, rfl, rfl⟩
  refine sf_X9_isKey hJ1.1 (fun r10 z10 h10 => ⟨fun c => ?_, fun c => hq _ _ hJ1 hF1 (fun hs => ⟨fun h => ?_, fun _ => rfl⟩)⟩)
  rotate_left
  · rw [c, pl_0] at h10; omega
  simp only [pn] at c
  have n1 : 1 ≤ a3.toInt ∧ a3.toInt ≤ 8 := by omega
  refine sf_X9_leaves hJ1 (fun r12 u13 hJ13 hf13 h12 hil => ?_)
  have hF13 : F_X9_seekBack S u13 := ⟨(hf13.2.1).trans (hF1.1), (hf13.2.2.1).trans (hF1.2.1), (hf13.2.2.2.1).trans (hF1.2.2.1), (hf13.2.2.2.2.1).trans (hF1.2.2.2.1), (hf13.2.2.2.2.2.1).trans (hF1.2.2.2.2.1), (hf13.2.2.2.2.2.2.1).trans (hF1.2.2.2.2.2.1), (hf13.2.2.2.2.2.2.2.1).trans (hF1.2.2.2.2.2.2.1), (hf13.2.2.2.2.2.2.2.2.1).trans (hF1.2.2.2.2.2.2.2.1), (hf13.2.2.2.2.2.2.2.2.2.1).trans (hF1.2.2.2.2.2.2.2.2.1), (hf13.2.2.2.2.2.2.2.2.2.2.1).trans (hF1.2.2.2.2.2.2.2.2.2.1), (hf13.2.2.2.2.2.2.2.2.2.2.2.1).trans (hF1.2.2.2.2.2.2.2.2.2.2.1), (hf13.2.2.2.2.2.2.2.2.2.2.2.2.1).trans (hF1.2.2.2.2.2.2.2.2.2.2.2.1), (hf13.2.2.2.2.2.2.2.2.2.2.2.2.2.1).trans (hF1.2.2.2.2.2.2.2.2.2.2.2.2.1), (hf13.2.2.2.2.2.2.2.2.2.2.2.2.2.2.1).trans (hF1.2.2.2.2.2.2.2.2.2.2.2.2.2.1), (hf13.2.2.2.2.2.2.2.2.2.2.2.2.2.2.2.1).trans (hF1.2.2.2.2.2.2.2.2.2.2.2.2.2.2.1), (hf13.2.2.2.2.2.2.2.2.2.2.2.2.2.2.2.2.1).trans (hF1.2.2.2.2.2.2.2.2.2.2.2.2.2.2.2.1), (hf13.2.2.2.2.2.2.2.2.2.2.2.2.2.2.2.2.2.1).trans (hF1.2.2.2.2.2.2.2.2.2.2.2.2.2.2.2.2.1), (hf13.2.2.2.2.2.2.2.2.2.2.2.2.2.2.2.2.2.2.1).trans (hF1.2.2.2.2.2.2.2.2.2.2.2.2.2.2.2.2.2.1), (hf13.2.2.2.2.2.2.2.2.2.2.2.2.2.2.2.2.2.2.2.1).trans (hF1.2.2.2.2.2.2.2.2.2.2.2.2.2.2.2.2.2.2.1), (hf13.2.2.2.2.2.2.2.2.2.2.2.2.2.2.2.2.2.2.2.2.1).trans (hF1.2.2.2.2.2.2.2.2.2.2.2.2.2.2.2.2.2.2.2.1), (hf13.2.2.2.2.2.2.2.2.2.2.2.2.2.2.2.2.2.2.2.2.2.1).trans (hF1.2.2.2.2.2.2.2.2.2.2.2.2.2.2.2.2.2.2.2.2.1), (hf13.2.2.2.2.2.2.2.2.2.2.2.2.2.2.2.2.2.2.2.2.2.2.1).trans (hF1.2.2.2.2.2.2.2.2.2.2.2.2.2.2.2.2.2.2.2.2.2.1), (hf13.2.2.2.2.2.2.2.2.2.2.2.2.2.2.2.2.2.2.2.2.2.2.2.1).trans (hF1.2.2.2.2.2.2.2.2.2.2.2.2.2.2.2.2.2.2.2.2.2.2.1), (hf13.2.2.2.2.2.2.2.2.2.2.2.2.2.2.2.2.2.2.2.2.2.2.2.2.1).trans (hF1.2.2.2.2.2.2.2.2.2.2.2.2.2.2.2.2.2.2.2.2.2.2.2.1), (hf13.2.2.2.2.2.2.2.2.2.2.2.2.2.2.2.2.2.2.2.2.2.2.2.2.2.2.2.2.2.1).trans (hF1.2.2.2.2.2.2.2.2.2.2.2.2.2.2.2.2.2.2.2.2.2.2.2.2.1), (hf13.2.2.2.2.2.2.2.2.2.2.2.2.2.2.2.2.2.2.2.2.2.2.2.2.2.2.2.2.2.2.1).trans (hF1.2.2.2.2.2.2.2.2.2.2.2.2.2.2.2.2.2.2.2.2.2.2.2.2.2.1), (hf13.2.2.2.2.2.2.2.2.2.2.2.2.2.2.2.2.2.2.2.2.2.2.2.2.2.2.2.2.2.2.2.1).trans (hF1.2.2.2.2.2.2.2.2.2.2.2.2.2.2.2.2.2.2.2.2.2.2.2.2.2.2.1), (hf13.2.2.2.2.2.2.2.2.2.2.2.2.2.2.2.2.2.2.2.2.2.2.2.2.2.2.2.2.2.2.2.2.1).trans (hF1.2.2.2.2.2.2.2.2.2.2.2.2.2.2.2.2.2.2.2.2.2.2.2.2.2.2.2.1), (hf13.2.2.2.2.2.2.2.2.2.2.2.2.2.2.2.2.2.2.2.2.2.2.2.2.2.2.2.2.2.2.2.2.2.1).trans (hF1.2.2.2.2.2.2.2.2.2.2.2.2.2.2.2.2.2.2.2.2.2.2.2.2.2.2.2.2.1), (hf13.2.2.2.2.2.2.2.2.2.2.2.2.2.2.2.2.2.2.2.2.2.2.2.2.2.2.2.2.2.2.2.2.2.2.1).trans (hF1.2.2.2.2.2.2.2.2.2.2.2.2.2.2.2.2.2.2.2.2.2.2.2.2.2.2.2.2.2.1), (hf13.2.2.2.2.2.2.2.2.2.2.2.2.2.2.2.2.2.2.2.2.2.2.2.2.2.2.2.2.2.2.2.2.2.2.2.1).trans (hF1.2.2.2.2.2.2.2.2.2.2.2.2.2.2.2.2.2.2.2.2.2.2.2.2.2.2.2.2.2.2.1), (hf13.2.2.2.2.2.2.2.2.2.2.2.2.2.2.2.2.2.2.2.2.2.2.2.2.2.2.2.2.2.2.2.2.2.2.2.2.1).trans (hF1.2.2.2.2.2.2.2.2.2.2.2.2.2.2.2.2.2.2.2.2.2.2.2.2.2.2.2.2.2.2.2.1), (hf13.2.2.2.2.2.2.2.2.2.2.2.2.2.2.2.2.2.2.2.2.2.2.2.2.2.2.2.2.2.2.2.2.2.2.2.2.2.1).trans (hF1.2.2.2.2.2.2.2.2.2.2.2.2.2.2.2.2.2.2.2.2.2.2.2.2.2.2.2.2.2.2.2.2.1), (hf13.2.2.2.2.2.2.2.2.2.2.2.2.2.2.2.2.2.2.2.2.2.2.2.2.2.2.2.2.2.2.2.2.2.2.2.2.2.2.1).trans (hF1.2.2.2.2.2.2.2.2.2.2.2.2.2.2.2.2.2.2.2.2.2.2.2.2.2.2.2.2.2.2.2.2.2.1), (hf13.2.2.2.2.2.2.2.2.2.2.2.2.2.2.2.2.2.2.2.2.2.2.2.2.2.2.2.2.2.2.2.2.2.2.2.2.2.2.2.1).trans (hF1.2.2.2.2.2.2.2.2.2.2.2.2.2.2.2.2.2.2.2.2.2.2.2.2.2.2.2.2.2.2.2.2.2.2.1), (hf13.2.2.2.2.2.2.2.2.2.2.2.2.2.2.2.2.2.2.2.2.2.2.2.2.2.2.2.2.2.2.2.2.2.2.2.2.2.2.2.2.1).trans (hF1.2.2.2.2.2.2.2.2.2.2.2.2.2.2.2.2.2.2.2.2.2.2.2.2.2.2.2.2.2.2.2.2.2.2.2.1), (hf13.2.2.2.2.2.2.2.2.2.2.2.2.2.2.2.2.2.2.2.2.2.2.2.2.2.2.2.2.2.2.2.2.2.2.2.2.2.2.2.2.2.1).trans (hF1.2.2.2.2.2.2.2.2.2.2.2.2.2.2.2.2.2.2.2.2.2.2.2.2.2.2.2.2.2.2.2.2.2.2.2.2.1), (hf13.2.2.2.2.2.2.2.2.2.2.2.2.2.2.2.2.2.2.2.2.2.2.2.2.2.2.2.2.2.2.2.2.2.2.2.2.2.2.2.2.2.2).trans (hF1.2.2.2.2.2.2.2.2.2.2.2.2.2.2.2.2.2.2.2.2.2.2.2.2.2.2.2.2.2.2.2.2.2.2.2.2.2)⟩
  have n13 : b9g_now u13 = b9g_now S := hF13.1
  rw [n13] at h12
  have em : (r12 - 1).toInt = r12.toInt - 1 := by rw [pt_sub (by rw [pl_1]; omega) (by rw [pl_1]; omega), pl_1]
  unfold wp_X9_seekBack_23
  refine ⟨fun n x1 x2 x3 x4 V => x1 = a1 ∧ x2 = a2 ∧ x3 = a3 ∧ -1 ≤ x4.toInt ∧ x4.toInt < (b9g_now S 9).toInt ∧ J9 V ∧ F_X9_seekBack S V ∧ (b9g_isLaid V).toInt ≠ 0 ∧ (SR9 S → ∀ i : Nat, x4.toInt < (i : Int) → (i : Int) < (b9g_now S 9).toInt → (NLT (ub (KEY a1 a2 a3)) a3.toInt.toNat (LOV (fun j => b9g_keys S (64 + j)) (fun j => b9g_lengths S (64 + j)) (b9g_now S 9).toInt (NBT (b9g_now S)) i) (LOL (fun j => b9g_keys S (64 + j)) (fun j => b9g_lengths S (64 + j)) (b9g_now S 9).toInt (NBT (b9g_now S)) i))) ∧ n = (x4.toInt + 1).toNat, ⟨_, rfl, rfl, rfl, by omega, by omega, hJ13, hF13, hil, fun _ i hi hc => by omega, rfl⟩, ?_⟩
  rintro n x1 x2 x3 x4 V ⟨e1', e2, e3, h0, h64, hJV, hFV, hlV, hI, hn⟩
  have nV : b9g_now V = b9g_now S := hFV.1
  have kV : b9g_keys V = b9g_keys S := hFV.2.1
  have lV : b9g_lengths V = b9g_lengths S := hFV.2.2.1
  unfold wp_X9_seekBack_23b
  rw [e1', e2, e3]
  refine ⟨fun d => hq _ _ hJV hFV (fun hs => ⟨fun _ => Or.inr ⟨rfl, fun i hi => hI hs i ?_ hi⟩, fun h => absurd n1 h⟩), fun d => ?_⟩
  · simp only [pn] at d
    omega
  simp only [pn] at d
  refine sf_X9_nextBits hJV.1 (fun r1 p0 p8 h1 => sf_X9_bounds hJV (by omega) (by omega) (fun u4 hJ4 hf4 hB => sf_X9_keyOf hJ4.1 (fun r5 h5 => ?_)))
  have hF4 : F_X9_seekBack S u4 := ⟨(hf4.2.1).trans (hFV.1), (hf4.2.2.1).trans (hFV.2.1), (hf4.2.2.2.1).trans (hFV.2.2.1), (hf4.2.2.2.2.1).trans (hFV.2.2.2.1), (hf4.2.2.2.2.2.1).trans (hFV.2.2.2.2.1), (hf4.2.2.2.2.2.2.1).trans (hFV.2.2.2.2.2.1), (hf4.2.2.2.2.2.2.2.1).trans (hFV.2.2.2.2.2.2.1), (hf4.2.2.2.2.2.2.2.2.1).trans (hFV.2.2.2.2.2.2.2.1), (hf4.2.2.2.2.2.2.2.2.2.1).trans (hFV.2.2.2.2.2.2.2.2.1), (hf4.2.2.2.2.2.2.2.2.2.2.2.2.2.1).trans (hFV.2.2.2.2.2.2.2.2.2.1), (hf4.2.2.2.2.2.2.2.2.2.2.2.2.2.2.1).trans (hFV.2.2.2.2.2.2.2.2.2.2.1), (hf4.2.2.2.2.2.2.2.2.2.2.2.2.2.2.2.1).trans (hFV.2.2.2.2.2.2.2.2.2.2.2.1), (hf4.2.2.2.2.2.2.2.2.2.2.2.2.2.2.2.2.1).trans (hFV.2.2.2.2.2.2.2.2.2.2.2.2.1), (hf4.2.2.2.2.2.2.2.2.2.2.2.2.2.2.2.2.2.1).trans (hFV.2.2.2.2.2.2.2.2.2.2.2.2.2.1), (hf4.2.2.2.2.2.2.2.2.2.2.2.2.2.2.2.2.2.2.1).trans (hFV.2.2.2.2.2.2.2.2.2.2.2.2.2.2.1), (hf4.2.2.2.2.2.2.2.2.2.2.2.2.2.2.2.2.2.2.2.1).trans (hFV.2.2.2.2.2.2.2.2.2.2.2.2.2.2.2.1), (hf4.2.2.2.2.2.2.2.2.2.2.2.2.2.2.2.2.2.2.2.2.1).trans (hFV.2.2.2.2.2.2.2.2.2.2.2.2.2.2.2.2.1), (hf4.2.2.2.2.2.2.2.2.2.2.2.2.2.2.2.2.2.2.2.2.2.1).trans (hFV.2.2.2.2.2.2.2.2.2.2.2.2.2.2.2.2.2.1), (hf4.2.2.2.2.2.2.2.2.2.2.2.2.2.2.2.2.2.2.2.2.2.2.1).trans (hFV.2.2.2.2.2.2.2.2.2.2.2.2.2.2.2.2.2.2.1), (hf4.2.2.2.2.2.2.2.2.2.2.2.2.2.2.2.2.2.2.2.2.2.2.2.1).trans (hFV.2.2.2.2.2.2.2.2.2.2.2.2.2.2.2.2.2.2.2.1), (hf4.2.2.2.2.2.2.2.2.2.2.2.2.2.2.2.2.2.2.2.2.2.2.2.2.1).trans (hFV.2.2.2.2.2.2.2.2.2.2.2.2.2.2.2.2.2.2.2.2.1), (hf4.2.2.2.2.2.2.2.2.2.2.2.2.2.2.2.2.2.2.2.2.2.2.2.2.2.1).trans (hFV.2.2.2.2.2.2.2.2.2.2.2.2.2.2.2.2.2.2.2.2.2.1), (hf4.2.2.2.2.2.2.2.2.2.2.2.2.2.2.2.2.2.2.2.2.2.2.2.2.2.2.1).trans (hFV.2.2.2.2.2.2.2.2.2.2.2.2.2.2.2.2.2.2.2.2.2.2.1), (hf4.2.2.2.2.2.2.2.2.2.2.2.2.2.2.2.2.2.2.2.2.2.2.2.2.2.2.2.1).trans (hFV.2.2.2.2.2.2.2.2.2.2.2.2.2.2.2.2.2.2.2.2.2.2.2.1), (hf4.2.2.2.2.2.2.2.2.2.2.2.2.2.2.2.2.2.2.2.2.2.2.2.2.2.2.2.2.1).trans (hFV.2.2.2.2.2.2.2.2.2.2.2.2.2.2.2.2.2.2.2.2.2.2.2.2.1), (hf4.2.2.2.2.2.2.2.2.2.2.2.2.2.2.2.2.2.2.2.2.2.2.2.2.2.2.2.2.2.1).trans (hFV.2.2.2.2.2.2.2.2.2.2.2.2.2.2.2.2.2.2.2.2.2.2.2.2.2.1), (hf4.2.2.2.2.2.2.2.2.2.2.2.2.2.2.2.2.2.2.2.2.2.2.2.2.2.2.2.2.2.2.1).trans (hFV.2.2.2.2.2.2.2.2.2.2.2.2.2.2.2.2.2.2.2.2.2.2.2.2.2.2.1), (hf4.2.2.2.2.2.2.2.2.2.2.2.2.2.2.2.2.2.2.2.2.2.2.2.2.2.2.2.2.2.2.2.1).trans (hFV.2.2.2.2.2.2.2.2.2.2.2.2.2.2.2.2.2.2.2.2.2.2.2.2.2.2.2.1), (hf4.2.2.2.2.2.2.2.2.2.2.2.2.2.2.2.2.2.2.2.2.2.2.2.2.2.2.2.2.2.2.2.2.1).trans (hFV.2.2.2.2.2.2.2.2.2.2.2.2.2.2.2.2.2.2.2.2.2.2.2.2.2.2.2.2.1), (hf4.2.2.2.2.2.2.2.2.2.2.2.2.2.2.2.2.2.2.2.2.2.2.2.2.2.2.2.2.2.2.2.2.2.1).trans (hFV.2.2.2.2.2.2.2.2.2.2.2.2.2.2.2.2.2.2.2.2.2.2.2.2.2.2.2.2.2.1), (hf4.2.2.2.2.2.2.2.2.2.2.2.2.2.2.2.2.2.2.2.2.2.2.2.2.2.2.2.2.2.2.2.2.2.2.1).trans (hFV.2.2.2.2.2.2.2.2.2.2.2.2.2.2.2.2.2.2.2.2.2.2.2.2.2.2.2.2.2.2.1), (hf4.2.2.2.2.2.2.2.2.2.2.2.2.2.2.2.2.2.2.2.2.2.2.2.2.2.2.2.2.2.2.2.2.2.2.2.1).trans (hFV.2.2.2.2.2.2.2.2.2.2.2.2.2.2.2.2.2.2.2.2.2.2.2.2.2.2.2.2.2.2.2.1), (hf4.2.2.2.2.2.2.2.2.2.2.2.2.2.2.2.2.2.2.2.2.2.2.2.2.2.2.2.2.2.2.2.2.2.2.2.2.1).trans (hFV.2.2.2.2.2.2.2.2.2.2.2.2.2.2.2.2.2.2.2.2.2.2.2.2.2.2.2.2.2.2.2.2.1), (hf4.2.2.2.2.2.2.2.2.2.2.2.2.2.2.2.2.2.2.2.2.2.2.2.2.2.2.2.2.2.2.2.2.2.2.2.2.2.1).trans (hFV.2.2.2.2.2.2.2.2.2.2.2.2.2.2.2.2.2.2.2.2.2.2.2.2.2.2.2.2.2.2.2.2.2.1), (hf4.2.2.2.2.2.2.2.2.2.2.2.2.2.2.2.2.2.2.2.2.2.2.2.2.2.2.2.2.2.2.2.2.2.2.2.2.2.2.1).trans (hFV.2.2.2.2.2.2.2.2.2.2.2.2.2.2.2.2.2.2.2.2.2.2.2.2.2.2.2.2.2.2.2.2.2.2.1), (hf4.2.2.2.2.2.2.2.2.2.2.2.2.2.2.2.2.2.2.2.2.2.2.2.2.2.2.2.2.2.2.2.2.2.2.2.2.2.2.2.1).trans (hFV.2.2.2.2.2.2.2.2.2.2.2.2.2.2.2.2.2.2.2.2.2.2.2.2.2.2.2.2.2.2.2.2.2.2.2.1), (hf4.2.2.2.2.2.2.2.2.2.2.2.2.2.2.2.2.2.2.2.2.2.2.2.2.2.2.2.2.2.2.2.2.2.2.2.2.2.2.2.2.1).trans (hFV.2.2.2.2.2.2.2.2.2.2.2.2.2.2.2.2.2.2.2.2.2.2.2.2.2.2.2.2.2.2.2.2.2.2.2.2.1), (hf4.2.2.2.2.2.2.2.2.2.2.2.2.2.2.2.2.2.2.2.2.2.2.2.2.2.2.2.2.2.2.2.2.2.2.2.2.2.2.2.2.2).trans (hFV.2.2.2.2.2.2.2.2.2.2.2.2.2.2.2.2.2.2.2.2.2.2.2.2.2.2.2.2.2.2.2.2.2.2.2.2.2)⟩
  have il4 : b9g_isLaid u4 = b9g_isLaid V := hf4.2.2.2.2.2.2.2.2.2.2.2.2.1
  unfold SR9 BDS at hB
  rw [kV, lV, nV] at hB
  rw [nV] at h1
  have cx := pt_clamp (i := x4) (by omega)
  obtain ⟨y, hy⟩ : ∃ y : Int32, x4 + (-1 : Int32) = y := ⟨_, rfl⟩
  have y' : y.toInt = x4.toInt - 1 := by
    rw [← hy, pt_add (by rw [pl_m1]; omega) (by rw [pl_m1]; omega), pl_m1]
    omega
  rw [hy]
  have bv : SR9 S → (KLT r5 a3 (b9g_lowKey u4) (b9g_lowLength u4) ↔ (NLT (ub (KEY a1 a2 a3)) a3.toInt.toNat (LOV (fun j => b9g_keys S (64 + j)) (fun j => b9g_lengths S (64 + j)) (b9g_now S 9).toInt (NBT (b9g_now S)) x4.toNatClampNeg) (LOL (fun j => b9g_keys S (64 + j)) (fun j => b9g_lengths S (64 + j)) (b9g_now S 9).toInt (NBT (b9g_now S)) x4.toNatClampNeg))) := by
    intro hs
    obtain ⟨b1, b2, b3, b4⟩ := hB hs hlV p0 p8 (by omega)
    rw [h1] at b1 b2
    rw [h5]
    exact KLT_nlt rfl b1 (by omega) b2
  unfold wp_X9_isAhead
  refine fx_isLess (fun r7 z7 h7 => ⟨z7, fun e => ⟨_, ?_, rfl, rfl, rfl, by omega, by omega, hJ4, hF4, by rw [il4]; exact hlV, fun hs i hi hc => ?_, rfl⟩, fun e => hq _ _ hJ4 hF4 (fun hs => ⟨fun _ => Or.inl ⟨by omega, by omega, fun i hi => ?_, fun i hi hc => hI hs i hi hc⟩, fun h => absurd n1 h⟩)⟩)
  · omega
  · by_cases q : i = x4.toNatClampNeg
    · rw [q]
      exact (bv hs).mp (bl_y h7 e)
    · exact hI hs i (by omega) hc
  · have q : i = x4.toNatClampNeg := by omega
    rw [q]
    exact fun h => bl_n h7 e ((bv hs).mpr h)
set_option maxRecDepth 20000 in
set_option maxHeartbeats 8000000 in
theorem sf_X9_hashOf {S : bT9} (hJ : K9 S) {a1 : Int32} {Q : Int32 → Prop} (hp0 : 0 ≤ a1.toInt) (hp1 : a1.toInt ≤ 63) (hq : ∀ r : Int32, Q r) : wp_X9_hashOf S a1 Q := by
  unfold wp_X9_hashOf
  have jf1 : (-4 ≤ ((b9g_now S) 1).toInt ∧ ((b9g_now S) 1).toInt ≤ 4) ∧ (-3 ≤ ((b9g_now S) 4).toInt ∧ ((b9g_now S) 4).toInt ≤ 252) ∧ (0 ≤ ((b9g_now S) 8).toInt ∧ ((b9g_now S) 8).toInt ≤ 64) ∧ (0 ≤ ((b9g_now S) 9).toInt ∧ ((b9g_now S) 9).toInt ≤ 64) ∧ (0 ≤ ((b9g_now S) 10).toInt ∧ ((b9g_now S) 10).toInt ≤ 16) ∧ (0 ≤ ((b9g_now S) 12).toInt ∧ ((b9g_now S) 12).toInt ≤ 8) := K9g_now hJ
  have rga1 := pt_rg a1
  refine sf_X9_key hJ (by (try simp (disch := first | ((try simp (disch := first | ((try simp only [pn]) <;> omega) | fail) only [pn, pq]) <;> omega) | fail) only [pn, pq]) <;> (intros; (try simp (disch := first | ((try simp (disch := first | ((try simp only [pn]) <;> omega) | fail) only [pn, pq]) <;> omega) | fail) only [pn, pq]) <;> omega)) (by (try simp (disch := first | ((try simp (disch := first | ((try simp only [pn]) <;> omega) | fail) only [pn, pq]) <;> omega) | fail) only [pn, pq]) <;> (intros; (try simp (disch := first | ((try simp (disch := first | ((try simp only [pn]) <;> omega) | fail) only [pn, pq]) <;> omega) | fail) only [pn, pq]) <;> omega)) (fun r1 hr1_0 => ?_)
  try simp (disch := first | ((try simp (disch := first | ((try simp only [pn]) <;> omega) | fail) only [pn, pq]) <;> omega) | fail) only [pn, pq] at hr1_0
  refine sf_X9_lengthOf hJ (by (try simp (disch := first | ((try simp (disch := first | ((try simp only [pn]) <;> omega) | fail) only [pn, pq]) <;> omega) | fail) only [pn, pq]) <;> (intros; (try simp (disch := first | ((try simp (disch := first | ((try simp only [pn]) <;> omega) | fail) only [pn, pq]) <;> omega) | fail) only [pn, pq]) <;> omega)) (by (try simp (disch := first | ((try simp (disch := first | ((try simp only [pn]) <;> omega) | fail) only [pn, pq]) <;> omega) | fail) only [pn, pq]) <;> (intros; (try simp (disch := first | ((try simp (disch := first | ((try simp only [pn]) <;> omega) | fail) only [pn, pq]) <;> omega) | fail) only [pn, pq]) <;> omega)) (fun r3 hr3_0 hr3_1 hr3_2 => ?_)
  have rgr3 := pt_rg r3
  try simp (disch := first | ((try simp (disch := first | ((try simp only [pn]) <;> omega) | fail) only [pn, pq]) <;> omega) | fail) only [pn, pq] at hr3_0
  try simp (disch := first | ((try simp (disch := first | ((try simp only [pn]) <;> omega) | fail) only [pn, pq]) <;> omega) | fail) only [pn, pq] at hr3_1
  try simp (disch := first | ((try simp (disch := first | ((try simp only [pn]) <;> omega) | fail) only [pn, pq]) <;> omega) | fail) only [pn, pq] at hr3_2
  refine sf_X9_hashBits hJ (fun r5 hr5_0 => ?_)
  have rgr5 := pt_rg r5
  refine sf_X9_hash hJ (fun r7 hr7_0 => ?_)
  have rgr7 := pt_rg r7
  exact hq _ 
set_option maxRecDepth 20000 in
set_option maxHeartbeats 8000000 in
theorem sf_X9_nodeOf {S : bT9} (hJ : K9 S) {a1 : Int32} {Q : Int32 → Prop} (hp0 : 0 ≤ a1.toInt) (hp1 : a1.toInt ≤ 63) (hq : ∀ r : Int32, Q r) : wp_X9_nodeOf S a1 Q := by
  unfold wp_X9_nodeOf
  have jf1 := K9g_nodeMany hJ
  have jf2 : (-4 ≤ ((b9g_now S) 1).toInt ∧ ((b9g_now S) 1).toInt ≤ 4) ∧ (-3 ≤ ((b9g_now S) 4).toInt ∧ ((b9g_now S) 4).toInt ≤ 252) ∧ (0 ≤ ((b9g_now S) 8).toInt ∧ ((b9g_now S) 8).toInt ≤ 64) ∧ (0 ≤ ((b9g_now S) 9).toInt ∧ ((b9g_now S) 9).toInt ≤ 64) ∧ (0 ≤ ((b9g_now S) 10).toInt ∧ ((b9g_now S) 10).toInt ≤ 16) ∧ (0 ≤ ((b9g_now S) 12).toInt ∧ ((b9g_now S) 12).toInt ≤ 8) := K9g_now hJ
  have rga1 := pt_rg a1
  refine sf_X9_isEnded hJ (by (try simp (disch := first | ((try simp (disch := first | ((try simp only [pn]) <;> omega) | fail) only [pn, pq]) <;> omega) | fail) only [pn, pq]) <;> (intros; (try simp (disch := first | ((try simp (disch := first | ((try simp only [pn]) <;> omega) | fail) only [pn, pq]) <;> omega) | fail) only [pn, pq]) <;> omega)) (by (try simp (disch := first | ((try simp (disch := first | ((try simp only [pn]) <;> omega) | fail) only [pn, pq]) <;> omega) | fail) only [pn, pq]) <;> (intros; (try simp (disch := first | ((try simp (disch := first | ((try simp only [pn]) <;> omega) | fail) only [pn, pq]) <;> omega) | fail) only [pn, pq]) <;> omega)) (fun r1 hzr1  => ?_)
  refine ⟨fun c3 => ?_, fun c3 => ?_⟩
  · try simp (disch := first | ((try simp (disch := first | ((try simp only [pn]) <;> omega) | fail) only [pn, pq]) <;> omega) | fail) only [pn, pq] at c3
    refine ⟨pt_in (by (try simp (disch := first | ((try simp (disch := first | ((try simp only [pn]) <;> omega) | fail) only [pn, pq]) <;> omega) | fail) only [pn, pq]) <;> (intros; (try simp (disch := first | ((try simp (disch := first | ((try simp only [pn]) <;> omega) | fail) only [pn, pq]) <;> omega) | fail) only [pn, pq]) <;> omega)) (by (try simp (disch := first | ((try simp (disch := first | ((try simp only [pn]) <;> omega) | fail) only [pn, pq]) <;> omega) | fail) only [pn, pq]) <;> (intros; (try simp (disch := first | ((try simp (disch := first | ((try simp only [pn]) <;> omega) | fail) only [pn, pq]) <;> omega) | fail) only [pn, pq]) <;> omega)), ?_⟩
    have jr3 := K9g_beginning hJ (a1).toNatClampNeg
    try simp (disch := first | ((try simp (disch := first | ((try simp only [pn]) <;> omega) | fail) only [pn, pq]) <;> omega) | fail) only [pn, pq] at jr3
    unfold wp_X9_nodeOf_25
    refine ⟨fun n x1q4 x2q4 x3q4 => (x1q4 = a1) ∧ (x2q4 = (((b9g_beginning S) (a1).toNatClampNeg) - (1 : Int32))) ∧ (0 ≤ (x3q4).toInt) ∧ n = (((b9g_nodeMany S)).toInt + 1 - (x3q4).toInt).toNat, ⟨_, rfl, rfl, (by (try simp (disch := first | ((try simp (disch := first | ((try simp only [pn]) <;> omega) | fail) only [pn, pq]) <;> omega) | fail) only [pn, pq]) <;> (intros; (try simp (disch := first | ((try simp (disch := first | ((try simp only [pn]) <;> omega) | fail) only [pn, pq]) <;> omega) | fail) only [pn, pq]) <;> omega)), rfl⟩, ?_⟩
    rintro n5 x1q4 x2q4 x3q4 ⟨hkq4_0, hkq4_1, hiq4_0, hn5⟩
    subst hkq4_0
    have hcq4_1 := congrArg Int32.toInt hkq4_1
    try simp (disch := first | ((try simp (disch := first | ((try simp only [pn]) <;> omega) | fail) only [pn, pq]) <;> omega) | fail) only [pn, pq] at hcq4_1
    have rgx1q4 := pt_rg x1q4
    have rgx2q4 := pt_rg x2q4
    have rgx3q4 := pt_rg x3q4
    unfold wp_X9_nodeOf_28b
    refine ⟨fun c6 => ?_, fun c6 => ?_⟩
    · try simp (disch := first | ((try simp (disch := first | ((try simp only [pn]) <;> omega) | fail) only [pn, pq]) <;> omega) | fail) only [pn, pq] at c6
      exact hq _ 
    · try simp (disch := first | ((try simp (disch := first | ((try simp only [pn]) <;> omega) | fail) only [pn, pq]) <;> omega) | fail) only [pn, pq] at c6
      refine ⟨pt_in (by (try simp (disch := first | ((try simp (disch := first | ((try simp only [pn]) <;> omega) | fail) only [pn, pq]) <;> omega) | fail) only [pn, pq]) <;> (intros; (try simp (disch := first | ((try simp (disch := first | ((try simp only [pn]) <;> omega) | fail) only [pn, pq]) <;> omega) | fail) only [pn, pq]) <;> omega)) (by (try simp (disch := first | ((try simp (disch := first | ((try simp only [pn]) <;> omega) | fail) only [pn, pq]) <;> omega) | fail) only [pn, pq]) <;> (intros; (try simp (disch := first | ((try simp (disch := first | ((try simp only [pn]) <;> omega) | fail) only [pn, pq]) <;> omega) | fail) only [pn, pq]) <;> omega)), ?_⟩
      have jr4 := ND_at (K9g_ND hJ) (x := x3q4) (by (try simp (disch := first | ((try simp (disch := first | ((try simp only [pn]) <;> omega) | fail) only [pn, pq]) <;> omega) | fail) only [pn, pq]) <;> (intros; (try simp (disch := first | ((try simp (disch := first | ((try simp only [pn]) <;> omega) | fail) only [pn, pq]) <;> omega) | fail) only [pn, pq]) <;> omega)) (by (try simp (disch := first | ((try simp (disch := first | ((try simp only [pn]) <;> omega) | fail) only [pn, pq]) <;> omega) | fail) only [pn, pq]) <;> (intros; (try simp (disch := first | ((try simp (disch := first | ((try simp only [pn]) <;> omega) | fail) only [pn, pq]) <;> omega) | fail) only [pn, pq]) <;> omega))
      try simp (disch := first | ((try simp (disch := first | ((try simp only [pn]) <;> omega) | fail) only [pn, pq]) <;> omega) | fail) only [pn, pq] at jr4
      refine ⟨fun c7 => ?_, fun c7 => ?_⟩
      · try simp (disch := first | ((try simp (disch := first | ((try simp only [pn]) <;> omega) | fail) only [pn, pq]) <;> omega) | fail) only [pn, pq] at c7
        unfold wp_X9_nodeOf_67
        refine ⟨_, ?_, ?_, ?_, ?_, rfl⟩
        · (try simp (disch := first | ((try simp (disch := first | ((try simp only [pn]) <;> omega) | fail) only [pn, pq]) <;> omega) | fail) only [pn, pq]) <;> (intros; (try simp (disch := first | ((try simp (disch := first | ((try simp only [pn]) <;> omega) | fail) only [pn, pq]) <;> omega) | fail) only [pn, pq]) <;> omega)
        · first | rfl | assumption
        · first | rfl | assumption
        · (try simp (disch := first | ((try simp (disch := first | ((try simp only [pn]) <;> omega) | fail) only [pn, pq]) <;> omega) | fail) only [pn, pq]) <;> (intros; (try simp (disch := first | ((try simp (disch := first | ((try simp only [pn]) <;> omega) | fail) only [pn, pq]) <;> omega) | fail) only [pn, pq]) <;> omega)
      · try simp (disch := first | ((try simp (disch := first | ((try simp only [pn]) <;> omega) | fail) only [pn, pq]) <;> omega) | fail) only [pn, pq] at c7
        refine ⟨pt_in (by (try simp (disch := first | ((try simp (disch := first | ((try simp only [pn]) <;> omega) | fail) only [pn, pq]) <;> omega) | fail) only [pn, pq]) <;> (intros; (try simp (disch := first | ((try simp (disch := first | ((try simp only [pn]) <;> omega) | fail) only [pn, pq]) <;> omega) | fail) only [pn, pq]) <;> omega)) (by (try simp (disch := first | ((try simp (disch := first | ((try simp only [pn]) <;> omega) | fail) only [pn, pq]) <;> omega) | fail) only [pn, pq]) <;> (intros; (try simp (disch := first | ((try simp (disch := first | ((try simp only [pn]) <;> omega) | fail) only [pn, pq]) <;> omega) | fail) only [pn, pq]) <;> omega)), ?_⟩
        have jr5 := ND_at (K9g_ND hJ) (x := x3q4) (by (try simp (disch := first | ((try simp (disch := first | ((try simp only [pn]) <;> omega) | fail) only [pn, pq]) <;> omega) | fail) only [pn, pq]) <;> (intros; (try simp (disch := first | ((try simp (disch := first | ((try simp only [pn]) <;> omega) | fail) only [pn, pq]) <;> omega) | fail) only [pn, pq]) <;> omega)) (by (try simp (disch := first | ((try simp (disch := first | ((try simp only [pn]) <;> omega) | fail) only [pn, pq]) <;> omega) | fail) only [pn, pq]) <;> (intros; (try simp (disch := first | ((try simp (disch := first | ((try simp only [pn]) <;> omega) | fail) only [pn, pq]) <;> omega) | fail) only [pn, pq]) <;> omega))
        try simp (disch := first | ((try simp (disch := first | ((try simp only [pn]) <;> omega) | fail) only [pn, pq]) <;> omega) | fail) only [pn, pq] at jr5
        refine ⟨fun c8 => ?_, fun c8 => ?_⟩
        · try simp (disch := first | ((try simp (disch := first | ((try simp only [pn]) <;> omega) | fail) only [pn, pq]) <;> omega) | fail) only [pn, pq] at c8
          unfold wp_X9_nodeOf_67
          refine ⟨_, ?_, ?_, ?_, ?_, rfl⟩
          · (try simp (disch := first | ((try simp (disch := first | ((try simp only [pn]) <;> omega) | fail) only [pn, pq]) <;> omega) | fail) only [pn, pq]) <;> (intros; (try simp (disch := first | ((try simp (disch := first | ((try simp only [pn]) <;> omega) | fail) only [pn, pq]) <;> omega) | fail) only [pn, pq]) <;> omega)
          · first | rfl | assumption
          · first | rfl | assumption
          · (try simp (disch := first | ((try simp (disch := first | ((try simp only [pn]) <;> omega) | fail) only [pn, pq]) <;> omega) | fail) only [pn, pq]) <;> (intros; (try simp (disch := first | ((try simp (disch := first | ((try simp only [pn]) <;> omega) | fail) only [pn, pq]) <;> omega) | fail) only [pn, pq]) <;> omega)
        · try simp (disch := first | ((try simp (disch := first | ((try simp only [pn]) <;> omega) | fail) only [pn, pq]) <;> omega) | fail) only [pn, pq] at c8
          refine sf_X9_lastOf hJ (by (try simp (disch := first | ((try simp (disch := first | ((try simp only [pn]) <;> omega) | fail) only [pn, pq]) <;> omega) | fail) only [pn, pq]) <;> (intros; (try simp (disch := first | ((try simp (disch := first | ((try simp only [pn]) <;> omega) | fail) only [pn, pq]) <;> omega) | fail) only [pn, pq]) <;> omega)) (by (try simp (disch := first | ((try simp (disch := first | ((try simp only [pn]) <;> omega) | fail) only [pn, pq]) <;> omega) | fail) only [pn, pq]) <;> (intros; (try simp (disch := first | ((try simp (disch := first | ((try simp only [pn]) <;> omega) | fail) only [pn, pq]) <;> omega) | fail) only [pn, pq]) <;> omega)) (fun r9 hr9_0 hr9_1 => ?_)
          have rgr9 := pt_rg r9
          try simp (disch := first | ((try simp (disch := first | ((try simp only [pn]) <;> omega) | fail) only [pn, pq]) <;> omega) | fail) only [pn, pq] at hr9_0
          try simp (disch := first | ((try simp (disch := first | ((try simp only [pn]) <;> omega) | fail) only [pn, pq]) <;> omega) | fail) only [pn, pq] at hr9_1
          refine ⟨fun c11 => ?_, fun c11 => ?_⟩
          · try simp (disch := first | ((try simp (disch := first | ((try simp only [pn]) <;> omega) | fail) only [pn, pq]) <;> omega) | fail) only [pn, pq] at c11
            unfold wp_X9_nodeOf_67
            refine ⟨_, ?_, ?_, ?_, ?_, rfl⟩
            · (try simp (disch := first | ((try simp (disch := first | ((try simp only [pn]) <;> omega) | fail) only [pn, pq]) <;> omega) | fail) only [pn, pq]) <;> (intros; (try simp (disch := first | ((try simp (disch := first | ((try simp only [pn]) <;> omega) | fail) only [pn, pq]) <;> omega) | fail) only [pn, pq]) <;> omega)
            · first | rfl | assumption
            · first | rfl | assumption
            · (try simp (disch := first | ((try simp (disch := first | ((try simp only [pn]) <;> omega) | fail) only [pn, pq]) <;> omega) | fail) only [pn, pq]) <;> (intros; (try simp (disch := first | ((try simp (disch := first | ((try simp only [pn]) <;> omega) | fail) only [pn, pq]) <;> omega) | fail) only [pn, pq]) <;> omega)
          · try simp (disch := first | ((try simp (disch := first | ((try simp only [pn]) <;> omega) | fail) only [pn, pq]) <;> omega) | fail) only [pn, pq] at c11
            exact hq _ 
  · try simp (disch := first | ((try simp (disch := first | ((try simp only [pn]) <;> omega) | fail) only [pn, pq]) <;> omega) | fail) only [pn, pq] at c3
    refine ⟨pt_in (by (try simp (disch := first | ((try simp (disch := first | ((try simp only [pn]) <;> omega) | fail) only [pn, pq]) <;> omega) | fail) only [pn, pq]) <;> (intros; (try simp (disch := first | ((try simp (disch := first | ((try simp only [pn]) <;> omega) | fail) only [pn, pq]) <;> omega) | fail) only [pn, pq]) <;> omega)) (by (try simp (disch := first | ((try simp (disch := first | ((try simp only [pn]) <;> omega) | fail) only [pn, pq]) <;> omega) | fail) only [pn, pq]) <;> (intros; (try simp (disch := first | ((try simp (disch := first | ((try simp only [pn]) <;> omega) | fail) only [pn, pq]) <;> omega) | fail) only [pn, pq]) <;> omega)), ?_⟩
    have jr6 := K9g_beginning hJ (a1).toNatClampNeg
    try simp (disch := first | ((try simp (disch := first | ((try simp only [pn]) <;> omega) | fail) only [pn, pq]) <;> omega) | fail) only [pn, pq] at jr6
    unfold wp_X9_nodeOf_25
    refine ⟨fun n x1q12 x2q12 x3q12 => (x1q12 = a1) ∧ (x2q12 = ((b9g_beginning S) (a1).toNatClampNeg)) ∧ (0 ≤ (x3q12).toInt) ∧ n = (((b9g_nodeMany S)).toInt + 1 - (x3q12).toInt).toNat, ⟨_, rfl, rfl, (by (try simp (disch := first | ((try simp (disch := first | ((try simp only [pn]) <;> omega) | fail) only [pn, pq]) <;> omega) | fail) only [pn, pq]) <;> (intros; (try simp (disch := first | ((try simp (disch := first | ((try simp only [pn]) <;> omega) | fail) only [pn, pq]) <;> omega) | fail) only [pn, pq]) <;> omega)), rfl⟩, ?_⟩
    rintro n13 x1q12 x2q12 x3q12 ⟨hkq12_0, hkq12_1, hiq12_0, hn13⟩
    subst hkq12_0
    have hcq12_1 := congrArg Int32.toInt hkq12_1
    try simp (disch := first | ((try simp (disch := first | ((try simp only [pn]) <;> omega) | fail) only [pn, pq]) <;> omega) | fail) only [pn, pq] at hcq12_1
    have rgx1q12 := pt_rg x1q12
    have rgx2q12 := pt_rg x2q12
    have rgx3q12 := pt_rg x3q12
    unfold wp_X9_nodeOf_28b
    refine ⟨fun c14 => ?_, fun c14 => ?_⟩
    · try simp (disch := first | ((try simp (disch := first | ((try simp only [pn]) <;> omega) | fail) only [pn, pq]) <;> omega) | fail) only [pn, pq] at c14
      exact hq _ 
    · try simp (disch := first | ((try simp (disch := first | ((try simp only [pn]) <;> omega) | fail) only [pn, pq]) <;> omega) | fail) only [pn, pq] at c14
      refine ⟨pt_in (by (try simp (disch := first | ((try simp (disch := first | ((try simp only [pn]) <;> omega) | fail) only [pn, pq]) <;> omega) | fail) only [pn, pq]) <;> (intros; (try simp (disch := first | ((try simp (disch := first | ((try simp only [pn]) <;> omega) | fail) only [pn, pq]) <;> omega) | fail) only [pn, pq]) <;> omega)) (by (try simp (disch := first | ((try simp (disch := first | ((try simp only [pn]) <;> omega) | fail) only [pn, pq]) <;> omega) | fail) only [pn, pq]) <;> (intros; (try simp (disch := first | ((try simp (disch := first | ((try simp only [pn]) <;> omega) | fail) only [pn, pq]) <;> omega) | fail) only [pn, pq]) <;> omega)), ?_⟩
      have jr7 := ND_at (K9g_ND hJ) (x := x3q12) (by (try simp (disch := first | ((try simp (disch := first | ((try simp only [pn]) <;> omega) | fail) only [pn, pq]) <;> omega) | fail) only [pn, pq]) <;> (intros; (try simp (disch := first | ((try simp (disch := first | ((try simp only [pn]) <;> omega) | fail) only [pn, pq]) <;> omega) | fail) only [pn, pq]) <;> omega)) (by (try simp (disch := first | ((try simp (disch := first | ((try simp only [pn]) <;> omega) | fail) only [pn, pq]) <;> omega) | fail) only [pn, pq]) <;> (intros; (try simp (disch := first | ((try simp (disch := first | ((try simp only [pn]) <;> omega) | fail) only [pn, pq]) <;> omega) | fail) only [pn, pq]) <;> omega))
      try simp (disch := first | ((try simp (disch := first | ((try simp only [pn]) <;> omega) | fail) only [pn, pq]) <;> omega) | fail) only [pn, pq] at jr7
      refine ⟨fun c15 => ?_, fun c15 => ?_⟩
      · try simp (disch := first | ((try simp (disch := first | ((try simp only [pn]) <;> omega) | fail) only [pn, pq]) <;> omega) | fail) only [pn, pq] at c15
        unfold wp_X9_nodeOf_67
        refine ⟨_, ?_, ?_, ?_, ?_, rfl⟩
        · (try simp (disch := first | ((try simp (disch := first | ((try simp only [pn]) <;> omega) | fail) only [pn, pq]) <;> omega) | fail) only [pn, pq]) <;> (intros; (try simp (disch := first | ((try simp (disch := first | ((try simp only [pn]) <;> omega) | fail) only [pn, pq]) <;> omega) | fail) only [pn, pq]) <;> omega)
        · first | rfl | assumption
        · first | rfl | assumption
        · (try simp (disch := first | ((try simp (disch := first | ((try simp only [pn]) <;> omega) | fail) only [pn, pq]) <;> omega) | fail) only [pn, pq]) <;> (intros; (try simp (disch := first | ((try simp (disch := first | ((try simp only [pn]) <;> omega) | fail) only [pn, pq]) <;> omega) | fail) only [pn, pq]) <;> omega)
      · try simp (disch := first | ((try simp (disch := first | ((try simp only [pn]) <;> omega) | fail) only [pn, pq]) <;> omega) | fail) only [pn, pq] at c15
        refine ⟨pt_in (by (try simp (disch := first | ((try simp (disch := first | ((try simp only [pn]) <;> omega) | fail) only [pn, pq]) <;> omega) | fail) only [pn, pq]) <;> (intros; (try simp (disch := first | ((try simp (disch := first | ((try simp only [pn]) <;> omega) | fail) only [pn, pq]) <;> omega) | fail) only [pn, pq]) <;> omega)) (by (try simp (disch := first | ((try simp (disch := first | ((try simp only [pn]) <;> omega) | fail) only [pn, pq]) <;> omega) | fail) only [pn, pq]) <;> (intros; (try simp (disch := first | ((try simp (disch := first | ((try simp only [pn]) <;> omega) | fail) only [pn, pq]) <;> omega) | fail) only [pn, pq]) <;> omega)), ?_⟩
        have jr8 := ND_at (K9g_ND hJ) (x := x3q12) (by (try simp (disch := first | ((try simp (disch := first | ((try simp only [pn]) <;> omega) | fail) only [pn, pq]) <;> omega) | fail) only [pn, pq]) <;> (intros; (try simp (disch := first | ((try simp (disch := first | ((try simp only [pn]) <;> omega) | fail) only [pn, pq]) <;> omega) | fail) only [pn, pq]) <;> omega)) (by (try simp (disch := first | ((try simp (disch := first | ((try simp only [pn]) <;> omega) | fail) only [pn, pq]) <;> omega) | fail) only [pn, pq]) <;> (intros; (try simp (disch := first | ((try simp (disch := first | ((try simp only [pn]) <;> omega) | fail) only [pn, pq]) <;> omega) | fail) only [pn, pq]) <;> omega))
        try simp (disch := first | ((try simp (disch := first | ((try simp only [pn]) <;> omega) | fail) only [pn, pq]) <;> omega) | fail) only [pn, pq] at jr8
        refine ⟨fun c16 => ?_, fun c16 => ?_⟩
        · try simp (disch := first | ((try simp (disch := first | ((try simp only [pn]) <;> omega) | fail) only [pn, pq]) <;> omega) | fail) only [pn, pq] at c16
          unfold wp_X9_nodeOf_67
          refine ⟨_, ?_, ?_, ?_, ?_, rfl⟩
          · (try simp (disch := first | ((try simp (disch := first | ((try simp only [pn]) <;> omega) | fail) only [pn, pq]) <;> omega) | fail) only [pn, pq]) <;> (intros; (try simp (disch := first | ((try simp (disch := first | ((try simp only [pn]) <;> omega) | fail) only [pn, pq]) <;> omega) | fail) only [pn, pq]) <;> omega)
          · first | rfl | assumption
          · first | rfl | assumption
          · (try simp (disch := first | ((try simp (disch := first | ((try simp only [pn]) <;> omega) | fail) only [pn, pq]) <;> omega) | fail) only [pn, pq]) <;> (intros; (try simp (disch := first | ((try simp (disch := first | ((try simp only [pn]) <;> omega) | fail) only [pn, pq]) <;> omega) | fail) only [pn, pq]) <;> omega)
        · try simp (disch := first | ((try simp (disch := first | ((try simp only [pn]) <;> omega) | fail) only [pn, pq]) <;> omega) | fail) only [pn, pq] at c16
          refine sf_X9_lastOf hJ (by (try simp (disch := first | ((try simp (disch := first | ((try simp only [pn]) <;> omega) | fail) only [pn, pq]) <;> omega) | fail) only [pn, pq]) <;> (intros; (try simp (disch := first | ((try simp (disch := first | ((try simp only [pn]) <;> omega) | fail) only [pn, pq]) <;> omega) | fail) only [pn, pq]) <;> omega)) (by (try simp (disch := first | ((try simp (disch := first | ((try simp only [pn]) <;> omega) | fail) only [pn, pq]) <;> omega) | fail) only [pn, pq]) <;> (intros; (try simp (disch := first | ((try simp (disch := first | ((try simp only [pn]) <;> omega) | fail) only [pn, pq]) <;> omega) | fail) only [pn, pq]) <;> omega)) (fun r17 hr17_0 hr17_1 => ?_)
          have rgr17 := pt_rg r17
          try simp (disch := first | ((try simp (disch := first | ((try simp only [pn]) <;> omega) | fail) only [pn, pq]) <;> omega) | fail) only [pn, pq] at hr17_0
          try simp (disch := first | ((try simp (disch := first | ((try simp only [pn]) <;> omega) | fail) only [pn, pq]) <;> omega) | fail) only [pn, pq] at hr17_1
          refine ⟨fun c19 => ?_, fun c19 => ?_⟩
          · try simp (disch := first | ((try simp (disch := first | ((try simp only [pn]) <;> omega) | fail) only [pn, pq]) <;> omega) | fail) only [pn, pq] at c19
            unfold wp_X9_nodeOf_67
            refine ⟨_, ?_, ?_, ?_, ?_, rfl⟩
            · (try simp (disch := first | ((try simp (disch := first | ((try simp only [pn]) <;> omega) | fail) only [pn, pq]) <;> omega) | fail) only [pn, pq]) <;> (intros; (try simp (disch := first | ((try simp (disch := first | ((try simp only [pn]) <;> omega) | fail) only [pn, pq]) <;> omega) | fail) only [pn, pq]) <;> omega)
            · first | rfl | assumption
            · first | rfl | assumption
            · (try simp (disch := first | ((try simp (disch := first | ((try simp only [pn]) <;> omega) | fail) only [pn, pq]) <;> omega) | fail) only [pn, pq]) <;> (intros; (try simp (disch := first | ((try simp (disch := first | ((try simp only [pn]) <;> omega) | fail) only [pn, pq]) <;> omega) | fail) only [pn, pq]) <;> omega)
          · try simp (disch := first | ((try simp (disch := first | ((try simp only [pn]) <;> omega) | fail) only [pn, pq]) <;> omega) | fail) only [pn, pq] at c19
            exact hq _ 
def F_X9_leaf (S u : bT9) : Prop := (b9g_now u) = (b9g_now S) ∧ (b9g_keys u) = (b9g_keys S) ∧ (b9g_lengths u) = (b9g_lengths S) ∧ (b9g_drawn u) = (b9g_drawn S) ∧ (b9g_drawnLength u) = (b9g_drawnLength S) ∧ (b9g_tape u) = (b9g_tape S) ∧ (b9g_taped u) = (b9g_taped S) ∧ (b9g_names u) = (b9g_names S) ∧ (b9g_chosen u) = (b9g_chosen S) ∧ (b9g_lowKey u) = (b9g_lowKey S) ∧ (b9g_highKey u) = (b9g_highKey S) ∧ (b9g_lowLength u) = (b9g_lowLength S) ∧ (b9g_highLength u) = (b9g_highLength S) ∧ (b9g_fromKey u) = (b9g_fromKey S) ∧ (b9g_toKey u) = (b9g_toKey S) ∧ (b9g_fromLength u) = (b9g_fromLength S) ∧ (b9g_toLength u) = (b9g_toLength S) ∧ (b9g_ones u) = (b9g_ones S) ∧ (b9g_oneMany u) = (b9g_oneMany S) ∧ (b9g_rowLong u) = (b9g_rowLong S) ∧ (b9g_signs u) = (b9g_signs S) ∧ (b9g_signMany u) = (b9g_signMany S) ∧ (b9g_hasImage u) = (b9g_hasImage S) ∧ (b9g_images u) = (b9g_images S) ∧ (b9g_keyImages u) = (b9g_keyImages S) ∧ (b9g_lengthImages u) = (b9g_lengthImages S)
set_option maxRecDepth 20000 in
set_option maxHeartbeats 8000000 in
theorem sj_X9_leaf {S : bT9} (hJ : J9 S) {a1 : Int32} {a2 : Int32} {Q : Int32 → (bT9) → Prop} (hq : ∀ (r : Int32) (u : bT9), (J9 u) → F_X9_leaf S u → Q r u) : wp_X9_leaf S a1 a2 Q := by
  unfold wp_X9_leaf
  have hFS : F_X9_leaf S S := ⟨rfl, rfl, rfl, rfl, rfl, rfl, rfl, rfl, rfl, rfl, rfl, rfl, rfl, rfl, rfl, rfl, rfl, rfl, rfl, rfl, rfl, rfl, rfl, rfl, rfl, rfl⟩
  have jf1 : (-4 ≤ ((b9g_now S) 1).toInt ∧ ((b9g_now S) 1).toInt ≤ 4) ∧ (-3 ≤ ((b9g_now S) 4).toInt ∧ ((b9g_now S) 4).toInt ≤ 252) ∧ (0 ≤ ((b9g_now S) 8).toInt ∧ ((b9g_now S) 8).toInt ≤ 64) ∧ (0 ≤ ((b9g_now S) 9).toInt ∧ ((b9g_now S) 9).toInt ≤ 64) ∧ (0 ≤ ((b9g_now S) 10).toInt ∧ ((b9g_now S) 10).toInt ≤ 16) ∧ (0 ≤ ((b9g_now S) 12).toInt ∧ ((b9g_now S) 12).toInt ≤ 8) := J9g_now hJ
  have ju1_S := hJ.2.1
  have rga1 := pt_rg a1
  have rga2 := pt_rg a2
  intro S1 eS1
  have hJS1 : J9 S1 := by rw [eS1]; exact (J9s_told hJ)
  have hFS1 : F_X9_leaf S S1 := by rw [eS1]; exact hFS
  have je3 : ((b9g_now S1) 1).toInt = ((b9g_now S) 1).toInt := congrArg (fun z => (z 1).toInt) hFS1.1
  have je5 : ((b9g_now S1) 4).toInt = ((b9g_now S) 4).toInt := congrArg (fun z => (z 4).toInt) hFS1.1
  have je7 : ((b9g_now S1) 7).toInt = ((b9g_now S) 7).toInt := congrArg (fun z => (z 7).toInt) hFS1.1
  have je9 : ((b9g_now S1) 8).toInt = ((b9g_now S) 8).toInt := congrArg (fun z => (z 8).toInt) hFS1.1
  have je11 : ((b9g_now S1) 9).toInt = ((b9g_now S) 9).toInt := congrArg (fun z => (z 9).toInt) hFS1.1
  have je13 : ((b9g_now S1) 10).toInt = ((b9g_now S) 10).toInt := congrArg (fun z => (z 10).toInt) hFS1.1
  have je15 : ((b9g_now S1) 12).toInt = ((b9g_now S) 12).toInt := congrArg (fun z => (z 12).toInt) hFS1.1
  have ju15_S1 := hJS1.2.1
  refine sf_X9_isLeaf hJS1 (fun r2 u3 hJu3 hfu3 hzr2 hr2_0 hr2_1 => ?_)
  have hFu3 : F_X9_leaf S u3 := ⟨(congrArg (fun z => z) hfu3.2.1).trans hFS1.1, (congrArg (fun z => z) hfu3.2.2.1).trans hFS1.2.1, (congrArg (fun z => z) hfu3.2.2.2.1).trans hFS1.2.2.1, (congrArg (fun z => z) hfu3.2.2.2.2.1).trans hFS1.2.2.2.1, (congrArg (fun z => z) hfu3.2.2.2.2.2.1).trans hFS1.2.2.2.2.1, (congrArg (fun z => z) hfu3.2.2.2.2.2.2.1).trans hFS1.2.2.2.2.2.1, (congrArg (fun z => z) hfu3.2.2.2.2.2.2.2.1).trans hFS1.2.2.2.2.2.2.1, (congrArg (fun z => z) hfu3.2.2.2.2.2.2.2.2.1).trans hFS1.2.2.2.2.2.2.2.1, (congrArg (fun z => z) hfu3.2.2.2.2.2.2.2.2.2.1).trans hFS1.2.2.2.2.2.2.2.2.1, (congrArg (fun z => z) hfu3.2.2.2.2.2.2.2.2.2.2.2.2.2.2.2.2.2.2.2.2.2.2.2.2.2.1).trans hFS1.2.2.2.2.2.2.2.2.2.1, (congrArg (fun z => z) hfu3.2.2.2.2.2.2.2.2.2.2.2.2.2.2.2.2.2.2.2.2.2.2.2.2.2.2.1).trans hFS1.2.2.2.2.2.2.2.2.2.2.1, (congrArg (fun z => z) hfu3.2.2.2.2.2.2.2.2.2.2.2.2.2.2.2.2.2.2.2.2.2.2.2.2.2.2.2.1).trans hFS1.2.2.2.2.2.2.2.2.2.2.2.1, (congrArg (fun z => z) hfu3.2.2.2.2.2.2.2.2.2.2.2.2.2.2.2.2.2.2.2.2.2.2.2.2.2.2.2.2.1).trans hFS1.2.2.2.2.2.2.2.2.2.2.2.2.1, (congrArg (fun z => z) hfu3.2.2.2.2.2.2.2.2.2.2.2.2.2.2.2.2.2.2.2.2.2.2.2.2.2.2.2.2.2.1).trans hFS1.2.2.2.2.2.2.2.2.2.2.2.2.2.1, (congrArg (fun z => z) hfu3.2.2.2.2.2.2.2.2.2.2.2.2.2.2.2.2.2.2.2.2.2.2.2.2.2.2.2.2.2.2.1).trans hFS1.2.2.2.2.2.2.2.2.2.2.2.2.2.2.1, (congrArg (fun z => z) hfu3.2.2.2.2.2.2.2.2.2.2.2.2.2.2.2.2.2.2.2.2.2.2.2.2.2.2.2.2.2.2.2.1).trans hFS1.2.2.2.2.2.2.2.2.2.2.2.2.2.2.2.1, (congrArg (fun z => z) hfu3.2.2.2.2.2.2.2.2.2.2.2.2.2.2.2.2.2.2.2.2.2.2.2.2.2.2.2.2.2.2.2.2.1).trans hFS1.2.2.2.2.2.2.2.2.2.2.2.2.2.2.2.2.1, (congrArg (fun z => z) hfu3.2.2.2.2.2.2.2.2.2.2.2.2.2.2.2.2.2.2.2.2.2.2.2.2.2.2.2.2.2.2.2.2.2.1).trans hFS1.2.2.2.2.2.2.2.2.2.2.2.2.2.2.2.2.2.1, (congrArg (fun z => z) hfu3.2.2.2.2.2.2.2.2.2.2.2.2.2.2.2.2.2.2.2.2.2.2.2.2.2.2.2.2.2.2.2.2.2.2.1).trans hFS1.2.2.2.2.2.2.2.2.2.2.2.2.2.2.2.2.2.2.1, (congrArg (fun z => z) hfu3.2.2.2.2.2.2.2.2.2.2.2.2.2.2.2.2.2.2.2.2.2.2.2.2.2.2.2.2.2.2.2.2.2.2.2.1).trans hFS1.2.2.2.2.2.2.2.2.2.2.2.2.2.2.2.2.2.2.2.1, (congrArg (fun z => z) hfu3.2.2.2.2.2.2.2.2.2.2.2.2.2.2.2.2.2.2.2.2.2.2.2.2.2.2.2.2.2.2.2.2.2.2.2.2.2.1).trans hFS1.2.2.2.2.2.2.2.2.2.2.2.2.2.2.2.2.2.2.2.2.1, (congrArg (fun z => z) hfu3.2.2.2.2.2.2.2.2.2.2.2.2.2.2.2.2.2.2.2.2.2.2.2.2.2.2.2.2.2.2.2.2.2.2.2.2.2.2.1).trans hFS1.2.2.2.2.2.2.2.2.2.2.2.2.2.2.2.2.2.2.2.2.2.1, (congrArg (fun z => z) hfu3.2.2.2.2.2.2.2.2.2.2.2.2.2.2.2.2.2.2.2.2.2.2.2.2.2.2.2.2.2.2.2.2.2.2.2.2.2.2.2.1).trans hFS1.2.2.2.2.2.2.2.2.2.2.2.2.2.2.2.2.2.2.2.2.2.2.1, (congrArg (fun z => z) hfu3.2.2.2.2.2.2.2.2.2.2.2.2.2.2.2.2.2.2.2.2.2.2.2.2.2.2.2.2.2.2.2.2.2.2.2.2.2.2.2.2.1).trans hFS1.2.2.2.2.2.2.2.2.2.2.2.2.2.2.2.2.2.2.2.2.2.2.2.1, (congrArg (fun z => z) hfu3.2.2.2.2.2.2.2.2.2.2.2.2.2.2.2.2.2.2.2.2.2.2.2.2.2.2.2.2.2.2.2.2.2.2.2.2.2.2.2.2.2.1).trans hFS1.2.2.2.2.2.2.2.2.2.2.2.2.2.2.2.2.2.2.2.2.2.2.2.2.1, (congrArg (fun z => z) hfu3.2.2.2.2.2.2.2.2.2.2.2.2.2.2.2.2.2.2.2.2.2.2.2.2.2.2.2.2.2.2.2.2.2.2.2.2.2.2.2.2.2.2).trans hFS1.2.2.2.2.2.2.2.2.2.2.2.2.2.2.2.2.2.2.2.2.2.2.2.2.2⟩
  have je17 : ((b9g_now u3) 1).toInt = ((b9g_now S) 1).toInt := congrArg (fun z => (z 1).toInt) hFu3.1
  have je19 : ((b9g_now u3) 4).toInt = ((b9g_now S) 4).toInt := congrArg (fun z => (z 4).toInt) hFu3.1
  have je21 : ((b9g_now u3) 7).toInt = ((b9g_now S) 7).toInt := congrArg (fun z => (z 7).toInt) hFu3.1
  have je23 : ((b9g_now u3) 8).toInt = ((b9g_now S) 8).toInt := congrArg (fun z => (z 8).toInt) hFu3.1
  have je25 : ((b9g_now u3) 9).toInt = ((b9g_now S) 9).toInt := congrArg (fun z => (z 9).toInt) hFu3.1
  have je27 : ((b9g_now u3) 10).toInt = ((b9g_now S) 10).toInt := congrArg (fun z => (z 10).toInt) hFu3.1
  have je29 : ((b9g_now u3) 12).toInt = ((b9g_now S) 12).toInt := congrArg (fun z => (z 12).toInt) hFu3.1
  have ju29_u3 := hJu3.2.1
  try simp (disch := first | ((try simp (disch := first | ((try simp only [pn]) <;> omega) | fail) only [pn, pq]) <;> omega) | fail) only [pn, pq] at hr2_0
  try simp (disch := first | ((try simp (disch := first | ((try simp only [pn]) <;> omega) | fail) only [pn, pq]) <;> omega) | fail) only [pn, pq] at hr2_1
  refine ⟨fun c4 => ?_, fun c4 => ?_⟩
  · try simp (disch := first | ((try simp (disch := first | ((try simp only [pn]) <;> omega) | fail) only [pn, pq]) <;> omega) | fail) only [pn, pq] at c4
    refine sf_X9_laysNodes hJu3 (fun u6 hJu6 hfu6 hr5_0 => ?_)
    have hFu6 : F_X9_leaf S u6 := ⟨(congrArg (fun z => z) hfu6.2.1).trans hFu3.1, (congrArg (fun z => z) hfu6.2.2.1).trans hFu3.2.1, (congrArg (fun z => z) hfu6.2.2.2.1).trans hFu3.2.2.1, (congrArg (fun z => z) hfu6.2.2.2.2.1).trans hFu3.2.2.2.1, (congrArg (fun z => z) hfu6.2.2.2.2.2.1).trans hFu3.2.2.2.2.1, (congrArg (fun z => z) hfu6.2.2.2.2.2.2.1).trans hFu3.2.2.2.2.2.1, (congrArg (fun z => z) hfu6.2.2.2.2.2.2.2.1).trans hFu3.2.2.2.2.2.2.1, (congrArg (fun z => z) hfu6.2.2.2.2.2.2.2.2.1).trans hFu3.2.2.2.2.2.2.2.1, (congrArg (fun z => z) hfu6.2.2.2.2.2.2.2.2.2.1).trans hFu3.2.2.2.2.2.2.2.2.1, (congrArg (fun z => z) hfu6.2.2.2.2.2.2.2.2.2.2.1).trans hFu3.2.2.2.2.2.2.2.2.2.1, (congrArg (fun z => z) hfu6.2.2.2.2.2.2.2.2.2.2.2.1).trans hFu3.2.2.2.2.2.2.2.2.2.2.1, (congrArg (fun z => z) hfu6.2.2.2.2.2.2.2.2.2.2.2.2.1).trans hFu3.2.2.2.2.2.2.2.2.2.2.2.1, (congrArg (fun z => z) hfu6.2.2.2.2.2.2.2.2.2.2.2.2.2.1).trans hFu3.2.2.2.2.2.2.2.2.2.2.2.2.1, (congrArg (fun z => z) hfu6.2.2.2.2.2.2.2.2.2.2.2.2.2.2.1).trans hFu3.2.2.2.2.2.2.2.2.2.2.2.2.2.1, (congrArg (fun z => z) hfu6.2.2.2.2.2.2.2.2.2.2.2.2.2.2.2.1).trans hFu3.2.2.2.2.2.2.2.2.2.2.2.2.2.2.1, (congrArg (fun z => z) hfu6.2.2.2.2.2.2.2.2.2.2.2.2.2.2.2.2.1).trans hFu3.2.2.2.2.2.2.2.2.2.2.2.2.2.2.2.1, (congrArg (fun z => z) hfu6.2.2.2.2.2.2.2.2.2.2.2.2.2.2.2.2.2.1).trans hFu3.2.2.2.2.2.2.2.2.2.2.2.2.2.2.2.2.1, (congrArg (fun z => z) hfu6.2.2.2.2.2.2.2.2.2.2.2.2.2.2.2.2.2.2.1).trans hFu3.2.2.2.2.2.2.2.2.2.2.2.2.2.2.2.2.2.1, (congrArg (fun z => z) hfu6.2.2.2.2.2.2.2.2.2.2.2.2.2.2.2.2.2.2.2.1).trans hFu3.2.2.2.2.2.2.2.2.2.2.2.2.2.2.2.2.2.2.1, (congrArg (fun z => z) hfu6.2.2.2.2.2.2.2.2.2.2.2.2.2.2.2.2.2.2.2.2.1).trans hFu3.2.2.2.2.2.2.2.2.2.2.2.2.2.2.2.2.2.2.2.1, (congrArg (fun z => z) hfu6.2.2.2.2.2.2.2.2.2.2.2.2.2.2.2.2.2.2.2.2.2.1).trans hFu3.2.2.2.2.2.2.2.2.2.2.2.2.2.2.2.2.2.2.2.2.1, (congrArg (fun z => z) hfu6.2.2.2.2.2.2.2.2.2.2.2.2.2.2.2.2.2.2.2.2.2.2.1).trans hFu3.2.2.2.2.2.2.2.2.2.2.2.2.2.2.2.2.2.2.2.2.2.1, (congrArg (fun z => z) hfu6.2.2.2.2.2.2.2.2.2.2.2.2.2.2.2.2.2.2.2.2.2.2.2.1).trans hFu3.2.2.2.2.2.2.2.2.2.2.2.2.2.2.2.2.2.2.2.2.2.2.1, (congrArg (fun z => z) hfu6.2.2.2.2.2.2.2.2.2.2.2.2.2.2.2.2.2.2.2.2.2.2.2.2.1).trans hFu3.2.2.2.2.2.2.2.2.2.2.2.2.2.2.2.2.2.2.2.2.2.2.2.1, (congrArg (fun z => z) hfu6.2.2.2.2.2.2.2.2.2.2.2.2.2.2.2.2.2.2.2.2.2.2.2.2.2.1).trans hFu3.2.2.2.2.2.2.2.2.2.2.2.2.2.2.2.2.2.2.2.2.2.2.2.2.1, (congrArg (fun z => z) hfu6.2.2.2.2.2.2.2.2.2.2.2.2.2.2.2.2.2.2.2.2.2.2.2.2.2.2).trans hFu3.2.2.2.2.2.2.2.2.2.2.2.2.2.2.2.2.2.2.2.2.2.2.2.2.2⟩
    have je31 : ((b9g_now u6) 1).toInt = ((b9g_now S) 1).toInt := congrArg (fun z => (z 1).toInt) hFu6.1
    have je33 : ((b9g_now u6) 4).toInt = ((b9g_now S) 4).toInt := congrArg (fun z => (z 4).toInt) hFu6.1
    have je35 : ((b9g_now u6) 7).toInt = ((b9g_now S) 7).toInt := congrArg (fun z => (z 7).toInt) hFu6.1
    have je37 : ((b9g_now u6) 8).toInt = ((b9g_now S) 8).toInt := congrArg (fun z => (z 8).toInt) hFu6.1
    have je39 : ((b9g_now u6) 9).toInt = ((b9g_now S) 9).toInt := congrArg (fun z => (z 9).toInt) hFu6.1
    have je41 : ((b9g_now u6) 10).toInt = ((b9g_now S) 10).toInt := congrArg (fun z => (z 10).toInt) hFu6.1
    have je43 : ((b9g_now u6) 12).toInt = ((b9g_now S) 12).toInt := congrArg (fun z => (z 12).toInt) hFu6.1
    have ju43_u6 := hJu6.2.1
    refine ⟨fun c7 => ?_, fun c7 => ?_⟩
    · try simp (disch := first | ((try simp (disch := first | ((try simp only [pn]) <;> omega) | fail) only [pn, pq]) <;> omega) | fail) only [pn, pq] at c7
      refine ⟨fun c8 => ?_, fun c8 => ?_⟩
      · try simp (disch := first | ((try simp (disch := first | ((try simp only [pn]) <;> omega) | fail) only [pn, pq]) <;> omega) | fail) only [pn, pq] at c8
        refine ⟨fun c9 => ?_, fun c9 => ?_⟩
        · try simp (disch := first | ((try simp (disch := first | ((try simp only [pn]) <;> omega) | fail) only [pn, pq]) <;> omega) | fail) only [pn, pq] at c9
          refine ⟨fun c10 => ?_, fun c10 => ?_⟩
          · try simp (disch := first | ((try simp (disch := first | ((try simp only [pn]) <;> omega) | fail) only [pn, pq]) <;> omega) | fail) only [pn, pq] at c10
            refine ⟨fun c11 => ?_, fun c11 => ?_⟩
            · try simp (disch := first | ((try simp (disch := first | ((try simp only [pn]) <;> omega) | fail) only [pn, pq]) <;> omega) | fail) only [pn, pq] at c11
              refine ⟨fun c12 => ?_, fun c12 => ?_⟩
              · try simp (disch := first | ((try simp (disch := first | ((try simp only [pn]) <;> omega) | fail) only [pn, pq]) <;> omega) | fail) only [pn, pq] at c12
                refine ⟨fun c13 => ?_, fun c13 => ?_⟩
                · try simp (disch := first | ((try simp (disch := first | ((try simp only [pn]) <;> omega) | fail) only [pn, pq]) <;> omega) | fail) only [pn, pq] at c13
                  refine ⟨pt_in (by (try simp (disch := first | ((try simp (disch := first | ((try simp only [pn]) <;> omega) | fail) only [pn, pq]) <;> omega) | fail) only [pn, pq]) <;> (intros; (try simp (disch := first | ((try simp (disch := first | ((try simp only [pn]) <;> omega) | fail) only [pn, pq]) <;> omega) | fail) only [pn, pq]) <;> omega)) (by (try simp (disch := first | ((try simp (disch := first | ((try simp only [pn]) <;> omega) | fail) only [pn, pq]) <;> omega) | fail) only [pn, pq]) <;> (intros; (try simp (disch := first | ((try simp (disch := first | ((try simp only [pn]) <;> omega) | fail) only [pn, pq]) <;> omega) | fail) only [pn, pq]) <;> omega)), ?_⟩
                  have jr44 := J9g_beginning hJu6 (a1).toNatClampNeg
                  try simp (disch := first | ((try simp (disch := first | ((try simp only [pn]) <;> omega) | fail) only [pn, pq]) <;> omega) | fail) only [pn, pq] at jr44
                  refine sf_X9_isIn hJu6.1 (fun r14 hzr14 hr14_0 => ?_)
                  try simp (disch := first | ((try simp (disch := first | ((try simp only [pn]) <;> omega) | fail) only [pn, pq]) <;> omega) | fail) only [pn, pq] at hr14_0
                  refine ⟨fun c16 => ?_, fun c16 => ?_⟩
                  · try simp (disch := first | ((try simp (disch := first | ((try simp only [pn]) <;> omega) | fail) only [pn, pq]) <;> omega) | fail) only [pn, pq] at c16
                    exact hq _ _ hJu6 hFu6 
                  · try simp (disch := first | ((try simp (disch := first | ((try simp only [pn]) <;> omega) | fail) only [pn, pq]) <;> omega) | fail) only [pn, pq] at c16
                    refine sf_X9_key hJu6.1 (by (try simp (disch := first | ((try simp (disch := first | ((try simp only [pn]) <;> omega) | fail) only [pn, pq]) <;> omega) | fail) only [pn, pq]) <;> (intros; (try simp (disch := first | ((try simp (disch := first | ((try simp only [pn]) <;> omega) | fail) only [pn, pq]) <;> omega) | fail) only [pn, pq]) <;> omega)) (by (try simp (disch := first | ((try simp (disch := first | ((try simp only [pn]) <;> omega) | fail) only [pn, pq]) <;> omega) | fail) only [pn, pq]) <;> (intros; (try simp (disch := first | ((try simp (disch := first | ((try simp only [pn]) <;> omega) | fail) only [pn, pq]) <;> omega) | fail) only [pn, pq]) <;> omega)) (fun r17 hr17_0 => ?_)
                    try simp (disch := first | ((try simp (disch := first | ((try simp only [pn]) <;> omega) | fail) only [pn, pq]) <;> omega) | fail) only [pn, pq] at hr17_0
                    refine sf_X9_byteOf hJu6.1 (fun r19  => ?_)
                    have rgr19 := pt_rg r19
                    exact hq _ _ hJu6 hFu6 
                · try simp (disch := first | ((try simp (disch := first | ((try simp only [pn]) <;> omega) | fail) only [pn, pq]) <;> omega) | fail) only [pn, pq] at c13
                  refine ⟨pt_in (by (try simp (disch := first | ((try simp (disch := first | ((try simp only [pn]) <;> omega) | fail) only [pn, pq]) <;> omega) | fail) only [pn, pq]) <;> (intros; (try simp (disch := first | ((try simp (disch := first | ((try simp only [pn]) <;> omega) | fail) only [pn, pq]) <;> omega) | fail) only [pn, pq]) <;> omega)) (by (try simp (disch := first | ((try simp (disch := first | ((try simp only [pn]) <;> omega) | fail) only [pn, pq]) <;> omega) | fail) only [pn, pq]) <;> (intros; (try simp (disch := first | ((try simp (disch := first | ((try simp only [pn]) <;> omega) | fail) only [pn, pq]) <;> omega) | fail) only [pn, pq]) <;> omega)), ?_⟩
                  have jr45 := J9g_common hJu6 (a1).toNatClampNeg
                  try simp (disch := first | ((try simp (disch := first | ((try simp only [pn]) <;> omega) | fail) only [pn, pq]) <;> omega) | fail) only [pn, pq] at jr45
                  exact hq _ _ hJu6 hFu6 
              · try simp (disch := first | ((try simp (disch := first | ((try simp only [pn]) <;> omega) | fail) only [pn, pq]) <;> omega) | fail) only [pn, pq] at c12
                refine sf_X9_nodeOf hJu6.1 (by (try simp (disch := first | ((try simp (disch := first | ((try simp only [pn]) <;> omega) | fail) only [pn, pq]) <;> omega) | fail) only [pn, pq]) <;> (intros; (try simp (disch := first | ((try simp (disch := first | ((try simp only [pn]) <;> omega) | fail) only [pn, pq]) <;> omega) | fail) only [pn, pq]) <;> omega)) (by (try simp (disch := first | ((try simp (disch := first | ((try simp only [pn]) <;> omega) | fail) only [pn, pq]) <;> omega) | fail) only [pn, pq]) <;> (intros; (try simp (disch := first | ((try simp (disch := first | ((try simp only [pn]) <;> omega) | fail) only [pn, pq]) <;> omega) | fail) only [pn, pq]) <;> omega)) (fun r21  => ?_)
                have rgr21 := pt_rg r21
                exact hq _ _ hJu6 hFu6 
            · try simp (disch := first | ((try simp (disch := first | ((try simp only [pn]) <;> omega) | fail) only [pn, pq]) <;> omega) | fail) only [pn, pq] at c11
              refine ⟨pt_in (by (try simp (disch := first | ((try simp (disch := first | ((try simp only [pn]) <;> omega) | fail) only [pn, pq]) <;> omega) | fail) only [pn, pq]) <;> (intros; (try simp (disch := first | ((try simp (disch := first | ((try simp only [pn]) <;> omega) | fail) only [pn, pq]) <;> omega) | fail) only [pn, pq]) <;> omega)) (by (try simp (disch := first | ((try simp (disch := first | ((try simp only [pn]) <;> omega) | fail) only [pn, pq]) <;> omega) | fail) only [pn, pq]) <;> (intros; (try simp (disch := first | ((try simp (disch := first | ((try simp only [pn]) <;> omega) | fail) only [pn, pq]) <;> omega) | fail) only [pn, pq]) <;> omega)), ?_⟩
              exact hq _ _ hJu6 hFu6 
          · try simp (disch := first | ((try simp (disch := first | ((try simp only [pn]) <;> omega) | fail) only [pn, pq]) <;> omega) | fail) only [pn, pq] at c10
            refine sf_X9_key hJu6.1 (by (try simp (disch := first | ((try simp (disch := first | ((try simp only [pn]) <;> omega) | fail) only [pn, pq]) <;> omega) | fail) only [pn, pq]) <;> (intros; (try simp (disch := first | ((try simp (disch := first | ((try simp only [pn]) <;> omega) | fail) only [pn, pq]) <;> omega) | fail) only [pn, pq]) <;> omega)) (by (try simp (disch := first | ((try simp (disch := first | ((try simp only [pn]) <;> omega) | fail) only [pn, pq]) <;> omega) | fail) only [pn, pq]) <;> (intros; (try simp (disch := first | ((try simp (disch := first | ((try simp only [pn]) <;> omega) | fail) only [pn, pq]) <;> omega) | fail) only [pn, pq]) <;> omega)) (fun r23 hr23_0 => ?_)
            try simp (disch := first | ((try simp (disch := first | ((try simp only [pn]) <;> omega) | fail) only [pn, pq]) <;> omega) | fail) only [pn, pq] at hr23_0
            refine ⟨pt_in (by (try simp (disch := first | ((try simp (disch := first | ((try simp only [pn]) <;> omega) | fail) only [pn, pq]) <;> omega) | fail) only [pn, pq]) <;> (intros; (try simp (disch := first | ((try simp (disch := first | ((try simp only [pn]) <;> omega) | fail) only [pn, pq]) <;> omega) | fail) only [pn, pq]) <;> omega)) (by (try simp (disch := first | ((try simp (disch := first | ((try simp only [pn]) <;> omega) | fail) only [pn, pq]) <;> omega) | fail) only [pn, pq]) <;> (intros; (try simp (disch := first | ((try simp (disch := first | ((try simp only [pn]) <;> omega) | fail) only [pn, pq]) <;> omega) | fail) only [pn, pq]) <;> omega)), ?_⟩
            have jr47 := J9g_beginning hJu6 (a1).toNatClampNeg
            try simp (disch := first | ((try simp (disch := first | ((try simp only [pn]) <;> omega) | fail) only [pn, pq]) <;> omega) | fail) only [pn, pq] at jr47
            refine sf_X9_nextBits hJu6.1 (fun r25 hr25_0 hr25_1 hr25_2 => ?_)
            have rgr25 := pt_rg r25
            try simp (disch := first | ((try simp (disch := first | ((try simp only [pn]) <;> omega) | fail) only [pn, pq]) <;> omega) | fail) only [pn, pq] at hr25_0
            try simp (disch := first | ((try simp (disch := first | ((try simp only [pn]) <;> omega) | fail) only [pn, pq]) <;> omega) | fail) only [pn, pq] at hr25_1
            refine sf_X9_nextOf hJu6.1 (fun r27  => ?_)
            have rgr27 := pt_rg r27
            exact hq _ _ hJu6 hFu6 
        · try simp (disch := first | ((try simp (disch := first | ((try simp only [pn]) <;> omega) | fail) only [pn, pq]) <;> omega) | fail) only [pn, pq] at c9
          refine sf_X9_hashOf hJu6.1 (by (try simp (disch := first | ((try simp (disch := first | ((try simp only [pn]) <;> omega) | fail) only [pn, pq]) <;> omega) | fail) only [pn, pq]) <;> (intros; (try simp (disch := first | ((try simp (disch := first | ((try simp only [pn]) <;> omega) | fail) only [pn, pq]) <;> omega) | fail) only [pn, pq]) <;> omega)) (by (try simp (disch := first | ((try simp (disch := first | ((try simp only [pn]) <;> omega) | fail) only [pn, pq]) <;> omega) | fail) only [pn, pq]) <;> (intros; (try simp (disch := first | ((try simp (disch := first | ((try simp only [pn]) <;> omega) | fail) only [pn, pq]) <;> omega) | fail) only [pn, pq]) <;> omega)) (fun r29  => ?_)
          have rgr29 := pt_rg r29
          exact hq _ _ hJu6 hFu6 
      · try simp (disch := first | ((try simp (disch := first | ((try simp only [pn]) <;> omega) | fail) only [pn, pq]) <;> omega) | fail) only [pn, pq] at c8
        refine sf_X9_isEnded hJu6.1 (by (try simp (disch := first | ((try simp (disch := first | ((try simp only [pn]) <;> omega) | fail) only [pn, pq]) <;> omega) | fail) only [pn, pq]) <;> (intros; (try simp (disch := first | ((try simp (disch := first | ((try simp only [pn]) <;> omega) | fail) only [pn, pq]) <;> omega) | fail) only [pn, pq]) <;> omega)) (by (try simp (disch := first | ((try simp (disch := first | ((try simp only [pn]) <;> omega) | fail) only [pn, pq]) <;> omega) | fail) only [pn, pq]) <;> (intros; (try simp (disch := first | ((try simp (disch := first | ((try simp only [pn]) <;> omega) | fail) only [pn, pq]) <;> omega) | fail) only [pn, pq]) <;> omega)) (fun r31 hzr31  => ?_)
        refine ⟨fun c33 => ?_, fun c33 => ?_⟩
        · try simp (disch := first | ((try simp (disch := first | ((try simp only [pn]) <;> omega) | fail) only [pn, pq]) <;> omega) | fail) only [pn, pq] at c33
          exact hq _ _ hJu6 hFu6 
        · try simp (disch := first | ((try simp (disch := first | ((try simp only [pn]) <;> omega) | fail) only [pn, pq]) <;> omega) | fail) only [pn, pq] at c33
          exact hq _ _ hJu6 hFu6 
    · try simp (disch := first | ((try simp (disch := first | ((try simp only [pn]) <;> omega) | fail) only [pn, pq]) <;> omega) | fail) only [pn, pq] at c7
      refine ⟨pt_in (by (try simp (disch := first | ((try simp (disch := first | ((try simp only [pn]) <;> omega) | fail) only [pn, pq]) <;> omega) | fail) only [pn, pq]) <;> (intros; (try simp (disch := first | ((try simp (disch := first | ((try simp only [pn]) <;> omega) | fail) only [pn, pq]) <;> omega) | fail) only [pn, pq]) <;> omega)) (by (try simp (disch := first | ((try simp (disch := first | ((try simp only [pn]) <;> omega) | fail) only [pn, pq]) <;> omega) | fail) only [pn, pq]) <;> (intros; (try simp (disch := first | ((try simp (disch := first | ((try simp only [pn]) <;> omega) | fail) only [pn, pq]) <;> omega) | fail) only [pn, pq]) <;> omega)), ?_⟩
      have jr48 := J9g_beginning hJu6 (a1).toNatClampNeg
      try simp (disch := first | ((try simp (disch := first | ((try simp only [pn]) <;> omega) | fail) only [pn, pq]) <;> omega) | fail) only [pn, pq] at jr48
      exact hq _ _ hJu6 hFu6 
  · try simp (disch := first | ((try simp (disch := first | ((try simp only [pn]) <;> omega) | fail) only [pn, pq]) <;> omega) | fail) only [pn, pq] at c4
    exact hq _ _ hJu3 hFu3 
theorem sf_X9_leaf {S : bT9} (hJ : J9 S) {a1 : Int32} {a2 : Int32} {Q : Int32 → (bT9) → Prop} (hq : ∀ (r : Int32) (u : bT9), (J9 u) → F_X9_leaf S u → (TKP S u) → (T9P S → TDW S → ((0 ≤ a1.toInt ∧ a1.toInt < (b9g_now S 9).toInt) → LFV (n9 S) (C9 S) (P9 S) (fun j => b9g_keys S (64 + j)) (fun j => b9g_lengths S (64 + j)) (b9g_now S 16) (HBT (b9g_now S)) (NBT (b9g_now S)) a1.toInt.toNat a2 r) ∧ (¬ (0 ≤ a1.toInt ∧ a1.toInt < (b9g_now S 9).toInt) → r.toInt = -1)) → Q r u) : wp_X9_leaf S a1 a2 Q := by
  by_cases hyp : T9P S ∧ TDW S
  case neg => exact sj_X9_leaf hJ (fun r u h1 h2 => hq r u h1 h2 (fun a b => absurd ⟨a, b⟩ hyp) (fun a b => absurd ⟨a, b⟩ hyp))
  case pos =>
    obtain ⟨hP, hW⟩ := hyp
    unfold wp_X9_leaf
    intro S1 e1
    have hJ1 : J9 S1 := by rw [e1]; exact J9s_told hJ
    have hF1 : F_X9_leaf S S1 := by rw [e1]; exact ⟨rfl, rfl, rfl, rfl, rfl, rfl, rfl, rfl, rfl, rfl, rfl, rfl, rfl, rfl, rfl, rfl, rfl, rfl, rfl, rfl, rfl, rfl, rfl, rfl, rfl, rfl⟩
    refine sf_X9_isLeaf hJ1 (fun r2 u2 hJ2 hf2 _ h2 h2b => ?_)
    have hF2 : F_X9_leaf S u2 := ⟨(hf2.2.1).trans (hF1.1), (hf2.2.2.1).trans (hF1.2.1), (hf2.2.2.2.1).trans (hF1.2.2.1), (hf2.2.2.2.2.1).trans (hF1.2.2.2.1), (hf2.2.2.2.2.2.1).trans (hF1.2.2.2.2.1), (hf2.2.2.2.2.2.2.1).trans (hF1.2.2.2.2.2.1), (hf2.2.2.2.2.2.2.2.1).trans (hF1.2.2.2.2.2.2.1), (hf2.2.2.2.2.2.2.2.2.1).trans (hF1.2.2.2.2.2.2.2.1), (hf2.2.2.2.2.2.2.2.2.2.1).trans (hF1.2.2.2.2.2.2.2.2.1), (hf2.2.2.2.2.2.2.2.2.2.2.2.2.2.2.2.2.2.2.2.2.2.2.2.2.2.1).trans (hF1.2.2.2.2.2.2.2.2.2.1), (hf2.2.2.2.2.2.2.2.2.2.2.2.2.2.2.2.2.2.2.2.2.2.2.2.2.2.2.1).trans (hF1.2.2.2.2.2.2.2.2.2.2.1), (hf2.2.2.2.2.2.2.2.2.2.2.2.2.2.2.2.2.2.2.2.2.2.2.2.2.2.2.2.1).trans (hF1.2.2.2.2.2.2.2.2.2.2.2.1), (hf2.2.2.2.2.2.2.2.2.2.2.2.2.2.2.2.2.2.2.2.2.2.2.2.2.2.2.2.2.1).trans (hF1.2.2.2.2.2.2.2.2.2.2.2.2.1), (hf2.2.2.2.2.2.2.2.2.2.2.2.2.2.2.2.2.2.2.2.2.2.2.2.2.2.2.2.2.2.1).trans (hF1.2.2.2.2.2.2.2.2.2.2.2.2.2.1), (hf2.2.2.2.2.2.2.2.2.2.2.2.2.2.2.2.2.2.2.2.2.2.2.2.2.2.2.2.2.2.2.1).trans (hF1.2.2.2.2.2.2.2.2.2.2.2.2.2.2.1), (hf2.2.2.2.2.2.2.2.2.2.2.2.2.2.2.2.2.2.2.2.2.2.2.2.2.2.2.2.2.2.2.2.1).trans (hF1.2.2.2.2.2.2.2.2.2.2.2.2.2.2.2.1), (hf2.2.2.2.2.2.2.2.2.2.2.2.2.2.2.2.2.2.2.2.2.2.2.2.2.2.2.2.2.2.2.2.2.1).trans (hF1.2.2.2.2.2.2.2.2.2.2.2.2.2.2.2.2.1), (hf2.2.2.2.2.2.2.2.2.2.2.2.2.2.2.2.2.2.2.2.2.2.2.2.2.2.2.2.2.2.2.2.2.2.1).trans (hF1.2.2.2.2.2.2.2.2.2.2.2.2.2.2.2.2.2.1), (hf2.2.2.2.2.2.2.2.2.2.2.2.2.2.2.2.2.2.2.2.2.2.2.2.2.2.2.2.2.2.2.2.2.2.2.1).trans (hF1.2.2.2.2.2.2.2.2.2.2.2.2.2.2.2.2.2.2.1), (hf2.2.2.2.2.2.2.2.2.2.2.2.2.2.2.2.2.2.2.2.2.2.2.2.2.2.2.2.2.2.2.2.2.2.2.2.1).trans (hF1.2.2.2.2.2.2.2.2.2.2.2.2.2.2.2.2.2.2.2.1), (hf2.2.2.2.2.2.2.2.2.2.2.2.2.2.2.2.2.2.2.2.2.2.2.2.2.2.2.2.2.2.2.2.2.2.2.2.2.2.1).trans (hF1.2.2.2.2.2.2.2.2.2.2.2.2.2.2.2.2.2.2.2.2.1), (hf2.2.2.2.2.2.2.2.2.2.2.2.2.2.2.2.2.2.2.2.2.2.2.2.2.2.2.2.2.2.2.2.2.2.2.2.2.2.2.1).trans (hF1.2.2.2.2.2.2.2.2.2.2.2.2.2.2.2.2.2.2.2.2.2.1), (hf2.2.2.2.2.2.2.2.2.2.2.2.2.2.2.2.2.2.2.2.2.2.2.2.2.2.2.2.2.2.2.2.2.2.2.2.2.2.2.2.1).trans (hF1.2.2.2.2.2.2.2.2.2.2.2.2.2.2.2.2.2.2.2.2.2.2.1), (hf2.2.2.2.2.2.2.2.2.2.2.2.2.2.2.2.2.2.2.2.2.2.2.2.2.2.2.2.2.2.2.2.2.2.2.2.2.2.2.2.2.1).trans (hF1.2.2.2.2.2.2.2.2.2.2.2.2.2.2.2.2.2.2.2.2.2.2.2.1), (hf2.2.2.2.2.2.2.2.2.2.2.2.2.2.2.2.2.2.2.2.2.2.2.2.2.2.2.2.2.2.2.2.2.2.2.2.2.2.2.2.2.2.1).trans (hF1.2.2.2.2.2.2.2.2.2.2.2.2.2.2.2.2.2.2.2.2.2.2.2.2.1), (hf2.2.2.2.2.2.2.2.2.2.2.2.2.2.2.2.2.2.2.2.2.2.2.2.2.2.2.2.2.2.2.2.2.2.2.2.2.2.2.2.2.2.2).trans (hF1.2.2.2.2.2.2.2.2.2.2.2.2.2.2.2.2.2.2.2.2.2.2.2.2.2)⟩
    have n2 : b9g_now u2 = b9g_now S := hF2.1
    rw [n2] at h2 h2b
    have tf2 : TF9 u2 S1 := TF_isLeaf hf2
    have hW2 : TDW u2 := TDW_tf (by rw [e1]; exact hW) tf2
    have sm2 : SM9 u2 S := ⟨hF2.2.1, hF2.2.2.1, n2⟩
    have j9 := (J9g_now hJ).2.2.2.1
    refine ⟨fun c => ?_, fun c => hq _ _ hJ2 hF2 (fun _ _ => hW2) (fun _ _ => ⟨fun z => ?_, fun _ => rfl⟩)⟩
    · have c0 : ¬ r2.toInt = 0 := fun z => c (Int32.toInt_inj.mp z)
      refine sf_X9_laysNodes hJ2 (fun u3 hJ3 hf3 w3 => ?_)
      have hF3 : F_X9_leaf S u3 := ⟨(hf3.2.1).trans (hF2.1), (hf3.2.2.1).trans (hF2.2.1), (hf3.2.2.2.1).trans (hF2.2.2.1), (hf3.2.2.2.2.1).trans (hF2.2.2.2.1), (hf3.2.2.2.2.2.1).trans (hF2.2.2.2.2.1), (hf3.2.2.2.2.2.2.1).trans (hF2.2.2.2.2.2.1), (hf3.2.2.2.2.2.2.2.1).trans (hF2.2.2.2.2.2.2.1), (hf3.2.2.2.2.2.2.2.2.1).trans (hF2.2.2.2.2.2.2.2.1), (hf3.2.2.2.2.2.2.2.2.2.1).trans (hF2.2.2.2.2.2.2.2.2.1), (hf3.2.2.2.2.2.2.2.2.2.2.1).trans (hF2.2.2.2.2.2.2.2.2.2.1), (hf3.2.2.2.2.2.2.2.2.2.2.2.1).trans (hF2.2.2.2.2.2.2.2.2.2.2.1), (hf3.2.2.2.2.2.2.2.2.2.2.2.2.1).trans (hF2.2.2.2.2.2.2.2.2.2.2.2.1), (hf3.2.2.2.2.2.2.2.2.2.2.2.2.2.1).trans (hF2.2.2.2.2.2.2.2.2.2.2.2.2.1), (hf3.2.2.2.2.2.2.2.2.2.2.2.2.2.2.1).trans (hF2.2.2.2.2.2.2.2.2.2.2.2.2.2.1), (hf3.2.2.2.2.2.2.2.2.2.2.2.2.2.2.2.1).trans (hF2.2.2.2.2.2.2.2.2.2.2.2.2.2.2.1), (hf3.2.2.2.2.2.2.2.2.2.2.2.2.2.2.2.2.1).trans (hF2.2.2.2.2.2.2.2.2.2.2.2.2.2.2.2.1), (hf3.2.2.2.2.2.2.2.2.2.2.2.2.2.2.2.2.2.1).trans (hF2.2.2.2.2.2.2.2.2.2.2.2.2.2.2.2.2.1), (hf3.2.2.2.2.2.2.2.2.2.2.2.2.2.2.2.2.2.2.1).trans (hF2.2.2.2.2.2.2.2.2.2.2.2.2.2.2.2.2.2.1), (hf3.2.2.2.2.2.2.2.2.2.2.2.2.2.2.2.2.2.2.2.1).trans (hF2.2.2.2.2.2.2.2.2.2.2.2.2.2.2.2.2.2.2.1), (hf3.2.2.2.2.2.2.2.2.2.2.2.2.2.2.2.2.2.2.2.2.1).trans (hF2.2.2.2.2.2.2.2.2.2.2.2.2.2.2.2.2.2.2.2.1), (hf3.2.2.2.2.2.2.2.2.2.2.2.2.2.2.2.2.2.2.2.2.2.1).trans (hF2.2.2.2.2.2.2.2.2.2.2.2.2.2.2.2.2.2.2.2.2.1), (hf3.2.2.2.2.2.2.2.2.2.2.2.2.2.2.2.2.2.2.2.2.2.2.1).trans (hF2.2.2.2.2.2.2.2.2.2.2.2.2.2.2.2.2.2.2.2.2.2.1), (hf3.2.2.2.2.2.2.2.2.2.2.2.2.2.2.2.2.2.2.2.2.2.2.2.1).trans (hF2.2.2.2.2.2.2.2.2.2.2.2.2.2.2.2.2.2.2.2.2.2.2.1), (hf3.2.2.2.2.2.2.2.2.2.2.2.2.2.2.2.2.2.2.2.2.2.2.2.2.1).trans (hF2.2.2.2.2.2.2.2.2.2.2.2.2.2.2.2.2.2.2.2.2.2.2.2.1), (hf3.2.2.2.2.2.2.2.2.2.2.2.2.2.2.2.2.2.2.2.2.2.2.2.2.2.1).trans (hF2.2.2.2.2.2.2.2.2.2.2.2.2.2.2.2.2.2.2.2.2.2.2.2.2.1), (hf3.2.2.2.2.2.2.2.2.2.2.2.2.2.2.2.2.2.2.2.2.2.2.2.2.2.2).trans (hF2.2.2.2.2.2.2.2.2.2.2.2.2.2.2.2.2.2.2.2.2.2.2.2.2.2)⟩
      have n3 : b9g_now u3 = b9g_now S := hF3.1
      have sm : SM9 u3 S := ⟨hF3.2.1, hF3.2.2.1, n3⟩
      have w3' := w3 (T9P_same hP sm2) hW2
      obtain ⟨R, nV, k, lv, t1, t2, t3, t4, t5, t6, t7, t8, t9, t10⟩ := TD_use hJ3 hP sm w3'
      obtain ⟨q1, q2, q3, q4⟩ := SM9_n sm
      have en : ((n9 S : Nat) : Int) = (b9g_now S 9).toInt := by unfold n9; omega
      obtain ⟨i, ei⟩ : ∃ i : Nat, a1.toInt = (i : Int) := ⟨a1.toInt.toNat, by omega⟩
      have ein : a1.toInt.toNat = i := by omega
      have em : a1.toNatClampNeg = i := by
        show a1.toInt.toNat = i
        omega
      have hi : i < n9 S := by omega
      have G := R.1
      rw [q1, q2, q3, q4] at G
      have g64 := G.1
      have ai := G.2.1 i hi
      have bi := R.2.2 i (by rw [q1]; exact hi)
      rw [q2, q3] at bi
      have w1 : (64 * C9 S i + i) / 64 = C9 S i := gd1 _ (by omega)
      have w2 : (64 * C9 S i + i) % 64 = i := gd2 _ (by omega)
      have hL : IsL (n9 S) (C9 S) (64 * C9 S i + i) := (IsL_at (by omega)).mpr ⟨hi, rfl⟩
      have l0 : 0 ≤ LB (n9 S) (C9 S) (64 * C9 S i + i) := (CTP_rng _ _).1
      rw [q1, q2] at t10
      obtain ⟨p1, _⟩ := t10 (64 * C9 S i + i) (LB (n9 S) (C9 S) (64 * C9 S i + i)).toNat (by omega) hL (by omega)
      rw [w2] at p1
      have ll : (b9g_lengths S (64 + i)).toInt.toNat = L9 S i := rfl
      have lr := K9g_lengths hJ.1 (64 + i)
      have fin : ∀ r : Int32, LFV (n9 S) (C9 S) (P9 S) (fun j => b9g_keys S (64 + j)) (fun j => b9g_lengths S (64 + j)) (b9g_now S 16) (HBT (b9g_now S)) (NBT (b9g_now S)) i a2 r → Q r u3 := fun r b => hq r u3 hJ3 hF3 (fun _ _ => w3'.1) (fun _ _ => ⟨fun _ => by rw [ein]; exact b, fun z => absurd ⟨by omega, by omega⟩ z⟩)
      have ne : ∀ {m : Int32}, ¬ a2 = m → ¬ a2.toInt = m.toInt := fun h z => h (Int32.toInt_inj.mp z)
      rw [em]
      refine ⟨fun c0 => ⟨fun c1 => ⟨fun c2 => ⟨fun c3 => ⟨fun c4 => ⟨fun c5 => ⟨fun c6 => ⟨pt_in (by omega) (by omega), ?_⟩, fun c => ⟨pt_in (by omega) (by omega), fin _ ⟨?_, ?_, ?_, ?_, ?_, ?_, fun _ => bi.2, ?_, ?_⟩⟩⟩, fun c => fx9_nodeOf R nV ei (by rw [q1]; exact hi) (fun r hr => fin r ⟨?_, ?_, ?_, ?_, ?_, fun _ => by rw [q1, q2, q4] at hr; exact hr, ?_, ?_, ?_⟩)⟩, fun c => ⟨pt_in (by omega) (by omega), fin _ ⟨?_, ?_, ?_, ?_, fun _ => p1, ?_, ?_, ?_, ?_⟩⟩⟩, fun c => ?_⟩, fun c => ?_⟩, fun c => ?_⟩, fun c => ⟨pt_in (by omega) (by omega), fin _ ⟨fun _ => bi.1, ?_, ?_, ?_, ?_, ?_, ?_, ?_, ?_⟩⟩⟩
      all_goals first | (intro z; rw [c] at z; exact absurd z (by decide)) | (intro z; exfalso; have ce := congrArg Int32.toInt c; simp only [pn] at ce; omega) | skip
      · have e9 : ((9 : Int32) + b9g_beginning u3 i).toInt = 9 + ((min (C9 S i + 1) (L9 S i) : Nat) : Int) := by rw [pt_add (by show _ ≤ 9 + _; omega) (by show 9 + _ < _; omega), bi.1]; rfl
        have z0 := ne c0
        have z1 := ne c1
        have z2 := ne c2
        have z3 := ne c3
        have z4 := ne c4
        have z5 := ne c5
        have z6 := ne c6
        rw [pl_0] at z0
        rw [pl_1] at z1
        rw [pl_2] at z2
        rw [pl_3] at z3
        rw [pl_4] at z4
        rw [pl_5] at z5
        rw [pl_6] at z6
        refine sf_X9_isIn hJ3.1 (fun r6 _ h6 => ⟨fun d => fin _ ⟨fun z => absurd z z0, fun z => absurd z z1, fun z => absurd z z2, fun z => absurd z z3, fun z => absurd z z4, fun z => absurd z z5, fun z => absurd z z6, fun z => ?_, fun _ _ => rfl⟩, fun d => fx9_key (by omega) (by omega) (fx9_byteOf (fin _ ⟨fun z => absurd z z0, fun z => absurd z z1, fun z => absurd z z2, fun z => absurd z z3, fun z => absurd z z4, fun z => absurd z z5, fun z => absurd z z6, fun z => ?_, fun _ z => absurd ?_ z⟩))⟩)
        · have d0 : r6.toInt = 0 := by rw [d]; rfl
          rw [e9, pl_10] at h6
          have z' : 10 ≤ a2.toInt ∧ a2.toInt < 10 + ((min (C9 S i + 1) (L9 S i) : Nat) : Int) := z
          exfalso
          omega
        · rw [em, sm.1]
        · have d0 : ¬ r6.toInt = 0 := fun z => d (Int32.toInt_inj.mp z)
          rw [e9, pl_10] at h6
          show 10 ≤ a2.toInt ∧ a2.toInt < 10 + ((min (C9 S i + 1) (L9 S i) : Nat) : Int)
          omega
      · refine fx9_key (by omega) (by omega) ⟨pt_in (by omega) (by omega), fx9_nextBits ?_⟩
        rw [n3, em, sm.1]
        unfold wp_X9_nextOf
        have lI : b9g_beginning u3 i = nI (min (C9 S i + 1) (L9 S i)) := nI_ofN bi.1
        refine ⟨fun d => fx9_byteOf (fin _ ⟨?_, ?_, ?_, fun _ => ?_, ?_, ?_, ?_, ?_, ?_⟩), fun d => fin _ ⟨?_, ?_, ?_, fun _ => ?_, ?_, ?_, ?_, ?_, ?_⟩⟩
        all_goals first | (intro z; rw [c] at z; exact absurd z (by decide)) | (intro z; exfalso; have ce := congrArg Int32.toInt c; simp only [pn] at ce; omega) | skip
        · have d8 : ¬ (b9g_beginning u3 i).toInt = 8 := fun z => d (Int32.toInt_inj.mp z)
          unfold OC8
          show _ = (if (nI (min (C9 S i + 1) (L9 S i))).toInt ≤ 7 then _ else _) >>> _
          rw [← lI, if_pos (show (b9g_beginning u3 i).toInt ≤ 7 by omega)]
          rw [lI]
          rfl
        · unfold OC8
          show _ = (if (nI (min (C9 S i + 1) (L9 S i))).toInt ≤ 7 then _ else _) >>> _
          rw [← lI, d, if_neg (show ¬ ((8 : Int32)).toInt ≤ 7 by decide), i32_sh0]
      · unfold wp_X9_hashOf
        refine fx9_key (by omega) (by omega) (fx9_lengthOf (by omega) (by omega) (fx9_hashBits (sf_X9_hash hJ3.1 (fun r7 h7 => ?_))))
        rw [n3, em, sm.1, sm.2.1] at h7
        refine fin r7 ⟨?_, ?_, fun _ => h7 (by omega), ?_, ?_, ?_, ?_, ?_, ?_⟩
        all_goals first | (intro z; rw [c] at z; exact absurd z (by decide)) | (intro z; exfalso; have ce := congrArg Int32.toInt c; simp only [pn] at ce; omega)
      · unfold wp_X9_isEnded
        refine ⟨pt_in (by omega) (by omega), fx9_lengthOf (by omega) (by omega) ?_⟩
        rw [em, sm.2.1]
        refine ⟨fun d => ⟨rfl, fun _ => fin _ ⟨?_, fun _ => ⟨fun y => absurd ?_ d, fun _ => rfl⟩, ?_, ?_, ?_, ?_, ?_, ?_, ?_⟩, fun z => absurd rfl z⟩, fun d => ⟨rfl, fun z => absurd z (by decide), fun _ => fin _ ⟨?_, fun _ => ⟨fun _ => rfl, fun y => absurd ?_ y⟩, ?_, ?_, ?_, ?_, ?_, ?_, ?_⟩⟩⟩
        all_goals first | (intro z; rw [c] at z; exact absurd z (by decide)) | (intro z; exfalso; have ce := congrArg Int32.toInt c; simp only [pn] at ce; omega) | skip
        · refine Int32.toInt_inj.mp ?_
          have y' : C9 S i = (b9g_lengths S (64 + i)).toInt.toNat := y
          omega
        · have d2 := congrArg Int32.toInt d
          show C9 S i = (b9g_lengths S (64 + i)).toInt.toNat
          omega
    · have c0 : r2.toInt = 0 := by rw [c]; rfl
      have := h2b c0
      omega
def F_X9_leafAt (S u : bT9) : Prop := (b9g_now u) = (b9g_now S) ∧ (b9g_keys u) = (b9g_keys S) ∧ (b9g_lengths u) = (b9g_lengths S) ∧ (b9g_drawn u) = (b9g_drawn S) ∧ (b9g_drawnLength u) = (b9g_drawnLength S) ∧ (b9g_tape u) = (b9g_tape S) ∧ (b9g_taped u) = (b9g_taped S) ∧ (b9g_names u) = (b9g_names S) ∧ (b9g_chosen u) = (b9g_chosen S) ∧ (b9g_lowKey u) = (b9g_lowKey S) ∧ (b9g_highKey u) = (b9g_highKey S) ∧ (b9g_lowLength u) = (b9g_lowLength S) ∧ (b9g_highLength u) = (b9g_highLength S) ∧ (b9g_fromKey u) = (b9g_fromKey S) ∧ (b9g_toKey u) = (b9g_toKey S) ∧ (b9g_fromLength u) = (b9g_fromLength S) ∧ (b9g_toLength u) = (b9g_toLength S) ∧ (b9g_ones u) = (b9g_ones S) ∧ (b9g_oneMany u) = (b9g_oneMany S) ∧ (b9g_rowLong u) = (b9g_rowLong S) ∧ (b9g_signs u) = (b9g_signs S) ∧ (b9g_signMany u) = (b9g_signMany S) ∧ (b9g_hasImage u) = (b9g_hasImage S) ∧ (b9g_images u) = (b9g_images S) ∧ (b9g_keyImages u) = (b9g_keyImages S) ∧ (b9g_lengthImages u) = (b9g_lengthImages S)
theorem sf_X9_leafAt {S : bT9} (hJ : J9 S) {a1 : Int32} {Q : Int32 → (bT9) → Prop} (hq : ∀ (r : Int32) (u : bT9), (J9 u) → F_X9_leafAt S u → (TWW S u) → (T9P S → TDW S → ((0 ≤ a1.toInt ∧ a1.toInt < (b9g_now S 9).toInt) → LPL (n9 S) (C9 S) a1.toInt r.toInt) ∧ (¬ (0 ≤ a1.toInt ∧ a1.toInt < (b9g_now S 9).toInt) → r.toInt = -1)) → Q r u) : wp_X9_leafAt S a1 Q := by
  unfold wp_X9_leafAt
  intro S1 e1
  have hJ1 : J9 S1 := by rw [e1]; exact J9s_told hJ
  have hF1 : F_X9_leafAt S S1 := by rw [e1]; exact ⟨rfl, rfl, rfl, rfl, rfl, rfl, rfl, rfl, rfl, rfl, rfl, rfl, rfl, rfl, rfl, rfl, rfl, rfl, rfl, rfl, rfl, rfl, rfl, rfl, rfl, rfl⟩
  refine sf_X9_laysNodes hJ1 (fun u3 hJ3 hf3 w3 => ?_)
  have hF3 : F_X9_leafAt S u3 := ⟨(hf3.2.1).trans (hF1.1), (hf3.2.2.1).trans (hF1.2.1), (hf3.2.2.2.1).trans (hF1.2.2.1), (hf3.2.2.2.2.1).trans (hF1.2.2.2.1), (hf3.2.2.2.2.2.1).trans (hF1.2.2.2.2.1), (hf3.2.2.2.2.2.2.1).trans (hF1.2.2.2.2.2.1), (hf3.2.2.2.2.2.2.2.1).trans (hF1.2.2.2.2.2.2.1), (hf3.2.2.2.2.2.2.2.2.1).trans (hF1.2.2.2.2.2.2.2.1), (hf3.2.2.2.2.2.2.2.2.2.1).trans (hF1.2.2.2.2.2.2.2.2.1), (hf3.2.2.2.2.2.2.2.2.2.2.1).trans (hF1.2.2.2.2.2.2.2.2.2.1), (hf3.2.2.2.2.2.2.2.2.2.2.2.1).trans (hF1.2.2.2.2.2.2.2.2.2.2.1), (hf3.2.2.2.2.2.2.2.2.2.2.2.2.1).trans (hF1.2.2.2.2.2.2.2.2.2.2.2.1), (hf3.2.2.2.2.2.2.2.2.2.2.2.2.2.1).trans (hF1.2.2.2.2.2.2.2.2.2.2.2.2.1), (hf3.2.2.2.2.2.2.2.2.2.2.2.2.2.2.1).trans (hF1.2.2.2.2.2.2.2.2.2.2.2.2.2.1), (hf3.2.2.2.2.2.2.2.2.2.2.2.2.2.2.2.1).trans (hF1.2.2.2.2.2.2.2.2.2.2.2.2.2.2.1), (hf3.2.2.2.2.2.2.2.2.2.2.2.2.2.2.2.2.1).trans (hF1.2.2.2.2.2.2.2.2.2.2.2.2.2.2.2.1), (hf3.2.2.2.2.2.2.2.2.2.2.2.2.2.2.2.2.2.1).trans (hF1.2.2.2.2.2.2.2.2.2.2.2.2.2.2.2.2.1), (hf3.2.2.2.2.2.2.2.2.2.2.2.2.2.2.2.2.2.2.1).trans (hF1.2.2.2.2.2.2.2.2.2.2.2.2.2.2.2.2.2.1), (hf3.2.2.2.2.2.2.2.2.2.2.2.2.2.2.2.2.2.2.2.1).trans (hF1.2.2.2.2.2.2.2.2.2.2.2.2.2.2.2.2.2.2.1), (hf3.2.2.2.2.2.2.2.2.2.2.2.2.2.2.2.2.2.2.2.2.1).trans (hF1.2.2.2.2.2.2.2.2.2.2.2.2.2.2.2.2.2.2.2.1), (hf3.2.2.2.2.2.2.2.2.2.2.2.2.2.2.2.2.2.2.2.2.2.1).trans (hF1.2.2.2.2.2.2.2.2.2.2.2.2.2.2.2.2.2.2.2.2.1), (hf3.2.2.2.2.2.2.2.2.2.2.2.2.2.2.2.2.2.2.2.2.2.2.1).trans (hF1.2.2.2.2.2.2.2.2.2.2.2.2.2.2.2.2.2.2.2.2.2.1), (hf3.2.2.2.2.2.2.2.2.2.2.2.2.2.2.2.2.2.2.2.2.2.2.2.1).trans (hF1.2.2.2.2.2.2.2.2.2.2.2.2.2.2.2.2.2.2.2.2.2.2.1), (hf3.2.2.2.2.2.2.2.2.2.2.2.2.2.2.2.2.2.2.2.2.2.2.2.2.1).trans (hF1.2.2.2.2.2.2.2.2.2.2.2.2.2.2.2.2.2.2.2.2.2.2.2.1), (hf3.2.2.2.2.2.2.2.2.2.2.2.2.2.2.2.2.2.2.2.2.2.2.2.2.2.1).trans (hF1.2.2.2.2.2.2.2.2.2.2.2.2.2.2.2.2.2.2.2.2.2.2.2.2.1), (hf3.2.2.2.2.2.2.2.2.2.2.2.2.2.2.2.2.2.2.2.2.2.2.2.2.2.2).trans (hF1.2.2.2.2.2.2.2.2.2.2.2.2.2.2.2.2.2.2.2.2.2.2.2.2.2)⟩
  have tw3 : TWW S u3 := TWW_told e1 (TWW_lays w3)
  refine sf_X9_isLeaf hJ3 (fun r4 u5 hJ5 hf5 _ h4 h4b => ?_)
  have hF5 : F_X9_leafAt S u5 := ⟨(hf5.2.1).trans (hF3.1), (hf5.2.2.1).trans (hF3.2.1), (hf5.2.2.2.1).trans (hF3.2.2.1), (hf5.2.2.2.2.1).trans (hF3.2.2.2.1), (hf5.2.2.2.2.2.1).trans (hF3.2.2.2.2.1), (hf5.2.2.2.2.2.2.1).trans (hF3.2.2.2.2.2.1), (hf5.2.2.2.2.2.2.2.1).trans (hF3.2.2.2.2.2.2.1), (hf5.2.2.2.2.2.2.2.2.1).trans (hF3.2.2.2.2.2.2.2.1), (hf5.2.2.2.2.2.2.2.2.2.1).trans (hF3.2.2.2.2.2.2.2.2.1), (hf5.2.2.2.2.2.2.2.2.2.2.2.2.2.2.2.2.2.2.2.2.2.2.2.2.2.1).trans (hF3.2.2.2.2.2.2.2.2.2.1), (hf5.2.2.2.2.2.2.2.2.2.2.2.2.2.2.2.2.2.2.2.2.2.2.2.2.2.2.1).trans (hF3.2.2.2.2.2.2.2.2.2.2.1), (hf5.2.2.2.2.2.2.2.2.2.2.2.2.2.2.2.2.2.2.2.2.2.2.2.2.2.2.2.1).trans (hF3.2.2.2.2.2.2.2.2.2.2.2.1), (hf5.2.2.2.2.2.2.2.2.2.2.2.2.2.2.2.2.2.2.2.2.2.2.2.2.2.2.2.2.1).trans (hF3.2.2.2.2.2.2.2.2.2.2.2.2.1), (hf5.2.2.2.2.2.2.2.2.2.2.2.2.2.2.2.2.2.2.2.2.2.2.2.2.2.2.2.2.2.1).trans (hF3.2.2.2.2.2.2.2.2.2.2.2.2.2.1), (hf5.2.2.2.2.2.2.2.2.2.2.2.2.2.2.2.2.2.2.2.2.2.2.2.2.2.2.2.2.2.2.1).trans (hF3.2.2.2.2.2.2.2.2.2.2.2.2.2.2.1), (hf5.2.2.2.2.2.2.2.2.2.2.2.2.2.2.2.2.2.2.2.2.2.2.2.2.2.2.2.2.2.2.2.1).trans (hF3.2.2.2.2.2.2.2.2.2.2.2.2.2.2.2.1), (hf5.2.2.2.2.2.2.2.2.2.2.2.2.2.2.2.2.2.2.2.2.2.2.2.2.2.2.2.2.2.2.2.2.1).trans (hF3.2.2.2.2.2.2.2.2.2.2.2.2.2.2.2.2.1), (hf5.2.2.2.2.2.2.2.2.2.2.2.2.2.2.2.2.2.2.2.2.2.2.2.2.2.2.2.2.2.2.2.2.2.1).trans (hF3.2.2.2.2.2.2.2.2.2.2.2.2.2.2.2.2.2.1), (hf5.2.2.2.2.2.2.2.2.2.2.2.2.2.2.2.2.2.2.2.2.2.2.2.2.2.2.2.2.2.2.2.2.2.2.1).trans (hF3.2.2.2.2.2.2.2.2.2.2.2.2.2.2.2.2.2.2.1), (hf5.2.2.2.2.2.2.2.2.2.2.2.2.2.2.2.2.2.2.2.2.2.2.2.2.2.2.2.2.2.2.2.2.2.2.2.1).trans (hF3.2.2.2.2.2.2.2.2.2.2.2.2.2.2.2.2.2.2.2.1), (hf5.2.2.2.2.2.2.2.2.2.2.2.2.2.2.2.2.2.2.2.2.2.2.2.2.2.2.2.2.2.2.2.2.2.2.2.2.2.1).trans (hF3.2.2.2.2.2.2.2.2.2.2.2.2.2.2.2.2.2.2.2.2.1), (hf5.2.2.2.2.2.2.2.2.2.2.2.2.2.2.2.2.2.2.2.2.2.2.2.2.2.2.2.2.2.2.2.2.2.2.2.2.2.2.1).trans (hF3.2.2.2.2.2.2.2.2.2.2.2.2.2.2.2.2.2.2.2.2.2.1), (hf5.2.2.2.2.2.2.2.2.2.2.2.2.2.2.2.2.2.2.2.2.2.2.2.2.2.2.2.2.2.2.2.2.2.2.2.2.2.2.2.1).trans (hF3.2.2.2.2.2.2.2.2.2.2.2.2.2.2.2.2.2.2.2.2.2.2.1), (hf5.2.2.2.2.2.2.2.2.2.2.2.2.2.2.2.2.2.2.2.2.2.2.2.2.2.2.2.2.2.2.2.2.2.2.2.2.2.2.2.2.1).trans (hF3.2.2.2.2.2.2.2.2.2.2.2.2.2.2.2.2.2.2.2.2.2.2.2.1), (hf5.2.2.2.2.2.2.2.2.2.2.2.2.2.2.2.2.2.2.2.2.2.2.2.2.2.2.2.2.2.2.2.2.2.2.2.2.2.2.2.2.2.1).trans (hF3.2.2.2.2.2.2.2.2.2.2.2.2.2.2.2.2.2.2.2.2.2.2.2.2.1), (hf5.2.2.2.2.2.2.2.2.2.2.2.2.2.2.2.2.2.2.2.2.2.2.2.2.2.2.2.2.2.2.2.2.2.2.2.2.2.2.2.2.2.2).trans (hF3.2.2.2.2.2.2.2.2.2.2.2.2.2.2.2.2.2.2.2.2.2.2.2.2.2)⟩
  have tw5 : TWW S u5 := TWW_tf tw3 ⟨⟨hf5.2.2.1, hf5.2.2.2.1, hf5.2.1⟩, hf5.2.2.2.2.2.2.2.2.2.2.2.2.2.2.2.2.2.1, hf5.2.2.2.2.2.2.2.2.2.2.1, hf5.2.2.2.2.2.2.2.2.2.2.2.1, hf5.2.2.2.2.2.2.2.2.2.2.2.2.1, hf5.2.2.2.2.2.2.2.2.2.2.2.2.2.1, hf5.2.2.2.2.2.2.2.2.2.2.2.2.2.2.1, hf5.2.2.2.2.2.2.2.2.2.2.2.2.2.2.2.1, hf5.2.2.2.2.2.2.2.2.2.2.2.2.2.2.2.2.1, hf5.2.2.2.2.2.2.2.2.2.2.2.2.2.2.2.2.2.2.1, hf5.2.2.2.2.2.2.2.2.2.2.2.2.2.2.2.2.2.2.2.1, hf5.2.2.2.2.2.2.2.2.2.2.2.2.2.2.2.2.2.2.2.2.1, hf5.2.2.2.2.2.2.2.2.2.2.2.2.2.2.2.2.2.2.2.2.2.1, hf5.2.2.2.2.2.2.2.2.2.2.2.2.2.2.2.2.2.2.2.2.2.2.1, hf5.2.2.2.2.2.2.2.2.2.2.2.2.2.2.2.2.2.2.2.2.2.2.2.1, hf5.2.2.2.2.2.2.2.2.2.2.2.2.2.2.2.2.2.2.2.2.2.2.2.2.2.2.2.2.2.2.2.2.2.2.2.2.1, hf5.2.2.2.2.2.2.2.2.2.2.2.2.2.2.2.2.2.2.2.2.2.2.2.2.2.2.2.2.2.2.2.2.2.2.1, hf5.2.2.2.2.2.2.2.2.2.2.2.2.2.2.2.2.2.2.2.2.2.2.2.2.2.2.2.2.2.2.2.2.2.2.2.1, hf5.2.2.2.2.2.2.2.2.2.2.2.2.2.2.2.2.2.2.2.2.2.2.2.2.2.2.2.2.2.2.2.2.2.1⟩
  have n5 : b9g_now u5 = b9g_now S := hF5.1
  have sm : SM9 u5 S := ⟨hF5.2.1, hF5.2.2.1, n5⟩
  rw [n5] at h4 h4b
  have j9 := (J9g_now hJ).2.2.2.1
  refine ⟨fun c => hq _ _ hJ5 hF5 tw5 (fun _ _ => ⟨fun z => ?_, fun _ => rfl⟩), fun c => ?_⟩
  · have c0 : r4.toInt = 0 := by rw [c]; rfl
    have := h4b c0
    omega
  have c0 : ¬ r4.toInt = 0 := fun z => c (Int32.toInt_inj.mp z)
  refine ⟨pt_in (by omega) (by omega), hq _ _ hJ5 hF5 tw5 (fun hP hW => ⟨fun z => ?_, fun z => absurd (by omega) z⟩)⟩
  obtain ⟨h1, h2⟩ := tw5 hP hW
  obtain ⟨_, u, lv, _, _, _, _, _, _, _, _, _, hp⟩ := (h1 h2).1
  obtain ⟨q1, q2, q3, q4⟩ := SM9_n sm
  rw [q1, q2] at hp
  have G := GRD_of hP.1 hP.2.1 j9.2
  have en : ((n9 S : Nat) : Int) = (b9g_now S 9).toInt := by unfold n9; omega
  have lbn : LB (n9 S) (C9 S) 512 = (n9 S : Int) := LB_all _ G.1 (fun i hi => (G.2.1 i hi).2.2.2)
  obtain ⟨w, w1, w2, w3⟩ := CTP_inv (P := IsL (n9 S) (C9 S)) (e := a1.toInt) z.1 512 (by show a1.toInt < LB _ _ 512; omega)
  have w3' : LB (n9 S) (C9 S) w = a1.toInt := w3
  exact ⟨w, w1, w2, w3, (hp w a1.toInt.toNat w1 w2 (by omega)).2⟩
def F_X9_node (S u : bT9) : Prop := (b9g_now u) = (b9g_now S) ∧ (b9g_keys u) = (b9g_keys S) ∧ (b9g_lengths u) = (b9g_lengths S) ∧ (b9g_drawn u) = (b9g_drawn S) ∧ (b9g_drawnLength u) = (b9g_drawnLength S) ∧ (b9g_tape u) = (b9g_tape S) ∧ (b9g_taped u) = (b9g_taped S) ∧ (b9g_names u) = (b9g_names S) ∧ (b9g_chosen u) = (b9g_chosen S) ∧ (b9g_lowKey u) = (b9g_lowKey S) ∧ (b9g_highKey u) = (b9g_highKey S) ∧ (b9g_lowLength u) = (b9g_lowLength S) ∧ (b9g_highLength u) = (b9g_highLength S) ∧ (b9g_fromKey u) = (b9g_fromKey S) ∧ (b9g_toKey u) = (b9g_toKey S) ∧ (b9g_fromLength u) = (b9g_fromLength S) ∧ (b9g_toLength u) = (b9g_toLength S) ∧ (b9g_ones u) = (b9g_ones S) ∧ (b9g_oneMany u) = (b9g_oneMany S) ∧ (b9g_rowLong u) = (b9g_rowLong S) ∧ (b9g_signs u) = (b9g_signs S) ∧ (b9g_signMany u) = (b9g_signMany S) ∧ (b9g_hasImage u) = (b9g_hasImage S) ∧ (b9g_images u) = (b9g_images S) ∧ (b9g_keyImages u) = (b9g_keyImages S) ∧ (b9g_lengthImages u) = (b9g_lengthImages S)
set_option maxRecDepth 20000 in
set_option maxHeartbeats 8000000 in
theorem sj_X9_node {S : bT9} (hJ : J9 S) {a1 : Int32} {a2 : Int32} {Q : Int32 → (bT9) → Prop} (hq : ∀ (r : Int32) (u : bT9), (J9 u) → F_X9_node S u → Q r u) : wp_X9_node S a1 a2 Q := by
  unfold wp_X9_node
  have hFS : F_X9_node S S := ⟨rfl, rfl, rfl, rfl, rfl, rfl, rfl, rfl, rfl, rfl, rfl, rfl, rfl, rfl, rfl, rfl, rfl, rfl, rfl, rfl, rfl, rfl, rfl, rfl, rfl, rfl⟩
  have jf1 := J9g_upperNodes hJ
  have jf2 := J9g_nodeMany hJ
  have jf3 : (-4 ≤ ((b9g_now S) 1).toInt ∧ ((b9g_now S) 1).toInt ≤ 4) ∧ (-3 ≤ ((b9g_now S) 4).toInt ∧ ((b9g_now S) 4).toInt ≤ 252) ∧ (0 ≤ ((b9g_now S) 8).toInt ∧ ((b9g_now S) 8).toInt ≤ 64) ∧ (0 ≤ ((b9g_now S) 9).toInt ∧ ((b9g_now S) 9).toInt ≤ 64) ∧ (0 ≤ ((b9g_now S) 10).toInt ∧ ((b9g_now S) 10).toInt ≤ 16) ∧ (0 ≤ ((b9g_now S) 12).toInt ∧ ((b9g_now S) 12).toInt ≤ 8) := J9g_now hJ
  have ju3_S := hJ.2.1
  have rga1 := pt_rg a1
  have rga2 := pt_rg a2
  intro S1 eS1
  have hJS1 : J9 S1 := by rw [eS1]; exact (J9s_told hJ)
  have hFS1 : F_X9_node S S1 := by rw [eS1]; exact hFS
  have je4 : ((b9g_upperNodes S1)).toInt = ((b9g_upperNodes S)).toInt := by rw [eS1]
  have jf5 := J9g_upperNodes hJS1
  have je7 : ((b9g_now S1) 1).toInt = ((b9g_now S) 1).toInt := congrArg (fun z => (z 1).toInt) hFS1.1
  have je9 : ((b9g_now S1) 4).toInt = ((b9g_now S) 4).toInt := congrArg (fun z => (z 4).toInt) hFS1.1
  have je11 : ((b9g_now S1) 7).toInt = ((b9g_now S) 7).toInt := congrArg (fun z => (z 7).toInt) hFS1.1
  have je13 : ((b9g_now S1) 8).toInt = ((b9g_now S) 8).toInt := congrArg (fun z => (z 8).toInt) hFS1.1
  have je15 : ((b9g_now S1) 9).toInt = ((b9g_now S) 9).toInt := congrArg (fun z => (z 9).toInt) hFS1.1
  have je17 : ((b9g_now S1) 10).toInt = ((b9g_now S) 10).toInt := congrArg (fun z => (z 10).toInt) hFS1.1
  have je19 : ((b9g_now S1) 12).toInt = ((b9g_now S) 12).toInt := congrArg (fun z => (z 12).toInt) hFS1.1
  have je20 : ((b9g_nodeMany S1)).toInt = ((b9g_nodeMany S)).toInt := by rw [eS1]
  have jf21 := J9g_nodeMany hJS1
  have ju21_S1 := hJS1.2.1
  refine sf_X9_isNode hJS1 (fun r2 u3 hJu3 hfu3 hzr2 hr2_0 hr2_1 hr2_2 => ?_)
  have hFu3 : F_X9_node S u3 := ⟨(congrArg (fun z => z) hfu3.2.1).trans hFS1.1, (congrArg (fun z => z) hfu3.2.2.1).trans hFS1.2.1, (congrArg (fun z => z) hfu3.2.2.2.1).trans hFS1.2.2.1, (congrArg (fun z => z) hfu3.2.2.2.2.1).trans hFS1.2.2.2.1, (congrArg (fun z => z) hfu3.2.2.2.2.2.1).trans hFS1.2.2.2.2.1, (congrArg (fun z => z) hfu3.2.2.2.2.2.2.1).trans hFS1.2.2.2.2.2.1, (congrArg (fun z => z) hfu3.2.2.2.2.2.2.2.1).trans hFS1.2.2.2.2.2.2.1, (congrArg (fun z => z) hfu3.2.2.2.2.2.2.2.2.1).trans hFS1.2.2.2.2.2.2.2.1, (congrArg (fun z => z) hfu3.2.2.2.2.2.2.2.2.2.1).trans hFS1.2.2.2.2.2.2.2.2.1, (congrArg (fun z => z) hfu3.2.2.2.2.2.2.2.2.2.2.1).trans hFS1.2.2.2.2.2.2.2.2.2.1, (congrArg (fun z => z) hfu3.2.2.2.2.2.2.2.2.2.2.2.1).trans hFS1.2.2.2.2.2.2.2.2.2.2.1, (congrArg (fun z => z) hfu3.2.2.2.2.2.2.2.2.2.2.2.2.1).trans hFS1.2.2.2.2.2.2.2.2.2.2.2.1, (congrArg (fun z => z) hfu3.2.2.2.2.2.2.2.2.2.2.2.2.2.1).trans hFS1.2.2.2.2.2.2.2.2.2.2.2.2.1, (congrArg (fun z => z) hfu3.2.2.2.2.2.2.2.2.2.2.2.2.2.2.1).trans hFS1.2.2.2.2.2.2.2.2.2.2.2.2.2.1, (congrArg (fun z => z) hfu3.2.2.2.2.2.2.2.2.2.2.2.2.2.2.2.1).trans hFS1.2.2.2.2.2.2.2.2.2.2.2.2.2.2.1, (congrArg (fun z => z) hfu3.2.2.2.2.2.2.2.2.2.2.2.2.2.2.2.2.1).trans hFS1.2.2.2.2.2.2.2.2.2.2.2.2.2.2.2.1, (congrArg (fun z => z) hfu3.2.2.2.2.2.2.2.2.2.2.2.2.2.2.2.2.2.1).trans hFS1.2.2.2.2.2.2.2.2.2.2.2.2.2.2.2.2.1, (congrArg (fun z => z) hfu3.2.2.2.2.2.2.2.2.2.2.2.2.2.2.2.2.2.2.1).trans hFS1.2.2.2.2.2.2.2.2.2.2.2.2.2.2.2.2.2.1, (congrArg (fun z => z) hfu3.2.2.2.2.2.2.2.2.2.2.2.2.2.2.2.2.2.2.2.1).trans hFS1.2.2.2.2.2.2.2.2.2.2.2.2.2.2.2.2.2.2.1, (congrArg (fun z => z) hfu3.2.2.2.2.2.2.2.2.2.2.2.2.2.2.2.2.2.2.2.2.1).trans hFS1.2.2.2.2.2.2.2.2.2.2.2.2.2.2.2.2.2.2.2.1, (congrArg (fun z => z) hfu3.2.2.2.2.2.2.2.2.2.2.2.2.2.2.2.2.2.2.2.2.2.1).trans hFS1.2.2.2.2.2.2.2.2.2.2.2.2.2.2.2.2.2.2.2.2.1, (congrArg (fun z => z) hfu3.2.2.2.2.2.2.2.2.2.2.2.2.2.2.2.2.2.2.2.2.2.2.1).trans hFS1.2.2.2.2.2.2.2.2.2.2.2.2.2.2.2.2.2.2.2.2.2.1, (congrArg (fun z => z) hfu3.2.2.2.2.2.2.2.2.2.2.2.2.2.2.2.2.2.2.2.2.2.2.2.1).trans hFS1.2.2.2.2.2.2.2.2.2.2.2.2.2.2.2.2.2.2.2.2.2.2.1, (congrArg (fun z => z) hfu3.2.2.2.2.2.2.2.2.2.2.2.2.2.2.2.2.2.2.2.2.2.2.2.2.1).trans hFS1.2.2.2.2.2.2.2.2.2.2.2.2.2.2.2.2.2.2.2.2.2.2.2.1, (congrArg (fun z => z) hfu3.2.2.2.2.2.2.2.2.2.2.2.2.2.2.2.2.2.2.2.2.2.2.2.2.2.1).trans hFS1.2.2.2.2.2.2.2.2.2.2.2.2.2.2.2.2.2.2.2.2.2.2.2.2.1, (congrArg (fun z => z) hfu3.2.2.2.2.2.2.2.2.2.2.2.2.2.2.2.2.2.2.2.2.2.2.2.2.2.2).trans hFS1.2.2.2.2.2.2.2.2.2.2.2.2.2.2.2.2.2.2.2.2.2.2.2.2.2⟩
  have jf22 := J9g_upperNodes hJu3
  have je24 : ((b9g_now u3) 1).toInt = ((b9g_now S) 1).toInt := congrArg (fun z => (z 1).toInt) hFu3.1
  have je26 : ((b9g_now u3) 4).toInt = ((b9g_now S) 4).toInt := congrArg (fun z => (z 4).toInt) hFu3.1
  have je28 : ((b9g_now u3) 7).toInt = ((b9g_now S) 7).toInt := congrArg (fun z => (z 7).toInt) hFu3.1
  have je30 : ((b9g_now u3) 8).toInt = ((b9g_now S) 8).toInt := congrArg (fun z => (z 8).toInt) hFu3.1
  have je32 : ((b9g_now u3) 9).toInt = ((b9g_now S) 9).toInt := congrArg (fun z => (z 9).toInt) hFu3.1
  have je34 : ((b9g_now u3) 10).toInt = ((b9g_now S) 10).toInt := congrArg (fun z => (z 10).toInt) hFu3.1
  have je36 : ((b9g_now u3) 12).toInt = ((b9g_now S) 12).toInt := congrArg (fun z => (z 12).toInt) hFu3.1
  have jf37 := J9g_nodeMany hJu3
  have ju37_u3 := hJu3.2.1
  try simp (disch := first | ((try simp (disch := first | ((try simp only [pn]) <;> omega) | fail) only [pn, pq]) <;> omega) | fail) only [pn, pq] at hr2_0
  try simp (disch := first | ((try simp (disch := first | ((try simp only [pn]) <;> omega) | fail) only [pn, pq]) <;> omega) | fail) only [pn, pq] at hr2_2
  refine ⟨fun c4 => ?_, fun c4 => ?_⟩
  · try simp (disch := first | ((try simp (disch := first | ((try simp only [pn]) <;> omega) | fail) only [pn, pq]) <;> omega) | fail) only [pn, pq] at c4
    refine ⟨fun c5 => ?_, fun c5 => ?_⟩
    · try simp (disch := first | ((try simp (disch := first | ((try simp only [pn]) <;> omega) | fail) only [pn, pq]) <;> omega) | fail) only [pn, pq] at c5
      refine ⟨fun c6 => ?_, fun c6 => ?_⟩
      · try simp (disch := first | ((try simp (disch := first | ((try simp only [pn]) <;> omega) | fail) only [pn, pq]) <;> omega) | fail) only [pn, pq] at c6
        refine ⟨fun c7 => ?_, fun c7 => ?_⟩
        · try simp (disch := first | ((try simp (disch := first | ((try simp only [pn]) <;> omega) | fail) only [pn, pq]) <;> omega) | fail) only [pn, pq] at c7
          refine ⟨fun c8 => ?_, fun c8 => ?_⟩
          · try simp (disch := first | ((try simp (disch := first | ((try simp only [pn]) <;> omega) | fail) only [pn, pq]) <;> omega) | fail) only [pn, pq] at c8
            refine ⟨fun c9 => ?_, fun c9 => ?_⟩
            · try simp (disch := first | ((try simp (disch := first | ((try simp only [pn]) <;> omega) | fail) only [pn, pq]) <;> omega) | fail) only [pn, pq] at c9
              refine ⟨fun c10 => ?_, fun c10 => ?_⟩
              · try simp (disch := first | ((try simp (disch := first | ((try simp only [pn]) <;> omega) | fail) only [pn, pq]) <;> omega) | fail) only [pn, pq] at c10
                refine ⟨fun c11 => ?_, fun c11 => ?_⟩
                · try simp (disch := first | ((try simp (disch := first | ((try simp only [pn]) <;> omega) | fail) only [pn, pq]) <;> omega) | fail) only [pn, pq] at c11
                  exact hq _ _ hJu3 hFu3 
                · try simp (disch := first | ((try simp (disch := first | ((try simp only [pn]) <;> omega) | fail) only [pn, pq]) <;> omega) | fail) only [pn, pq] at c11
                  refine ⟨pt_in (by (try simp (disch := first | ((try simp (disch := first | ((try simp only [pn]) <;> omega) | fail) only [pn, pq]) <;> omega) | fail) only [pn, pq]) <;> (intros; (try simp (disch := first | ((try simp (disch := first | ((try simp only [pn]) <;> omega) | fail) only [pn, pq]) <;> omega) | fail) only [pn, pq]) <;> omega)) (by (try simp (disch := first | ((try simp (disch := first | ((try simp only [pn]) <;> omega) | fail) only [pn, pq]) <;> omega) | fail) only [pn, pq]) <;> (intros; (try simp (disch := first | ((try simp (disch := first | ((try simp only [pn]) <;> omega) | fail) only [pn, pq]) <;> omega) | fail) only [pn, pq]) <;> omega)), ?_⟩
                  have jr38 := ND_at (J9g_ND hJu3) (x := a1) (by (try simp (disch := first | ((try simp (disch := first | ((try simp only [pn]) <;> omega) | fail) only [pn, pq]) <;> omega) | fail) only [pn, pq]) <;> (intros; (try simp (disch := first | ((try simp (disch := first | ((try simp only [pn]) <;> omega) | fail) only [pn, pq]) <;> omega) | fail) only [pn, pq]) <;> omega)) (by (try simp (disch := first | ((try simp (disch := first | ((try simp only [pn]) <;> omega) | fail) only [pn, pq]) <;> omega) | fail) only [pn, pq]) <;> (intros; (try simp (disch := first | ((try simp (disch := first | ((try simp only [pn]) <;> omega) | fail) only [pn, pq]) <;> omega) | fail) only [pn, pq]) <;> omega))
                  try simp (disch := first | ((try simp (disch := first | ((try simp only [pn]) <;> omega) | fail) only [pn, pq]) <;> omega) | fail) only [pn, pq] at jr38
                  exact hq _ _ hJu3 hFu3 
              · try simp (disch := first | ((try simp (disch := first | ((try simp only [pn]) <;> omega) | fail) only [pn, pq]) <;> omega) | fail) only [pn, pq] at c10
                refine ⟨pt_in (by (try simp (disch := first | ((try simp (disch := first | ((try simp only [pn]) <;> omega) | fail) only [pn, pq]) <;> omega) | fail) only [pn, pq]) <;> (intros; (try simp (disch := first | ((try simp (disch := first | ((try simp only [pn]) <;> omega) | fail) only [pn, pq]) <;> omega) | fail) only [pn, pq]) <;> omega)) (by (try simp (disch := first | ((try simp (disch := first | ((try simp only [pn]) <;> omega) | fail) only [pn, pq]) <;> omega) | fail) only [pn, pq]) <;> (intros; (try simp (disch := first | ((try simp (disch := first | ((try simp only [pn]) <;> omega) | fail) only [pn, pq]) <;> omega) | fail) only [pn, pq]) <;> omega)), ?_⟩
                have jr39 := ND_at (J9g_ND hJu3) (x := a1) (by (try simp (disch := first | ((try simp (disch := first | ((try simp only [pn]) <;> omega) | fail) only [pn, pq]) <;> omega) | fail) only [pn, pq]) <;> (intros; (try simp (disch := first | ((try simp (disch := first | ((try simp only [pn]) <;> omega) | fail) only [pn, pq]) <;> omega) | fail) only [pn, pq]) <;> omega)) (by (try simp (disch := first | ((try simp (disch := first | ((try simp only [pn]) <;> omega) | fail) only [pn, pq]) <;> omega) | fail) only [pn, pq]) <;> (intros; (try simp (disch := first | ((try simp (disch := first | ((try simp only [pn]) <;> omega) | fail) only [pn, pq]) <;> omega) | fail) only [pn, pq]) <;> omega))
                try simp (disch := first | ((try simp (disch := first | ((try simp only [pn]) <;> omega) | fail) only [pn, pq]) <;> omega) | fail) only [pn, pq] at jr39
                exact hq _ _ hJu3 hFu3 
            · try simp (disch := first | ((try simp (disch := first | ((try simp only [pn]) <;> omega) | fail) only [pn, pq]) <;> omega) | fail) only [pn, pq] at c9
              refine ⟨fun c12 => ?_, fun c12 => ?_⟩
              · try simp (disch := first | ((try simp (disch := first | ((try simp only [pn]) <;> omega) | fail) only [pn, pq]) <;> omega) | fail) only [pn, pq] at c12
                exact hq _ _ hJu3 hFu3 
              · try simp (disch := first | ((try simp (disch := first | ((try simp only [pn]) <;> omega) | fail) only [pn, pq]) <;> omega) | fail) only [pn, pq] at c12
                exact hq _ _ hJu3 hFu3 
          · try simp (disch := first | ((try simp (disch := first | ((try simp only [pn]) <;> omega) | fail) only [pn, pq]) <;> omega) | fail) only [pn, pq] at c8
            refine sf_X9_isNodeEnd hJu3.1 (by (try simp (disch := first | ((try simp (disch := first | ((try simp only [pn]) <;> omega) | fail) only [pn, pq]) <;> omega) | fail) only [pn, pq]) <;> (intros; (try simp (disch := first | ((try simp (disch := first | ((try simp only [pn]) <;> omega) | fail) only [pn, pq]) <;> omega) | fail) only [pn, pq]) <;> omega)) (by (try simp (disch := first | ((try simp (disch := first | ((try simp only [pn]) <;> omega) | fail) only [pn, pq]) <;> omega) | fail) only [pn, pq]) <;> (intros; (try simp (disch := first | ((try simp (disch := first | ((try simp only [pn]) <;> omega) | fail) only [pn, pq]) <;> omega) | fail) only [pn, pq]) <;> omega)) (fun r13 hzr13 hr13_0 => ?_)
            try simp (disch := first | ((try simp (disch := first | ((try simp only [pn]) <;> omega) | fail) only [pn, pq]) <;> omega) | fail) only [pn, pq] at hr13_0
            refine ⟨fun c15 => ?_, fun c15 => ?_⟩
            · try simp (disch := first | ((try simp (disch := first | ((try simp only [pn]) <;> omega) | fail) only [pn, pq]) <;> omega) | fail) only [pn, pq] at c15
              exact hq _ _ hJu3 hFu3 
            · try simp (disch := first | ((try simp (disch := first | ((try simp only [pn]) <;> omega) | fail) only [pn, pq]) <;> omega) | fail) only [pn, pq] at c15
              exact hq _ _ hJu3 hFu3 
        · try simp (disch := first | ((try simp (disch := first | ((try simp only [pn]) <;> omega) | fail) only [pn, pq]) <;> omega) | fail) only [pn, pq] at c7
          refine sf_X9_kidMany hJu3.1 (by (try simp (disch := first | ((try simp (disch := first | ((try simp only [pn]) <;> omega) | fail) only [pn, pq]) <;> omega) | fail) only [pn, pq]) <;> (intros; (try simp (disch := first | ((try simp (disch := first | ((try simp only [pn]) <;> omega) | fail) only [pn, pq]) <;> omega) | fail) only [pn, pq]) <;> omega)) (by (try simp (disch := first | ((try simp (disch := first | ((try simp only [pn]) <;> omega) | fail) only [pn, pq]) <;> omega) | fail) only [pn, pq]) <;> (intros; (try simp (disch := first | ((try simp (disch := first | ((try simp only [pn]) <;> omega) | fail) only [pn, pq]) <;> omega) | fail) only [pn, pq]) <;> omega)) (fun r16 hr16_0 hr16_1 hr16_2 => ?_)
          have rgr16 := pt_rg r16
          try simp (disch := first | ((try simp (disch := first | ((try simp only [pn]) <;> omega) | fail) only [pn, pq]) <;> omega) | fail) only [pn, pq] at hr16_0
          try simp (disch := first | ((try simp (disch := first | ((try simp only [pn]) <;> omega) | fail) only [pn, pq]) <;> omega) | fail) only [pn, pq] at hr16_1
          try simp (disch := first | ((try simp (disch := first | ((try simp only [pn]) <;> omega) | fail) only [pn, pq]) <;> omega) | fail) only [pn, pq] at hr16_2
          exact hq _ _ hJu3 hFu3 
      · try simp (disch := first | ((try simp (disch := first | ((try simp only [pn]) <;> omega) | fail) only [pn, pq]) <;> omega) | fail) only [pn, pq] at c6
        refine sf_X9_branchMany hJu3.1 (by (try simp (disch := first | ((try simp (disch := first | ((try simp only [pn]) <;> omega) | fail) only [pn, pq]) <;> omega) | fail) only [pn, pq]) <;> (intros; (try simp (disch := first | ((try simp (disch := first | ((try simp only [pn]) <;> omega) | fail) only [pn, pq]) <;> omega) | fail) only [pn, pq]) <;> omega)) (by (try simp (disch := first | ((try simp (disch := first | ((try simp only [pn]) <;> omega) | fail) only [pn, pq]) <;> omega) | fail) only [pn, pq]) <;> (intros; (try simp (disch := first | ((try simp (disch := first | ((try simp only [pn]) <;> omega) | fail) only [pn, pq]) <;> omega) | fail) only [pn, pq]) <;> omega)) (fun r18 hr18_0 hr18_1 hr18_2 => ?_)
        have rgr18 := pt_rg r18
        try simp (disch := first | ((try simp (disch := first | ((try simp only [pn]) <;> omega) | fail) only [pn, pq]) <;> omega) | fail) only [pn, pq] at hr18_0
        try simp (disch := first | ((try simp (disch := first | ((try simp only [pn]) <;> omega) | fail) only [pn, pq]) <;> omega) | fail) only [pn, pq] at hr18_1
        try simp (disch := first | ((try simp (disch := first | ((try simp only [pn]) <;> omega) | fail) only [pn, pq]) <;> omega) | fail) only [pn, pq] at hr18_2
        exact hq _ _ hJu3 hFu3 
    · try simp (disch := first | ((try simp (disch := first | ((try simp only [pn]) <;> omega) | fail) only [pn, pq]) <;> omega) | fail) only [pn, pq] at c5
      refine ⟨pt_in (by (try simp (disch := first | ((try simp (disch := first | ((try simp only [pn]) <;> omega) | fail) only [pn, pq]) <;> omega) | fail) only [pn, pq]) <;> (intros; (try simp (disch := first | ((try simp (disch := first | ((try simp only [pn]) <;> omega) | fail) only [pn, pq]) <;> omega) | fail) only [pn, pq]) <;> omega)) (by (try simp (disch := first | ((try simp (disch := first | ((try simp only [pn]) <;> omega) | fail) only [pn, pq]) <;> omega) | fail) only [pn, pq]) <;> (intros; (try simp (disch := first | ((try simp (disch := first | ((try simp only [pn]) <;> omega) | fail) only [pn, pq]) <;> omega) | fail) only [pn, pq]) <;> omega)), ?_⟩
      have jr40 := ND_at (J9g_ND hJu3) (x := a1) (by (try simp (disch := first | ((try simp (disch := first | ((try simp only [pn]) <;> omega) | fail) only [pn, pq]) <;> omega) | fail) only [pn, pq]) <;> (intros; (try simp (disch := first | ((try simp (disch := first | ((try simp only [pn]) <;> omega) | fail) only [pn, pq]) <;> omega) | fail) only [pn, pq]) <;> omega)) (by (try simp (disch := first | ((try simp (disch := first | ((try simp only [pn]) <;> omega) | fail) only [pn, pq]) <;> omega) | fail) only [pn, pq]) <;> (intros; (try simp (disch := first | ((try simp (disch := first | ((try simp only [pn]) <;> omega) | fail) only [pn, pq]) <;> omega) | fail) only [pn, pq]) <;> omega))
      try simp (disch := first | ((try simp (disch := first | ((try simp only [pn]) <;> omega) | fail) only [pn, pq]) <;> omega) | fail) only [pn, pq] at jr40
      exact hq _ _ hJu3 hFu3 
  · try simp (disch := first | ((try simp (disch := first | ((try simp only [pn]) <;> omega) | fail) only [pn, pq]) <;> omega) | fail) only [pn, pq] at c4
    exact hq _ _ hJu3 hFu3 
theorem sf_X9_node {S : bT9} (hJ : J9 S) {a1 : Int32} {a2 : Int32} {Q : Int32 → (bT9) → Prop} (hq : ∀ (r : Int32) (u : bT9), (J9 u) → F_X9_node S u → (TWW S u) → (T9P S → TDW S → ∃ k lv : Nat, UPD S k lv ∧ ((0 ≤ a1.toInt ∧ a1.toInt < NB (n9 S) (C9 S) (P9 S) 512) → NDV (n9 S) (C9 S) (L9 S) (P9 S) (NB (n9 S) (C9 S) (P9 S) (64 * k)) a1.toInt a2.toInt r.toInt) ∧ (¬ (0 ≤ a1.toInt ∧ a1.toInt < NB (n9 S) (C9 S) (P9 S) 512) → r.toInt = -1)) → Q r u) : wp_X9_node S a1 a2 Q := by
  by_cases hyp : T9P S ∧ TDW S
  case neg => exact sj_X9_node hJ (fun r u h1 h2 => hq r u h1 h2 (fun a b => absurd ⟨a, b⟩ hyp) (fun a b => absurd ⟨a, b⟩ hyp))
  case pos =>
    obtain ⟨hP, hW⟩ := hyp
    unfold wp_X9_node
    intro S1 e1
    have hJ1 : J9 S1 := by rw [e1]; exact J9s_told hJ
    have hF1 : F_X9_node S S1 := by rw [e1]; exact ⟨rfl, rfl, rfl, rfl, rfl, rfl, rfl, rfl, rfl, rfl, rfl, rfl, rfl, rfl, rfl, rfl, rfl, rfl, rfl, rfl, rfl, rfl, rfl, rfl, rfl, rfl⟩
    refine sf_X9_isNode hJ1 (fun r2 u3 hJ3 hf3 _ h2 w3 h2b => ?_)
    have hF3 : F_X9_node S u3 := ⟨(hf3.2.1).trans (hF1.1), (hf3.2.2.1).trans (hF1.2.1), (hf3.2.2.2.1).trans (hF1.2.2.1), (hf3.2.2.2.2.1).trans (hF1.2.2.2.1), (hf3.2.2.2.2.2.1).trans (hF1.2.2.2.2.1), (hf3.2.2.2.2.2.2.1).trans (hF1.2.2.2.2.2.1), (hf3.2.2.2.2.2.2.2.1).trans (hF1.2.2.2.2.2.2.1), (hf3.2.2.2.2.2.2.2.2.1).trans (hF1.2.2.2.2.2.2.2.1), (hf3.2.2.2.2.2.2.2.2.2.1).trans (hF1.2.2.2.2.2.2.2.2.1), (hf3.2.2.2.2.2.2.2.2.2.2.1).trans (hF1.2.2.2.2.2.2.2.2.2.1), (hf3.2.2.2.2.2.2.2.2.2.2.2.1).trans (hF1.2.2.2.2.2.2.2.2.2.2.1), (hf3.2.2.2.2.2.2.2.2.2.2.2.2.1).trans (hF1.2.2.2.2.2.2.2.2.2.2.2.1), (hf3.2.2.2.2.2.2.2.2.2.2.2.2.2.1).trans (hF1.2.2.2.2.2.2.2.2.2.2.2.2.1), (hf3.2.2.2.2.2.2.2.2.2.2.2.2.2.2.1).trans (hF1.2.2.2.2.2.2.2.2.2.2.2.2.2.1), (hf3.2.2.2.2.2.2.2.2.2.2.2.2.2.2.2.1).trans (hF1.2.2.2.2.2.2.2.2.2.2.2.2.2.2.1), (hf3.2.2.2.2.2.2.2.2.2.2.2.2.2.2.2.2.1).trans (hF1.2.2.2.2.2.2.2.2.2.2.2.2.2.2.2.1), (hf3.2.2.2.2.2.2.2.2.2.2.2.2.2.2.2.2.2.1).trans (hF1.2.2.2.2.2.2.2.2.2.2.2.2.2.2.2.2.1), (hf3.2.2.2.2.2.2.2.2.2.2.2.2.2.2.2.2.2.2.1).trans (hF1.2.2.2.2.2.2.2.2.2.2.2.2.2.2.2.2.2.1), (hf3.2.2.2.2.2.2.2.2.2.2.2.2.2.2.2.2.2.2.2.1).trans (hF1.2.2.2.2.2.2.2.2.2.2.2.2.2.2.2.2.2.2.1), (hf3.2.2.2.2.2.2.2.2.2.2.2.2.2.2.2.2.2.2.2.2.1).trans (hF1.2.2.2.2.2.2.2.2.2.2.2.2.2.2.2.2.2.2.2.1), (hf3.2.2.2.2.2.2.2.2.2.2.2.2.2.2.2.2.2.2.2.2.2.1).trans (hF1.2.2.2.2.2.2.2.2.2.2.2.2.2.2.2.2.2.2.2.2.1), (hf3.2.2.2.2.2.2.2.2.2.2.2.2.2.2.2.2.2.2.2.2.2.2.1).trans (hF1.2.2.2.2.2.2.2.2.2.2.2.2.2.2.2.2.2.2.2.2.2.1), (hf3.2.2.2.2.2.2.2.2.2.2.2.2.2.2.2.2.2.2.2.2.2.2.2.1).trans (hF1.2.2.2.2.2.2.2.2.2.2.2.2.2.2.2.2.2.2.2.2.2.2.1), (hf3.2.2.2.2.2.2.2.2.2.2.2.2.2.2.2.2.2.2.2.2.2.2.2.2.1).trans (hF1.2.2.2.2.2.2.2.2.2.2.2.2.2.2.2.2.2.2.2.2.2.2.2.1), (hf3.2.2.2.2.2.2.2.2.2.2.2.2.2.2.2.2.2.2.2.2.2.2.2.2.2.1).trans (hF1.2.2.2.2.2.2.2.2.2.2.2.2.2.2.2.2.2.2.2.2.2.2.2.2.1), (hf3.2.2.2.2.2.2.2.2.2.2.2.2.2.2.2.2.2.2.2.2.2.2.2.2.2.2).trans (hF1.2.2.2.2.2.2.2.2.2.2.2.2.2.2.2.2.2.2.2.2.2.2.2.2.2)⟩
    have n3 : b9g_now u3 = b9g_now S := hF3.1
    have sm : SM9 u3 S := ⟨hF3.2.1, hF3.2.2.1, n3⟩
    have w3' := w3 (by rw [e1]; exact hP) (by rw [e1]; exact hW)
    obtain ⟨R, nV, k, lv, t1, t2, t3, t4, t5, t6, t7, _⟩ := TD_use hJ3 hP sm w3'
    obtain ⟨q1, q2, q3, q4⟩ := SM9_n sm
    have tw : TWW S u3 := fun _ _ => ⟨w3'.1, w3'.2.1⟩
    have up : UPD S k lv := by
      unfold UPD
      rw [q1, q2, q4] at t3 t6
      rw [n3] at t6
      exact ⟨t3, t2, t5, t6⟩
    have hm := nV.1
    rw [q1, q2, q4] at hm t7
    refine ⟨fun c => ?_, fun c => hq _ _ hJ3 hF3 tw (fun _ _ => ⟨k, lv, up, fun z => ?_, fun _ => rfl⟩)⟩
    · have c0 : ¬ r2.toInt = 0 := fun z => c (Int32.toInt_inj.mp z)
      have hin : 0 ≤ a1.toInt ∧ a1.toInt < (b9g_nodeMany u3).toInt := by omega
      obtain ⟨x, ex⟩ : ∃ x : Nat, a1.toInt = (x : Int) := ⟨a1.toInt.toNat, by omega⟩
      obtain ⟨l, s, e, ha⟩ := AT9_of R nV (x := x) (by omega)
      have ha' := ha
      obtain ⟨x5, l7, hs, hg, hx, f1, f2, f3⟩ := ha'
      have em : a1.toNatClampNeg = x := by
        show a1.toInt.toNat = x
        omega
      have dg := DB_grp R.1 hs hg
      rw [q1, q2, q4] at hs hg hx
      rw [q1, q2, q3, q4] at dg
      have fin : ∀ r : Int32, (a2.toInt = 0 → r.toInt = (l : Int)) → (a2.toInt = 1 → r.toInt = BB (n9 S) (C9 S) (L9 S) (P9 S) (64 * l + e) - BB (n9 S) (C9 S) (L9 S) (P9 S) (64 * l + s)) → (a2.toInt = 2 → r.toInt = KB (n9 S) (C9 S) (P9 S) (64 * l + e) - KB (n9 S) (C9 S) (P9 S) (64 * l + s)) → (a2.toInt = 3 → r.toInt = DB (n9 S) (C9 S) (L9 S) (P9 S) (64 * l + e) - DB (n9 S) (C9 S) (L9 S) (P9 S) (64 * l + s)) → (a2.toInt = 4 → (a1.toInt < NB (n9 S) (C9 S) (P9 S) (64 * k) → r.toInt = 1) ∧ (¬ a1.toInt < NB (n9 S) (C9 S) (P9 S) (64 * k) → r.toInt = 0)) → (a2.toInt = 5 → r.toInt = (s : Int)) → (a2.toInt = 6 → r.toInt = (e : Int) - (s : Int)) → (¬ (0 ≤ a2.toInt ∧ a2.toInt ≤ 6) → r.toInt = -1) → Q r u3 := fun r a0 a1' a2' a3 a4 a5 a6 a7 => hq r u3 hJ3 hF3 tw (fun _ _ => ⟨k, lv, up, fun _ => ⟨l, s, e, l7, hs, hg, by omega, a0, a1', a2', a3, a4, a5, a6, a7⟩, fun z => absurd ⟨by omega, by omega⟩ z⟩)
      have ne : ∀ {m : Int32}, ¬ a2 = m → ¬ a2.toInt = m.toInt := fun h z => h (Int32.toInt_inj.mp z)
      rw [em]
      refine ⟨fun c0 => ⟨fun c1 => ⟨fun c2 => ⟨fun c3 => ⟨fun c4 => ⟨fun c5 => ⟨fun c6 => fin _ (fun z => absurd z (ne c0)) (fun z => absurd z (ne c1)) (fun z => absurd z (ne c2)) (fun z => absurd z (ne c3)) (fun z => absurd z (ne c4)) (fun z => absurd z (ne c5)) (fun z => absurd z (ne c6)) (fun _ => rfl), fun c => ⟨pt_in (by omega) (by omega), fin _ ?_ ?_ ?_ ?_ ?_ ?_ (fun _ => f3) ?_⟩⟩, fun c => ⟨pt_in (by omega) (by omega), fin _ ?_ ?_ ?_ ?_ ?_ (fun _ => f2) ?_ ?_⟩⟩, fun c => ⟨fun d2 => fin _ ?_ ?_ ?_ ?_ (fun _ => ⟨fun y => ?_, fun _ => rfl⟩) ?_ ?_ ?_, fun d2 => fin _ ?_ ?_ ?_ ?_ (fun _ => ⟨fun _ => rfl, fun y => ?_⟩) ?_ ?_ ?_⟩⟩, fun c => fx9_isNodeEnd R ha ex (fun r4 hr => ⟨fun d2 => fin _ ?_ ?_ ?_ (fun _ => ?_) ?_ ?_ ?_ ?_, fun d2 => fin _ ?_ ?_ ?_ (fun _ => ?_) ?_ ?_ ?_ ?_⟩)⟩, fun c => fx9_kidMany R nV ha ex (fun r hr => fin r ?_ ?_ (fun _ => ?_) ?_ ?_ ?_ ?_ ?_)⟩, fun c => fx9_branchMany R ha ex (fun r hr _ _ => fin r ?_ (fun _ => ?_) ?_ ?_ ?_ ?_ ?_ ?_)⟩, fun c => ⟨pt_in (by omega) (by omega), fin _ (fun _ => f1) ?_ ?_ ?_ ?_ ?_ ?_ ?_⟩⟩
      all_goals first | (intro z; rw [c] at z; exact absurd z (by decide)) | (simp only [pn] at d2; exfalso; omega) | (rw [q1, q2, q4] at hr; exact hr) | (rw [q1, q2, q3, q4] at hr; exact hr) | skip
      · rw [q3] at hr
        have := dg.2 (hr.mp d2)
        rw [this]
        exact (Int.sub_self _).symm
      · rw [q3] at hr
        have := dg.1 (Classical.byContradiction (fun z => d2 (hr.mpr z)))
        rw [this]
        show (1 : Int) = _
        omega
    · have c0 : r2.toInt = 0 := by rw [c]; rfl
      have := h2b c0
      omega
def F_X9_child (S u : bT9) : Prop := (b9g_now u) = (b9g_now S) ∧ (b9g_keys u) = (b9g_keys S) ∧ (b9g_lengths u) = (b9g_lengths S) ∧ (b9g_drawn u) = (b9g_drawn S) ∧ (b9g_drawnLength u) = (b9g_drawnLength S) ∧ (b9g_tape u) = (b9g_tape S) ∧ (b9g_taped u) = (b9g_taped S) ∧ (b9g_names u) = (b9g_names S) ∧ (b9g_chosen u) = (b9g_chosen S) ∧ (b9g_lowKey u) = (b9g_lowKey S) ∧ (b9g_highKey u) = (b9g_highKey S) ∧ (b9g_lowLength u) = (b9g_lowLength S) ∧ (b9g_highLength u) = (b9g_highLength S) ∧ (b9g_fromKey u) = (b9g_fromKey S) ∧ (b9g_toKey u) = (b9g_toKey S) ∧ (b9g_fromLength u) = (b9g_fromLength S) ∧ (b9g_toLength u) = (b9g_toLength S) ∧ (b9g_ones u) = (b9g_ones S) ∧ (b9g_oneMany u) = (b9g_oneMany S) ∧ (b9g_rowLong u) = (b9g_rowLong S) ∧ (b9g_signs u) = (b9g_signs S) ∧ (b9g_signMany u) = (b9g_signMany S) ∧ (b9g_hasImage u) = (b9g_hasImage S) ∧ (b9g_images u) = (b9g_images S) ∧ (b9g_keyImages u) = (b9g_keyImages S) ∧ (b9g_lengthImages u) = (b9g_lengthImages S)
set_option maxRecDepth 20000 in
set_option maxHeartbeats 8000000 in
theorem sf_X9_child {S : bT9} (hJ : J9 S) {a1 : Int32} {a2 : Int32} {Q : Int32 → (bT9) → Prop} (hq : ∀ (r : Int32) (u : bT9), (J9 u) → F_X9_child S u → (TKP S u) → Q r u) : wp_X9_child S a1 a2 Q := by
  unfold wp_X9_child
  have hFS : F_X9_child S S := ⟨rfl, rfl, rfl, rfl, rfl, rfl, rfl, rfl, rfl, rfl, rfl, rfl, rfl, rfl, rfl, rfl, rfl, rfl, rfl, rfl, rfl, rfl, rfl, rfl, rfl, rfl⟩
  have jf1 := J9g_nodeMany hJ
  have jf2 : (-4 ≤ ((b9g_now S) 1).toInt ∧ ((b9g_now S) 1).toInt ≤ 4) ∧ (-3 ≤ ((b9g_now S) 4).toInt ∧ ((b9g_now S) 4).toInt ≤ 252) ∧ (0 ≤ ((b9g_now S) 8).toInt ∧ ((b9g_now S) 8).toInt ≤ 64) ∧ (0 ≤ ((b9g_now S) 9).toInt ∧ ((b9g_now S) 9).toInt ≤ 64) ∧ (0 ≤ ((b9g_now S) 10).toInt ∧ ((b9g_now S) 10).toInt ≤ 16) ∧ (0 ≤ ((b9g_now S) 12).toInt ∧ ((b9g_now S) 12).toInt ≤ 8) := J9g_now hJ
  have ju2_S := hJ.2.1
  have rga1 := pt_rg a1
  have rga2 := pt_rg a2
  intro S1 eS1
  have hJS1 : J9 S1 := by rw [eS1]; exact (J9s_told hJ)
  have hFS1 : F_X9_child S S1 := by rw [eS1]; exact hFS
  have je4 : ((b9g_now S1) 1).toInt = ((b9g_now S) 1).toInt := congrArg (fun z => (z 1).toInt) hFS1.1
  have je6 : ((b9g_now S1) 4).toInt = ((b9g_now S) 4).toInt := congrArg (fun z => (z 4).toInt) hFS1.1
  have je8 : ((b9g_now S1) 7).toInt = ((b9g_now S) 7).toInt := congrArg (fun z => (z 7).toInt) hFS1.1
  have je10 : ((b9g_now S1) 8).toInt = ((b9g_now S) 8).toInt := congrArg (fun z => (z 8).toInt) hFS1.1
  have je12 : ((b9g_now S1) 9).toInt = ((b9g_now S) 9).toInt := congrArg (fun z => (z 9).toInt) hFS1.1
  have je14 : ((b9g_now S1) 10).toInt = ((b9g_now S) 10).toInt := congrArg (fun z => (z 10).toInt) hFS1.1
  have je16 : ((b9g_now S1) 12).toInt = ((b9g_now S) 12).toInt := congrArg (fun z => (z 12).toInt) hFS1.1
  have je17 : ((b9g_nodeMany S1)).toInt = ((b9g_nodeMany S)).toInt := by rw [eS1]
  have jf18 := J9g_nodeMany hJS1
  have ju18_S1 := hJS1.2.1
  refine sf_X9_isNode hJS1 (fun r2 u3 hJu3 hfu3 hzr2 hr2_0 hr2_1 hr2_2 => ?_)
  have hFu3 : F_X9_child S u3 := ⟨(congrArg (fun z => z) hfu3.2.1).trans hFS1.1, (congrArg (fun z => z) hfu3.2.2.1).trans hFS1.2.1, (congrArg (fun z => z) hfu3.2.2.2.1).trans hFS1.2.2.1, (congrArg (fun z => z) hfu3.2.2.2.2.1).trans hFS1.2.2.2.1, (congrArg (fun z => z) hfu3.2.2.2.2.2.1).trans hFS1.2.2.2.2.1, (congrArg (fun z => z) hfu3.2.2.2.2.2.2.1).trans hFS1.2.2.2.2.2.1, (congrArg (fun z => z) hfu3.2.2.2.2.2.2.2.1).trans hFS1.2.2.2.2.2.2.1, (congrArg (fun z => z) hfu3.2.2.2.2.2.2.2.2.1).trans hFS1.2.2.2.2.2.2.2.1, (congrArg (fun z => z) hfu3.2.2.2.2.2.2.2.2.2.1).trans hFS1.2.2.2.2.2.2.2.2.1, (congrArg (fun z => z) hfu3.2.2.2.2.2.2.2.2.2.2.1).trans hFS1.2.2.2.2.2.2.2.2.2.1, (congrArg (fun z => z) hfu3.2.2.2.2.2.2.2.2.2.2.2.1).trans hFS1.2.2.2.2.2.2.2.2.2.2.1, (congrArg (fun z => z) hfu3.2.2.2.2.2.2.2.2.2.2.2.2.1).trans hFS1.2.2.2.2.2.2.2.2.2.2.2.1, (congrArg (fun z => z) hfu3.2.2.2.2.2.2.2.2.2.2.2.2.2.1).trans hFS1.2.2.2.2.2.2.2.2.2.2.2.2.1, (congrArg (fun z => z) hfu3.2.2.2.2.2.2.2.2.2.2.2.2.2.2.1).trans hFS1.2.2.2.2.2.2.2.2.2.2.2.2.2.1, (congrArg (fun z => z) hfu3.2.2.2.2.2.2.2.2.2.2.2.2.2.2.2.1).trans hFS1.2.2.2.2.2.2.2.2.2.2.2.2.2.2.1, (congrArg (fun z => z) hfu3.2.2.2.2.2.2.2.2.2.2.2.2.2.2.2.2.1).trans hFS1.2.2.2.2.2.2.2.2.2.2.2.2.2.2.2.1, (congrArg (fun z => z) hfu3.2.2.2.2.2.2.2.2.2.2.2.2.2.2.2.2.2.1).trans hFS1.2.2.2.2.2.2.2.2.2.2.2.2.2.2.2.2.1, (congrArg (fun z => z) hfu3.2.2.2.2.2.2.2.2.2.2.2.2.2.2.2.2.2.2.1).trans hFS1.2.2.2.2.2.2.2.2.2.2.2.2.2.2.2.2.2.1, (congrArg (fun z => z) hfu3.2.2.2.2.2.2.2.2.2.2.2.2.2.2.2.2.2.2.2.1).trans hFS1.2.2.2.2.2.2.2.2.2.2.2.2.2.2.2.2.2.2.1, (congrArg (fun z => z) hfu3.2.2.2.2.2.2.2.2.2.2.2.2.2.2.2.2.2.2.2.2.1).trans hFS1.2.2.2.2.2.2.2.2.2.2.2.2.2.2.2.2.2.2.2.1, (congrArg (fun z => z) hfu3.2.2.2.2.2.2.2.2.2.2.2.2.2.2.2.2.2.2.2.2.2.1).trans hFS1.2.2.2.2.2.2.2.2.2.2.2.2.2.2.2.2.2.2.2.2.1, (congrArg (fun z => z) hfu3.2.2.2.2.2.2.2.2.2.2.2.2.2.2.2.2.2.2.2.2.2.2.1).trans hFS1.2.2.2.2.2.2.2.2.2.2.2.2.2.2.2.2.2.2.2.2.2.1, (congrArg (fun z => z) hfu3.2.2.2.2.2.2.2.2.2.2.2.2.2.2.2.2.2.2.2.2.2.2.2.1).trans hFS1.2.2.2.2.2.2.2.2.2.2.2.2.2.2.2.2.2.2.2.2.2.2.1, (congrArg (fun z => z) hfu3.2.2.2.2.2.2.2.2.2.2.2.2.2.2.2.2.2.2.2.2.2.2.2.2.1).trans hFS1.2.2.2.2.2.2.2.2.2.2.2.2.2.2.2.2.2.2.2.2.2.2.2.1, (congrArg (fun z => z) hfu3.2.2.2.2.2.2.2.2.2.2.2.2.2.2.2.2.2.2.2.2.2.2.2.2.2.1).trans hFS1.2.2.2.2.2.2.2.2.2.2.2.2.2.2.2.2.2.2.2.2.2.2.2.2.1, (congrArg (fun z => z) hfu3.2.2.2.2.2.2.2.2.2.2.2.2.2.2.2.2.2.2.2.2.2.2.2.2.2.2).trans hFS1.2.2.2.2.2.2.2.2.2.2.2.2.2.2.2.2.2.2.2.2.2.2.2.2.2⟩
  have je20 : ((b9g_now u3) 1).toInt = ((b9g_now S) 1).toInt := congrArg (fun z => (z 1).toInt) hFu3.1
  have je22 : ((b9g_now u3) 4).toInt = ((b9g_now S) 4).toInt := congrArg (fun z => (z 4).toInt) hFu3.1
  have je24 : ((b9g_now u3) 7).toInt = ((b9g_now S) 7).toInt := congrArg (fun z => (z 7).toInt) hFu3.1
  have je26 : ((b9g_now u3) 8).toInt = ((b9g_now S) 8).toInt := congrArg (fun z => (z 8).toInt) hFu3.1
  have je28 : ((b9g_now u3) 9).toInt = ((b9g_now S) 9).toInt := congrArg (fun z => (z 9).toInt) hFu3.1
  have je30 : ((b9g_now u3) 10).toInt = ((b9g_now S) 10).toInt := congrArg (fun z => (z 10).toInt) hFu3.1
  have je32 : ((b9g_now u3) 12).toInt = ((b9g_now S) 12).toInt := congrArg (fun z => (z 12).toInt) hFu3.1
  have jf33 := J9g_nodeMany hJu3
  have ju33_u3 := hJu3.2.1
  try simp (disch := first | ((try simp (disch := first | ((try simp only [pn]) <;> omega) | fail) only [pn, pq]) <;> omega) | fail) only [pn, pq] at hr2_0
  try simp (disch := first | ((try simp (disch := first | ((try simp only [pn]) <;> omega) | fail) only [pn, pq]) <;> omega) | fail) only [pn, pq] at hr2_2
  refine ⟨fun c4 => ?_, fun c4 => ?_⟩
  · try simp (disch := first | ((try simp (disch := first | ((try simp only [pn]) <;> omega) | fail) only [pn, pq]) <;> omega) | fail) only [pn, pq] at c4
    refine ⟨pt_in (by (try simp (disch := first | ((try simp (disch := first | ((try simp only [pn]) <;> omega) | fail) only [pn, pq]) <;> omega) | fail) only [pn, pq]) <;> (intros; (try simp (disch := first | ((try simp (disch := first | ((try simp only [pn]) <;> omega) | fail) only [pn, pq]) <;> omega) | fail) only [pn, pq]) <;> omega)) (by (try simp (disch := first | ((try simp (disch := first | ((try simp only [pn]) <;> omega) | fail) only [pn, pq]) <;> omega) | fail) only [pn, pq]) <;> (intros; (try simp (disch := first | ((try simp (disch := first | ((try simp only [pn]) <;> omega) | fail) only [pn, pq]) <;> omega) | fail) only [pn, pq]) <;> omega)), ?_⟩
    have jr34 := ND_at (J9g_ND hJu3) (x := a1) (by (try simp (disch := first | ((try simp (disch := first | ((try simp only [pn]) <;> omega) | fail) only [pn, pq]) <;> omega) | fail) only [pn, pq]) <;> (intros; (try simp (disch := first | ((try simp (disch := first | ((try simp only [pn]) <;> omega) | fail) only [pn, pq]) <;> omega) | fail) only [pn, pq]) <;> omega)) (by (try simp (disch := first | ((try simp (disch := first | ((try simp only [pn]) <;> omega) | fail) only [pn, pq]) <;> omega) | fail) only [pn, pq]) <;> (intros; (try simp (disch := first | ((try simp (disch := first | ((try simp only [pn]) <;> omega) | fail) only [pn, pq]) <;> omega) | fail) only [pn, pq]) <;> omega))
    try simp (disch := first | ((try simp (disch := first | ((try simp only [pn]) <;> omega) | fail) only [pn, pq]) <;> omega) | fail) only [pn, pq] at jr34
    refine ⟨fun n x1q5 x2q5 x3q5 Sq5 => (J9 Sq5) ∧ (F_X9_child S Sq5) ∧ (x1q5 = a1) ∧ (x2q5 = a2) ∧ (0 ≤ (x1q5).toInt) ∧ ((x1q5).toInt < (b9g_nodeMany Sq5).toInt) ∧ ((b9g_nodeLeaf Sq5 (x1q5).toNatClampNeg).toInt ≤ (x3q5).toInt) ∧ (0 ≤ (x3q5).toInt) ∧ ((x3q5).toInt ≤ 64) ∧ (TKP S Sq5) ∧ n = (65 - (x3q5).toInt).toNat, ⟨_, hJu3, hFu3, rfl, rfl, (by (try simp (disch := first | ((try simp (disch := first | ((try simp only [pn]) <;> omega) | fail) only [pn, pq]) <;> omega) | fail) only [pn, pq]) <;> (intros; (try simp (disch := first | ((try simp (disch := first | ((try simp only [pn]) <;> omega) | fail) only [pn, pq]) <;> omega) | fail) only [pn, pq]) <;> omega)), (by (try simp (disch := first | ((try simp (disch := first | ((try simp only [pn]) <;> omega) | fail) only [pn, pq]) <;> omega) | fail) only [pn, pq]) <;> (intros; (try simp (disch := first | ((try simp (disch := first | ((try simp only [pn]) <;> omega) | fail) only [pn, pq]) <;> omega) | fail) only [pn, pq]) <;> omega)), (by (try simp (disch := first | ((try simp (disch := first | ((try simp only [pn]) <;> omega) | fail) only [pn, pq]) <;> omega) | fail) only [pn, pq]) <;> (intros; (try simp (disch := first | ((try simp (disch := first | ((try simp only [pn]) <;> omega) | fail) only [pn, pq]) <;> omega) | fail) only [pn, pq]) <;> omega)), (by (try simp (disch := first | ((try simp (disch := first | ((try simp only [pn]) <;> omega) | fail) only [pn, pq]) <;> omega) | fail) only [pn, pq]) <;> (intros; (try simp (disch := first | ((try simp (disch := first | ((try simp only [pn]) <;> omega) | fail) only [pn, pq]) <;> omega) | fail) only [pn, pq]) <;> omega)), (by (try simp (disch := first | ((try simp (disch := first | ((try simp only [pn]) <;> omega) | fail) only [pn, pq]) <;> omega) | fail) only [pn, pq]) <;> (intros; (try simp (disch := first | ((try simp (disch := first | ((try simp only [pn]) <;> omega) | fail) only [pn, pq]) <;> omega) | fail) only [pn, pq]) <;> omega)), (by (first | assumption | exact TKP_w (TWW_told (by assumption) (by assumption)) | exact TKP_w (TWW_told (by assumption) (TWW_lays (by assumption))) | exact TKP_told (by assumption) (TKP_tf (TF_isLeaf (by assumption))) | exact TKP_w (TWW_told (by assumption) (TWW_pre (TF_isLeaf (by assumption)) (TWW_lays (by assumption)))) | exact TKP_w (TWW_tf (TWW_told (by assumption) (TWW_lays (by assumption))) (TF_isLeaf (by assumption))) | exact TKP_w (TWW_tf (TWW_tf (TWW_told (by assumption) (TWW_lays (by assumption))) (TF_sign (by assumption))) (TF_reportsAll (by assumption))) | exact TKP_w (TWW_tf (TWW_tf (TWW_tf (TWW_told (by assumption) (TWW_lays (by assumption))) (TF_isLeaf (by assumption))) (TF_sign (by assumption))) (TF_reportsLeaf (by assumption))) | exact TKP_w (TWW_tf (TWW_tf (TWW_told (by assumption) (TWW_lays (by assumption))) (TF_sign (by assumption))) (TF_reportsLeaf (by assumption))) | exact TKP_w (TWW_tf (TWW_tf (TWW_tf (TWW_told (by assumption) (TWW_lays (by assumption))) (TF_isLeaf (by assumption))) (TF_sign (by assumption))) (TF_reportsAll (by assumption))))), rfl⟩, ?_⟩
    rintro n6 x1q5 x2q5 x3q5 Sq5 ⟨hJSq5, hFSq5, hkq5_0, hkq5_1, hiq5_0, hiq5_1, hiq5_2, hiq5_3, hiq5_4, hiq5_5, hn6⟩
    subst hkq5_0
    subst hkq5_1
    have rgx1q5 := pt_rg x1q5
    have rgx2q5 := pt_rg x2q5
    have rgx3q5 := pt_rg x3q5
    unfold wp_X9_child_22b
    have je36 : ((b9g_now Sq5) 1).toInt = ((b9g_now S) 1).toInt := congrArg (fun z => (z 1).toInt) hFSq5.1
    have je38 : ((b9g_now Sq5) 4).toInt = ((b9g_now S) 4).toInt := congrArg (fun z => (z 4).toInt) hFSq5.1
    have je40 : ((b9g_now Sq5) 7).toInt = ((b9g_now S) 7).toInt := congrArg (fun z => (z 7).toInt) hFSq5.1
    have je42 : ((b9g_now Sq5) 8).toInt = ((b9g_now S) 8).toInt := congrArg (fun z => (z 8).toInt) hFSq5.1
    have je44 : ((b9g_now Sq5) 9).toInt = ((b9g_now S) 9).toInt := congrArg (fun z => (z 9).toInt) hFSq5.1
    have je46 : ((b9g_now Sq5) 10).toInt = ((b9g_now S) 10).toInt := congrArg (fun z => (z 10).toInt) hFSq5.1
    have je48 : ((b9g_now Sq5) 12).toInt = ((b9g_now S) 12).toInt := congrArg (fun z => (z 12).toInt) hFSq5.1
    have jf49 := J9g_nodeMany hJSq5
    have ju49_Sq5 := hJSq5.2.1
    refine sf_X9_lastOf hJSq5.1 (by (try simp (disch := first | ((try simp (disch := first | ((try simp only [pn]) <;> omega) | fail) only [pn, pq]) <;> omega) | fail) only [pn, pq]) <;> (intros; (try simp (disch := first | ((try simp (disch := first | ((try simp only [pn]) <;> omega) | fail) only [pn, pq]) <;> omega) | fail) only [pn, pq]) <;> omega)) (by (try simp (disch := first | ((try simp (disch := first | ((try simp only [pn]) <;> omega) | fail) only [pn, pq]) <;> omega) | fail) only [pn, pq]) <;> (intros; (try simp (disch := first | ((try simp (disch := first | ((try simp only [pn]) <;> omega) | fail) only [pn, pq]) <;> omega) | fail) only [pn, pq]) <;> omega)) (fun r7 hr7_0 hr7_1 => ?_)
    have rgr7 := pt_rg r7
    try simp (disch := first | ((try simp (disch := first | ((try simp only [pn]) <;> omega) | fail) only [pn, pq]) <;> omega) | fail) only [pn, pq] at hr7_0
    try simp (disch := first | ((try simp (disch := first | ((try simp only [pn]) <;> omega) | fail) only [pn, pq]) <;> omega) | fail) only [pn, pq] at hr7_1
    refine ⟨fun c9 => ?_, fun c9 => ?_⟩
    · try simp (disch := first | ((try simp (disch := first | ((try simp only [pn]) <;> omega) | fail) only [pn, pq]) <;> omega) | fail) only [pn, pq] at c9
      exact hq _ _ hJSq5 hFSq5 (by (first | assumption | exact TKP_w (TWW_told (by assumption) (by assumption)) | exact TKP_w (TWW_told (by assumption) (TWW_lays (by assumption))) | exact TKP_told (by assumption) (TKP_tf (TF_isLeaf (by assumption))) | exact TKP_w (TWW_told (by assumption) (TWW_pre (TF_isLeaf (by assumption)) (TWW_lays (by assumption)))) | exact TKP_w (TWW_tf (TWW_told (by assumption) (TWW_lays (by assumption))) (TF_isLeaf (by assumption))) | exact TKP_w (TWW_tf (TWW_tf (TWW_told (by assumption) (TWW_lays (by assumption))) (TF_sign (by assumption))) (TF_reportsAll (by assumption))) | exact TKP_w (TWW_tf (TWW_tf (TWW_tf (TWW_told (by assumption) (TWW_lays (by assumption))) (TF_isLeaf (by assumption))) (TF_sign (by assumption))) (TF_reportsLeaf (by assumption))) | exact TKP_w (TWW_tf (TWW_tf (TWW_told (by assumption) (TWW_lays (by assumption))) (TF_sign (by assumption))) (TF_reportsLeaf (by assumption))) | exact TKP_w (TWW_tf (TWW_tf (TWW_tf (TWW_told (by assumption) (TWW_lays (by assumption))) (TF_isLeaf (by assumption))) (TF_sign (by assumption))) (TF_reportsAll (by assumption)))))
    · try simp (disch := first | ((try simp (disch := first | ((try simp only [pn]) <;> omega) | fail) only [pn, pq]) <;> omega) | fail) only [pn, pq] at c9
      refine sf_X9_isBranch hJSq5.1 (by (try simp (disch := first | ((try simp (disch := first | ((try simp only [pn]) <;> omega) | fail) only [pn, pq]) <;> omega) | fail) only [pn, pq]) <;> (intros; (try simp (disch := first | ((try simp (disch := first | ((try simp only [pn]) <;> omega) | fail) only [pn, pq]) <;> omega) | fail) only [pn, pq]) <;> omega)) (by (try simp (disch := first | ((try simp (disch := first | ((try simp only [pn]) <;> omega) | fail) only [pn, pq]) <;> omega) | fail) only [pn, pq]) <;> (intros; (try simp (disch := first | ((try simp (disch := first | ((try simp only [pn]) <;> omega) | fail) only [pn, pq]) <;> omega) | fail) only [pn, pq]) <;> omega)) (by (try simp (disch := first | ((try simp (disch := first | ((try simp only [pn]) <;> omega) | fail) only [pn, pq]) <;> omega) | fail) only [pn, pq]) <;> (intros; (try simp (disch := first | ((try simp (disch := first | ((try simp only [pn]) <;> omega) | fail) only [pn, pq]) <;> omega) | fail) only [pn, pq]) <;> omega)) (by (try simp (disch := first | ((try simp (disch := first | ((try simp only [pn]) <;> omega) | fail) only [pn, pq]) <;> omega) | fail) only [pn, pq]) <;> (intros; (try simp (disch := first | ((try simp (disch := first | ((try simp only [pn]) <;> omega) | fail) only [pn, pq]) <;> omega) | fail) only [pn, pq]) <;> omega)) (fun r10 hzr10 hr10_0 => ?_)
      try simp (disch := first | ((try simp (disch := first | ((try simp only [pn]) <;> omega) | fail) only [pn, pq]) <;> omega) | fail) only [pn, pq] at hr10_0
      refine ⟨fun c12 => ?_, fun c12 => ?_⟩
      · try simp (disch := first | ((try simp (disch := first | ((try simp only [pn]) <;> omega) | fail) only [pn, pq]) <;> omega) | fail) only [pn, pq] at c12
        unfold wp_X9_child_84
        refine ⟨_, ?_, ?_, ?_, ?_, ?_, ?_, ?_, ?_, ?_, ?_, ?_, rfl⟩
        · (try simp (disch := first | ((try simp (disch := first | ((try simp only [pn]) <;> omega) | fail) only [pn, pq]) <;> omega) | fail) only [pn, pq]) <;> (intros; (try simp (disch := first | ((try simp (disch := first | ((try simp only [pn]) <;> omega) | fail) only [pn, pq]) <;> omega) | fail) only [pn, pq]) <;> omega)
        · exact hJSq5
        · exact hFSq5
        · first | rfl | assumption
        · first | rfl | assumption
        · (try simp (disch := first | ((try simp (disch := first | ((try simp only [pn]) <;> omega) | fail) only [pn, pq]) <;> omega) | fail) only [pn, pq]) <;> (intros; (try simp (disch := first | ((try simp (disch := first | ((try simp only [pn]) <;> omega) | fail) only [pn, pq]) <;> omega) | fail) only [pn, pq]) <;> omega)
        · (try simp (disch := first | ((try simp (disch := first | ((try simp only [pn]) <;> omega) | fail) only [pn, pq]) <;> omega) | fail) only [pn, pq]) <;> (intros; (try simp (disch := first | ((try simp (disch := first | ((try simp only [pn]) <;> omega) | fail) only [pn, pq]) <;> omega) | fail) only [pn, pq]) <;> omega)
        · (try simp (disch := first | ((try simp (disch := first | ((try simp only [pn]) <;> omega) | fail) only [pn, pq]) <;> omega) | fail) only [pn, pq]) <;> (intros; (try simp (disch := first | ((try simp (disch := first | ((try simp only [pn]) <;> omega) | fail) only [pn, pq]) <;> omega) | fail) only [pn, pq]) <;> omega)
        · (try simp (disch := first | ((try simp (disch := first | ((try simp only [pn]) <;> omega) | fail) only [pn, pq]) <;> omega) | fail) only [pn, pq]) <;> (intros; (try simp (disch := first | ((try simp (disch := first | ((try simp only [pn]) <;> omega) | fail) only [pn, pq]) <;> omega) | fail) only [pn, pq]) <;> omega)
        · (try simp (disch := first | ((try simp (disch := first | ((try simp only [pn]) <;> omega) | fail) only [pn, pq]) <;> omega) | fail) only [pn, pq]) <;> (intros; (try simp (disch := first | ((try simp (disch := first | ((try simp only [pn]) <;> omega) | fail) only [pn, pq]) <;> omega) | fail) only [pn, pq]) <;> omega)
        · (first | assumption | exact TKP_w (TWW_told (by assumption) (by assumption)) | exact TKP_w (TWW_told (by assumption) (TWW_lays (by assumption))) | exact TKP_told (by assumption) (TKP_tf (TF_isLeaf (by assumption))) | exact TKP_w (TWW_told (by assumption) (TWW_pre (TF_isLeaf (by assumption)) (TWW_lays (by assumption)))) | exact TKP_w (TWW_tf (TWW_told (by assumption) (TWW_lays (by assumption))) (TF_isLeaf (by assumption))) | exact TKP_w (TWW_tf (TWW_tf (TWW_told (by assumption) (TWW_lays (by assumption))) (TF_sign (by assumption))) (TF_reportsAll (by assumption))) | exact TKP_w (TWW_tf (TWW_tf (TWW_tf (TWW_told (by assumption) (TWW_lays (by assumption))) (TF_isLeaf (by assumption))) (TF_sign (by assumption))) (TF_reportsLeaf (by assumption))) | exact TKP_w (TWW_tf (TWW_tf (TWW_told (by assumption) (TWW_lays (by assumption))) (TF_sign (by assumption))) (TF_reportsLeaf (by assumption))) | exact TKP_w (TWW_tf (TWW_tf (TWW_tf (TWW_told (by assumption) (TWW_lays (by assumption))) (TF_isLeaf (by assumption))) (TF_sign (by assumption))) (TF_reportsAll (by assumption))))
      · try simp (disch := first | ((try simp (disch := first | ((try simp only [pn]) <;> omega) | fail) only [pn, pq]) <;> omega) | fail) only [pn, pq] at c12
        refine sf_X9_key hJSq5.1 (by (try simp (disch := first | ((try simp (disch := first | ((try simp only [pn]) <;> omega) | fail) only [pn, pq]) <;> omega) | fail) only [pn, pq]) <;> (intros; (try simp (disch := first | ((try simp (disch := first | ((try simp only [pn]) <;> omega) | fail) only [pn, pq]) <;> omega) | fail) only [pn, pq]) <;> omega)) (by (try simp (disch := first | ((try simp (disch := first | ((try simp only [pn]) <;> omega) | fail) only [pn, pq]) <;> omega) | fail) only [pn, pq]) <;> (intros; (try simp (disch := first | ((try simp (disch := first | ((try simp only [pn]) <;> omega) | fail) only [pn, pq]) <;> omega) | fail) only [pn, pq]) <;> omega)) (fun r13 hr13_0 => ?_)
        try simp (disch := first | ((try simp (disch := first | ((try simp only [pn]) <;> omega) | fail) only [pn, pq]) <;> omega) | fail) only [pn, pq] at hr13_0
        refine ⟨pt_in (by (try simp (disch := first | ((try simp (disch := first | ((try simp only [pn]) <;> omega) | fail) only [pn, pq]) <;> omega) | fail) only [pn, pq]) <;> (intros; (try simp (disch := first | ((try simp (disch := first | ((try simp only [pn]) <;> omega) | fail) only [pn, pq]) <;> omega) | fail) only [pn, pq]) <;> omega)) (by (try simp (disch := first | ((try simp (disch := first | ((try simp only [pn]) <;> omega) | fail) only [pn, pq]) <;> omega) | fail) only [pn, pq]) <;> (intros; (try simp (disch := first | ((try simp (disch := first | ((try simp only [pn]) <;> omega) | fail) only [pn, pq]) <;> omega) | fail) only [pn, pq]) <;> omega)), ?_⟩
        have jr50 := ND_at (J9g_ND hJSq5) (x := x1q5) (by (try simp (disch := first | ((try simp (disch := first | ((try simp only [pn]) <;> omega) | fail) only [pn, pq]) <;> omega) | fail) only [pn, pq]) <;> (intros; (try simp (disch := first | ((try simp (disch := first | ((try simp only [pn]) <;> omega) | fail) only [pn, pq]) <;> omega) | fail) only [pn, pq]) <;> omega)) (by (try simp (disch := first | ((try simp (disch := first | ((try simp only [pn]) <;> omega) | fail) only [pn, pq]) <;> omega) | fail) only [pn, pq]) <;> (intros; (try simp (disch := first | ((try simp (disch := first | ((try simp only [pn]) <;> omega) | fail) only [pn, pq]) <;> omega) | fail) only [pn, pq]) <;> omega))
        try simp (disch := first | ((try simp (disch := first | ((try simp only [pn]) <;> omega) | fail) only [pn, pq]) <;> omega) | fail) only [pn, pq] at jr50
        refine sf_X9_byteOf hJSq5.1 (fun r15  => ?_)
        have rgr15 := pt_rg r15
        refine ⟨fun c17 => ?_, fun c17 => ?_⟩
        · try simp (disch := first | ((try simp (disch := first | ((try simp only [pn]) <;> omega) | fail) only [pn, pq]) <;> omega) | fail) only [pn, pq] at c17
          refine sf_X9_childAt hJSq5.1 (by (try simp (disch := first | ((try simp (disch := first | ((try simp only [pn]) <;> omega) | fail) only [pn, pq]) <;> omega) | fail) only [pn, pq]) <;> (intros; (try simp (disch := first | ((try simp (disch := first | ((try simp only [pn]) <;> omega) | fail) only [pn, pq]) <;> omega) | fail) only [pn, pq]) <;> omega)) (by (try simp (disch := first | ((try simp (disch := first | ((try simp only [pn]) <;> omega) | fail) only [pn, pq]) <;> omega) | fail) only [pn, pq]) <;> (intros; (try simp (disch := first | ((try simp (disch := first | ((try simp only [pn]) <;> omega) | fail) only [pn, pq]) <;> omega) | fail) only [pn, pq]) <;> omega)) (fun r18 hr18_0 => ?_)
          have rgr18 := pt_rg r18
          try simp (disch := first | ((try simp (disch := first | ((try simp only [pn]) <;> omega) | fail) only [pn, pq]) <;> omega) | fail) only [pn, pq] at hr18_0
          refine ⟨fun c20 => ?_, fun c20 => ?_⟩
          · try simp (disch := first | ((try simp (disch := first | ((try simp only [pn]) <;> omega) | fail) only [pn, pq]) <;> omega) | fail) only [pn, pq] at c20
            refine sf_X9_childAt hJSq5.1 (by (try simp (disch := first | ((try simp (disch := first | ((try simp only [pn]) <;> omega) | fail) only [pn, pq]) <;> omega) | fail) only [pn, pq]) <;> (intros; (try simp (disch := first | ((try simp (disch := first | ((try simp only [pn]) <;> omega) | fail) only [pn, pq]) <;> omega) | fail) only [pn, pq]) <;> omega)) (by (try simp (disch := first | ((try simp (disch := first | ((try simp only [pn]) <;> omega) | fail) only [pn, pq]) <;> omega) | fail) only [pn, pq]) <;> (intros; (try simp (disch := first | ((try simp (disch := first | ((try simp only [pn]) <;> omega) | fail) only [pn, pq]) <;> omega) | fail) only [pn, pq]) <;> omega)) (fun r21 hr21_0 => ?_)
            have rgr21 := pt_rg r21
            try simp (disch := first | ((try simp (disch := first | ((try simp only [pn]) <;> omega) | fail) only [pn, pq]) <;> omega) | fail) only [pn, pq] at hr21_0
            exact hq _ _ hJSq5 hFSq5 (by (first | assumption | exact TKP_w (TWW_told (by assumption) (by assumption)) | exact TKP_w (TWW_told (by assumption) (TWW_lays (by assumption))) | exact TKP_told (by assumption) (TKP_tf (TF_isLeaf (by assumption))) | exact TKP_w (TWW_told (by assumption) (TWW_pre (TF_isLeaf (by assumption)) (TWW_lays (by assumption)))) | exact TKP_w (TWW_tf (TWW_told (by assumption) (TWW_lays (by assumption))) (TF_isLeaf (by assumption))) | exact TKP_w (TWW_tf (TWW_tf (TWW_told (by assumption) (TWW_lays (by assumption))) (TF_sign (by assumption))) (TF_reportsAll (by assumption))) | exact TKP_w (TWW_tf (TWW_tf (TWW_tf (TWW_told (by assumption) (TWW_lays (by assumption))) (TF_isLeaf (by assumption))) (TF_sign (by assumption))) (TF_reportsLeaf (by assumption))) | exact TKP_w (TWW_tf (TWW_tf (TWW_told (by assumption) (TWW_lays (by assumption))) (TF_sign (by assumption))) (TF_reportsLeaf (by assumption))) | exact TKP_w (TWW_tf (TWW_tf (TWW_tf (TWW_told (by assumption) (TWW_lays (by assumption))) (TF_isLeaf (by assumption))) (TF_sign (by assumption))) (TF_reportsAll (by assumption)))))
          · try simp (disch := first | ((try simp (disch := first | ((try simp only [pn]) <;> omega) | fail) only [pn, pq]) <;> omega) | fail) only [pn, pq] at c20
            exact hq _ _ hJSq5 hFSq5 (by (first | assumption | exact TKP_w (TWW_told (by assumption) (by assumption)) | exact TKP_w (TWW_told (by assumption) (TWW_lays (by assumption))) | exact TKP_told (by assumption) (TKP_tf (TF_isLeaf (by assumption))) | exact TKP_w (TWW_told (by assumption) (TWW_pre (TF_isLeaf (by assumption)) (TWW_lays (by assumption)))) | exact TKP_w (TWW_tf (TWW_told (by assumption) (TWW_lays (by assumption))) (TF_isLeaf (by assumption))) | exact TKP_w (TWW_tf (TWW_tf (TWW_told (by assumption) (TWW_lays (by assumption))) (TF_sign (by assumption))) (TF_reportsAll (by assumption))) | exact TKP_w (TWW_tf (TWW_tf (TWW_tf (TWW_told (by assumption) (TWW_lays (by assumption))) (TF_isLeaf (by assumption))) (TF_sign (by assumption))) (TF_reportsLeaf (by assumption))) | exact TKP_w (TWW_tf (TWW_tf (TWW_told (by assumption) (TWW_lays (by assumption))) (TF_sign (by assumption))) (TF_reportsLeaf (by assumption))) | exact TKP_w (TWW_tf (TWW_tf (TWW_tf (TWW_told (by assumption) (TWW_lays (by assumption))) (TF_isLeaf (by assumption))) (TF_sign (by assumption))) (TF_reportsAll (by assumption)))))
        · try simp (disch := first | ((try simp (disch := first | ((try simp only [pn]) <;> omega) | fail) only [pn, pq]) <;> omega) | fail) only [pn, pq] at c17
          unfold wp_X9_child_84
          refine ⟨_, ?_, ?_, ?_, ?_, ?_, ?_, ?_, ?_, ?_, ?_, ?_, rfl⟩
          · (try simp (disch := first | ((try simp (disch := first | ((try simp only [pn]) <;> omega) | fail) only [pn, pq]) <;> omega) | fail) only [pn, pq]) <;> (intros; (try simp (disch := first | ((try simp (disch := first | ((try simp only [pn]) <;> omega) | fail) only [pn, pq]) <;> omega) | fail) only [pn, pq]) <;> omega)
          · exact hJSq5
          · exact hFSq5
          · first | rfl | assumption
          · first | rfl | assumption
          · (try simp (disch := first | ((try simp (disch := first | ((try simp only [pn]) <;> omega) | fail) only [pn, pq]) <;> omega) | fail) only [pn, pq]) <;> (intros; (try simp (disch := first | ((try simp (disch := first | ((try simp only [pn]) <;> omega) | fail) only [pn, pq]) <;> omega) | fail) only [pn, pq]) <;> omega)
          · (try simp (disch := first | ((try simp (disch := first | ((try simp only [pn]) <;> omega) | fail) only [pn, pq]) <;> omega) | fail) only [pn, pq]) <;> (intros; (try simp (disch := first | ((try simp (disch := first | ((try simp only [pn]) <;> omega) | fail) only [pn, pq]) <;> omega) | fail) only [pn, pq]) <;> omega)
          · (try simp (disch := first | ((try simp (disch := first | ((try simp only [pn]) <;> omega) | fail) only [pn, pq]) <;> omega) | fail) only [pn, pq]) <;> (intros; (try simp (disch := first | ((try simp (disch := first | ((try simp only [pn]) <;> omega) | fail) only [pn, pq]) <;> omega) | fail) only [pn, pq]) <;> omega)
          · (try simp (disch := first | ((try simp (disch := first | ((try simp only [pn]) <;> omega) | fail) only [pn, pq]) <;> omega) | fail) only [pn, pq]) <;> (intros; (try simp (disch := first | ((try simp (disch := first | ((try simp only [pn]) <;> omega) | fail) only [pn, pq]) <;> omega) | fail) only [pn, pq]) <;> omega)
          · (try simp (disch := first | ((try simp (disch := first | ((try simp only [pn]) <;> omega) | fail) only [pn, pq]) <;> omega) | fail) only [pn, pq]) <;> (intros; (try simp (disch := first | ((try simp (disch := first | ((try simp only [pn]) <;> omega) | fail) only [pn, pq]) <;> omega) | fail) only [pn, pq]) <;> omega)
          · (first | assumption | exact TKP_w (TWW_told (by assumption) (by assumption)) | exact TKP_w (TWW_told (by assumption) (TWW_lays (by assumption))) | exact TKP_told (by assumption) (TKP_tf (TF_isLeaf (by assumption))) | exact TKP_w (TWW_told (by assumption) (TWW_pre (TF_isLeaf (by assumption)) (TWW_lays (by assumption)))) | exact TKP_w (TWW_tf (TWW_told (by assumption) (TWW_lays (by assumption))) (TF_isLeaf (by assumption))) | exact TKP_w (TWW_tf (TWW_tf (TWW_told (by assumption) (TWW_lays (by assumption))) (TF_sign (by assumption))) (TF_reportsAll (by assumption))) | exact TKP_w (TWW_tf (TWW_tf (TWW_tf (TWW_told (by assumption) (TWW_lays (by assumption))) (TF_isLeaf (by assumption))) (TF_sign (by assumption))) (TF_reportsLeaf (by assumption))) | exact TKP_w (TWW_tf (TWW_tf (TWW_told (by assumption) (TWW_lays (by assumption))) (TF_sign (by assumption))) (TF_reportsLeaf (by assumption))) | exact TKP_w (TWW_tf (TWW_tf (TWW_tf (TWW_told (by assumption) (TWW_lays (by assumption))) (TF_isLeaf (by assumption))) (TF_sign (by assumption))) (TF_reportsAll (by assumption))))
  · try simp (disch := first | ((try simp (disch := first | ((try simp only [pn]) <;> omega) | fail) only [pn, pq]) <;> omega) | fail) only [pn, pq] at c4
    exact hq _ _ hJu3 hFu3 (by (first | assumption | exact TKP_w (TWW_told (by assumption) (by assumption)) | exact TKP_w (TWW_told (by assumption) (TWW_lays (by assumption))) | exact TKP_told (by assumption) (TKP_tf (TF_isLeaf (by assumption))) | exact TKP_w (TWW_told (by assumption) (TWW_pre (TF_isLeaf (by assumption)) (TWW_lays (by assumption)))) | exact TKP_w (TWW_tf (TWW_told (by assumption) (TWW_lays (by assumption))) (TF_isLeaf (by assumption))) | exact TKP_w (TWW_tf (TWW_tf (TWW_told (by assumption) (TWW_lays (by assumption))) (TF_sign (by assumption))) (TF_reportsAll (by assumption))) | exact TKP_w (TWW_tf (TWW_tf (TWW_tf (TWW_told (by assumption) (TWW_lays (by assumption))) (TF_isLeaf (by assumption))) (TF_sign (by assumption))) (TF_reportsLeaf (by assumption))) | exact TKP_w (TWW_tf (TWW_tf (TWW_told (by assumption) (TWW_lays (by assumption))) (TF_sign (by assumption))) (TF_reportsLeaf (by assumption))) | exact TKP_w (TWW_tf (TWW_tf (TWW_tf (TWW_told (by assumption) (TWW_lays (by assumption))) (TF_isLeaf (by assumption))) (TF_sign (by assumption))) (TF_reportsAll (by assumption)))))
set_option maxRecDepth 20000 in
set_option maxHeartbeats 8000000 in
theorem sf_X9_levelOf {S : bT9} (hJ : K9 S) {a1 : Int32} {a2 : Int32} {Q : Int32 → Prop} (hq : ∀ r : Int32, Q r) : wp_X9_levelOf S a1 a2 Q := by
  unfold wp_X9_levelOf
  have jf1 := K9g_nodeMany hJ
  have jf2 : (-4 ≤ ((b9g_now S) 1).toInt ∧ ((b9g_now S) 1).toInt ≤ 4) ∧ (-3 ≤ ((b9g_now S) 4).toInt ∧ ((b9g_now S) 4).toInt ≤ 252) ∧ (0 ≤ ((b9g_now S) 8).toInt ∧ ((b9g_now S) 8).toInt ≤ 64) ∧ (0 ≤ ((b9g_now S) 9).toInt ∧ ((b9g_now S) 9).toInt ≤ 64) ∧ (0 ≤ ((b9g_now S) 10).toInt ∧ ((b9g_now S) 10).toInt ≤ 16) ∧ (0 ≤ ((b9g_now S) 12).toInt ∧ ((b9g_now S) 12).toInt ≤ 8) := K9g_now hJ
  have rga1 := pt_rg a1
  have rga2 := pt_rg a2
  refine ⟨fun n x1q1 x2q1 x3q1 x4q1 => (x1q1 = a1) ∧ (x2q1 = a2) ∧ (0 ≤ (x4q1).toInt) ∧ n = (((b9g_nodeMany S)).toInt + 1 - (x4q1).toInt).toNat, ⟨_, rfl, rfl, (by (try simp (disch := first | ((try simp (disch := first | ((try simp only [pn]) <;> omega) | fail) only [pn, pq]) <;> omega) | fail) only [pn, pq]) <;> (intros; (try simp (disch := first | ((try simp (disch := first | ((try simp only [pn]) <;> omega) | fail) only [pn, pq]) <;> omega) | fail) only [pn, pq]) <;> omega)), rfl⟩, ?_⟩
  rintro n2 x1q1 x2q1 x3q1 x4q1 ⟨hkq1_0, hkq1_1, hiq1_0, hn2⟩
  subst hkq1_0
  subst hkq1_1
  have rgx1q1 := pt_rg x1q1
  have rgx2q1 := pt_rg x2q1
  have rgx3q1 := pt_rg x3q1
  have rgx4q1 := pt_rg x4q1
  unfold wp_X9_levelOf_5b
  refine ⟨fun c3 => ?_, fun c3 => ?_⟩
  · try simp (disch := first | ((try simp (disch := first | ((try simp only [pn]) <;> omega) | fail) only [pn, pq]) <;> omega) | fail) only [pn, pq] at c3
    exact hq _ 
  · try simp (disch := first | ((try simp (disch := first | ((try simp only [pn]) <;> omega) | fail) only [pn, pq]) <;> omega) | fail) only [pn, pq] at c3
    refine ⟨pt_in (by (try simp (disch := first | ((try simp (disch := first | ((try simp only [pn]) <;> omega) | fail) only [pn, pq]) <;> omega) | fail) only [pn, pq]) <;> (intros; (try simp (disch := first | ((try simp (disch := first | ((try simp only [pn]) <;> omega) | fail) only [pn, pq]) <;> omega) | fail) only [pn, pq]) <;> omega)) (by (try simp (disch := first | ((try simp (disch := first | ((try simp only [pn]) <;> omega) | fail) only [pn, pq]) <;> omega) | fail) only [pn, pq]) <;> (intros; (try simp (disch := first | ((try simp (disch := first | ((try simp only [pn]) <;> omega) | fail) only [pn, pq]) <;> omega) | fail) only [pn, pq]) <;> omega)), ?_⟩
    have jr3 := ND_at (K9g_ND hJ) (x := x4q1) (by (try simp (disch := first | ((try simp (disch := first | ((try simp only [pn]) <;> omega) | fail) only [pn, pq]) <;> omega) | fail) only [pn, pq]) <;> (intros; (try simp (disch := first | ((try simp (disch := first | ((try simp only [pn]) <;> omega) | fail) only [pn, pq]) <;> omega) | fail) only [pn, pq]) <;> omega)) (by (try simp (disch := first | ((try simp (disch := first | ((try simp only [pn]) <;> omega) | fail) only [pn, pq]) <;> omega) | fail) only [pn, pq]) <;> (intros; (try simp (disch := first | ((try simp (disch := first | ((try simp only [pn]) <;> omega) | fail) only [pn, pq]) <;> omega) | fail) only [pn, pq]) <;> omega))
    try simp (disch := first | ((try simp (disch := first | ((try simp only [pn]) <;> omega) | fail) only [pn, pq]) <;> omega) | fail) only [pn, pq] at jr3
    refine ⟨fun c4 => ?_, fun c4 => ?_⟩
    · try simp (disch := first | ((try simp (disch := first | ((try simp only [pn]) <;> omega) | fail) only [pn, pq]) <;> omega) | fail) only [pn, pq] at c4
      refine ⟨fun c5 => ?_, fun c5 => ?_⟩
      · try simp (disch := first | ((try simp (disch := first | ((try simp only [pn]) <;> omega) | fail) only [pn, pq]) <;> omega) | fail) only [pn, pq] at c5
        refine ⟨fun c6 => ?_, fun c6 => ?_⟩
        · try simp (disch := first | ((try simp (disch := first | ((try simp only [pn]) <;> omega) | fail) only [pn, pq]) <;> omega) | fail) only [pn, pq] at c6
          refine ⟨fun c7 => ?_, fun c7 => ?_⟩
          · try simp (disch := first | ((try simp (disch := first | ((try simp only [pn]) <;> omega) | fail) only [pn, pq]) <;> omega) | fail) only [pn, pq] at c7
            unfold wp_X9_levelOf_67
            refine sf_X9_bitsOf hJ (by (try simp (disch := first | ((try simp (disch := first | ((try simp only [pn]) <;> omega) | fail) only [pn, pq]) <;> omega) | fail) only [pn, pq]) <;> (intros; (try simp (disch := first | ((try simp (disch := first | ((try simp only [pn]) <;> omega) | fail) only [pn, pq]) <;> omega) | fail) only [pn, pq]) <;> omega)) (by (try simp (disch := first | ((try simp (disch := first | ((try simp only [pn]) <;> omega) | fail) only [pn, pq]) <;> omega) | fail) only [pn, pq]) <;> (intros; (try simp (disch := first | ((try simp (disch := first | ((try simp only [pn]) <;> omega) | fail) only [pn, pq]) <;> omega) | fail) only [pn, pq]) <;> omega)) (fun r8 hr8_0 hr8_1 => ?_)
            have rgr8 := pt_rg r8
            try simp (disch := first | ((try simp (disch := first | ((try simp only [pn]) <;> omega) | fail) only [pn, pq]) <;> omega) | fail) only [pn, pq] at hr8_0
            try simp (disch := first | ((try simp (disch := first | ((try simp only [pn]) <;> omega) | fail) only [pn, pq]) <;> omega) | fail) only [pn, pq] at hr8_1
            unfold wp_X9_levelOf_70
            unfold wp_X9_levelOf_72
            refine ⟨_, ?_, ?_, ?_, ?_, rfl⟩
            · (try simp (disch := first | ((try simp (disch := first | ((try simp only [pn]) <;> omega) | fail) only [pn, pq]) <;> omega) | fail) only [pn, pq]) <;> (intros; (try simp (disch := first | ((try simp (disch := first | ((try simp only [pn]) <;> omega) | fail) only [pn, pq]) <;> omega) | fail) only [pn, pq]) <;> omega)
            · first | rfl | assumption
            · first | rfl | assumption
            · (try simp (disch := first | ((try simp (disch := first | ((try simp only [pn]) <;> omega) | fail) only [pn, pq]) <;> omega) | fail) only [pn, pq]) <;> (intros; (try simp (disch := first | ((try simp (disch := first | ((try simp only [pn]) <;> omega) | fail) only [pn, pq]) <;> omega) | fail) only [pn, pq]) <;> omega)
          · try simp (disch := first | ((try simp (disch := first | ((try simp only [pn]) <;> omega) | fail) only [pn, pq]) <;> omega) | fail) only [pn, pq] at c7
            unfold wp_X9_levelOf_67
            refine sf_X9_bitsOf hJ (by (try simp (disch := first | ((try simp (disch := first | ((try simp only [pn]) <;> omega) | fail) only [pn, pq]) <;> omega) | fail) only [pn, pq]) <;> (intros; (try simp (disch := first | ((try simp (disch := first | ((try simp only [pn]) <;> omega) | fail) only [pn, pq]) <;> omega) | fail) only [pn, pq]) <;> omega)) (by (try simp (disch := first | ((try simp (disch := first | ((try simp only [pn]) <;> omega) | fail) only [pn, pq]) <;> omega) | fail) only [pn, pq]) <;> (intros; (try simp (disch := first | ((try simp (disch := first | ((try simp only [pn]) <;> omega) | fail) only [pn, pq]) <;> omega) | fail) only [pn, pq]) <;> omega)) (fun r10 hr10_0 hr10_1 => ?_)
            have rgr10 := pt_rg r10
            try simp (disch := first | ((try simp (disch := first | ((try simp only [pn]) <;> omega) | fail) only [pn, pq]) <;> omega) | fail) only [pn, pq] at hr10_0
            try simp (disch := first | ((try simp (disch := first | ((try simp only [pn]) <;> omega) | fail) only [pn, pq]) <;> omega) | fail) only [pn, pq] at hr10_1
            unfold wp_X9_levelOf_70
            unfold wp_X9_levelOf_72
            refine ⟨_, ?_, ?_, ?_, ?_, rfl⟩
            · (try simp (disch := first | ((try simp (disch := first | ((try simp only [pn]) <;> omega) | fail) only [pn, pq]) <;> omega) | fail) only [pn, pq]) <;> (intros; (try simp (disch := first | ((try simp (disch := first | ((try simp only [pn]) <;> omega) | fail) only [pn, pq]) <;> omega) | fail) only [pn, pq]) <;> omega)
            · first | rfl | assumption
            · first | rfl | assumption
            · (try simp (disch := first | ((try simp (disch := first | ((try simp only [pn]) <;> omega) | fail) only [pn, pq]) <;> omega) | fail) only [pn, pq]) <;> (intros; (try simp (disch := first | ((try simp (disch := first | ((try simp only [pn]) <;> omega) | fail) only [pn, pq]) <;> omega) | fail) only [pn, pq]) <;> omega)
        · try simp (disch := first | ((try simp (disch := first | ((try simp only [pn]) <;> omega) | fail) only [pn, pq]) <;> omega) | fail) only [pn, pq] at c6
          refine sf_X9_branchMany hJ (by (try simp (disch := first | ((try simp (disch := first | ((try simp only [pn]) <;> omega) | fail) only [pn, pq]) <;> omega) | fail) only [pn, pq]) <;> (intros; (try simp (disch := first | ((try simp (disch := first | ((try simp only [pn]) <;> omega) | fail) only [pn, pq]) <;> omega) | fail) only [pn, pq]) <;> omega)) (by (try simp (disch := first | ((try simp (disch := first | ((try simp only [pn]) <;> omega) | fail) only [pn, pq]) <;> omega) | fail) only [pn, pq]) <;> (intros; (try simp (disch := first | ((try simp (disch := first | ((try simp only [pn]) <;> omega) | fail) only [pn, pq]) <;> omega) | fail) only [pn, pq]) <;> omega)) (fun r12 hr12_0 hr12_1 hr12_2 => ?_)
          have rgr12 := pt_rg r12
          try simp (disch := first | ((try simp (disch := first | ((try simp only [pn]) <;> omega) | fail) only [pn, pq]) <;> omega) | fail) only [pn, pq] at hr12_0
          try simp (disch := first | ((try simp (disch := first | ((try simp only [pn]) <;> omega) | fail) only [pn, pq]) <;> omega) | fail) only [pn, pq] at hr12_1
          try simp (disch := first | ((try simp (disch := first | ((try simp only [pn]) <;> omega) | fail) only [pn, pq]) <;> omega) | fail) only [pn, pq] at hr12_2
          unfold wp_X9_levelOf_70
          unfold wp_X9_levelOf_72
          refine ⟨_, ?_, ?_, ?_, ?_, rfl⟩
          · (try simp (disch := first | ((try simp (disch := first | ((try simp only [pn]) <;> omega) | fail) only [pn, pq]) <;> omega) | fail) only [pn, pq]) <;> (intros; (try simp (disch := first | ((try simp (disch := first | ((try simp only [pn]) <;> omega) | fail) only [pn, pq]) <;> omega) | fail) only [pn, pq]) <;> omega)
          · first | rfl | assumption
          · first | rfl | assumption
          · (try simp (disch := first | ((try simp (disch := first | ((try simp only [pn]) <;> omega) | fail) only [pn, pq]) <;> omega) | fail) only [pn, pq]) <;> (intros; (try simp (disch := first | ((try simp (disch := first | ((try simp only [pn]) <;> omega) | fail) only [pn, pq]) <;> omega) | fail) only [pn, pq]) <;> omega)
      · try simp (disch := first | ((try simp (disch := first | ((try simp only [pn]) <;> omega) | fail) only [pn, pq]) <;> omega) | fail) only [pn, pq] at c5
        unfold wp_X9_levelOf_70
        unfold wp_X9_levelOf_72
        refine ⟨_, ?_, ?_, ?_, ?_, rfl⟩
        · (try simp (disch := first | ((try simp (disch := first | ((try simp only [pn]) <;> omega) | fail) only [pn, pq]) <;> omega) | fail) only [pn, pq]) <;> (intros; (try simp (disch := first | ((try simp (disch := first | ((try simp only [pn]) <;> omega) | fail) only [pn, pq]) <;> omega) | fail) only [pn, pq]) <;> omega)
        · first | rfl | assumption
        · first | rfl | assumption
        · (try simp (disch := first | ((try simp (disch := first | ((try simp only [pn]) <;> omega) | fail) only [pn, pq]) <;> omega) | fail) only [pn, pq]) <;> (intros; (try simp (disch := first | ((try simp (disch := first | ((try simp only [pn]) <;> omega) | fail) only [pn, pq]) <;> omega) | fail) only [pn, pq]) <;> omega)
    · try simp (disch := first | ((try simp (disch := first | ((try simp only [pn]) <;> omega) | fail) only [pn, pq]) <;> omega) | fail) only [pn, pq] at c4
      unfold wp_X9_levelOf_72
      refine ⟨_, ?_, ?_, ?_, ?_, rfl⟩
      · (try simp (disch := first | ((try simp (disch := first | ((try simp only [pn]) <;> omega) | fail) only [pn, pq]) <;> omega) | fail) only [pn, pq]) <;> (intros; (try simp (disch := first | ((try simp (disch := first | ((try simp only [pn]) <;> omega) | fail) only [pn, pq]) <;> omega) | fail) only [pn, pq]) <;> omega)
      · first | rfl | assumption
      · first | rfl | assumption
      · (try simp (disch := first | ((try simp (disch := first | ((try simp only [pn]) <;> omega) | fail) only [pn, pq]) <;> omega) | fail) only [pn, pq]) <;> (intros; (try simp (disch := first | ((try simp (disch := first | ((try simp only [pn]) <;> omega) | fail) only [pn, pq]) <;> omega) | fail) only [pn, pq]) <;> omega)
