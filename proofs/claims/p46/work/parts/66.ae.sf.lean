def F_X9_remove (S u : bT9) : Prop := (b9g_drawn u) = (b9g_drawn S) ∧ (b9g_drawnLength u) = (b9g_drawnLength S) ∧ (b9g_tape u) = (b9g_tape S) ∧ (b9g_taped u) = (b9g_taped S) ∧ (b9g_names u) = (b9g_names S) ∧ (b9g_chosen u) = (b9g_chosen S) ∧ (b9g_common u) = (b9g_common S) ∧ (b9g_beginning u) = (b9g_beginning S) ∧ (b9g_isLaid u) = (b9g_isLaid S) ∧ (b9g_nodeLevel u) = (b9g_nodeLevel S) ∧ (b9g_nodeLeaf u) = (b9g_nodeLeaf S) ∧ (b9g_nodeLeaves u) = (b9g_nodeLeaves S) ∧ (b9g_nodeMany u) = (b9g_nodeMany S) ∧ (b9g_levelMany u) = (b9g_levelMany S) ∧ (b9g_upper u) = (b9g_upper S) ∧ (b9g_upperNodes u) = (b9g_upperNodes S) ∧ (b9g_areNodesLaid u) = (b9g_areNodesLaid S) ∧ (b9g_itemNode u) = (b9g_itemNode S) ∧ (b9g_itemByte u) = (b9g_itemByte S) ∧ (b9g_itemChild u) = (b9g_itemChild S) ∧ (b9g_itemMany u) = (b9g_itemMany S) ∧ (b9g_placeOf u) = (b9g_placeOf S) ∧ (b9g_leafOfPlace u) = (b9g_leafOfPlace S) ∧ (b9g_places u) = (b9g_places S) ∧ (b9g_lowKey u) = (b9g_lowKey S) ∧ (b9g_highKey u) = (b9g_highKey S) ∧ (b9g_lowLength u) = (b9g_lowLength S) ∧ (b9g_highLength u) = (b9g_highLength S) ∧ (b9g_fromKey u) = (b9g_fromKey S) ∧ (b9g_toKey u) = (b9g_toKey S) ∧ (b9g_fromLength u) = (b9g_fromLength S) ∧ (b9g_toLength u) = (b9g_toLength S) ∧ (b9g_ones u) = (b9g_ones S) ∧ (b9g_oneMany u) = (b9g_oneMany S) ∧ (b9g_rowLong u) = (b9g_rowLong S) ∧ (b9g_laidFor u) = (b9g_laidFor S) ∧ (b9g_signs u) = (b9g_signs S) ∧ (b9g_signMany u) = (b9g_signMany S) ∧ (b9g_hasImage u) = (b9g_hasImage S) ∧ (b9g_images u) = (b9g_images S) ∧ (b9g_keyImages u) = (b9g_keyImages S) ∧ (b9g_lengthImages u) = (b9g_lengthImages S)
theorem sf_X9_remove {S : bT9} (hJ : J9 S) {a1 : Int32} {a2 : Int32} {a3 : Int32} {Q : Int32 → (bT9) → Prop} (hq : ∀ (r : Int32) (u : bT9), (J9 u) → F_X9_remove S u → (SRT (b9g_keys S) (b9g_lengths S) (b9g_now S 8).toInt → (1 ≤ a3.toInt ∧ a3.toInt ≤ 8 → NUM (b9g_keys S) (b9g_lengths S) (b9g_now S 8).toInt (KEY a1 a2 a3) a3 r.toInt) ∧ (¬ (1 ≤ a3.toInt ∧ a3.toInt ≤ 8) → r.toInt = -1)) → (DRP (b9g_keys S) (b9g_lengths S) (b9g_now S 8).toInt r.toInt (b9g_keys u) (b9g_lengths u) (b9g_now u 8).toInt) → (∀ j : Nat, 64 ≤ j → b9g_keys u j = b9g_keys S j ∧ b9g_lengths u j = b9g_lengths S j) → (∀ i : Nat, i ≠ 8 → b9g_now u i = b9g_now S i) → (b9g_now u 10 = b9g_now S 10) → (b9g_now u 7 = b9g_now S 7) → Q r u) : wp_X9_remove S a1 a2 a3 Q := by
  have jn := (J9g_now hJ).2.2.1
  have c8 : ((8 : Int32)).toNatClampNeg = 8 := by decide
  have v8 : vp_in (8 : Int32) 23 := pt_in (by decide) (by decide)
  unfold wp_X9_remove
  intro S1 e1
  have hJ1 : J9 S1 := by rw [e1]; exact J9s_told hJ
  have hF1 : F_X9_remove S S1 := by rw [e1]; exact ⟨rfl, rfl, rfl, rfl, rfl, rfl, rfl, rfl, rfl, rfl, rfl, rfl, rfl, rfl, rfl, rfl, rfl, rfl, rfl, rfl, rfl, rfl, rfl, rfl, rfl, rfl, rfl, rfl, rfl, rfl, rfl, rfl, rfl, rfl, rfl, rfl, rfl, rfl, rfl, rfl, rfl, rfl⟩
  have ek : b9g_keys S1 = b9g_keys S := by rw [e1]
  have el : b9g_lengths S1 = b9g_lengths S := by rw [e1]
  have en : b9g_now S1 = b9g_now S := by rw [e1]
  have go : ∀ t : Int32, (t.toInt = -1 ∨ (0 ≤ t.toInt ∧ t.toInt < (b9g_now S 8).toInt)) → (SRT (b9g_keys S) (b9g_lengths S) (b9g_now S 8).toInt → (1 ≤ a3.toInt ∧ a3.toInt ≤ 8 → NUM (b9g_keys S) (b9g_lengths S) (b9g_now S 8).toInt (KEY a1 a2 a3) a3 t.toInt) ∧ (¬ (1 ≤ a3.toInt ∧ a3.toInt ≤ 8) → t.toInt = -1)) → wp_X9_remove_37 S1 t Q := by
    intro t ht hN
    unfold wp_X9_remove_37
    rw [c8, en]
    refine ⟨fun c => ⟨v8, v8, fun S3 e3 => ?_⟩, fun c => ?_⟩
    rotate_left
    · refine hq _ _ hJ1 hF1 ?_ (Or.inl ⟨by rw [pl_m1]; omega, by rw [en], fun j hj => ⟨by rw [ek], by rw [el]⟩⟩) (fun j hj => ⟨by rw [ek], by rw [el]⟩) (fun i hi => by rw [en]) (by rw [en]) (by rw [en])
      rw [c] at hN
      exact hN
    simp only [pn] at c
    have t0 : 0 ≤ t.toInt ∧ t.toInt < (b9g_now S 8).toInt := by omega
    have e81 : (b9g_now S 8 - 1).toInt = (b9g_now S 8).toInt - 1 := by rw [pt_sub (by rw [pl_1]; omega) (by rw [pl_1]; omega), pl_1]
    have en3 : b9g_now S3 = upd (b9g_now S) 8 (b9g_now S 8 - 1) := by rw [e3]
    have hJ3 : J9 S3 := by
      rw [e3, ← c8]
      refine J9s_now hJ1 (NW_set (J9g_now hJ) (fun e => absurd e (by decide)) (fun e => absurd e (by decide)) (fun _ => ⟨?_, ?_⟩) (fun e => absurd e (by decide)) (fun e => absurd e (by decide)) (fun e => absurd e (by decide))) (by rw [en]; exact up_n (by decide))
      · rw [c8, e81]; omega
      · rw [c8, e81]; omega
    have ec3 : (b9g_now S3 8).toInt = (b9g_now S 8).toInt - 1 := by rw [en3]; unfold upd; rw [if_pos rfl]; exact e81
    have eo3 : ∀ i : Nat, i ≠ 8 → b9g_now S3 i = b9g_now S i := fun i hi => by rw [en3]; unfold upd; rw [if_neg hi]
    unfold wp_X9_remove_67
    refine ⟨fun n x4 x5 V => x4 = t ∧ J9 V ∧ F_X9_remove S V ∧ b9g_now V = b9g_now S3 ∧ t.toInt ≤ x5.toInt ∧ x5.toInt ≤ (b9g_now S 8).toInt - 1 ∧ (∀ j : Nat, (j : Int) < t.toInt ∨ x5.toInt ≤ (j : Int) → b9g_keys V j = b9g_keys S j ∧ b9g_lengths V j = b9g_lengths S j) ∧ (∀ j : Nat, t.toInt ≤ (j : Int) → (j : Int) < x5.toInt → b9g_keys V j = b9g_keys S (j + 1) ∧ b9g_lengths V j = b9g_lengths S (j + 1)) ∧ n = ((b9g_now S 8).toInt - x5.toInt).toNat, ⟨_, rfl, hJ3, by rw [e3]; exact hF1, rfl, Int.le_refl _, by omega, fun j hj => ⟨by rw [e3]; exact congrFun ek j, by rw [e3]; exact congrFun el j⟩, fun j hj hc => by omega, rfl⟩, ?_⟩
    rintro n x4 x5 V ⟨ex, hJV, hFV, eV, l1, l2, p1, p2, hn0⟩
    unfold wp_X9_remove_67b
    rw [ex, c8, eV]
    have ec5 := pt_clamp (i := x5) (by omega)
    refine ⟨v8, fun d => ?_, fun d => ?_⟩
    · simp only [pn] at d
      refine hq _ _ hJV hFV hN (Or.inr ⟨t0.1, t0.2, by rw [eV]; exact ec3, fun j hj => p1 j (Or.inl hj), fun j hj hc => p2 j hj (by omega)⟩) (fun j hj => p1 j (Or.inr (by omega))) (fun i hi => by rw [eV]; exact eo3 i hi) (by rw [eV]; exact eo3 10 (by decide)) (by rw [eV]; exact eo3 7 (by decide))
    · simp only [pn] at d
      have x1' : (x5 + 1).toInt = x5.toInt + 1 := by rw [pt_add (by rw [pl_1]; omega) (by rw [pl_1]; omega), pl_1]
      have c51 := pt_clamp (i := x5 + 1) (by omega)
      have v1 : vp_in (x5 + 1) 144 := pt_in (by omega) (by omega)
      have v2 : vp_in x5 144 := pt_in (by omega) (by omega)
      refine ⟨v1, v2, fun S4 d4 => ⟨v1, v2, fun S5 d5 => ?_⟩⟩
      have hJ4 : J9 S4 := by rw [d4]; exact J9s_keys hJV (fun j hj => upL_n (by omega))
      have hJ5 : J9 S5 := by rw [d5]; exact J9s_lengths hJ4 (pt_updr (J9g_lengths hJ4) (J9g_lengths hJ4 _)) (fun j hj => up_n (by omega))
      have eb : b9g_keys S5 = vp_updL (b9g_keys V) x5.toNatClampNeg (b9g_keys V (x5 + 1).toNatClampNeg) := by rw [d5, d4]
      have eg : b9g_lengths S5 = upd (b9g_lengths V) x5.toNatClampNeg (b9g_lengths V (x5 + 1).toNatClampNeg) := by rw [d5, d4]
      refine ⟨_, ?_, rfl, hJ5, by rw [d5, d4]; exact hFV, by rw [d5, d4]; exact eV, by omega, by omega, fun j hj => ?_, fun j hj hc => ?_, rfl⟩
      · omega
      · rw [eb, eg]
        unfold vp_updL upd
        rw [if_neg (by omega), if_neg (by omega)]
        exact p1 j (by omega)
      · rw [eb, eg]
        unfold vp_updL upd
        by_cases h : j = x5.toNatClampNeg
        · rw [if_pos h, if_pos h, show (x5 + 1).toNatClampNeg = j + 1 by omega]
          exact p1 (j + 1) (by omega)
        · rw [if_neg h, if_neg h]
          exact p2 j hj (by omega)
  refine sf_X9_isKey hJ1.1 (fun r2 hz h2 => ⟨fun c => ?_, fun c => ⟨v8, ?_⟩⟩)
  · simp only [pn] at c
    exact go _ (Or.inl rfl) (fun _ => ⟨fun h => by omega, fun _ => rfl⟩)
  · simp only [pn] at c
    have hn : 1 ≤ a3.toInt ∧ a3.toInt ≤ 8 := by omega
    refine sf_X9_keyOf hJ1.1 (fun r4 h4 => ?_)
    rw [c8, en]
    refine sf_X9_find hJ1.1 (by decide) jn.1 (by rw [pl_0]; omega) (fun r6 h6 hN => ?_)
    rw [sh0, sh0', ek, el, h4] at hN
    exact go _ h6 (fun hs => ⟨fun _ => hN hs, fun h => absurd hn h⟩)
def F_X9_has (S u : bT9) : Prop := (b9g_now u) = (b9g_now S) ∧ (b9g_keys u) = (b9g_keys S) ∧ (b9g_lengths u) = (b9g_lengths S) ∧ (b9g_drawn u) = (b9g_drawn S) ∧ (b9g_drawnLength u) = (b9g_drawnLength S) ∧ (b9g_tape u) = (b9g_tape S) ∧ (b9g_taped u) = (b9g_taped S) ∧ (b9g_names u) = (b9g_names S) ∧ (b9g_chosen u) = (b9g_chosen S) ∧ (b9g_common u) = (b9g_common S) ∧ (b9g_beginning u) = (b9g_beginning S) ∧ (b9g_isLaid u) = (b9g_isLaid S) ∧ (b9g_nodeLevel u) = (b9g_nodeLevel S) ∧ (b9g_nodeLeaf u) = (b9g_nodeLeaf S) ∧ (b9g_nodeLeaves u) = (b9g_nodeLeaves S) ∧ (b9g_nodeMany u) = (b9g_nodeMany S) ∧ (b9g_levelMany u) = (b9g_levelMany S) ∧ (b9g_upper u) = (b9g_upper S) ∧ (b9g_upperNodes u) = (b9g_upperNodes S) ∧ (b9g_areNodesLaid u) = (b9g_areNodesLaid S) ∧ (b9g_itemNode u) = (b9g_itemNode S) ∧ (b9g_itemByte u) = (b9g_itemByte S) ∧ (b9g_itemChild u) = (b9g_itemChild S) ∧ (b9g_itemMany u) = (b9g_itemMany S) ∧ (b9g_placeOf u) = (b9g_placeOf S) ∧ (b9g_leafOfPlace u) = (b9g_leafOfPlace S) ∧ (b9g_places u) = (b9g_places S) ∧ (b9g_lowKey u) = (b9g_lowKey S) ∧ (b9g_highKey u) = (b9g_highKey S) ∧ (b9g_lowLength u) = (b9g_lowLength S) ∧ (b9g_highLength u) = (b9g_highLength S) ∧ (b9g_fromKey u) = (b9g_fromKey S) ∧ (b9g_toKey u) = (b9g_toKey S) ∧ (b9g_fromLength u) = (b9g_fromLength S) ∧ (b9g_toLength u) = (b9g_toLength S) ∧ (b9g_ones u) = (b9g_ones S) ∧ (b9g_oneMany u) = (b9g_oneMany S) ∧ (b9g_rowLong u) = (b9g_rowLong S) ∧ (b9g_laidFor u) = (b9g_laidFor S) ∧ (b9g_signs u) = (b9g_signs S) ∧ (b9g_signMany u) = (b9g_signMany S) ∧ (b9g_hasImage u) = (b9g_hasImage S) ∧ (b9g_images u) = (b9g_images S) ∧ (b9g_keyImages u) = (b9g_keyImages S) ∧ (b9g_lengthImages u) = (b9g_lengthImages S)
theorem sf_X9_has {S : bT9} (hJ : J9 S) {a1 : Int32} {a2 : Int32} {a3 : Int32} {a4 : Int32} {Q : Int32 → (bT9) → Prop} (hq : ∀ (r : Int32) (u : bT9), (J9 u) → F_X9_has S u → (1 ≤ a3.toInt ∧ a3.toInt ≤ 8 → a4.toInt = 0 → SRT (b9g_keys S) (b9g_lengths S) (b9g_now S 8).toInt → NUM (b9g_keys S) (b9g_lengths S) (b9g_now S 8).toInt (KEY a1 a2 a3) a3 r.toInt) → (1 ≤ a3.toInt ∧ a3.toInt ≤ 8 → a4.toInt = 1 → SRT (fun j => b9g_keys S (64 + j)) (fun j => b9g_lengths S (64 + j)) (b9g_now S 9).toInt → NUM (fun j => b9g_keys S (64 + j)) (fun j => b9g_lengths S (64 + j)) (b9g_now S 9).toInt (KEY a1 a2 a3) a3 r.toInt) → (¬ ((1 ≤ a3.toInt ∧ a3.toInt ≤ 8) ∧ (a4.toInt = 0 ∨ a4.toInt = 1)) → r.toInt = -1) → Q r u) : wp_X9_has S a1 a2 a3 a4 Q := by
  have j8 := (J9g_now hJ).2.2.1
  have j9 := (J9g_now hJ).2.2.2.1
  have c8 : ((8 : Int32)).toNatClampNeg = 8 := by decide
  have c9 : ((9 : Int32)).toNatClampNeg = 9 := by decide
  unfold wp_X9_has
  intro S1 e1
  have hJ1 : J9 S1 := by rw [e1]; exact J9s_told hJ
  have hF1 : F_X9_has S S1 := by rw [e1]; exact ⟨rfl, rfl, rfl, rfl, rfl, rfl, rfl, rfl, rfl, rfl, rfl, rfl, rfl, rfl, rfl, rfl, rfl, rfl, rfl, rfl, rfl, rfl, rfl, rfl, rfl, rfl, rfl, rfl, rfl, rfl, rfl, rfl, rfl, rfl, rfl, rfl, rfl, rfl, rfl, rfl, rfl, rfl, rfl, rfl, rfl⟩
  have ek : b9g_keys S1 = b9g_keys S := by rw [e1]
  have el : b9g_lengths S1 = b9g_lengths S := by rw [e1]
  have en : b9g_now S1 = b9g_now S := by rw [e1]
  rw [c8, c9, en]
  refine sf_X9_isKey hJ1.1 (fun r2 hz h2 => ⟨fun c => ?_, fun c => sf_X9_isIn hJ1.1 (fun r4 hz4 h4 => ⟨fun d => ?_, fun d => ?_⟩)⟩)
  · simp only [pn] at c
    exact hq _ _ hJ1 hF1 (fun h _ => by omega) (fun h _ => by omega) (fun _ => rfl)
  rotate_left
  · simp only [pn] at c d h4
    exact hq _ _ hJ1 hF1 (fun _ h => by omega) (fun _ h => by omega) (fun _ => rfl)
  simp only [pn] at c d h4
  have hn : 1 ≤ a3.toInt ∧ a3.toInt ≤ 8 := by omega
  refine ⟨fun e => ⟨pt_in (by decide) (by decide), sf_X9_keyOf hJ1.1 (fun r6 h6 => ?_)⟩, fun e => ⟨pt_in (by decide) (by decide), sf_X9_keyOf hJ1.1 (fun r6 h6 => ?_)⟩⟩
  · simp only [pn] at e
    refine sf_X9_find hJ1.1 (by decide) j9.1 (by rw [pl_64]; omega) (fun r8 h8 hN => ?_)
    rw [sh64, sh64', ek, el, h6] at hN
    exact hq _ _ hJ1 hF1 (fun _ h => by omega) (fun _ _ hs => hN hs) (fun h => absurd ⟨hn, Or.inr (by omega)⟩ h)
  · simp only [pn] at e
    refine sf_X9_find hJ1.1 (by decide) j8.1 (by rw [pl_0]; omega) (fun r8 h8 hN => ?_)
    rw [sh0, sh0', ek, el, h6] at hN
    exact hq _ _ hJ1 hF1 (fun _ _ hs => hN hs) (fun _ h => by omega) (fun h => absurd ⟨hn, Or.inl e⟩ h)
def F_X9_draws (S u : bT9) : Prop := (b9g_told u) = (b9g_told S) ∧ (b9g_keys u) = (b9g_keys S) ∧ (b9g_lengths u) = (b9g_lengths S) ∧ (b9g_tape u) = (b9g_tape S) ∧ (b9g_taped u) = (b9g_taped S) ∧ (b9g_names u) = (b9g_names S) ∧ (b9g_chosen u) = (b9g_chosen S) ∧ (b9g_common u) = (b9g_common S) ∧ (b9g_beginning u) = (b9g_beginning S) ∧ (b9g_isLaid u) = (b9g_isLaid S) ∧ (b9g_nodeLevel u) = (b9g_nodeLevel S) ∧ (b9g_nodeLeaf u) = (b9g_nodeLeaf S) ∧ (b9g_nodeLeaves u) = (b9g_nodeLeaves S) ∧ (b9g_nodeMany u) = (b9g_nodeMany S) ∧ (b9g_levelMany u) = (b9g_levelMany S) ∧ (b9g_upper u) = (b9g_upper S) ∧ (b9g_upperNodes u) = (b9g_upperNodes S) ∧ (b9g_areNodesLaid u) = (b9g_areNodesLaid S) ∧ (b9g_itemNode u) = (b9g_itemNode S) ∧ (b9g_itemByte u) = (b9g_itemByte S) ∧ (b9g_itemChild u) = (b9g_itemChild S) ∧ (b9g_itemMany u) = (b9g_itemMany S) ∧ (b9g_placeOf u) = (b9g_placeOf S) ∧ (b9g_leafOfPlace u) = (b9g_leafOfPlace S) ∧ (b9g_places u) = (b9g_places S) ∧ (b9g_lowKey u) = (b9g_lowKey S) ∧ (b9g_highKey u) = (b9g_highKey S) ∧ (b9g_lowLength u) = (b9g_lowLength S) ∧ (b9g_highLength u) = (b9g_highLength S) ∧ (b9g_fromKey u) = (b9g_fromKey S) ∧ (b9g_toKey u) = (b9g_toKey S) ∧ (b9g_fromLength u) = (b9g_fromLength S) ∧ (b9g_toLength u) = (b9g_toLength S) ∧ (b9g_ones u) = (b9g_ones S) ∧ (b9g_oneMany u) = (b9g_oneMany S) ∧ (b9g_rowLong u) = (b9g_rowLong S) ∧ (b9g_laidFor u) = (b9g_laidFor S) ∧ (b9g_signs u) = (b9g_signs S) ∧ (b9g_signMany u) = (b9g_signMany S) ∧ (b9g_hasImage u) = (b9g_hasImage S) ∧ (b9g_images u) = (b9g_images S) ∧ (b9g_keyImages u) = (b9g_keyImages S) ∧ (b9g_lengthImages u) = (b9g_lengthImages S)
theorem sf_X9_draws {S : bT9} (hJ : J9 S) {a1 : Int32} {Q : (bT9) → Prop} (hp0 : 1 ≤ a1.toInt) (hp1 : a1.toInt ≤ 8) (hq : ∀ u : bT9, (J9 u) → F_X9_draws S u → (1 ≤ (b9g_drawnLength u).toInt) → ((b9g_drawnLength u).toInt ≤ 8) → (b9g_now u 7 = stp a1 (b9g_now S 7)) → (b9g_drawnLength u = 1 + drw (lcg (b9g_now S 7)) a1) → (b9g_drawn u = DKY (b9g_now S 4 + 4) (lcg (b9g_now S 7)) (b9g_drawnLength u).toInt.toNat) → (∀ i : Nat, i ≠ 7 → b9g_now u i = b9g_now S i) → (b9g_now u 10 = b9g_now S 10) → Q u) : wp_X9_draws S a1 Q := by
  unfold wp_X9_draws
  refine sf_X9_draw hJ (by omega) (fun r7 u8 hJ8 hf8 r0 r1 d8 q8 o8 t8 => ?_)
  intro S9 e9 S10 e10
  have er : (1 + r7).toInt = 1 + r7.toInt := by rw [pt_add (by rw [pl_1]; omega) (by rw [pl_1]; omega), pl_1]
  have hJ9' : J9 S9 := by rw [e9]; exact J9s_drawnLength hJ8 ⟨by rw [er]; omega, by rw [er]; omega⟩
  have hJ10 : J9 S10 := by rw [e10]; exact J9s_drawn hJ9'
  have hF8 : F_X9_draws S u8 := ⟨hf8.1, hf8.2.1, hf8.2.2.1, hf8.2.2.2.2.2.1, hf8.2.2.2.2.2.2.1, hf8.2.2.2.2.2.2.2.1, hf8.2.2.2.2.2.2.2.2.1, hf8.2.2.2.2.2.2.2.2.2.1, hf8.2.2.2.2.2.2.2.2.2.2.1, hf8.2.2.2.2.2.2.2.2.2.2.2.1, hf8.2.2.2.2.2.2.2.2.2.2.2.2.1, hf8.2.2.2.2.2.2.2.2.2.2.2.2.2.1, hf8.2.2.2.2.2.2.2.2.2.2.2.2.2.2.1, hf8.2.2.2.2.2.2.2.2.2.2.2.2.2.2.2.1, hf8.2.2.2.2.2.2.2.2.2.2.2.2.2.2.2.2.1, hf8.2.2.2.2.2.2.2.2.2.2.2.2.2.2.2.2.2.1, hf8.2.2.2.2.2.2.2.2.2.2.2.2.2.2.2.2.2.2.1, hf8.2.2.2.2.2.2.2.2.2.2.2.2.2.2.2.2.2.2.2.1, hf8.2.2.2.2.2.2.2.2.2.2.2.2.2.2.2.2.2.2.2.2.1, hf8.2.2.2.2.2.2.2.2.2.2.2.2.2.2.2.2.2.2.2.2.2.1, hf8.2.2.2.2.2.2.2.2.2.2.2.2.2.2.2.2.2.2.2.2.2.2.1, hf8.2.2.2.2.2.2.2.2.2.2.2.2.2.2.2.2.2.2.2.2.2.2.2.1, hf8.2.2.2.2.2.2.2.2.2.2.2.2.2.2.2.2.2.2.2.2.2.2.2.2.1, hf8.2.2.2.2.2.2.2.2.2.2.2.2.2.2.2.2.2.2.2.2.2.2.2.2.2.1, hf8.2.2.2.2.2.2.2.2.2.2.2.2.2.2.2.2.2.2.2.2.2.2.2.2.2.2.1, hf8.2.2.2.2.2.2.2.2.2.2.2.2.2.2.2.2.2.2.2.2.2.2.2.2.2.2.2.1, hf8.2.2.2.2.2.2.2.2.2.2.2.2.2.2.2.2.2.2.2.2.2.2.2.2.2.2.2.2.1, hf8.2.2.2.2.2.2.2.2.2.2.2.2.2.2.2.2.2.2.2.2.2.2.2.2.2.2.2.2.2.1, hf8.2.2.2.2.2.2.2.2.2.2.2.2.2.2.2.2.2.2.2.2.2.2.2.2.2.2.2.2.2.2.1, hf8.2.2.2.2.2.2.2.2.2.2.2.2.2.2.2.2.2.2.2.2.2.2.2.2.2.2.2.2.2.2.2.1, hf8.2.2.2.2.2.2.2.2.2.2.2.2.2.2.2.2.2.2.2.2.2.2.2.2.2.2.2.2.2.2.2.2.1, hf8.2.2.2.2.2.2.2.2.2.2.2.2.2.2.2.2.2.2.2.2.2.2.2.2.2.2.2.2.2.2.2.2.2.1, hf8.2.2.2.2.2.2.2.2.2.2.2.2.2.2.2.2.2.2.2.2.2.2.2.2.2.2.2.2.2.2.2.2.2.2.1, hf8.2.2.2.2.2.2.2.2.2.2.2.2.2.2.2.2.2.2.2.2.2.2.2.2.2.2.2.2.2.2.2.2.2.2.2.1, hf8.2.2.2.2.2.2.2.2.2.2.2.2.2.2.2.2.2.2.2.2.2.2.2.2.2.2.2.2.2.2.2.2.2.2.2.2.1, hf8.2.2.2.2.2.2.2.2.2.2.2.2.2.2.2.2.2.2.2.2.2.2.2.2.2.2.2.2.2.2.2.2.2.2.2.2.2.1, hf8.2.2.2.2.2.2.2.2.2.2.2.2.2.2.2.2.2.2.2.2.2.2.2.2.2.2.2.2.2.2.2.2.2.2.2.2.2.2.1, hf8.2.2.2.2.2.2.2.2.2.2.2.2.2.2.2.2.2.2.2.2.2.2.2.2.2.2.2.2.2.2.2.2.2.2.2.2.2.2.2.1, hf8.2.2.2.2.2.2.2.2.2.2.2.2.2.2.2.2.2.2.2.2.2.2.2.2.2.2.2.2.2.2.2.2.2.2.2.2.2.2.2.2.1, hf8.2.2.2.2.2.2.2.2.2.2.2.2.2.2.2.2.2.2.2.2.2.2.2.2.2.2.2.2.2.2.2.2.2.2.2.2.2.2.2.2.2.1, hf8.2.2.2.2.2.2.2.2.2.2.2.2.2.2.2.2.2.2.2.2.2.2.2.2.2.2.2.2.2.2.2.2.2.2.2.2.2.2.2.2.2.2.1, hf8.2.2.2.2.2.2.2.2.2.2.2.2.2.2.2.2.2.2.2.2.2.2.2.2.2.2.2.2.2.2.2.2.2.2.2.2.2.2.2.2.2.2.2.1, hf8.2.2.2.2.2.2.2.2.2.2.2.2.2.2.2.2.2.2.2.2.2.2.2.2.2.2.2.2.2.2.2.2.2.2.2.2.2.2.2.2.2.2.2.2⟩
  have hF10 : F_X9_draws S S10 := by rw [e10, e9]; exact hF8
  have n10 : b9g_now S10 = b9g_now u8 := by rw [e10, e9]
  have l10 : b9g_drawnLength S10 = 1 + drw (lcg (b9g_now S 7)) a1 := by
    have : b9g_drawnLength S10 = 1 + r7 := by rw [e10, e9]
    rw [this, q8, d8]
  have w10 : b9g_drawn S10 = 0 := by rw [e10]
  have m10 : 1 ≤ (1 + drw (lcg (b9g_now S 7)) a1).toInt ∧ (1 + drw (lcg (b9g_now S 7)) a1).toInt ≤ 8 := by
    rw [← d8, ← q8, er]
    omega
  obtain ⟨M, hM⟩ : ∃ M : Int32, 1 + drw (lcg (b9g_now S 7)) a1 = M := ⟨_, rfl⟩
  rw [hM] at l10 m10
  unfold wp_X9_draws_18
  refine ⟨fun n x2 V => 0 ≤ x2.toInt ∧ x2.toInt ≤ M.toInt ∧ J9 V ∧ F_X9_draws S V ∧ b9g_drawnLength V = M ∧ b9g_now V 7 = lcgN x2.toInt.toNat (lcg (b9g_now S 7)) ∧ (∀ i : Nat, i ≠ 7 → b9g_now V i = b9g_now S i) ∧ b9g_drawn V = DKY (b9g_now S 4 + 4) (lcg (b9g_now S 7)) x2.toInt.toNat ∧ n = (M.toInt - x2.toInt).toNat, ⟨_, by decide, by rw [pl_0]; omega, hJ10, hF10, l10, by rw [z0, lcgN0, n10, d8], fun i hi => by rw [n10]; exact o8 i hi, by rw [z0, w10]; rfl, rfl⟩, ?_⟩
  rintro n x2 V ⟨h0, h1, hJV, hFV, hl, h7, ho, hk, hn⟩
  unfold wp_X9_draws_18b
  rw [hl]
  refine ⟨fun c => ?_, fun c => ?_⟩
  · simp only [pn] at c
    have ex : x2.toInt = M.toInt := by omega
    rw [ex] at h7 hk
    refine hq _ hJV hFV (by rw [hl]; exact m10.1) (by rw [hl]; exact m10.2) ?_ (by rw [hl, hM]) (by rw [hl]; exact hk) ho (ho 10 (by decide))
    rw [h7]
    unfold stp
    rw [hM]
  simp only [pn] at c
  refine sf_X9_settingOf hJV.1 (by decide) (by decide) (fun r1 g4 _ s4 _ => ?_)
  have g4' := g4 rfl
  refine sf_X9_draw hJV (by omega) (fun r3 u4 hJ4 hf4 _ _ d4 q4 o4 t4 => ?_)
  intro v5 e5 S6 e6
  have x2' : (x2 + 1).toInt = x2.toInt + 1 := by rw [pt_add (by rw [pl_1]; omega) (by rw [pl_1]; omega), pl_1]
  have n6 : b9g_now S6 = b9g_now u4 := by rw [e6]
  have l6 : b9g_drawnLength S6 = b9g_drawnLength V := by rw [e6]; exact hf4.2.2.2.2.1
  have hF4 : F_X9_draws S u4 := ⟨(hf4.1).trans (hFV.1), (hf4.2.1).trans (hFV.2.1), (hf4.2.2.1).trans (hFV.2.2.1), (hf4.2.2.2.2.2.1).trans (hFV.2.2.2.1), (hf4.2.2.2.2.2.2.1).trans (hFV.2.2.2.2.1), (hf4.2.2.2.2.2.2.2.1).trans (hFV.2.2.2.2.2.1), (hf4.2.2.2.2.2.2.2.2.1).trans (hFV.2.2.2.2.2.2.1), (hf4.2.2.2.2.2.2.2.2.2.1).trans (hFV.2.2.2.2.2.2.2.1), (hf4.2.2.2.2.2.2.2.2.2.2.1).trans (hFV.2.2.2.2.2.2.2.2.1), (hf4.2.2.2.2.2.2.2.2.2.2.2.1).trans (hFV.2.2.2.2.2.2.2.2.2.1), (hf4.2.2.2.2.2.2.2.2.2.2.2.2.1).trans (hFV.2.2.2.2.2.2.2.2.2.2.1), (hf4.2.2.2.2.2.2.2.2.2.2.2.2.2.1).trans (hFV.2.2.2.2.2.2.2.2.2.2.2.1), (hf4.2.2.2.2.2.2.2.2.2.2.2.2.2.2.1).trans (hFV.2.2.2.2.2.2.2.2.2.2.2.2.1), (hf4.2.2.2.2.2.2.2.2.2.2.2.2.2.2.2.1).trans (hFV.2.2.2.2.2.2.2.2.2.2.2.2.2.1), (hf4.2.2.2.2.2.2.2.2.2.2.2.2.2.2.2.2.1).trans (hFV.2.2.2.2.2.2.2.2.2.2.2.2.2.2.1), (hf4.2.2.2.2.2.2.2.2.2.2.2.2.2.2.2.2.2.1).trans (hFV.2.2.2.2.2.2.2.2.2.2.2.2.2.2.2.1), (hf4.2.2.2.2.2.2.2.2.2.2.2.2.2.2.2.2.2.2.1).trans (hFV.2.2.2.2.2.2.2.2.2.2.2.2.2.2.2.2.1), (hf4.2.2.2.2.2.2.2.2.2.2.2.2.2.2.2.2.2.2.2.1).trans (hFV.2.2.2.2.2.2.2.2.2.2.2.2.2.2.2.2.2.1), (hf4.2.2.2.2.2.2.2.2.2.2.2.2.2.2.2.2.2.2.2.2.1).trans (hFV.2.2.2.2.2.2.2.2.2.2.2.2.2.2.2.2.2.2.1), (hf4.2.2.2.2.2.2.2.2.2.2.2.2.2.2.2.2.2.2.2.2.2.1).trans (hFV.2.2.2.2.2.2.2.2.2.2.2.2.2.2.2.2.2.2.2.1), (hf4.2.2.2.2.2.2.2.2.2.2.2.2.2.2.2.2.2.2.2.2.2.2.1).trans (hFV.2.2.2.2.2.2.2.2.2.2.2.2.2.2.2.2.2.2.2.2.1), (hf4.2.2.2.2.2.2.2.2.2.2.2.2.2.2.2.2.2.2.2.2.2.2.2.1).trans (hFV.2.2.2.2.2.2.2.2.2.2.2.2.2.2.2.2.2.2.2.2.2.1), (hf4.2.2.2.2.2.2.2.2.2.2.2.2.2.2.2.2.2.2.2.2.2.2.2.2.1).trans (hFV.2.2.2.2.2.2.2.2.2.2.2.2.2.2.2.2.2.2.2.2.2.2.1), (hf4.2.2.2.2.2.2.2.2.2.2.2.2.2.2.2.2.2.2.2.2.2.2.2.2.2.1).trans (hFV.2.2.2.2.2.2.2.2.2.2.2.2.2.2.2.2.2.2.2.2.2.2.2.1), (hf4.2.2.2.2.2.2.2.2.2.2.2.2.2.2.2.2.2.2.2.2.2.2.2.2.2.2.1).trans (hFV.2.2.2.2.2.2.2.2.2.2.2.2.2.2.2.2.2.2.2.2.2.2.2.2.1), (hf4.2.2.2.2.2.2.2.2.2.2.2.2.2.2.2.2.2.2.2.2.2.2.2.2.2.2.2.1).trans (hFV.2.2.2.2.2.2.2.2.2.2.2.2.2.2.2.2.2.2.2.2.2.2.2.2.2.1), (hf4.2.2.2.2.2.2.2.2.2.2.2.2.2.2.2.2.2.2.2.2.2.2.2.2.2.2.2.2.1).trans (hFV.2.2.2.2.2.2.2.2.2.2.2.2.2.2.2.2.2.2.2.2.2.2.2.2.2.2.1), (hf4.2.2.2.2.2.2.2.2.2.2.2.2.2.2.2.2.2.2.2.2.2.2.2.2.2.2.2.2.2.1).trans (hFV.2.2.2.2.2.2.2.2.2.2.2.2.2.2.2.2.2.2.2.2.2.2.2.2.2.2.2.1), (hf4.2.2.2.2.2.2.2.2.2.2.2.2.2.2.2.2.2.2.2.2.2.2.2.2.2.2.2.2.2.2.1).trans (hFV.2.2.2.2.2.2.2.2.2.2.2.2.2.2.2.2.2.2.2.2.2.2.2.2.2.2.2.2.1), (hf4.2.2.2.2.2.2.2.2.2.2.2.2.2.2.2.2.2.2.2.2.2.2.2.2.2.2.2.2.2.2.2.1).trans (hFV.2.2.2.2.2.2.2.2.2.2.2.2.2.2.2.2.2.2.2.2.2.2.2.2.2.2.2.2.2.1), (hf4.2.2.2.2.2.2.2.2.2.2.2.2.2.2.2.2.2.2.2.2.2.2.2.2.2.2.2.2.2.2.2.2.1).trans (hFV.2.2.2.2.2.2.2.2.2.2.2.2.2.2.2.2.2.2.2.2.2.2.2.2.2.2.2.2.2.2.1), (hf4.2.2.2.2.2.2.2.2.2.2.2.2.2.2.2.2.2.2.2.2.2.2.2.2.2.2.2.2.2.2.2.2.2.1).trans (hFV.2.2.2.2.2.2.2.2.2.2.2.2.2.2.2.2.2.2.2.2.2.2.2.2.2.2.2.2.2.2.2.1), (hf4.2.2.2.2.2.2.2.2.2.2.2.2.2.2.2.2.2.2.2.2.2.2.2.2.2.2.2.2.2.2.2.2.2.2.1).trans (hFV.2.2.2.2.2.2.2.2.2.2.2.2.2.2.2.2.2.2.2.2.2.2.2.2.2.2.2.2.2.2.2.2.1), (hf4.2.2.2.2.2.2.2.2.2.2.2.2.2.2.2.2.2.2.2.2.2.2.2.2.2.2.2.2.2.2.2.2.2.2.2.1).trans (hFV.2.2.2.2.2.2.2.2.2.2.2.2.2.2.2.2.2.2.2.2.2.2.2.2.2.2.2.2.2.2.2.2.2.1), (hf4.2.2.2.2.2.2.2.2.2.2.2.2.2.2.2.2.2.2.2.2.2.2.2.2.2.2.2.2.2.2.2.2.2.2.2.2.1).trans (hFV.2.2.2.2.2.2.2.2.2.2.2.2.2.2.2.2.2.2.2.2.2.2.2.2.2.2.2.2.2.2.2.2.2.2.1), (hf4.2.2.2.2.2.2.2.2.2.2.2.2.2.2.2.2.2.2.2.2.2.2.2.2.2.2.2.2.2.2.2.2.2.2.2.2.2.1).trans (hFV.2.2.2.2.2.2.2.2.2.2.2.2.2.2.2.2.2.2.2.2.2.2.2.2.2.2.2.2.2.2.2.2.2.2.2.1), (hf4.2.2.2.2.2.2.2.2.2.2.2.2.2.2.2.2.2.2.2.2.2.2.2.2.2.2.2.2.2.2.2.2.2.2.2.2.2.2.1).trans (hFV.2.2.2.2.2.2.2.2.2.2.2.2.2.2.2.2.2.2.2.2.2.2.2.2.2.2.2.2.2.2.2.2.2.2.2.2.1), (hf4.2.2.2.2.2.2.2.2.2.2.2.2.2.2.2.2.2.2.2.2.2.2.2.2.2.2.2.2.2.2.2.2.2.2.2.2.2.2.2.1).trans (hFV.2.2.2.2.2.2.2.2.2.2.2.2.2.2.2.2.2.2.2.2.2.2.2.2.2.2.2.2.2.2.2.2.2.2.2.2.2.1), (hf4.2.2.2.2.2.2.2.2.2.2.2.2.2.2.2.2.2.2.2.2.2.2.2.2.2.2.2.2.2.2.2.2.2.2.2.2.2.2.2.2.1).trans (hFV.2.2.2.2.2.2.2.2.2.2.2.2.2.2.2.2.2.2.2.2.2.2.2.2.2.2.2.2.2.2.2.2.2.2.2.2.2.2.1), (hf4.2.2.2.2.2.2.2.2.2.2.2.2.2.2.2.2.2.2.2.2.2.2.2.2.2.2.2.2.2.2.2.2.2.2.2.2.2.2.2.2.2.1).trans (hFV.2.2.2.2.2.2.2.2.2.2.2.2.2.2.2.2.2.2.2.2.2.2.2.2.2.2.2.2.2.2.2.2.2.2.2.2.2.2.2.1), (hf4.2.2.2.2.2.2.2.2.2.2.2.2.2.2.2.2.2.2.2.2.2.2.2.2.2.2.2.2.2.2.2.2.2.2.2.2.2.2.2.2.2.2.1).trans (hFV.2.2.2.2.2.2.2.2.2.2.2.2.2.2.2.2.2.2.2.2.2.2.2.2.2.2.2.2.2.2.2.2.2.2.2.2.2.2.2.2.1), (hf4.2.2.2.2.2.2.2.2.2.2.2.2.2.2.2.2.2.2.2.2.2.2.2.2.2.2.2.2.2.2.2.2.2.2.2.2.2.2.2.2.2.2.2.1).trans (hFV.2.2.2.2.2.2.2.2.2.2.2.2.2.2.2.2.2.2.2.2.2.2.2.2.2.2.2.2.2.2.2.2.2.2.2.2.2.2.2.2.2.1), (hf4.2.2.2.2.2.2.2.2.2.2.2.2.2.2.2.2.2.2.2.2.2.2.2.2.2.2.2.2.2.2.2.2.2.2.2.2.2.2.2.2.2.2.2.2).trans (hFV.2.2.2.2.2.2.2.2.2.2.2.2.2.2.2.2.2.2.2.2.2.2.2.2.2.2.2.2.2.2.2.2.2.2.2.2.2.2.2.2.2.2)⟩
  refine ⟨_, ?_, by omega, by omega, by rw [e6]; exact J9s_drawn hJ4, by rw [e6]; exact hF4, by rw [l6]; exact hl, ?_, fun i hi => ?_, ?_, rfl⟩
  · omega
  · rw [n6, d4, h7, lcgN_s h0 (by omega)]
  · rw [n6]
    exact (o4 i hi).trans (ho i hi)
  · have e : b9g_drawn S6 = v5 := by rw [e6]
    rw [e, e5, hk, DKY_s h0 (by omega), q4, d4, h7, s4 rfl, ho 4 (by decide)]
def F_X9_fill (S u : bT9) : Prop := (b9g_tape u) = (b9g_tape S) ∧ (b9g_taped u) = (b9g_taped S) ∧ (b9g_names u) = (b9g_names S) ∧ (b9g_chosen u) = (b9g_chosen S) ∧ (b9g_common u) = (b9g_common S) ∧ (b9g_beginning u) = (b9g_beginning S) ∧ (b9g_isLaid u) = (b9g_isLaid S) ∧ (b9g_nodeLevel u) = (b9g_nodeLevel S) ∧ (b9g_nodeLeaf u) = (b9g_nodeLeaf S) ∧ (b9g_nodeLeaves u) = (b9g_nodeLeaves S) ∧ (b9g_nodeMany u) = (b9g_nodeMany S) ∧ (b9g_levelMany u) = (b9g_levelMany S) ∧ (b9g_upper u) = (b9g_upper S) ∧ (b9g_upperNodes u) = (b9g_upperNodes S) ∧ (b9g_areNodesLaid u) = (b9g_areNodesLaid S) ∧ (b9g_itemNode u) = (b9g_itemNode S) ∧ (b9g_itemByte u) = (b9g_itemByte S) ∧ (b9g_itemChild u) = (b9g_itemChild S) ∧ (b9g_itemMany u) = (b9g_itemMany S) ∧ (b9g_placeOf u) = (b9g_placeOf S) ∧ (b9g_leafOfPlace u) = (b9g_leafOfPlace S) ∧ (b9g_places u) = (b9g_places S) ∧ (b9g_lowKey u) = (b9g_lowKey S) ∧ (b9g_highKey u) = (b9g_highKey S) ∧ (b9g_lowLength u) = (b9g_lowLength S) ∧ (b9g_highLength u) = (b9g_highLength S) ∧ (b9g_fromKey u) = (b9g_fromKey S) ∧ (b9g_toKey u) = (b9g_toKey S) ∧ (b9g_fromLength u) = (b9g_fromLength S) ∧ (b9g_toLength u) = (b9g_toLength S) ∧ (b9g_ones u) = (b9g_ones S) ∧ (b9g_oneMany u) = (b9g_oneMany S) ∧ (b9g_rowLong u) = (b9g_rowLong S) ∧ (b9g_laidFor u) = (b9g_laidFor S) ∧ (b9g_signs u) = (b9g_signs S) ∧ (b9g_signMany u) = (b9g_signMany S) ∧ (b9g_hasImage u) = (b9g_hasImage S) ∧ (b9g_images u) = (b9g_images S) ∧ (b9g_keyImages u) = (b9g_keyImages S) ∧ (b9g_lengthImages u) = (b9g_lengthImages S)
theorem sf_X9_fill {S : bT9} (hJ : J9 S) {a1 : Int32} {a2 : Int32} {Q : Int32 → (bT9) → Prop} (hq : ∀ (r : Int32) (u : bT9), (J9 u) → F_X9_fill S u → (b9g_now u 7 = filS a1 a2 64 (b9g_now S 7)) → (SRT (b9g_keys S) (b9g_lengths S) (b9g_now S 8).toInt → (1 ≤ a1.toInt ∧ a1.toInt ≤ 64 ∧ 1 ≤ a2.toInt ∧ a2.toInt ≤ 8 → CHN (KN (b9g_now S 4 + 4) a2 (b9g_now S 7)) (NN a2 (b9g_now S 7)) a1.toInt.toNat (b9g_keys S) (b9g_lengths S) (b9g_now S 8).toInt (b9g_keys u) (b9g_lengths u) (b9g_now u 8).toInt r.toInt) ∧ (¬ (1 ≤ a1.toInt ∧ a1.toInt ≤ 64 ∧ 1 ≤ a2.toInt ∧ a2.toInt ≤ 8) → r.toInt = -1 ∧ b9g_keys u = b9g_keys S ∧ b9g_lengths u = b9g_lengths S ∧ b9g_now u = b9g_now S)) → (∀ j : Nat, 64 ≤ j → b9g_keys u j = b9g_keys S j ∧ b9g_lengths u j = b9g_lengths S j) → (∀ i : Nat, i ≠ 8 → i ≠ 7 → b9g_now u i = b9g_now S i) → (b9g_now u 10 = b9g_now S 10) → Q r u) : wp_X9_fill S a1 a2 Q := by
  unfold wp_X9_fill
  intro S1 e1
  have hJ1 : J9 S1 := by rw [e1]; exact J9s_told hJ
  have hF1 : F_X9_fill S S1 := by rw [e1]; exact ⟨rfl, rfl, rfl, rfl, rfl, rfl, rfl, rfl, rfl, rfl, rfl, rfl, rfl, rfl, rfl, rfl, rfl, rfl, rfl, rfl, rfl, rfl, rfl, rfl, rfl, rfl, rfl, rfl, rfl, rfl, rfl, rfl, rfl, rfl, rfl, rfl, rfl, rfl, rfl, rfl⟩
  have ek : b9g_keys S1 = b9g_keys S := by rw [e1]
  have el : b9g_lengths S1 = b9g_lengths S := by rw [e1]
  have en : b9g_now S1 = b9g_now S := by rw [e1]
  have bad : ¬ (1 ≤ a1.toInt ∧ a1.toInt ≤ 64 ∧ 1 ≤ a2.toInt ∧ a2.toInt ≤ 8) → Q (-1) S1 := by
    intro h
    exact hq _ _ hJ1 hF1 (by rw [en]; exact (filS_0 h).symm) (fun _ => ⟨fun g => absurd g h, fun _ => ⟨rfl, ek, el, en⟩⟩) (fun j hj => ⟨by rw [ek], by rw [el]⟩) (fun i _ _ => by rw [en]) (by rw [en])
  refine sf_X9_isIn hJ1.1 (fun r6 hz6 h6 => ⟨fun c => bad ?_, fun c => sf_X9_isIn hJ1.1 (fun r8 hz8 h8 => ⟨fun d => ?_, fun d => bad ?_⟩)⟩)
  · simp only [pn] at c h6; omega
  rotate_left
  · simp only [pn] at d h8; omega
  simp only [pn] at c d h6 h8
  have hok : 1 ≤ a1.toInt ∧ a1.toInt ≤ 64 ∧ 1 ≤ a2.toInt ∧ a2.toInt ≤ 8 := by omega
  unfold wp_X9_fill_34
  refine ⟨fun n x1 x2 x3 x4 V => x1 = a1 ∧ x2 = a2 ∧ 0 ≤ x4.toInt ∧ x4.toInt ≤ a1.toInt ∧ 0 ≤ x3.toInt ∧ x3.toInt ≤ x4.toInt ∧ J9 V ∧ F_X9_fill S V ∧ b9g_now V 7 = stpN a2 x4.toInt.toNat (b9g_now S 7) ∧ (∀ i : Nat, i ≠ 8 → i ≠ 7 → b9g_now V i = b9g_now S i) ∧ (∀ j : Nat, 64 ≤ j → b9g_keys V j = b9g_keys S j ∧ b9g_lengths V j = b9g_lengths S j) ∧ (SRT (b9g_keys S) (b9g_lengths S) (b9g_now S 8).toInt → CHN (KN (b9g_now S 4 + 4) a2 (b9g_now S 7)) (NN a2 (b9g_now S 7)) x4.toInt.toNat (b9g_keys S) (b9g_lengths S) (b9g_now S 8).toInt (b9g_keys V) (b9g_lengths V) (b9g_now V 8).toInt x3.toInt) ∧ n = (a1.toInt - x4.toInt).toNat, ⟨_, rfl, rfl, by decide, by rw [pl_0]; omega, by decide, by decide, hJ1, hF1, by rw [z0, stpN0, en], fun i _ _ => by rw [en], fun j hj => ⟨by rw [ek], by rw [el]⟩, fun _ => by rw [z0, ek, el, en]; exact ⟨rfl, fun j hj => ⟨rfl, rfl⟩, rfl⟩, rfl⟩, ?_⟩
  rintro n x1 x2 x3 x4 V ⟨e1, e2, h0, h1', w0, w1, hJV, hFV, hd, ho, h64, hC, hn⟩
  unfold wp_X9_fill_34b
  rw [e1, e2]
  refine ⟨fun c2 => ?_, fun c2 => ?_⟩
  · simp only [pn] at c2
    have ex : x4.toInt = a1.toInt := by omega
    rw [ex] at hd hC
    exact hq _ _ hJV hFV (hd.trans (filS_1 hok).symm) (fun hs => ⟨fun _ => hC hs, fun h => absurd hok h⟩) h64 ho (ho 10 (by decide) (by decide))
  simp only [pn] at c2
  have x4' : (x4 + 1).toInt = x4.toInt + 1 := by rw [pt_add (by rw [pl_1]; omega) (by rw [pl_1]; omega), pl_1]
  have x3' : (x3 + 1).toInt = x3.toInt + 1 := by rw [pt_add (by rw [pl_1]; omega) (by rw [pl_1]; omega), pl_1]
  refine sf_X9_draws hJV (by omega) (by omega) (fun u2 hJ2 hf2 l1 l8 d2 n2 k2 o2 t2 => ?_)
  have hF2 : F_X9_fill S u2 := ⟨(hf2.2.2.2.1).trans (hFV.1), (hf2.2.2.2.2.1).trans (hFV.2.1), (hf2.2.2.2.2.2.1).trans (hFV.2.2.1), (hf2.2.2.2.2.2.2.1).trans (hFV.2.2.2.1), (hf2.2.2.2.2.2.2.2.1).trans (hFV.2.2.2.2.1), (hf2.2.2.2.2.2.2.2.2.1).trans (hFV.2.2.2.2.2.1), (hf2.2.2.2.2.2.2.2.2.2.1).trans (hFV.2.2.2.2.2.2.1), (hf2.2.2.2.2.2.2.2.2.2.2.1).trans (hFV.2.2.2.2.2.2.2.1), (hf2.2.2.2.2.2.2.2.2.2.2.2.1).trans (hFV.2.2.2.2.2.2.2.2.1), (hf2.2.2.2.2.2.2.2.2.2.2.2.2.1).trans (hFV.2.2.2.2.2.2.2.2.2.1), (hf2.2.2.2.2.2.2.2.2.2.2.2.2.2.1).trans (hFV.2.2.2.2.2.2.2.2.2.2.1), (hf2.2.2.2.2.2.2.2.2.2.2.2.2.2.2.1).trans (hFV.2.2.2.2.2.2.2.2.2.2.2.1), (hf2.2.2.2.2.2.2.2.2.2.2.2.2.2.2.2.1).trans (hFV.2.2.2.2.2.2.2.2.2.2.2.2.1), (hf2.2.2.2.2.2.2.2.2.2.2.2.2.2.2.2.2.1).trans (hFV.2.2.2.2.2.2.2.2.2.2.2.2.2.1), (hf2.2.2.2.2.2.2.2.2.2.2.2.2.2.2.2.2.2.1).trans (hFV.2.2.2.2.2.2.2.2.2.2.2.2.2.2.1), (hf2.2.2.2.2.2.2.2.2.2.2.2.2.2.2.2.2.2.2.1).trans (hFV.2.2.2.2.2.2.2.2.2.2.2.2.2.2.2.1), (hf2.2.2.2.2.2.2.2.2.2.2.2.2.2.2.2.2.2.2.2.1).trans (hFV.2.2.2.2.2.2.2.2.2.2.2.2.2.2.2.2.1), (hf2.2.2.2.2.2.2.2.2.2.2.2.2.2.2.2.2.2.2.2.2.1).trans (hFV.2.2.2.2.2.2.2.2.2.2.2.2.2.2.2.2.2.1), (hf2.2.2.2.2.2.2.2.2.2.2.2.2.2.2.2.2.2.2.2.2.2.1).trans (hFV.2.2.2.2.2.2.2.2.2.2.2.2.2.2.2.2.2.2.1), (hf2.2.2.2.2.2.2.2.2.2.2.2.2.2.2.2.2.2.2.2.2.2.2.1).trans (hFV.2.2.2.2.2.2.2.2.2.2.2.2.2.2.2.2.2.2.2.1), (hf2.2.2.2.2.2.2.2.2.2.2.2.2.2.2.2.2.2.2.2.2.2.2.2.1).trans (hFV.2.2.2.2.2.2.2.2.2.2.2.2.2.2.2.2.2.2.2.2.1), (hf2.2.2.2.2.2.2.2.2.2.2.2.2.2.2.2.2.2.2.2.2.2.2.2.2.1).trans (hFV.2.2.2.2.2.2.2.2.2.2.2.2.2.2.2.2.2.2.2.2.2.1), (hf2.2.2.2.2.2.2.2.2.2.2.2.2.2.2.2.2.2.2.2.2.2.2.2.2.2.1).trans (hFV.2.2.2.2.2.2.2.2.2.2.2.2.2.2.2.2.2.2.2.2.2.2.1), (hf2.2.2.2.2.2.2.2.2.2.2.2.2.2.2.2.2.2.2.2.2.2.2.2.2.2.2.1).trans (hFV.2.2.2.2.2.2.2.2.2.2.2.2.2.2.2.2.2.2.2.2.2.2.2.1), (hf2.2.2.2.2.2.2.2.2.2.2.2.2.2.2.2.2.2.2.2.2.2.2.2.2.2.2.2.1).trans (hFV.2.2.2.2.2.2.2.2.2.2.2.2.2.2.2.2.2.2.2.2.2.2.2.2.1), (hf2.2.2.2.2.2.2.2.2.2.2.2.2.2.2.2.2.2.2.2.2.2.2.2.2.2.2.2.2.1).trans (hFV.2.2.2.2.2.2.2.2.2.2.2.2.2.2.2.2.2.2.2.2.2.2.2.2.2.1), (hf2.2.2.2.2.2.2.2.2.2.2.2.2.2.2.2.2.2.2.2.2.2.2.2.2.2.2.2.2.2.1).trans (hFV.2.2.2.2.2.2.2.2.2.2.2.2.2.2.2.2.2.2.2.2.2.2.2.2.2.2.1), (hf2.2.2.2.2.2.2.2.2.2.2.2.2.2.2.2.2.2.2.2.2.2.2.2.2.2.2.2.2.2.2.1).trans (hFV.2.2.2.2.2.2.2.2.2.2.2.2.2.2.2.2.2.2.2.2.2.2.2.2.2.2.2.1), (hf2.2.2.2.2.2.2.2.2.2.2.2.2.2.2.2.2.2.2.2.2.2.2.2.2.2.2.2.2.2.2.2.1).trans (hFV.2.2.2.2.2.2.2.2.2.2.2.2.2.2.2.2.2.2.2.2.2.2.2.2.2.2.2.2.1), (hf2.2.2.2.2.2.2.2.2.2.2.2.2.2.2.2.2.2.2.2.2.2.2.2.2.2.2.2.2.2.2.2.2.1).trans (hFV.2.2.2.2.2.2.2.2.2.2.2.2.2.2.2.2.2.2.2.2.2.2.2.2.2.2.2.2.2.1), (hf2.2.2.2.2.2.2.2.2.2.2.2.2.2.2.2.2.2.2.2.2.2.2.2.2.2.2.2.2.2.2.2.2.2.1).trans (hFV.2.2.2.2.2.2.2.2.2.2.2.2.2.2.2.2.2.2.2.2.2.2.2.2.2.2.2.2.2.2.1), (hf2.2.2.2.2.2.2.2.2.2.2.2.2.2.2.2.2.2.2.2.2.2.2.2.2.2.2.2.2.2.2.2.2.2.2.1).trans (hFV.2.2.2.2.2.2.2.2.2.2.2.2.2.2.2.2.2.2.2.2.2.2.2.2.2.2.2.2.2.2.2.1), (hf2.2.2.2.2.2.2.2.2.2.2.2.2.2.2.2.2.2.2.2.2.2.2.2.2.2.2.2.2.2.2.2.2.2.2.2.1).trans (hFV.2.2.2.2.2.2.2.2.2.2.2.2.2.2.2.2.2.2.2.2.2.2.2.2.2.2.2.2.2.2.2.2.1), (hf2.2.2.2.2.2.2.2.2.2.2.2.2.2.2.2.2.2.2.2.2.2.2.2.2.2.2.2.2.2.2.2.2.2.2.2.2.1).trans (hFV.2.2.2.2.2.2.2.2.2.2.2.2.2.2.2.2.2.2.2.2.2.2.2.2.2.2.2.2.2.2.2.2.2.1), (hf2.2.2.2.2.2.2.2.2.2.2.2.2.2.2.2.2.2.2.2.2.2.2.2.2.2.2.2.2.2.2.2.2.2.2.2.2.2.1).trans (hFV.2.2.2.2.2.2.2.2.2.2.2.2.2.2.2.2.2.2.2.2.2.2.2.2.2.2.2.2.2.2.2.2.2.2.1), (hf2.2.2.2.2.2.2.2.2.2.2.2.2.2.2.2.2.2.2.2.2.2.2.2.2.2.2.2.2.2.2.2.2.2.2.2.2.2.2.1).trans (hFV.2.2.2.2.2.2.2.2.2.2.2.2.2.2.2.2.2.2.2.2.2.2.2.2.2.2.2.2.2.2.2.2.2.2.2.1), (hf2.2.2.2.2.2.2.2.2.2.2.2.2.2.2.2.2.2.2.2.2.2.2.2.2.2.2.2.2.2.2.2.2.2.2.2.2.2.2.2.1).trans (hFV.2.2.2.2.2.2.2.2.2.2.2.2.2.2.2.2.2.2.2.2.2.2.2.2.2.2.2.2.2.2.2.2.2.2.2.2.1), (hf2.2.2.2.2.2.2.2.2.2.2.2.2.2.2.2.2.2.2.2.2.2.2.2.2.2.2.2.2.2.2.2.2.2.2.2.2.2.2.2.2.1).trans (hFV.2.2.2.2.2.2.2.2.2.2.2.2.2.2.2.2.2.2.2.2.2.2.2.2.2.2.2.2.2.2.2.2.2.2.2.2.2.1), (hf2.2.2.2.2.2.2.2.2.2.2.2.2.2.2.2.2.2.2.2.2.2.2.2.2.2.2.2.2.2.2.2.2.2.2.2.2.2.2.2.2.2.1).trans (hFV.2.2.2.2.2.2.2.2.2.2.2.2.2.2.2.2.2.2.2.2.2.2.2.2.2.2.2.2.2.2.2.2.2.2.2.2.2.2.1), (hf2.2.2.2.2.2.2.2.2.2.2.2.2.2.2.2.2.2.2.2.2.2.2.2.2.2.2.2.2.2.2.2.2.2.2.2.2.2.2.2.2.2.2).trans (hFV.2.2.2.2.2.2.2.2.2.2.2.2.2.2.2.2.2.2.2.2.2.2.2.2.2.2.2.2.2.2.2.2.2.2.2.2.2.2.2)⟩
  have kk : b9g_keys u2 = b9g_keys V := hf2.2.1
  have kl : b9g_lengths u2 = b9g_lengths V := hf2.2.2.1
  have k8 : b9g_now u2 8 = b9g_now V 8 := o2 8 (by decide)
  have eN : b9g_drawnLength u2 = NN a2 (b9g_now S 7) x4.toInt.toNat := by
    rw [n2, hd]
    rfl
  have eK : b9g_drawn u2 = KN (b9g_now S 4 + 4) a2 (b9g_now S 7) x4.toInt.toNat := by
    rw [k2, eN, hd, ho 4 (by decide) (by decide)]
    rfl
  refine sf_X9_comes hJ2 (by omega) (by omega) (fun r3 u4 hJ4 hf4 hI hO hN g10 g7 => ?_)
  have hF4 : F_X9_fill S u4 := ⟨(hf4.2.2.2.1).trans (hF2.1), (hf4.2.2.2.2.1).trans (hF2.2.1), (hf4.2.2.2.2.2.1).trans (hF2.2.2.1), (hf4.2.2.2.2.2.2.1).trans (hF2.2.2.2.1), (hf4.2.2.2.2.2.2.2.1).trans (hF2.2.2.2.2.1), (hf4.2.2.2.2.2.2.2.2.1).trans (hF2.2.2.2.2.2.1), (hf4.2.2.2.2.2.2.2.2.2.1).trans (hF2.2.2.2.2.2.2.1), (hf4.2.2.2.2.2.2.2.2.2.2.1).trans (hF2.2.2.2.2.2.2.2.1), (hf4.2.2.2.2.2.2.2.2.2.2.2.1).trans (hF2.2.2.2.2.2.2.2.2.1), (hf4.2.2.2.2.2.2.2.2.2.2.2.2.1).trans (hF2.2.2.2.2.2.2.2.2.2.1), (hf4.2.2.2.2.2.2.2.2.2.2.2.2.2.1).trans (hF2.2.2.2.2.2.2.2.2.2.2.1), (hf4.2.2.2.2.2.2.2.2.2.2.2.2.2.2.1).trans (hF2.2.2.2.2.2.2.2.2.2.2.2.1), (hf4.2.2.2.2.2.2.2.2.2.2.2.2.2.2.2.1).trans (hF2.2.2.2.2.2.2.2.2.2.2.2.2.1), (hf4.2.2.2.2.2.2.2.2.2.2.2.2.2.2.2.2.1).trans (hF2.2.2.2.2.2.2.2.2.2.2.2.2.2.1), (hf4.2.2.2.2.2.2.2.2.2.2.2.2.2.2.2.2.2.1).trans (hF2.2.2.2.2.2.2.2.2.2.2.2.2.2.2.1), (hf4.2.2.2.2.2.2.2.2.2.2.2.2.2.2.2.2.2.2.1).trans (hF2.2.2.2.2.2.2.2.2.2.2.2.2.2.2.2.1), (hf4.2.2.2.2.2.2.2.2.2.2.2.2.2.2.2.2.2.2.2.1).trans (hF2.2.2.2.2.2.2.2.2.2.2.2.2.2.2.2.2.1), (hf4.2.2.2.2.2.2.2.2.2.2.2.2.2.2.2.2.2.2.2.2.1).trans (hF2.2.2.2.2.2.2.2.2.2.2.2.2.2.2.2.2.2.1), (hf4.2.2.2.2.2.2.2.2.2.2.2.2.2.2.2.2.2.2.2.2.2.1).trans (hF2.2.2.2.2.2.2.2.2.2.2.2.2.2.2.2.2.2.2.1), (hf4.2.2.2.2.2.2.2.2.2.2.2.2.2.2.2.2.2.2.2.2.2.2.1).trans (hF2.2.2.2.2.2.2.2.2.2.2.2.2.2.2.2.2.2.2.2.1), (hf4.2.2.2.2.2.2.2.2.2.2.2.2.2.2.2.2.2.2.2.2.2.2.2.1).trans (hF2.2.2.2.2.2.2.2.2.2.2.2.2.2.2.2.2.2.2.2.2.1), (hf4.2.2.2.2.2.2.2.2.2.2.2.2.2.2.2.2.2.2.2.2.2.2.2.2.1).trans (hF2.2.2.2.2.2.2.2.2.2.2.2.2.2.2.2.2.2.2.2.2.2.1), (hf4.2.2.2.2.2.2.2.2.2.2.2.2.2.2.2.2.2.2.2.2.2.2.2.2.2.1).trans (hF2.2.2.2.2.2.2.2.2.2.2.2.2.2.2.2.2.2.2.2.2.2.2.1), (hf4.2.2.2.2.2.2.2.2.2.2.2.2.2.2.2.2.2.2.2.2.2.2.2.2.2.2.1).trans (hF2.2.2.2.2.2.2.2.2.2.2.2.2.2.2.2.2.2.2.2.2.2.2.2.1), (hf4.2.2.2.2.2.2.2.2.2.2.2.2.2.2.2.2.2.2.2.2.2.2.2.2.2.2.2.1).trans (hF2.2.2.2.2.2.2.2.2.2.2.2.2.2.2.2.2.2.2.2.2.2.2.2.2.1), (hf4.2.2.2.2.2.2.2.2.2.2.2.2.2.2.2.2.2.2.2.2.2.2.2.2.2.2.2.2.1).trans (hF2.2.2.2.2.2.2.2.2.2.2.2.2.2.2.2.2.2.2.2.2.2.2.2.2.2.1), (hf4.2.2.2.2.2.2.2.2.2.2.2.2.2.2.2.2.2.2.2.2.2.2.2.2.2.2.2.2.2.1).trans (hF2.2.2.2.2.2.2.2.2.2.2.2.2.2.2.2.2.2.2.2.2.2.2.2.2.2.2.1), (hf4.2.2.2.2.2.2.2.2.2.2.2.2.2.2.2.2.2.2.2.2.2.2.2.2.2.2.2.2.2.2.1).trans (hF2.2.2.2.2.2.2.2.2.2.2.2.2.2.2.2.2.2.2.2.2.2.2.2.2.2.2.2.1), (hf4.2.2.2.2.2.2.2.2.2.2.2.2.2.2.2.2.2.2.2.2.2.2.2.2.2.2.2.2.2.2.2.1).trans (hF2.2.2.2.2.2.2.2.2.2.2.2.2.2.2.2.2.2.2.2.2.2.2.2.2.2.2.2.2.1), (hf4.2.2.2.2.2.2.2.2.2.2.2.2.2.2.2.2.2.2.2.2.2.2.2.2.2.2.2.2.2.2.2.2.1).trans (hF2.2.2.2.2.2.2.2.2.2.2.2.2.2.2.2.2.2.2.2.2.2.2.2.2.2.2.2.2.2.1), (hf4.2.2.2.2.2.2.2.2.2.2.2.2.2.2.2.2.2.2.2.2.2.2.2.2.2.2.2.2.2.2.2.2.2.1).trans (hF2.2.2.2.2.2.2.2.2.2.2.2.2.2.2.2.2.2.2.2.2.2.2.2.2.2.2.2.2.2.2.1), (hf4.2.2.2.2.2.2.2.2.2.2.2.2.2.2.2.2.2.2.2.2.2.2.2.2.2.2.2.2.2.2.2.2.2.2.1).trans (hF2.2.2.2.2.2.2.2.2.2.2.2.2.2.2.2.2.2.2.2.2.2.2.2.2.2.2.2.2.2.2.2.1), (hf4.2.2.2.2.2.2.2.2.2.2.2.2.2.2.2.2.2.2.2.2.2.2.2.2.2.2.2.2.2.2.2.2.2.2.2.1).trans (hF2.2.2.2.2.2.2.2.2.2.2.2.2.2.2.2.2.2.2.2.2.2.2.2.2.2.2.2.2.2.2.2.2.1), (hf4.2.2.2.2.2.2.2.2.2.2.2.2.2.2.2.2.2.2.2.2.2.2.2.2.2.2.2.2.2.2.2.2.2.2.2.2.1).trans (hF2.2.2.2.2.2.2.2.2.2.2.2.2.2.2.2.2.2.2.2.2.2.2.2.2.2.2.2.2.2.2.2.2.2.1), (hf4.2.2.2.2.2.2.2.2.2.2.2.2.2.2.2.2.2.2.2.2.2.2.2.2.2.2.2.2.2.2.2.2.2.2.2.2.2.1).trans (hF2.2.2.2.2.2.2.2.2.2.2.2.2.2.2.2.2.2.2.2.2.2.2.2.2.2.2.2.2.2.2.2.2.2.2.1), (hf4.2.2.2.2.2.2.2.2.2.2.2.2.2.2.2.2.2.2.2.2.2.2.2.2.2.2.2.2.2.2.2.2.2.2.2.2.2.2.1).trans (hF2.2.2.2.2.2.2.2.2.2.2.2.2.2.2.2.2.2.2.2.2.2.2.2.2.2.2.2.2.2.2.2.2.2.2.2.1), (hf4.2.2.2.2.2.2.2.2.2.2.2.2.2.2.2.2.2.2.2.2.2.2.2.2.2.2.2.2.2.2.2.2.2.2.2.2.2.2.2.1).trans (hF2.2.2.2.2.2.2.2.2.2.2.2.2.2.2.2.2.2.2.2.2.2.2.2.2.2.2.2.2.2.2.2.2.2.2.2.2.1), (hf4.2.2.2.2.2.2.2.2.2.2.2.2.2.2.2.2.2.2.2.2.2.2.2.2.2.2.2.2.2.2.2.2.2.2.2.2.2.2.2.2.1).trans (hF2.2.2.2.2.2.2.2.2.2.2.2.2.2.2.2.2.2.2.2.2.2.2.2.2.2.2.2.2.2.2.2.2.2.2.2.2.2.1), (hf4.2.2.2.2.2.2.2.2.2.2.2.2.2.2.2.2.2.2.2.2.2.2.2.2.2.2.2.2.2.2.2.2.2.2.2.2.2.2.2.2.2.1).trans (hF2.2.2.2.2.2.2.2.2.2.2.2.2.2.2.2.2.2.2.2.2.2.2.2.2.2.2.2.2.2.2.2.2.2.2.2.2.2.2.1), (hf4.2.2.2.2.2.2.2.2.2.2.2.2.2.2.2.2.2.2.2.2.2.2.2.2.2.2.2.2.2.2.2.2.2.2.2.2.2.2.2.2.2.2).trans (hF2.2.2.2.2.2.2.2.2.2.2.2.2.2.2.2.2.2.2.2.2.2.2.2.2.2.2.2.2.2.2.2.2.2.2.2.2.2.2.2)⟩
  have d4 : b9g_now u4 7 = stpN a2 (x4 + 1).toInt.toNat (b9g_now S 7) := by
    rw [g7, d2, hd, stpN_s h0 (by omega)]
  have next : ∀ y3 : Int32, y3.toInt = x3.toInt + (if r3.toInt = -1 then 0 else 1) → wp_X9_fill_65 u4 a1 a2 y3 x4 Q (fun x1 x2 x3 x4 S_1 => ∃ n2 : Nat, n2 < n ∧ x1 = a1 ∧ x2 = a2 ∧ 0 ≤ x4.toInt ∧ x4.toInt ≤ a1.toInt ∧ 0 ≤ x3.toInt ∧ x3.toInt ≤ x4.toInt ∧ J9 S_1 ∧ F_X9_fill S S_1 ∧ b9g_now S_1 7 = stpN a2 x4.toInt.toNat (b9g_now S 7) ∧ (∀ i : Nat, i ≠ 8 → i ≠ 7 → b9g_now S_1 i = b9g_now S i) ∧ (∀ j : Nat, 64 ≤ j → b9g_keys S_1 j = b9g_keys S j ∧ b9g_lengths S_1 j = b9g_lengths S j) ∧ (SRT (b9g_keys S) (b9g_lengths S) (b9g_now S 8).toInt → CHN (KN (b9g_now S 4 + 4) a2 (b9g_now S 7)) (NN a2 (b9g_now S 7)) x4.toInt.toNat (b9g_keys S) (b9g_lengths S) (b9g_now S 8).toInt (b9g_keys S_1) (b9g_lengths S_1) (b9g_now S_1 8).toInt x3.toInt) ∧ n2 = (a1.toInt - x4.toInt).toNat) := by
    intro y3 hy
    unfold wp_X9_fill_65
    refine ⟨_, ?_, rfl, rfl, by omega, by omega, by split at hy <;> omega, by split at hy <;> omega, hJ4, hF4, d4, fun i hi hi7 => ?_, fun j hj => ?_, fun hs => ?_, rfl⟩
    · omega
    · exact (hN i hi).trans ((o2 i hi7).trans (ho i hi hi7))
    · have a := hO j hj
      have b := h64 j hj
      rw [kk, kl] at a
      exact ⟨a.1.trans b.1, a.2.trans b.2⟩
    · refine CHN_step h0 (by omega) (hC hs) ?_ hy
      have hsV := CHN_srt hs x4.toInt.toNat (fun q hq => NN_rng (by omega) (by omega)) (hC hs)
      rw [kk, kl, k8, eN, eK] at hI
      exact hI hsV
  refine ⟨fun g2 => next x3 ?_, fun g2 => next (x3 + 1) ?_⟩
  · rw [if_pos (by rw [g2]; rfl)]
    omega
  · rw [if_neg (fun h => g2 (Int32.toInt_inj.mp (h.trans pl_m1.symm)))]
    exact x3'
def F_X9_types (S u : bT9) : Prop := (b9g_told u) = (b9g_told S) ∧ (b9g_now u) = (b9g_now S) ∧ (b9g_keys u) = (b9g_keys S) ∧ (b9g_lengths u) = (b9g_lengths S) ∧ (b9g_drawn u) = (b9g_drawn S) ∧ (b9g_drawnLength u) = (b9g_drawnLength S) ∧ (b9g_names u) = (b9g_names S) ∧ (b9g_chosen u) = (b9g_chosen S) ∧ (b9g_common u) = (b9g_common S) ∧ (b9g_beginning u) = (b9g_beginning S) ∧ (b9g_isLaid u) = (b9g_isLaid S) ∧ (b9g_nodeLevel u) = (b9g_nodeLevel S) ∧ (b9g_nodeLeaf u) = (b9g_nodeLeaf S) ∧ (b9g_nodeLeaves u) = (b9g_nodeLeaves S) ∧ (b9g_nodeMany u) = (b9g_nodeMany S) ∧ (b9g_levelMany u) = (b9g_levelMany S) ∧ (b9g_upper u) = (b9g_upper S) ∧ (b9g_upperNodes u) = (b9g_upperNodes S) ∧ (b9g_areNodesLaid u) = (b9g_areNodesLaid S) ∧ (b9g_itemNode u) = (b9g_itemNode S) ∧ (b9g_itemByte u) = (b9g_itemByte S) ∧ (b9g_itemChild u) = (b9g_itemChild S) ∧ (b9g_itemMany u) = (b9g_itemMany S) ∧ (b9g_placeOf u) = (b9g_placeOf S) ∧ (b9g_leafOfPlace u) = (b9g_leafOfPlace S) ∧ (b9g_places u) = (b9g_places S) ∧ (b9g_lowKey u) = (b9g_lowKey S) ∧ (b9g_highKey u) = (b9g_highKey S) ∧ (b9g_lowLength u) = (b9g_lowLength S) ∧ (b9g_highLength u) = (b9g_highLength S) ∧ (b9g_fromKey u) = (b9g_fromKey S) ∧ (b9g_toKey u) = (b9g_toKey S) ∧ (b9g_fromLength u) = (b9g_fromLength S) ∧ (b9g_toLength u) = (b9g_toLength S) ∧ (b9g_ones u) = (b9g_ones S) ∧ (b9g_oneMany u) = (b9g_oneMany S) ∧ (b9g_rowLong u) = (b9g_rowLong S) ∧ (b9g_laidFor u) = (b9g_laidFor S) ∧ (b9g_signs u) = (b9g_signs S) ∧ (b9g_signMany u) = (b9g_signMany S) ∧ (b9g_hasImage u) = (b9g_hasImage S) ∧ (b9g_images u) = (b9g_images S) ∧ (b9g_keyImages u) = (b9g_keyImages S) ∧ (b9g_lengthImages u) = (b9g_lengthImages S)
theorem sf_X9_types {S : bT9} (hJ : J9 S) {a1 : Int32} {Q : (bT9) → Prop} (hp0 : (b9g_taped S).toInt ≤ 156) (hq : ∀ u : bT9, (J9 u) → F_X9_types S u → ((b9g_taped u).toInt = (b9g_taped S).toInt + 4) → (PF (b9g_tape S) (b9g_taped S).toInt a1 4 (b9g_tape u)) → Q u) : wp_X9_types S a1 Q := by
  have jc := J9g_taped hJ
  unfold wp_X9_types wp_X9_types_3
  refine ⟨fun n x1 x2 V => x1 = a1 ∧ J9 V ∧ F_X9_types S V ∧ ∃ i : Nat, i ≤ 4 ∧ x2.toInt = 24 - 8 * (i : Int) ∧ n = 4 - i ∧ (b9g_taped V).toInt = (b9g_taped S).toInt + i ∧ PF (b9g_tape S) (b9g_taped S).toInt a1 i (b9g_tape V), ⟨_, rfl, hJ, ⟨rfl, rfl, rfl, rfl, rfl, rfl, rfl, rfl, rfl, rfl, rfl, rfl, rfl, rfl, rfl, rfl, rfl, rfl, rfl, rfl, rfl, rfl, rfl, rfl, rfl, rfl, rfl, rfl, rfl, rfl, rfl, rfl, rfl, rfl, rfl, rfl, rfl, rfl, rfl, rfl, rfl, rfl, rfl, rfl⟩, 0, by decide, rfl, rfl, by omega, PF_0⟩, ?_⟩
  rintro n x1 x2 V ⟨ex, hJV, hFV, i, hi, h2, hn, hc, hP⟩
  have jV := J9g_taped hJV
  unfold wp_X9_types_3b
  rw [ex]
  refine ⟨fun c => ?_, fun c => ?_⟩
  · simp only [pn] at c
    have i4 : i = 4 := by omega
    subst i4
    exact hq _ hJV hFV hc hP
  simp only [pn] at c
  have x8 : (x2 + (-8 : Int32)).toInt = x2.toInt - 8 := by
    have : (-8 : Int32).toInt = -8 := rfl
    rw [pt_add (by omega) (by omega)]
    omega
  obtain ⟨y, hy⟩ : ∃ y : Int32, x2 + (-8 : Int32) = y := ⟨_, rfl⟩
  rw [hy] at x8
  rw [hy]
  refine ⟨pt_in (by omega) (by omega), fun S1 e1 S2 e2 => ?_⟩
  have c1 : (b9g_taped V + 1).toInt = (b9g_taped V).toInt + 1 := by rw [pt_add (by rw [pl_1]; omega) (by rw [pl_1]; omega), pl_1]
  have x2' : x2 = nI (24 - 8 * i) := Int32.toInt_inj.mp (by rw [nI_toInt (by omega)]; omega)
  have hJ1 : J9 S1 := by rw [e1]; exact J9s_tape hJV
  have ed : b9g_taped S1 = b9g_taped V := by rw [e1]
  have hJ2 : J9 S2 := by
    rw [e2, ed]
    exact J9s_taped hJ1 ⟨by rw [c1]; omega, by rw [c1]; omega⟩
  have ec : (b9g_taped S2).toInt = (b9g_taped V).toInt + 1 := by rw [e2, ed]; exact c1
  have eo : b9g_tape S2 = upd (b9g_tape V) (b9g_taped V).toNatClampNeg ((a1 >>> (x2 &&& 31)) &&& (255 : Int32)) := by rw [e2, e1]
  refine ⟨_, ?_, rfl, hJ2, by rw [e2, e1]; exact hFV, i + 1, by omega, by omega, rfl, by rw [ec]; omega, ?_⟩
  · omega
  · rw [eo]
    exact PF_s hP hc jc.1 (by rw [x2']; exact byt_s)
def F_X9_feed (S u : bT9) : Prop := (b9g_now u) = (b9g_now S) ∧ (b9g_keys u) = (b9g_keys S) ∧ (b9g_lengths u) = (b9g_lengths S) ∧ (b9g_drawn u) = (b9g_drawn S) ∧ (b9g_drawnLength u) = (b9g_drawnLength S) ∧ (b9g_names u) = (b9g_names S) ∧ (b9g_chosen u) = (b9g_chosen S) ∧ (b9g_common u) = (b9g_common S) ∧ (b9g_beginning u) = (b9g_beginning S) ∧ (b9g_isLaid u) = (b9g_isLaid S) ∧ (b9g_nodeLevel u) = (b9g_nodeLevel S) ∧ (b9g_nodeLeaf u) = (b9g_nodeLeaf S) ∧ (b9g_nodeLeaves u) = (b9g_nodeLeaves S) ∧ (b9g_nodeMany u) = (b9g_nodeMany S) ∧ (b9g_levelMany u) = (b9g_levelMany S) ∧ (b9g_upper u) = (b9g_upper S) ∧ (b9g_upperNodes u) = (b9g_upperNodes S) ∧ (b9g_areNodesLaid u) = (b9g_areNodesLaid S) ∧ (b9g_itemNode u) = (b9g_itemNode S) ∧ (b9g_itemByte u) = (b9g_itemByte S) ∧ (b9g_itemChild u) = (b9g_itemChild S) ∧ (b9g_itemMany u) = (b9g_itemMany S) ∧ (b9g_placeOf u) = (b9g_placeOf S) ∧ (b9g_leafOfPlace u) = (b9g_leafOfPlace S) ∧ (b9g_places u) = (b9g_places S) ∧ (b9g_lowKey u) = (b9g_lowKey S) ∧ (b9g_highKey u) = (b9g_highKey S) ∧ (b9g_lowLength u) = (b9g_lowLength S) ∧ (b9g_highLength u) = (b9g_highLength S) ∧ (b9g_fromKey u) = (b9g_fromKey S) ∧ (b9g_toKey u) = (b9g_toKey S) ∧ (b9g_fromLength u) = (b9g_fromLength S) ∧ (b9g_toLength u) = (b9g_toLength S) ∧ (b9g_ones u) = (b9g_ones S) ∧ (b9g_oneMany u) = (b9g_oneMany S) ∧ (b9g_rowLong u) = (b9g_rowLong S) ∧ (b9g_laidFor u) = (b9g_laidFor S) ∧ (b9g_signs u) = (b9g_signs S) ∧ (b9g_signMany u) = (b9g_signMany S) ∧ (b9g_hasImage u) = (b9g_hasImage S) ∧ (b9g_images u) = (b9g_images S) ∧ (b9g_keyImages u) = (b9g_keyImages S) ∧ (b9g_lengthImages u) = (b9g_lengthImages S)
theorem sf_X9_feed {S : bT9} (hJ : J9 S) {a1 : Int32} {a2 : Int32} {a3 : Int32} {a4 : Int32} {a5 : Int32} {Q : Int32 → (bT9) → Prop} (hq : ∀ (r : Int32) (u : bT9), (J9 u) → F_X9_feed S u → (140 < (b9g_taped S).toInt → r.toInt = -1 ∧ (b9g_taped u).toInt = (b9g_taped S).toInt) → ((b9g_taped S).toInt ≤ 140 → r.toInt = (b9g_taped S).toInt + 20 ∧ (b9g_taped u).toInt = (b9g_taped S).toInt + 20) → ((b9g_taped S).toInt ≤ 140 → PF5 (b9g_tape S) (b9g_taped S).toInt a1 a2 a3 a4 a5 (b9g_tape u)) → (140 < (b9g_taped S).toInt → b9g_tape u = b9g_tape S) → Q r u) : wp_X9_feed S a1 a2 a3 a4 a5 Q := by
  have jc := J9g_taped hJ
  unfold wp_X9_feed
  intro S1 e1
  have hJ1 : J9 S1 := by rw [e1]; exact J9s_told hJ
  have hF1 : F_X9_feed S S1 := by rw [e1]; exact ⟨rfl, rfl, rfl, rfl, rfl, rfl, rfl, rfl, rfl, rfl, rfl, rfl, rfl, rfl, rfl, rfl, rfl, rfl, rfl, rfl, rfl, rfl, rfl, rfl, rfl, rfl, rfl, rfl, rfl, rfl, rfl, rfl, rfl, rfl, rfl, rfl, rfl, rfl, rfl, rfl, rfl, rfl, rfl⟩
  have et : b9g_taped S1 = b9g_taped S := by rw [e1]
  have ep : b9g_tape S1 = b9g_tape S := by rw [e1]
  rw [et]
  refine ⟨fun c => ?_, fun c => ?_⟩
  rotate_left
  · simp only [pn] at c
    exact hq _ _ hJ1 hF1 (fun _ => ⟨rfl, by rw [et]⟩) (fun h => by exfalso; omega) (fun h => by exfalso; omega) (fun _ => ep)
  simp only [pn] at c
  have et' := congrArg Int32.toInt et
  refine sf_X9_types hJ1 (by omega) (fun u3 hJ3 hf3 n3 p3 => ?_)
  refine sf_X9_types hJ3 (by omega) (fun u5 hJ5 hf5 n5 p5 => ?_)
  refine sf_X9_types hJ5 (by omega) (fun u7 hJ7 hf7 n7 p7 => ?_)
  refine sf_X9_types hJ7 (by omega) (fun u9 hJ9' hf9 n9 p9 => ?_)
  refine sf_X9_types hJ9' (by omega) (fun u11 hJ11 hf11 n11 p11 => ?_)
  have g3 : F_X9_feed S u3 := ⟨(hf3.2.1).trans (hF1.1), (hf3.2.2.1).trans (hF1.2.1), (hf3.2.2.2.1).trans (hF1.2.2.1), (hf3.2.2.2.2.1).trans (hF1.2.2.2.1), (hf3.2.2.2.2.2.1).trans (hF1.2.2.2.2.1), (hf3.2.2.2.2.2.2.1).trans (hF1.2.2.2.2.2.1), (hf3.2.2.2.2.2.2.2.1).trans (hF1.2.2.2.2.2.2.1), (hf3.2.2.2.2.2.2.2.2.1).trans (hF1.2.2.2.2.2.2.2.1), (hf3.2.2.2.2.2.2.2.2.2.1).trans (hF1.2.2.2.2.2.2.2.2.1), (hf3.2.2.2.2.2.2.2.2.2.2.1).trans (hF1.2.2.2.2.2.2.2.2.2.1), (hf3.2.2.2.2.2.2.2.2.2.2.2.1).trans (hF1.2.2.2.2.2.2.2.2.2.2.1), (hf3.2.2.2.2.2.2.2.2.2.2.2.2.1).trans (hF1.2.2.2.2.2.2.2.2.2.2.2.1), (hf3.2.2.2.2.2.2.2.2.2.2.2.2.2.1).trans (hF1.2.2.2.2.2.2.2.2.2.2.2.2.1), (hf3.2.2.2.2.2.2.2.2.2.2.2.2.2.2.1).trans (hF1.2.2.2.2.2.2.2.2.2.2.2.2.2.1), (hf3.2.2.2.2.2.2.2.2.2.2.2.2.2.2.2.1).trans (hF1.2.2.2.2.2.2.2.2.2.2.2.2.2.2.1), (hf3.2.2.2.2.2.2.2.2.2.2.2.2.2.2.2.2.1).trans (hF1.2.2.2.2.2.2.2.2.2.2.2.2.2.2.2.1), (hf3.2.2.2.2.2.2.2.2.2.2.2.2.2.2.2.2.2.1).trans (hF1.2.2.2.2.2.2.2.2.2.2.2.2.2.2.2.2.1), (hf3.2.2.2.2.2.2.2.2.2.2.2.2.2.2.2.2.2.2.1).trans (hF1.2.2.2.2.2.2.2.2.2.2.2.2.2.2.2.2.2.1), (hf3.2.2.2.2.2.2.2.2.2.2.2.2.2.2.2.2.2.2.2.1).trans (hF1.2.2.2.2.2.2.2.2.2.2.2.2.2.2.2.2.2.2.1), (hf3.2.2.2.2.2.2.2.2.2.2.2.2.2.2.2.2.2.2.2.2.1).trans (hF1.2.2.2.2.2.2.2.2.2.2.2.2.2.2.2.2.2.2.2.1), (hf3.2.2.2.2.2.2.2.2.2.2.2.2.2.2.2.2.2.2.2.2.2.1).trans (hF1.2.2.2.2.2.2.2.2.2.2.2.2.2.2.2.2.2.2.2.2.1), (hf3.2.2.2.2.2.2.2.2.2.2.2.2.2.2.2.2.2.2.2.2.2.2.1).trans (hF1.2.2.2.2.2.2.2.2.2.2.2.2.2.2.2.2.2.2.2.2.2.1), (hf3.2.2.2.2.2.2.2.2.2.2.2.2.2.2.2.2.2.2.2.2.2.2.2.1).trans (hF1.2.2.2.2.2.2.2.2.2.2.2.2.2.2.2.2.2.2.2.2.2.2.1), (hf3.2.2.2.2.2.2.2.2.2.2.2.2.2.2.2.2.2.2.2.2.2.2.2.2.1).trans (hF1.2.2.2.2.2.2.2.2.2.2.2.2.2.2.2.2.2.2.2.2.2.2.2.1), (hf3.2.2.2.2.2.2.2.2.2.2.2.2.2.2.2.2.2.2.2.2.2.2.2.2.2.1).trans (hF1.2.2.2.2.2.2.2.2.2.2.2.2.2.2.2.2.2.2.2.2.2.2.2.2.1), (hf3.2.2.2.2.2.2.2.2.2.2.2.2.2.2.2.2.2.2.2.2.2.2.2.2.2.2.1).trans (hF1.2.2.2.2.2.2.2.2.2.2.2.2.2.2.2.2.2.2.2.2.2.2.2.2.2.1), (hf3.2.2.2.2.2.2.2.2.2.2.2.2.2.2.2.2.2.2.2.2.2.2.2.2.2.2.2.1).trans (hF1.2.2.2.2.2.2.2.2.2.2.2.2.2.2.2.2.2.2.2.2.2.2.2.2.2.2.1), (hf3.2.2.2.2.2.2.2.2.2.2.2.2.2.2.2.2.2.2.2.2.2.2.2.2.2.2.2.2.1).trans (hF1.2.2.2.2.2.2.2.2.2.2.2.2.2.2.2.2.2.2.2.2.2.2.2.2.2.2.2.1), (hf3.2.2.2.2.2.2.2.2.2.2.2.2.2.2.2.2.2.2.2.2.2.2.2.2.2.2.2.2.2.1).trans (hF1.2.2.2.2.2.2.2.2.2.2.2.2.2.2.2.2.2.2.2.2.2.2.2.2.2.2.2.2.1), (hf3.2.2.2.2.2.2.2.2.2.2.2.2.2.2.2.2.2.2.2.2.2.2.2.2.2.2.2.2.2.2.1).trans (hF1.2.2.2.2.2.2.2.2.2.2.2.2.2.2.2.2.2.2.2.2.2.2.2.2.2.2.2.2.2.1), (hf3.2.2.2.2.2.2.2.2.2.2.2.2.2.2.2.2.2.2.2.2.2.2.2.2.2.2.2.2.2.2.2.1).trans (hF1.2.2.2.2.2.2.2.2.2.2.2.2.2.2.2.2.2.2.2.2.2.2.2.2.2.2.2.2.2.2.1), (hf3.2.2.2.2.2.2.2.2.2.2.2.2.2.2.2.2.2.2.2.2.2.2.2.2.2.2.2.2.2.2.2.2.1).trans (hF1.2.2.2.2.2.2.2.2.2.2.2.2.2.2.2.2.2.2.2.2.2.2.2.2.2.2.2.2.2.2.2.1), (hf3.2.2.2.2.2.2.2.2.2.2.2.2.2.2.2.2.2.2.2.2.2.2.2.2.2.2.2.2.2.2.2.2.2.1).trans (hF1.2.2.2.2.2.2.2.2.2.2.2.2.2.2.2.2.2.2.2.2.2.2.2.2.2.2.2.2.2.2.2.2.1), (hf3.2.2.2.2.2.2.2.2.2.2.2.2.2.2.2.2.2.2.2.2.2.2.2.2.2.2.2.2.2.2.2.2.2.2.1).trans (hF1.2.2.2.2.2.2.2.2.2.2.2.2.2.2.2.2.2.2.2.2.2.2.2.2.2.2.2.2.2.2.2.2.2.1), (hf3.2.2.2.2.2.2.2.2.2.2.2.2.2.2.2.2.2.2.2.2.2.2.2.2.2.2.2.2.2.2.2.2.2.2.2.1).trans (hF1.2.2.2.2.2.2.2.2.2.2.2.2.2.2.2.2.2.2.2.2.2.2.2.2.2.2.2.2.2.2.2.2.2.2.1), (hf3.2.2.2.2.2.2.2.2.2.2.2.2.2.2.2.2.2.2.2.2.2.2.2.2.2.2.2.2.2.2.2.2.2.2.2.2.1).trans (hF1.2.2.2.2.2.2.2.2.2.2.2.2.2.2.2.2.2.2.2.2.2.2.2.2.2.2.2.2.2.2.2.2.2.2.2.1), (hf3.2.2.2.2.2.2.2.2.2.2.2.2.2.2.2.2.2.2.2.2.2.2.2.2.2.2.2.2.2.2.2.2.2.2.2.2.2.1).trans (hF1.2.2.2.2.2.2.2.2.2.2.2.2.2.2.2.2.2.2.2.2.2.2.2.2.2.2.2.2.2.2.2.2.2.2.2.2.1), (hf3.2.2.2.2.2.2.2.2.2.2.2.2.2.2.2.2.2.2.2.2.2.2.2.2.2.2.2.2.2.2.2.2.2.2.2.2.2.2.1).trans (hF1.2.2.2.2.2.2.2.2.2.2.2.2.2.2.2.2.2.2.2.2.2.2.2.2.2.2.2.2.2.2.2.2.2.2.2.2.2.1), (hf3.2.2.2.2.2.2.2.2.2.2.2.2.2.2.2.2.2.2.2.2.2.2.2.2.2.2.2.2.2.2.2.2.2.2.2.2.2.2.2.1).trans (hF1.2.2.2.2.2.2.2.2.2.2.2.2.2.2.2.2.2.2.2.2.2.2.2.2.2.2.2.2.2.2.2.2.2.2.2.2.2.2.1), (hf3.2.2.2.2.2.2.2.2.2.2.2.2.2.2.2.2.2.2.2.2.2.2.2.2.2.2.2.2.2.2.2.2.2.2.2.2.2.2.2.2.1).trans (hF1.2.2.2.2.2.2.2.2.2.2.2.2.2.2.2.2.2.2.2.2.2.2.2.2.2.2.2.2.2.2.2.2.2.2.2.2.2.2.2.1), (hf3.2.2.2.2.2.2.2.2.2.2.2.2.2.2.2.2.2.2.2.2.2.2.2.2.2.2.2.2.2.2.2.2.2.2.2.2.2.2.2.2.2.1).trans (hF1.2.2.2.2.2.2.2.2.2.2.2.2.2.2.2.2.2.2.2.2.2.2.2.2.2.2.2.2.2.2.2.2.2.2.2.2.2.2.2.2.1), (hf3.2.2.2.2.2.2.2.2.2.2.2.2.2.2.2.2.2.2.2.2.2.2.2.2.2.2.2.2.2.2.2.2.2.2.2.2.2.2.2.2.2.2.1).trans (hF1.2.2.2.2.2.2.2.2.2.2.2.2.2.2.2.2.2.2.2.2.2.2.2.2.2.2.2.2.2.2.2.2.2.2.2.2.2.2.2.2.2.1), (hf3.2.2.2.2.2.2.2.2.2.2.2.2.2.2.2.2.2.2.2.2.2.2.2.2.2.2.2.2.2.2.2.2.2.2.2.2.2.2.2.2.2.2.2).trans (hF1.2.2.2.2.2.2.2.2.2.2.2.2.2.2.2.2.2.2.2.2.2.2.2.2.2.2.2.2.2.2.2.2.2.2.2.2.2.2.2.2.2.2)⟩
  have g5 : F_X9_feed S u5 := ⟨(hf5.2.1).trans (g3.1), (hf5.2.2.1).trans (g3.2.1), (hf5.2.2.2.1).trans (g3.2.2.1), (hf5.2.2.2.2.1).trans (g3.2.2.2.1), (hf5.2.2.2.2.2.1).trans (g3.2.2.2.2.1), (hf5.2.2.2.2.2.2.1).trans (g3.2.2.2.2.2.1), (hf5.2.2.2.2.2.2.2.1).trans (g3.2.2.2.2.2.2.1), (hf5.2.2.2.2.2.2.2.2.1).trans (g3.2.2.2.2.2.2.2.1), (hf5.2.2.2.2.2.2.2.2.2.1).trans (g3.2.2.2.2.2.2.2.2.1), (hf5.2.2.2.2.2.2.2.2.2.2.1).trans (g3.2.2.2.2.2.2.2.2.2.1), (hf5.2.2.2.2.2.2.2.2.2.2.2.1).trans (g3.2.2.2.2.2.2.2.2.2.2.1), (hf5.2.2.2.2.2.2.2.2.2.2.2.2.1).trans (g3.2.2.2.2.2.2.2.2.2.2.2.1), (hf5.2.2.2.2.2.2.2.2.2.2.2.2.2.1).trans (g3.2.2.2.2.2.2.2.2.2.2.2.2.1), (hf5.2.2.2.2.2.2.2.2.2.2.2.2.2.2.1).trans (g3.2.2.2.2.2.2.2.2.2.2.2.2.2.1), (hf5.2.2.2.2.2.2.2.2.2.2.2.2.2.2.2.1).trans (g3.2.2.2.2.2.2.2.2.2.2.2.2.2.2.1), (hf5.2.2.2.2.2.2.2.2.2.2.2.2.2.2.2.2.1).trans (g3.2.2.2.2.2.2.2.2.2.2.2.2.2.2.2.1), (hf5.2.2.2.2.2.2.2.2.2.2.2.2.2.2.2.2.2.1).trans (g3.2.2.2.2.2.2.2.2.2.2.2.2.2.2.2.2.1), (hf5.2.2.2.2.2.2.2.2.2.2.2.2.2.2.2.2.2.2.1).trans (g3.2.2.2.2.2.2.2.2.2.2.2.2.2.2.2.2.2.1), (hf5.2.2.2.2.2.2.2.2.2.2.2.2.2.2.2.2.2.2.2.1).trans (g3.2.2.2.2.2.2.2.2.2.2.2.2.2.2.2.2.2.2.1), (hf5.2.2.2.2.2.2.2.2.2.2.2.2.2.2.2.2.2.2.2.2.1).trans (g3.2.2.2.2.2.2.2.2.2.2.2.2.2.2.2.2.2.2.2.1), (hf5.2.2.2.2.2.2.2.2.2.2.2.2.2.2.2.2.2.2.2.2.2.1).trans (g3.2.2.2.2.2.2.2.2.2.2.2.2.2.2.2.2.2.2.2.2.1), (hf5.2.2.2.2.2.2.2.2.2.2.2.2.2.2.2.2.2.2.2.2.2.2.1).trans (g3.2.2.2.2.2.2.2.2.2.2.2.2.2.2.2.2.2.2.2.2.2.1), (hf5.2.2.2.2.2.2.2.2.2.2.2.2.2.2.2.2.2.2.2.2.2.2.2.1).trans (g3.2.2.2.2.2.2.2.2.2.2.2.2.2.2.2.2.2.2.2.2.2.2.1), (hf5.2.2.2.2.2.2.2.2.2.2.2.2.2.2.2.2.2.2.2.2.2.2.2.2.1).trans (g3.2.2.2.2.2.2.2.2.2.2.2.2.2.2.2.2.2.2.2.2.2.2.2.1), (hf5.2.2.2.2.2.2.2.2.2.2.2.2.2.2.2.2.2.2.2.2.2.2.2.2.2.1).trans (g3.2.2.2.2.2.2.2.2.2.2.2.2.2.2.2.2.2.2.2.2.2.2.2.2.1), (hf5.2.2.2.2.2.2.2.2.2.2.2.2.2.2.2.2.2.2.2.2.2.2.2.2.2.2.1).trans (g3.2.2.2.2.2.2.2.2.2.2.2.2.2.2.2.2.2.2.2.2.2.2.2.2.2.1), (hf5.2.2.2.2.2.2.2.2.2.2.2.2.2.2.2.2.2.2.2.2.2.2.2.2.2.2.2.1).trans (g3.2.2.2.2.2.2.2.2.2.2.2.2.2.2.2.2.2.2.2.2.2.2.2.2.2.2.1), (hf5.2.2.2.2.2.2.2.2.2.2.2.2.2.2.2.2.2.2.2.2.2.2.2.2.2.2.2.2.1).trans (g3.2.2.2.2.2.2.2.2.2.2.2.2.2.2.2.2.2.2.2.2.2.2.2.2.2.2.2.1), (hf5.2.2.2.2.2.2.2.2.2.2.2.2.2.2.2.2.2.2.2.2.2.2.2.2.2.2.2.2.2.1).trans (g3.2.2.2.2.2.2.2.2.2.2.2.2.2.2.2.2.2.2.2.2.2.2.2.2.2.2.2.2.1), (hf5.2.2.2.2.2.2.2.2.2.2.2.2.2.2.2.2.2.2.2.2.2.2.2.2.2.2.2.2.2.2.1).trans (g3.2.2.2.2.2.2.2.2.2.2.2.2.2.2.2.2.2.2.2.2.2.2.2.2.2.2.2.2.2.1), (hf5.2.2.2.2.2.2.2.2.2.2.2.2.2.2.2.2.2.2.2.2.2.2.2.2.2.2.2.2.2.2.2.1).trans (g3.2.2.2.2.2.2.2.2.2.2.2.2.2.2.2.2.2.2.2.2.2.2.2.2.2.2.2.2.2.2.1), (hf5.2.2.2.2.2.2.2.2.2.2.2.2.2.2.2.2.2.2.2.2.2.2.2.2.2.2.2.2.2.2.2.2.1).trans (g3.2.2.2.2.2.2.2.2.2.2.2.2.2.2.2.2.2.2.2.2.2.2.2.2.2.2.2.2.2.2.2.1), (hf5.2.2.2.2.2.2.2.2.2.2.2.2.2.2.2.2.2.2.2.2.2.2.2.2.2.2.2.2.2.2.2.2.2.1).trans (g3.2.2.2.2.2.2.2.2.2.2.2.2.2.2.2.2.2.2.2.2.2.2.2.2.2.2.2.2.2.2.2.2.1), (hf5.2.2.2.2.2.2.2.2.2.2.2.2.2.2.2.2.2.2.2.2.2.2.2.2.2.2.2.2.2.2.2.2.2.2.1).trans (g3.2.2.2.2.2.2.2.2.2.2.2.2.2.2.2.2.2.2.2.2.2.2.2.2.2.2.2.2.2.2.2.2.2.1), (hf5.2.2.2.2.2.2.2.2.2.2.2.2.2.2.2.2.2.2.2.2.2.2.2.2.2.2.2.2.2.2.2.2.2.2.2.1).trans (g3.2.2.2.2.2.2.2.2.2.2.2.2.2.2.2.2.2.2.2.2.2.2.2.2.2.2.2.2.2.2.2.2.2.2.1), (hf5.2.2.2.2.2.2.2.2.2.2.2.2.2.2.2.2.2.2.2.2.2.2.2.2.2.2.2.2.2.2.2.2.2.2.2.2.1).trans (g3.2.2.2.2.2.2.2.2.2.2.2.2.2.2.2.2.2.2.2.2.2.2.2.2.2.2.2.2.2.2.2.2.2.2.2.1), (hf5.2.2.2.2.2.2.2.2.2.2.2.2.2.2.2.2.2.2.2.2.2.2.2.2.2.2.2.2.2.2.2.2.2.2.2.2.2.1).trans (g3.2.2.2.2.2.2.2.2.2.2.2.2.2.2.2.2.2.2.2.2.2.2.2.2.2.2.2.2.2.2.2.2.2.2.2.2.1), (hf5.2.2.2.2.2.2.2.2.2.2.2.2.2.2.2.2.2.2.2.2.2.2.2.2.2.2.2.2.2.2.2.2.2.2.2.2.2.2.1).trans (g3.2.2.2.2.2.2.2.2.2.2.2.2.2.2.2.2.2.2.2.2.2.2.2.2.2.2.2.2.2.2.2.2.2.2.2.2.2.1), (hf5.2.2.2.2.2.2.2.2.2.2.2.2.2.2.2.2.2.2.2.2.2.2.2.2.2.2.2.2.2.2.2.2.2.2.2.2.2.2.2.1).trans (g3.2.2.2.2.2.2.2.2.2.2.2.2.2.2.2.2.2.2.2.2.2.2.2.2.2.2.2.2.2.2.2.2.2.2.2.2.2.2.1), (hf5.2.2.2.2.2.2.2.2.2.2.2.2.2.2.2.2.2.2.2.2.2.2.2.2.2.2.2.2.2.2.2.2.2.2.2.2.2.2.2.2.1).trans (g3.2.2.2.2.2.2.2.2.2.2.2.2.2.2.2.2.2.2.2.2.2.2.2.2.2.2.2.2.2.2.2.2.2.2.2.2.2.2.2.1), (hf5.2.2.2.2.2.2.2.2.2.2.2.2.2.2.2.2.2.2.2.2.2.2.2.2.2.2.2.2.2.2.2.2.2.2.2.2.2.2.2.2.2.1).trans (g3.2.2.2.2.2.2.2.2.2.2.2.2.2.2.2.2.2.2.2.2.2.2.2.2.2.2.2.2.2.2.2.2.2.2.2.2.2.2.2.2.1), (hf5.2.2.2.2.2.2.2.2.2.2.2.2.2.2.2.2.2.2.2.2.2.2.2.2.2.2.2.2.2.2.2.2.2.2.2.2.2.2.2.2.2.2.1).trans (g3.2.2.2.2.2.2.2.2.2.2.2.2.2.2.2.2.2.2.2.2.2.2.2.2.2.2.2.2.2.2.2.2.2.2.2.2.2.2.2.2.2.1), (hf5.2.2.2.2.2.2.2.2.2.2.2.2.2.2.2.2.2.2.2.2.2.2.2.2.2.2.2.2.2.2.2.2.2.2.2.2.2.2.2.2.2.2.2).trans (g3.2.2.2.2.2.2.2.2.2.2.2.2.2.2.2.2.2.2.2.2.2.2.2.2.2.2.2.2.2.2.2.2.2.2.2.2.2.2.2.2.2.2)⟩
  have g7 : F_X9_feed S u7 := ⟨(hf7.2.1).trans (g5.1), (hf7.2.2.1).trans (g5.2.1), (hf7.2.2.2.1).trans (g5.2.2.1), (hf7.2.2.2.2.1).trans (g5.2.2.2.1), (hf7.2.2.2.2.2.1).trans (g5.2.2.2.2.1), (hf7.2.2.2.2.2.2.1).trans (g5.2.2.2.2.2.1), (hf7.2.2.2.2.2.2.2.1).trans (g5.2.2.2.2.2.2.1), (hf7.2.2.2.2.2.2.2.2.1).trans (g5.2.2.2.2.2.2.2.1), (hf7.2.2.2.2.2.2.2.2.2.1).trans (g5.2.2.2.2.2.2.2.2.1), (hf7.2.2.2.2.2.2.2.2.2.2.1).trans (g5.2.2.2.2.2.2.2.2.2.1), (hf7.2.2.2.2.2.2.2.2.2.2.2.1).trans (g5.2.2.2.2.2.2.2.2.2.2.1), (hf7.2.2.2.2.2.2.2.2.2.2.2.2.1).trans (g5.2.2.2.2.2.2.2.2.2.2.2.1), (hf7.2.2.2.2.2.2.2.2.2.2.2.2.2.1).trans (g5.2.2.2.2.2.2.2.2.2.2.2.2.1), (hf7.2.2.2.2.2.2.2.2.2.2.2.2.2.2.1).trans (g5.2.2.2.2.2.2.2.2.2.2.2.2.2.1), (hf7.2.2.2.2.2.2.2.2.2.2.2.2.2.2.2.1).trans (g5.2.2.2.2.2.2.2.2.2.2.2.2.2.2.1), (hf7.2.2.2.2.2.2.2.2.2.2.2.2.2.2.2.2.1).trans (g5.2.2.2.2.2.2.2.2.2.2.2.2.2.2.2.1), (hf7.2.2.2.2.2.2.2.2.2.2.2.2.2.2.2.2.2.1).trans (g5.2.2.2.2.2.2.2.2.2.2.2.2.2.2.2.2.1), (hf7.2.2.2.2.2.2.2.2.2.2.2.2.2.2.2.2.2.2.1).trans (g5.2.2.2.2.2.2.2.2.2.2.2.2.2.2.2.2.2.1), (hf7.2.2.2.2.2.2.2.2.2.2.2.2.2.2.2.2.2.2.2.1).trans (g5.2.2.2.2.2.2.2.2.2.2.2.2.2.2.2.2.2.2.1), (hf7.2.2.2.2.2.2.2.2.2.2.2.2.2.2.2.2.2.2.2.2.1).trans (g5.2.2.2.2.2.2.2.2.2.2.2.2.2.2.2.2.2.2.2.1), (hf7.2.2.2.2.2.2.2.2.2.2.2.2.2.2.2.2.2.2.2.2.2.1).trans (g5.2.2.2.2.2.2.2.2.2.2.2.2.2.2.2.2.2.2.2.2.1), (hf7.2.2.2.2.2.2.2.2.2.2.2.2.2.2.2.2.2.2.2.2.2.2.1).trans (g5.2.2.2.2.2.2.2.2.2.2.2.2.2.2.2.2.2.2.2.2.2.1), (hf7.2.2.2.2.2.2.2.2.2.2.2.2.2.2.2.2.2.2.2.2.2.2.2.1).trans (g5.2.2.2.2.2.2.2.2.2.2.2.2.2.2.2.2.2.2.2.2.2.2.1), (hf7.2.2.2.2.2.2.2.2.2.2.2.2.2.2.2.2.2.2.2.2.2.2.2.2.1).trans (g5.2.2.2.2.2.2.2.2.2.2.2.2.2.2.2.2.2.2.2.2.2.2.2.1), (hf7.2.2.2.2.2.2.2.2.2.2.2.2.2.2.2.2.2.2.2.2.2.2.2.2.2.1).trans (g5.2.2.2.2.2.2.2.2.2.2.2.2.2.2.2.2.2.2.2.2.2.2.2.2.1), (hf7.2.2.2.2.2.2.2.2.2.2.2.2.2.2.2.2.2.2.2.2.2.2.2.2.2.2.1).trans (g5.2.2.2.2.2.2.2.2.2.2.2.2.2.2.2.2.2.2.2.2.2.2.2.2.2.1), (hf7.2.2.2.2.2.2.2.2.2.2.2.2.2.2.2.2.2.2.2.2.2.2.2.2.2.2.2.1).trans (g5.2.2.2.2.2.2.2.2.2.2.2.2.2.2.2.2.2.2.2.2.2.2.2.2.2.2.1), (hf7.2.2.2.2.2.2.2.2.2.2.2.2.2.2.2.2.2.2.2.2.2.2.2.2.2.2.2.2.1).trans (g5.2.2.2.2.2.2.2.2.2.2.2.2.2.2.2.2.2.2.2.2.2.2.2.2.2.2.2.1), (hf7.2.2.2.2.2.2.2.2.2.2.2.2.2.2.2.2.2.2.2.2.2.2.2.2.2.2.2.2.2.1).trans (g5.2.2.2.2.2.2.2.2.2.2.2.2.2.2.2.2.2.2.2.2.2.2.2.2.2.2.2.2.1), (hf7.2.2.2.2.2.2.2.2.2.2.2.2.2.2.2.2.2.2.2.2.2.2.2.2.2.2.2.2.2.2.1).trans (g5.2.2.2.2.2.2.2.2.2.2.2.2.2.2.2.2.2.2.2.2.2.2.2.2.2.2.2.2.2.1), (hf7.2.2.2.2.2.2.2.2.2.2.2.2.2.2.2.2.2.2.2.2.2.2.2.2.2.2.2.2.2.2.2.1).trans (g5.2.2.2.2.2.2.2.2.2.2.2.2.2.2.2.2.2.2.2.2.2.2.2.2.2.2.2.2.2.2.1), (hf7.2.2.2.2.2.2.2.2.2.2.2.2.2.2.2.2.2.2.2.2.2.2.2.2.2.2.2.2.2.2.2.2.1).trans (g5.2.2.2.2.2.2.2.2.2.2.2.2.2.2.2.2.2.2.2.2.2.2.2.2.2.2.2.2.2.2.2.1), (hf7.2.2.2.2.2.2.2.2.2.2.2.2.2.2.2.2.2.2.2.2.2.2.2.2.2.2.2.2.2.2.2.2.2.1).trans (g5.2.2.2.2.2.2.2.2.2.2.2.2.2.2.2.2.2.2.2.2.2.2.2.2.2.2.2.2.2.2.2.2.1), (hf7.2.2.2.2.2.2.2.2.2.2.2.2.2.2.2.2.2.2.2.2.2.2.2.2.2.2.2.2.2.2.2.2.2.2.1).trans (g5.2.2.2.2.2.2.2.2.2.2.2.2.2.2.2.2.2.2.2.2.2.2.2.2.2.2.2.2.2.2.2.2.2.1), (hf7.2.2.2.2.2.2.2.2.2.2.2.2.2.2.2.2.2.2.2.2.2.2.2.2.2.2.2.2.2.2.2.2.2.2.2.1).trans (g5.2.2.2.2.2.2.2.2.2.2.2.2.2.2.2.2.2.2.2.2.2.2.2.2.2.2.2.2.2.2.2.2.2.2.1), (hf7.2.2.2.2.2.2.2.2.2.2.2.2.2.2.2.2.2.2.2.2.2.2.2.2.2.2.2.2.2.2.2.2.2.2.2.2.1).trans (g5.2.2.2.2.2.2.2.2.2.2.2.2.2.2.2.2.2.2.2.2.2.2.2.2.2.2.2.2.2.2.2.2.2.2.2.1), (hf7.2.2.2.2.2.2.2.2.2.2.2.2.2.2.2.2.2.2.2.2.2.2.2.2.2.2.2.2.2.2.2.2.2.2.2.2.2.1).trans (g5.2.2.2.2.2.2.2.2.2.2.2.2.2.2.2.2.2.2.2.2.2.2.2.2.2.2.2.2.2.2.2.2.2.2.2.2.1), (hf7.2.2.2.2.2.2.2.2.2.2.2.2.2.2.2.2.2.2.2.2.2.2.2.2.2.2.2.2.2.2.2.2.2.2.2.2.2.2.1).trans (g5.2.2.2.2.2.2.2.2.2.2.2.2.2.2.2.2.2.2.2.2.2.2.2.2.2.2.2.2.2.2.2.2.2.2.2.2.2.1), (hf7.2.2.2.2.2.2.2.2.2.2.2.2.2.2.2.2.2.2.2.2.2.2.2.2.2.2.2.2.2.2.2.2.2.2.2.2.2.2.2.1).trans (g5.2.2.2.2.2.2.2.2.2.2.2.2.2.2.2.2.2.2.2.2.2.2.2.2.2.2.2.2.2.2.2.2.2.2.2.2.2.2.1), (hf7.2.2.2.2.2.2.2.2.2.2.2.2.2.2.2.2.2.2.2.2.2.2.2.2.2.2.2.2.2.2.2.2.2.2.2.2.2.2.2.2.1).trans (g5.2.2.2.2.2.2.2.2.2.2.2.2.2.2.2.2.2.2.2.2.2.2.2.2.2.2.2.2.2.2.2.2.2.2.2.2.2.2.2.1), (hf7.2.2.2.2.2.2.2.2.2.2.2.2.2.2.2.2.2.2.2.2.2.2.2.2.2.2.2.2.2.2.2.2.2.2.2.2.2.2.2.2.2.1).trans (g5.2.2.2.2.2.2.2.2.2.2.2.2.2.2.2.2.2.2.2.2.2.2.2.2.2.2.2.2.2.2.2.2.2.2.2.2.2.2.2.2.1), (hf7.2.2.2.2.2.2.2.2.2.2.2.2.2.2.2.2.2.2.2.2.2.2.2.2.2.2.2.2.2.2.2.2.2.2.2.2.2.2.2.2.2.2.1).trans (g5.2.2.2.2.2.2.2.2.2.2.2.2.2.2.2.2.2.2.2.2.2.2.2.2.2.2.2.2.2.2.2.2.2.2.2.2.2.2.2.2.2.1), (hf7.2.2.2.2.2.2.2.2.2.2.2.2.2.2.2.2.2.2.2.2.2.2.2.2.2.2.2.2.2.2.2.2.2.2.2.2.2.2.2.2.2.2.2).trans (g5.2.2.2.2.2.2.2.2.2.2.2.2.2.2.2.2.2.2.2.2.2.2.2.2.2.2.2.2.2.2.2.2.2.2.2.2.2.2.2.2.2.2)⟩
  have g9 : F_X9_feed S u9 := ⟨(hf9.2.1).trans (g7.1), (hf9.2.2.1).trans (g7.2.1), (hf9.2.2.2.1).trans (g7.2.2.1), (hf9.2.2.2.2.1).trans (g7.2.2.2.1), (hf9.2.2.2.2.2.1).trans (g7.2.2.2.2.1), (hf9.2.2.2.2.2.2.1).trans (g7.2.2.2.2.2.1), (hf9.2.2.2.2.2.2.2.1).trans (g7.2.2.2.2.2.2.1), (hf9.2.2.2.2.2.2.2.2.1).trans (g7.2.2.2.2.2.2.2.1), (hf9.2.2.2.2.2.2.2.2.2.1).trans (g7.2.2.2.2.2.2.2.2.1), (hf9.2.2.2.2.2.2.2.2.2.2.1).trans (g7.2.2.2.2.2.2.2.2.2.1), (hf9.2.2.2.2.2.2.2.2.2.2.2.1).trans (g7.2.2.2.2.2.2.2.2.2.2.1), (hf9.2.2.2.2.2.2.2.2.2.2.2.2.1).trans (g7.2.2.2.2.2.2.2.2.2.2.2.1), (hf9.2.2.2.2.2.2.2.2.2.2.2.2.2.1).trans (g7.2.2.2.2.2.2.2.2.2.2.2.2.1), (hf9.2.2.2.2.2.2.2.2.2.2.2.2.2.2.1).trans (g7.2.2.2.2.2.2.2.2.2.2.2.2.2.1), (hf9.2.2.2.2.2.2.2.2.2.2.2.2.2.2.2.1).trans (g7.2.2.2.2.2.2.2.2.2.2.2.2.2.2.1), (hf9.2.2.2.2.2.2.2.2.2.2.2.2.2.2.2.2.1).trans (g7.2.2.2.2.2.2.2.2.2.2.2.2.2.2.2.1), (hf9.2.2.2.2.2.2.2.2.2.2.2.2.2.2.2.2.2.1).trans (g7.2.2.2.2.2.2.2.2.2.2.2.2.2.2.2.2.1), (hf9.2.2.2.2.2.2.2.2.2.2.2.2.2.2.2.2.2.2.1).trans (g7.2.2.2.2.2.2.2.2.2.2.2.2.2.2.2.2.2.1), (hf9.2.2.2.2.2.2.2.2.2.2.2.2.2.2.2.2.2.2.2.1).trans (g7.2.2.2.2.2.2.2.2.2.2.2.2.2.2.2.2.2.2.1), (hf9.2.2.2.2.2.2.2.2.2.2.2.2.2.2.2.2.2.2.2.2.1).trans (g7.2.2.2.2.2.2.2.2.2.2.2.2.2.2.2.2.2.2.2.1), (hf9.2.2.2.2.2.2.2.2.2.2.2.2.2.2.2.2.2.2.2.2.2.1).trans (g7.2.2.2.2.2.2.2.2.2.2.2.2.2.2.2.2.2.2.2.2.1), (hf9.2.2.2.2.2.2.2.2.2.2.2.2.2.2.2.2.2.2.2.2.2.2.1).trans (g7.2.2.2.2.2.2.2.2.2.2.2.2.2.2.2.2.2.2.2.2.2.1), (hf9.2.2.2.2.2.2.2.2.2.2.2.2.2.2.2.2.2.2.2.2.2.2.2.1).trans (g7.2.2.2.2.2.2.2.2.2.2.2.2.2.2.2.2.2.2.2.2.2.2.1), (hf9.2.2.2.2.2.2.2.2.2.2.2.2.2.2.2.2.2.2.2.2.2.2.2.2.1).trans (g7.2.2.2.2.2.2.2.2.2.2.2.2.2.2.2.2.2.2.2.2.2.2.2.1), (hf9.2.2.2.2.2.2.2.2.2.2.2.2.2.2.2.2.2.2.2.2.2.2.2.2.2.1).trans (g7.2.2.2.2.2.2.2.2.2.2.2.2.2.2.2.2.2.2.2.2.2.2.2.2.1), (hf9.2.2.2.2.2.2.2.2.2.2.2.2.2.2.2.2.2.2.2.2.2.2.2.2.2.2.1).trans (g7.2.2.2.2.2.2.2.2.2.2.2.2.2.2.2.2.2.2.2.2.2.2.2.2.2.1), (hf9.2.2.2.2.2.2.2.2.2.2.2.2.2.2.2.2.2.2.2.2.2.2.2.2.2.2.2.1).trans (g7.2.2.2.2.2.2.2.2.2.2.2.2.2.2.2.2.2.2.2.2.2.2.2.2.2.2.1), (hf9.2.2.2.2.2.2.2.2.2.2.2.2.2.2.2.2.2.2.2.2.2.2.2.2.2.2.2.2.1).trans (g7.2.2.2.2.2.2.2.2.2.2.2.2.2.2.2.2.2.2.2.2.2.2.2.2.2.2.2.1), (hf9.2.2.2.2.2.2.2.2.2.2.2.2.2.2.2.2.2.2.2.2.2.2.2.2.2.2.2.2.2.1).trans (g7.2.2.2.2.2.2.2.2.2.2.2.2.2.2.2.2.2.2.2.2.2.2.2.2.2.2.2.2.1), (hf9.2.2.2.2.2.2.2.2.2.2.2.2.2.2.2.2.2.2.2.2.2.2.2.2.2.2.2.2.2.2.1).trans (g7.2.2.2.2.2.2.2.2.2.2.2.2.2.2.2.2.2.2.2.2.2.2.2.2.2.2.2.2.2.1), (hf9.2.2.2.2.2.2.2.2.2.2.2.2.2.2.2.2.2.2.2.2.2.2.2.2.2.2.2.2.2.2.2.1).trans (g7.2.2.2.2.2.2.2.2.2.2.2.2.2.2.2.2.2.2.2.2.2.2.2.2.2.2.2.2.2.2.1), (hf9.2.2.2.2.2.2.2.2.2.2.2.2.2.2.2.2.2.2.2.2.2.2.2.2.2.2.2.2.2.2.2.2.1).trans (g7.2.2.2.2.2.2.2.2.2.2.2.2.2.2.2.2.2.2.2.2.2.2.2.2.2.2.2.2.2.2.2.1), (hf9.2.2.2.2.2.2.2.2.2.2.2.2.2.2.2.2.2.2.2.2.2.2.2.2.2.2.2.2.2.2.2.2.2.1).trans (g7.2.2.2.2.2.2.2.2.2.2.2.2.2.2.2.2.2.2.2.2.2.2.2.2.2.2.2.2.2.2.2.2.1), (hf9.2.2.2.2.2.2.2.2.2.2.2.2.2.2.2.2.2.2.2.2.2.2.2.2.2.2.2.2.2.2.2.2.2.2.1).trans (g7.2.2.2.2.2.2.2.2.2.2.2.2.2.2.2.2.2.2.2.2.2.2.2.2.2.2.2.2.2.2.2.2.2.1), (hf9.2.2.2.2.2.2.2.2.2.2.2.2.2.2.2.2.2.2.2.2.2.2.2.2.2.2.2.2.2.2.2.2.2.2.2.1).trans (g7.2.2.2.2.2.2.2.2.2.2.2.2.2.2.2.2.2.2.2.2.2.2.2.2.2.2.2.2.2.2.2.2.2.2.1), (hf9.2.2.2.2.2.2.2.2.2.2.2.2.2.2.2.2.2.2.2.2.2.2.2.2.2.2.2.2.2.2.2.2.2.2.2.2.1).trans (g7.2.2.2.2.2.2.2.2.2.2.2.2.2.2.2.2.2.2.2.2.2.2.2.2.2.2.2.2.2.2.2.2.2.2.2.1), (hf9.2.2.2.2.2.2.2.2.2.2.2.2.2.2.2.2.2.2.2.2.2.2.2.2.2.2.2.2.2.2.2.2.2.2.2.2.2.1).trans (g7.2.2.2.2.2.2.2.2.2.2.2.2.2.2.2.2.2.2.2.2.2.2.2.2.2.2.2.2.2.2.2.2.2.2.2.2.1), (hf9.2.2.2.2.2.2.2.2.2.2.2.2.2.2.2.2.2.2.2.2.2.2.2.2.2.2.2.2.2.2.2.2.2.2.2.2.2.2.1).trans (g7.2.2.2.2.2.2.2.2.2.2.2.2.2.2.2.2.2.2.2.2.2.2.2.2.2.2.2.2.2.2.2.2.2.2.2.2.2.1), (hf9.2.2.2.2.2.2.2.2.2.2.2.2.2.2.2.2.2.2.2.2.2.2.2.2.2.2.2.2.2.2.2.2.2.2.2.2.2.2.2.1).trans (g7.2.2.2.2.2.2.2.2.2.2.2.2.2.2.2.2.2.2.2.2.2.2.2.2.2.2.2.2.2.2.2.2.2.2.2.2.2.2.1), (hf9.2.2.2.2.2.2.2.2.2.2.2.2.2.2.2.2.2.2.2.2.2.2.2.2.2.2.2.2.2.2.2.2.2.2.2.2.2.2.2.2.1).trans (g7.2.2.2.2.2.2.2.2.2.2.2.2.2.2.2.2.2.2.2.2.2.2.2.2.2.2.2.2.2.2.2.2.2.2.2.2.2.2.2.1), (hf9.2.2.2.2.2.2.2.2.2.2.2.2.2.2.2.2.2.2.2.2.2.2.2.2.2.2.2.2.2.2.2.2.2.2.2.2.2.2.2.2.2.1).trans (g7.2.2.2.2.2.2.2.2.2.2.2.2.2.2.2.2.2.2.2.2.2.2.2.2.2.2.2.2.2.2.2.2.2.2.2.2.2.2.2.2.1), (hf9.2.2.2.2.2.2.2.2.2.2.2.2.2.2.2.2.2.2.2.2.2.2.2.2.2.2.2.2.2.2.2.2.2.2.2.2.2.2.2.2.2.2.1).trans (g7.2.2.2.2.2.2.2.2.2.2.2.2.2.2.2.2.2.2.2.2.2.2.2.2.2.2.2.2.2.2.2.2.2.2.2.2.2.2.2.2.2.1), (hf9.2.2.2.2.2.2.2.2.2.2.2.2.2.2.2.2.2.2.2.2.2.2.2.2.2.2.2.2.2.2.2.2.2.2.2.2.2.2.2.2.2.2.2).trans (g7.2.2.2.2.2.2.2.2.2.2.2.2.2.2.2.2.2.2.2.2.2.2.2.2.2.2.2.2.2.2.2.2.2.2.2.2.2.2.2.2.2.2)⟩
  have g11 : F_X9_feed S u11 := ⟨(hf11.2.1).trans (g9.1), (hf11.2.2.1).trans (g9.2.1), (hf11.2.2.2.1).trans (g9.2.2.1), (hf11.2.2.2.2.1).trans (g9.2.2.2.1), (hf11.2.2.2.2.2.1).trans (g9.2.2.2.2.1), (hf11.2.2.2.2.2.2.1).trans (g9.2.2.2.2.2.1), (hf11.2.2.2.2.2.2.2.1).trans (g9.2.2.2.2.2.2.1), (hf11.2.2.2.2.2.2.2.2.1).trans (g9.2.2.2.2.2.2.2.1), (hf11.2.2.2.2.2.2.2.2.2.1).trans (g9.2.2.2.2.2.2.2.2.1), (hf11.2.2.2.2.2.2.2.2.2.2.1).trans (g9.2.2.2.2.2.2.2.2.2.1), (hf11.2.2.2.2.2.2.2.2.2.2.2.1).trans (g9.2.2.2.2.2.2.2.2.2.2.1), (hf11.2.2.2.2.2.2.2.2.2.2.2.2.1).trans (g9.2.2.2.2.2.2.2.2.2.2.2.1), (hf11.2.2.2.2.2.2.2.2.2.2.2.2.2.1).trans (g9.2.2.2.2.2.2.2.2.2.2.2.2.1), (hf11.2.2.2.2.2.2.2.2.2.2.2.2.2.2.1).trans (g9.2.2.2.2.2.2.2.2.2.2.2.2.2.1), (hf11.2.2.2.2.2.2.2.2.2.2.2.2.2.2.2.1).trans (g9.2.2.2.2.2.2.2.2.2.2.2.2.2.2.1), (hf11.2.2.2.2.2.2.2.2.2.2.2.2.2.2.2.2.1).trans (g9.2.2.2.2.2.2.2.2.2.2.2.2.2.2.2.1), (hf11.2.2.2.2.2.2.2.2.2.2.2.2.2.2.2.2.2.1).trans (g9.2.2.2.2.2.2.2.2.2.2.2.2.2.2.2.2.1), (hf11.2.2.2.2.2.2.2.2.2.2.2.2.2.2.2.2.2.2.1).trans (g9.2.2.2.2.2.2.2.2.2.2.2.2.2.2.2.2.2.1), (hf11.2.2.2.2.2.2.2.2.2.2.2.2.2.2.2.2.2.2.2.1).trans (g9.2.2.2.2.2.2.2.2.2.2.2.2.2.2.2.2.2.2.1), (hf11.2.2.2.2.2.2.2.2.2.2.2.2.2.2.2.2.2.2.2.2.1).trans (g9.2.2.2.2.2.2.2.2.2.2.2.2.2.2.2.2.2.2.2.1), (hf11.2.2.2.2.2.2.2.2.2.2.2.2.2.2.2.2.2.2.2.2.2.1).trans (g9.2.2.2.2.2.2.2.2.2.2.2.2.2.2.2.2.2.2.2.2.1), (hf11.2.2.2.2.2.2.2.2.2.2.2.2.2.2.2.2.2.2.2.2.2.2.1).trans (g9.2.2.2.2.2.2.2.2.2.2.2.2.2.2.2.2.2.2.2.2.2.1), (hf11.2.2.2.2.2.2.2.2.2.2.2.2.2.2.2.2.2.2.2.2.2.2.2.1).trans (g9.2.2.2.2.2.2.2.2.2.2.2.2.2.2.2.2.2.2.2.2.2.2.1), (hf11.2.2.2.2.2.2.2.2.2.2.2.2.2.2.2.2.2.2.2.2.2.2.2.2.1).trans (g9.2.2.2.2.2.2.2.2.2.2.2.2.2.2.2.2.2.2.2.2.2.2.2.1), (hf11.2.2.2.2.2.2.2.2.2.2.2.2.2.2.2.2.2.2.2.2.2.2.2.2.2.1).trans (g9.2.2.2.2.2.2.2.2.2.2.2.2.2.2.2.2.2.2.2.2.2.2.2.2.1), (hf11.2.2.2.2.2.2.2.2.2.2.2.2.2.2.2.2.2.2.2.2.2.2.2.2.2.2.1).trans (g9.2.2.2.2.2.2.2.2.2.2.2.2.2.2.2.2.2.2.2.2.2.2.2.2.2.1), (hf11.2.2.2.2.2.2.2.2.2.2.2.2.2.2.2.2.2.2.2.2.2.2.2.2.2.2.2.1).trans (g9.2.2.2.2.2.2.2.2.2.2.2.2.2.2.2.2.2.2.2.2.2.2.2.2.2.2.1), (hf11.2.2.2.2.2.2.2.2.2.2.2.2.2.2.2.2.2.2.2.2.2.2.2.2.2.2.2.2.1).trans (g9.2.2.2.2.2.2.2.2.2.2.2.2.2.2.2.2.2.2.2.2.2.2.2.2.2.2.2.1), (hf11.2.2.2.2.2.2.2.2.2.2.2.2.2.2.2.2.2.2.2.2.2.2.2.2.2.2.2.2.2.1).trans (g9.2.2.2.2.2.2.2.2.2.2.2.2.2.2.2.2.2.2.2.2.2.2.2.2.2.2.2.2.1), (hf11.2.2.2.2.2.2.2.2.2.2.2.2.2.2.2.2.2.2.2.2.2.2.2.2.2.2.2.2.2.2.1).trans (g9.2.2.2.2.2.2.2.2.2.2.2.2.2.2.2.2.2.2.2.2.2.2.2.2.2.2.2.2.2.1), (hf11.2.2.2.2.2.2.2.2.2.2.2.2.2.2.2.2.2.2.2.2.2.2.2.2.2.2.2.2.2.2.2.1).trans (g9.2.2.2.2.2.2.2.2.2.2.2.2.2.2.2.2.2.2.2.2.2.2.2.2.2.2.2.2.2.2.1), (hf11.2.2.2.2.2.2.2.2.2.2.2.2.2.2.2.2.2.2.2.2.2.2.2.2.2.2.2.2.2.2.2.2.1).trans (g9.2.2.2.2.2.2.2.2.2.2.2.2.2.2.2.2.2.2.2.2.2.2.2.2.2.2.2.2.2.2.2.1), (hf11.2.2.2.2.2.2.2.2.2.2.2.2.2.2.2.2.2.2.2.2.2.2.2.2.2.2.2.2.2.2.2.2.2.1).trans (g9.2.2.2.2.2.2.2.2.2.2.2.2.2.2.2.2.2.2.2.2.2.2.2.2.2.2.2.2.2.2.2.2.1), (hf11.2.2.2.2.2.2.2.2.2.2.2.2.2.2.2.2.2.2.2.2.2.2.2.2.2.2.2.2.2.2.2.2.2.2.1).trans (g9.2.2.2.2.2.2.2.2.2.2.2.2.2.2.2.2.2.2.2.2.2.2.2.2.2.2.2.2.2.2.2.2.2.1), (hf11.2.2.2.2.2.2.2.2.2.2.2.2.2.2.2.2.2.2.2.2.2.2.2.2.2.2.2.2.2.2.2.2.2.2.2.1).trans (g9.2.2.2.2.2.2.2.2.2.2.2.2.2.2.2.2.2.2.2.2.2.2.2.2.2.2.2.2.2.2.2.2.2.2.1), (hf11.2.2.2.2.2.2.2.2.2.2.2.2.2.2.2.2.2.2.2.2.2.2.2.2.2.2.2.2.2.2.2.2.2.2.2.2.1).trans (g9.2.2.2.2.2.2.2.2.2.2.2.2.2.2.2.2.2.2.2.2.2.2.2.2.2.2.2.2.2.2.2.2.2.2.2.1), (hf11.2.2.2.2.2.2.2.2.2.2.2.2.2.2.2.2.2.2.2.2.2.2.2.2.2.2.2.2.2.2.2.2.2.2.2.2.2.1).trans (g9.2.2.2.2.2.2.2.2.2.2.2.2.2.2.2.2.2.2.2.2.2.2.2.2.2.2.2.2.2.2.2.2.2.2.2.2.1), (hf11.2.2.2.2.2.2.2.2.2.2.2.2.2.2.2.2.2.2.2.2.2.2.2.2.2.2.2.2.2.2.2.2.2.2.2.2.2.2.1).trans (g9.2.2.2.2.2.2.2.2.2.2.2.2.2.2.2.2.2.2.2.2.2.2.2.2.2.2.2.2.2.2.2.2.2.2.2.2.2.1), (hf11.2.2.2.2.2.2.2.2.2.2.2.2.2.2.2.2.2.2.2.2.2.2.2.2.2.2.2.2.2.2.2.2.2.2.2.2.2.2.2.1).trans (g9.2.2.2.2.2.2.2.2.2.2.2.2.2.2.2.2.2.2.2.2.2.2.2.2.2.2.2.2.2.2.2.2.2.2.2.2.2.2.1), (hf11.2.2.2.2.2.2.2.2.2.2.2.2.2.2.2.2.2.2.2.2.2.2.2.2.2.2.2.2.2.2.2.2.2.2.2.2.2.2.2.2.1).trans (g9.2.2.2.2.2.2.2.2.2.2.2.2.2.2.2.2.2.2.2.2.2.2.2.2.2.2.2.2.2.2.2.2.2.2.2.2.2.2.2.1), (hf11.2.2.2.2.2.2.2.2.2.2.2.2.2.2.2.2.2.2.2.2.2.2.2.2.2.2.2.2.2.2.2.2.2.2.2.2.2.2.2.2.2.1).trans (g9.2.2.2.2.2.2.2.2.2.2.2.2.2.2.2.2.2.2.2.2.2.2.2.2.2.2.2.2.2.2.2.2.2.2.2.2.2.2.2.2.1), (hf11.2.2.2.2.2.2.2.2.2.2.2.2.2.2.2.2.2.2.2.2.2.2.2.2.2.2.2.2.2.2.2.2.2.2.2.2.2.2.2.2.2.2.1).trans (g9.2.2.2.2.2.2.2.2.2.2.2.2.2.2.2.2.2.2.2.2.2.2.2.2.2.2.2.2.2.2.2.2.2.2.2.2.2.2.2.2.2.1), (hf11.2.2.2.2.2.2.2.2.2.2.2.2.2.2.2.2.2.2.2.2.2.2.2.2.2.2.2.2.2.2.2.2.2.2.2.2.2.2.2.2.2.2.2).trans (g9.2.2.2.2.2.2.2.2.2.2.2.2.2.2.2.2.2.2.2.2.2.2.2.2.2.2.2.2.2.2.2.2.2.2.2.2.2.2.2.2.2.2)⟩
  rw [et', ep] at p3
  rw [n3, et'] at p5
  rw [n5, n3, et', Int.add_assoc] at p7
  rw [n7, n5, n3, et', Int.add_assoc, Int.add_assoc] at p9
  rw [n9, n7, n5, n3, et', Int.add_assoc, Int.add_assoc, Int.add_assoc] at p11
  have cc : (b9g_taped u11).toInt = (b9g_taped S).toInt + 20 := by omega
  exact hq _ _ hJ11 g11 (fun h => by exfalso; omega) (fun _ => ⟨cc, cc⟩) (fun _ => ⟨_, _, _, _, p3, p5, p7, p9, p11⟩) (fun h => by exfalso; omega)
def F_X9_end (S u : bT9) : Prop := (b9g_now u) = (b9g_now S) ∧ (b9g_keys u) = (b9g_keys S) ∧ (b9g_lengths u) = (b9g_lengths S) ∧ (b9g_drawn u) = (b9g_drawn S) ∧ (b9g_drawnLength u) = (b9g_drawnLength S) ∧ (b9g_tape u) = (b9g_tape S) ∧ (b9g_names u) = (b9g_names S) ∧ (b9g_chosen u) = (b9g_chosen S) ∧ (b9g_common u) = (b9g_common S) ∧ (b9g_beginning u) = (b9g_beginning S) ∧ (b9g_isLaid u) = (b9g_isLaid S) ∧ (b9g_nodeLevel u) = (b9g_nodeLevel S) ∧ (b9g_nodeLeaf u) = (b9g_nodeLeaf S) ∧ (b9g_nodeLeaves u) = (b9g_nodeLeaves S) ∧ (b9g_nodeMany u) = (b9g_nodeMany S) ∧ (b9g_levelMany u) = (b9g_levelMany S) ∧ (b9g_upper u) = (b9g_upper S) ∧ (b9g_upperNodes u) = (b9g_upperNodes S) ∧ (b9g_areNodesLaid u) = (b9g_areNodesLaid S) ∧ (b9g_itemNode u) = (b9g_itemNode S) ∧ (b9g_itemByte u) = (b9g_itemByte S) ∧ (b9g_itemChild u) = (b9g_itemChild S) ∧ (b9g_itemMany u) = (b9g_itemMany S) ∧ (b9g_placeOf u) = (b9g_placeOf S) ∧ (b9g_leafOfPlace u) = (b9g_leafOfPlace S) ∧ (b9g_places u) = (b9g_places S) ∧ (b9g_lowKey u) = (b9g_lowKey S) ∧ (b9g_highKey u) = (b9g_highKey S) ∧ (b9g_lowLength u) = (b9g_lowLength S) ∧ (b9g_highLength u) = (b9g_highLength S) ∧ (b9g_fromKey u) = (b9g_fromKey S) ∧ (b9g_toKey u) = (b9g_toKey S) ∧ (b9g_fromLength u) = (b9g_fromLength S) ∧ (b9g_toLength u) = (b9g_toLength S) ∧ (b9g_ones u) = (b9g_ones S) ∧ (b9g_oneMany u) = (b9g_oneMany S) ∧ (b9g_rowLong u) = (b9g_rowLong S) ∧ (b9g_laidFor u) = (b9g_laidFor S) ∧ (b9g_signs u) = (b9g_signs S) ∧ (b9g_signMany u) = (b9g_signMany S) ∧ (b9g_hasImage u) = (b9g_hasImage S) ∧ (b9g_images u) = (b9g_images S) ∧ (b9g_keyImages u) = (b9g_keyImages S) ∧ (b9g_lengthImages u) = (b9g_lengthImages S)
set_option maxRecDepth 20000 in
set_option maxHeartbeats 8000000 in
theorem sf_X9_end {S : bT9} (hJ : J9 S) {a1 : Int32} {Q : Int32 → (bT9) → Prop} (hq : ∀ (r : Int32) (u : bT9), (J9 u) → F_X9_end S u → bf_bool r → ((r.toInt = 1 ∧ 0 ≤ a1.toInt ∧ a1.toInt ≤ (b9g_taped S).toInt ∧ (b9g_taped u).toInt = a1.toInt) ∨ (r.toInt = 0 ∧ (a1.toInt < 0 ∨ (b9g_taped S).toInt < a1.toInt) ∧ (b9g_taped u).toInt = (b9g_taped S).toInt)) → Q r u) : wp_X9_end S a1 Q := by
  unfold wp_X9_end
  have hFS : F_X9_end S S := ⟨rfl, rfl, rfl, rfl, rfl, rfl, rfl, rfl, rfl, rfl, rfl, rfl, rfl, rfl, rfl, rfl, rfl, rfl, rfl, rfl, rfl, rfl, rfl, rfl, rfl, rfl, rfl, rfl, rfl, rfl, rfl, rfl, rfl, rfl, rfl, rfl, rfl, rfl, rfl, rfl, rfl, rfl, rfl, rfl⟩
  have jf1 := J9g_taped hJ
  have jf2 : (-4 ≤ ((b9g_now S) 1).toInt ∧ ((b9g_now S) 1).toInt ≤ 4) ∧ (-3 ≤ ((b9g_now S) 4).toInt ∧ ((b9g_now S) 4).toInt ≤ 252) ∧ (0 ≤ ((b9g_now S) 8).toInt ∧ ((b9g_now S) 8).toInt ≤ 64) ∧ (0 ≤ ((b9g_now S) 9).toInt ∧ ((b9g_now S) 9).toInt ≤ 64) ∧ (0 ≤ ((b9g_now S) 10).toInt ∧ ((b9g_now S) 10).toInt ≤ 16) ∧ (0 ≤ ((b9g_now S) 12).toInt ∧ ((b9g_now S) 12).toInt ≤ 8) := J9g_now hJ
  have ju2_S := hJ.2.1
  have rga1 := pt_rg a1
  intro S1 eS1
  have hJS1 : J9 S1 := by rw [eS1]; exact (J9s_told hJ)
  have hFS1 : F_X9_end S S1 := by rw [eS1]; exact hFS
  have je3 : ((b9g_taped S1)).toInt = ((b9g_taped S)).toInt := by rw [eS1]
  have jf4 := J9g_taped hJS1
  have je6 : ((b9g_now S1) 1).toInt = ((b9g_now S) 1).toInt := congrArg (fun z => (z 1).toInt) hFS1.1
  have je8 : ((b9g_now S1) 4).toInt = ((b9g_now S) 4).toInt := congrArg (fun z => (z 4).toInt) hFS1.1
  have je10 : ((b9g_now S1) 7).toInt = ((b9g_now S) 7).toInt := congrArg (fun z => (z 7).toInt) hFS1.1
  have je12 : ((b9g_now S1) 8).toInt = ((b9g_now S) 8).toInt := congrArg (fun z => (z 8).toInt) hFS1.1
  have je14 : ((b9g_now S1) 9).toInt = ((b9g_now S) 9).toInt := congrArg (fun z => (z 9).toInt) hFS1.1
  have je16 : ((b9g_now S1) 10).toInt = ((b9g_now S) 10).toInt := congrArg (fun z => (z 10).toInt) hFS1.1
  have je18 : ((b9g_now S1) 12).toInt = ((b9g_now S) 12).toInt := congrArg (fun z => (z 12).toInt) hFS1.1
  have ju18_S1 := hJS1.2.1
  refine sf_X9_isIn hJS1.1 (fun r2 hzr2 hr2_0 => ?_)
  try simp (disch := first | ((try simp (disch := first | ((try simp only [pn]) <;> omega) | fail) only [pn, pq]) <;> omega) | fail) only [pn, pq] at hr2_0
  refine ⟨fun c4 => ?_, fun c4 => ?_⟩
  · try simp (disch := first | ((try simp (disch := first | ((try simp only [pn]) <;> omega) | fail) only [pn, pq]) <;> omega) | fail) only [pn, pq] at c4
    intro S5 eS5
    have hJS5 : J9 S5 := by rw [eS5]; exact (J9s_taped hJS1 ⟨(by (try simp (disch := first | ((try simp (disch := first | ((try simp only [pn]) <;> omega) | fail) only [pn, pq]) <;> omega) | fail) only [pn, pq]) <;> (intros; (try simp (disch := first | ((try simp (disch := first | ((try simp only [pn]) <;> omega) | fail) only [pn, pq]) <;> omega) | fail) only [pn, pq]) <;> omega)), (by (try simp (disch := first | ((try simp (disch := first | ((try simp only [pn]) <;> omega) | fail) only [pn, pq]) <;> omega) | fail) only [pn, pq]) <;> (intros; (try simp (disch := first | ((try simp (disch := first | ((try simp only [pn]) <;> omega) | fail) only [pn, pq]) <;> omega) | fail) only [pn, pq]) <;> omega))⟩)
    have hFS5 : F_X9_end S S5 := by rw [eS5]; exact hFS1
    have je19 : ((b9g_taped S5)).toInt = (a1).toInt := by rw [eS5]
    try simp (disch := first | ((try simp (disch := first | ((try simp only [pn]) <;> omega) | fail) only [pn, pq]) <;> omega) | fail) only [pn, pq] at je19
    have jf20 := J9g_taped hJS5
    have je22 : ((b9g_now S5) 1).toInt = ((b9g_now S) 1).toInt := congrArg (fun z => (z 1).toInt) hFS5.1
    have je24 : ((b9g_now S5) 4).toInt = ((b9g_now S) 4).toInt := congrArg (fun z => (z 4).toInt) hFS5.1
    have je26 : ((b9g_now S5) 7).toInt = ((b9g_now S) 7).toInt := congrArg (fun z => (z 7).toInt) hFS5.1
    have je28 : ((b9g_now S5) 8).toInt = ((b9g_now S) 8).toInt := congrArg (fun z => (z 8).toInt) hFS5.1
    have je30 : ((b9g_now S5) 9).toInt = ((b9g_now S) 9).toInt := congrArg (fun z => (z 9).toInt) hFS5.1
    have je32 : ((b9g_now S5) 10).toInt = ((b9g_now S) 10).toInt := congrArg (fun z => (z 10).toInt) hFS5.1
    have je34 : ((b9g_now S5) 12).toInt = ((b9g_now S) 12).toInt := congrArg (fun z => (z 12).toInt) hFS5.1
    have ju34_S5 := hJS5.2.1
    exact ⟨by first | rfl | assumption, hq _ _ hJS5 hFS5 (by first | rfl | assumption) (by (try simp (disch := first | ((try simp (disch := first | ((try simp only [pn]) <;> omega) | fail) only [pn, pq]) <;> omega) | fail) only [pn, pq]) <;> (intros; (try simp (disch := first | ((try simp (disch := first | ((try simp only [pn]) <;> omega) | fail) only [pn, pq]) <;> omega) | fail) only [pn, pq]) <;> omega))⟩
  · try simp (disch := first | ((try simp (disch := first | ((try simp only [pn]) <;> omega) | fail) only [pn, pq]) <;> omega) | fail) only [pn, pq] at c4
    exact ⟨by first | rfl | assumption, hq _ _ hJS1 hFS1 (by first | rfl | assumption) (by (try simp (disch := first | ((try simp (disch := first | ((try simp only [pn]) <;> omega) | fail) only [pn, pq]) <;> omega) | fail) only [pn, pq]) <;> (intros; (try simp (disch := first | ((try simp (disch := first | ((try simp only [pn]) <;> omega) | fail) only [pn, pq]) <;> omega) | fail) only [pn, pq]) <;> omega))⟩
def F_X9_named (S u : bT9) : Prop := (b9g_told u) = (b9g_told S) ∧ (b9g_now u) = (b9g_now S) ∧ (b9g_keys u) = (b9g_keys S) ∧ (b9g_lengths u) = (b9g_lengths S) ∧ (b9g_drawn u) = (b9g_drawn S) ∧ (b9g_drawnLength u) = (b9g_drawnLength S) ∧ (b9g_tape u) = (b9g_tape S) ∧ (b9g_names u) = (b9g_names S) ∧ (b9g_chosen u) = (b9g_chosen S) ∧ (b9g_common u) = (b9g_common S) ∧ (b9g_beginning u) = (b9g_beginning S) ∧ (b9g_isLaid u) = (b9g_isLaid S) ∧ (b9g_nodeLevel u) = (b9g_nodeLevel S) ∧ (b9g_nodeLeaf u) = (b9g_nodeLeaf S) ∧ (b9g_nodeLeaves u) = (b9g_nodeLeaves S) ∧ (b9g_nodeMany u) = (b9g_nodeMany S) ∧ (b9g_levelMany u) = (b9g_levelMany S) ∧ (b9g_upper u) = (b9g_upper S) ∧ (b9g_upperNodes u) = (b9g_upperNodes S) ∧ (b9g_areNodesLaid u) = (b9g_areNodesLaid S) ∧ (b9g_itemNode u) = (b9g_itemNode S) ∧ (b9g_itemByte u) = (b9g_itemByte S) ∧ (b9g_itemChild u) = (b9g_itemChild S) ∧ (b9g_itemMany u) = (b9g_itemMany S) ∧ (b9g_placeOf u) = (b9g_placeOf S) ∧ (b9g_leafOfPlace u) = (b9g_leafOfPlace S) ∧ (b9g_places u) = (b9g_places S) ∧ (b9g_lowKey u) = (b9g_lowKey S) ∧ (b9g_highKey u) = (b9g_highKey S) ∧ (b9g_lowLength u) = (b9g_lowLength S) ∧ (b9g_highLength u) = (b9g_highLength S) ∧ (b9g_fromKey u) = (b9g_fromKey S) ∧ (b9g_toKey u) = (b9g_toKey S) ∧ (b9g_fromLength u) = (b9g_fromLength S) ∧ (b9g_toLength u) = (b9g_toLength S) ∧ (b9g_ones u) = (b9g_ones S) ∧ (b9g_oneMany u) = (b9g_oneMany S) ∧ (b9g_rowLong u) = (b9g_rowLong S) ∧ (b9g_laidFor u) = (b9g_laidFor S) ∧ (b9g_signs u) = (b9g_signs S) ∧ (b9g_signMany u) = (b9g_signMany S) ∧ (b9g_hasImage u) = (b9g_hasImage S) ∧ (b9g_images u) = (b9g_images S) ∧ (b9g_keyImages u) = (b9g_keyImages S) ∧ (b9g_lengthImages u) = (b9g_lengthImages S)
theorem sf_X9_named {S : bT9} (hJ : J9 S) {Q : Int32 → (bT9) → Prop} (hq : ∀ (r : Int32) (u : bT9), (J9 u) → F_X9_named S u → ((b9g_taped u).toInt = 0) → (NMD (b9g_tape S) (b9g_taped S) r) → Q r u) : wp_X9_named S Q := by
  have jt := J9g_taped hJ
  unfold wp_X9_named
  intro S1 e1
  have hJ1 : J9 S1 := by rw [e1]; exact J9s_taped hJ ⟨by decide, by decide⟩
  have hF1 : F_X9_named S S1 := by rw [e1]; exact ⟨rfl, rfl, rfl, rfl, rfl, rfl, rfl, rfl, rfl, rfl, rfl, rfl, rfl, rfl, rfl, rfl, rfl, rfl, rfl, rfl, rfl, rfl, rfl, rfl, rfl, rfl, rfl, rfl, rfl, rfl, rfl, rfl, rfl, rfl, rfl, rfl, rfl, rfl, rfl, rfl, rfl, rfl, rfl, rfl, rfl⟩
  have hn : b9g_names S1 = nmF56 := J9g_names hJ1
  have ht : b9g_tape S1 = b9g_tape S := by rw [e1]
  have h0 : (b9g_taped S1).toInt = 0 := by rw [e1]; first | done | rfl
  have ps : ∀ {x : Int32}, 0 ≤ x.toInt → x.toInt ≤ 1000 → (x + 1).toInt = x.toInt + 1 := by
    intro x a b
    rw [pt_add (by rw [pl_1]; omega) (by rw [pl_1]; omega), pl_1]
  unfold wp_X9_named_14
  refine ⟨fun n x1 x2 x3 V => V = S1 ∧ x2 = b9g_taped S ∧ ∃ m : Nat, m ≤ 10 ∧ x1.toInt = (m : Int) - 1 ∧ x3.toInt = (posL m : Int) ∧ (∀ q : Nat, q < m → ¬ SPL (b9g_tape S) (b9g_taped S) q) ∧ n = 10 - m, ⟨_, rfl, rfl, 0, by decide, by decide, by decide, fun q hq => by omega, rfl⟩, ?_⟩
  rintro n x1 x2 x3 V ⟨eV, e2, m, hm, h1, h3, hno, hn0⟩
  unfold wp_X9_named_14b
  rw [eV, e2]
  refine ⟨fun c => ?_, fun c => ?_⟩
  · simp only [pn] at c
    have hm10 : m = 10 := by
      apply Classical.byContradiction
      intro hh
      have := (nm_pos m (by omega)).2.2.1
      omega
    subst hm10
    exact hq _ _ hJ1 hF1 h0 (Or.inr ⟨rfl, hno⟩)
  simp only [pn] at c
  have hm9 : m < 10 := by
    apply Classical.byContradiction
    intro hh
    have hm10 : m = 10 := by omega
    subst hm10
    have : posL 10 = 56 := rfl
    omega
  have hp := nm_pos m hm9
  have hp3 := hp.2.2.2.2
  have x1' : (x1 + 1).toInt = (m : Int) := by
    have : x1.toInt + 1 = (m : Int) := by omega
    rw [pt_add (by rw [pl_1]; omega) (by rw [pl_1]; omega), pl_1]
    omega
  have x3' : (x3 + 1).toInt = x3.toInt + 1 := ps (by omega) (by omega)
  have rdn : ∀ y : Int32, 0 ≤ y.toInt → y.toInt ≤ (sln m : Int) → vp_in ((x3 + 1) + y) 57 ∧ (y.toInt < (sln m : Int) → b9g_names S1 ((x3 + 1) + y).toNatClampNeg = sbt m y.toNatClampNeg ∧ ¬ sbt m y.toNatClampNeg = 32) ∧ (y.toInt = (sln m : Int) → b9g_names S1 ((x3 + 1) + y).toNatClampNeg = 32) := by
    intro y a b
    have cy := pt_clamp a
    have e : ((x3 + 1) + y).toInt = x3.toInt + 1 + y.toInt := by rw [pt_add (by omega) (by omega), x3']
    have ce := pt_clamp (i := (x3 + 1) + y) (by omega)
    have ei : ((x3 + 1) + y).toNatClampNeg = posL m + 1 + y.toNatClampNeg := by omega
    have t := nm_name m hm9 y.toNatClampNeg (by omega)
    refine ⟨pt_in (by omega) (by omega), fun h => ?_, fun h => ?_⟩
    · rw [hn, ei]
      exact t.1 (by omega)
    · rw [hn, ei]
      exact t.2 (by omega)
  have leave : ¬ SPL (b9g_tape S) (b9g_taped S) m → wp_X9_named_103 S1 (x1 + 1) (b9g_taped S) x3 Q (fun x1 x2 x3 V => ∃ n2 : Nat, n2 < n ∧ V = S1 ∧ x2 = b9g_taped S ∧ ∃ m : Nat, m ≤ 10 ∧ x1.toInt = (m : Int) - 1 ∧ x3.toInt = (posL m : Int) ∧ (∀ q : Nat, q < m → ¬ SPL (b9g_tape S) (b9g_taped S) q) ∧ n2 = 10 - m) := by
    intro hns
    unfold wp_X9_named_103 wp_X9_named_107
    refine ⟨fun k y1 y2 y3 W => W = S1 ∧ y1 = x1 + 1 ∧ y2 = b9g_taped S ∧ (posL m : Int) < y3.toInt ∧ y3.toInt ≤ (posL (m + 1) : Int) ∧ k = (57 - y3.toInt).toNat, ⟨_, rfl, rfl, rfl, by omega, by omega, rfl⟩, ?_⟩
    rintro k y1 y2 y3 W ⟨eW, ey1, ey2, l1, l2, hk⟩
    unfold wp_X9_named_107b
    rw [eW, ey1, ey2]
    have cy := pt_clamp (i := y3) (by omega)
    refine ⟨pt_in (by omega) (by omega), fun d => ?_, fun d => ?_⟩
    · have ey : y3.toInt = (posL (m + 1) : Int) := by
        apply Classical.byContradiction
        intro hh
        have t := (nm_name m hm9 (y3.toNatClampNeg - (posL m + 1)) (by omega)).1 (by omega)
        have ei : posL m + 1 + (y3.toNatClampNeg - (posL m + 1)) = y3.toNatClampNeg := by omega
        rw [ei] at t
        rw [hn, t.1] at d
        exact t.2 d
      refine ⟨_, ?_, rfl, rfl, m + 1, by omega, by omega, ey, ?_, rfl⟩
      · omega
      · intro q hq2
        by_cases hqm : q = m
        · rw [hqm]; exact hns
        · exact hno q (by omega)
    · have ey : y3.toInt ≠ (posL (m + 1) : Int) := by
        intro hh
        have t := (nm_name m hm9 (sln m) (by omega)).2 rfl
        have ei : posL m + 1 + sln m = y3.toNatClampNeg := by omega
        rw [ei] at t
        rw [hn] at d
        exact d t
      have y3' : (y3 + 1).toInt = y3.toInt + 1 := ps (by omega) (by omega)
      refine ⟨_, ?_, rfl, rfl, rfl, by omega, by omega, rfl⟩
      omega
  have after : ∀ y : Int32, 0 ≤ y.toInt → y.toInt ≤ (sln m : Int) → y.toInt ≤ (b9g_taped S).toInt → (∀ j : Nat, (j : Int) < y.toInt → b9g_tape S j = sbt m j) → (y = b9g_taped S ∨ ¬ SPL (b9g_tape S) (b9g_taped S) m) → wp_X9_named_75 S1 (x1 + 1) (b9g_taped S) x3 y Q (fun x1 x2 x3 V => ∃ n2 : Nat, n2 < n ∧ V = S1 ∧ x2 = b9g_taped S ∧ ∃ m : Nat, m ≤ 10 ∧ x1.toInt = (m : Int) - 1 ∧ x3.toInt = (posL m : Int) ∧ (∀ q : Nat, q < m → ¬ SPL (b9g_tape S) (b9g_taped S) q) ∧ n2 = 10 - m) := by
    intro y a b c2 hj hor
    unfold wp_X9_named_75
    have r := rdn y a b
    refine ⟨fun d => leave (hor.resolve_left d), fun d => ⟨fun g => leave ?_, fun g => ⟨r.1, fun h => leave ?_, fun h => ?_⟩⟩⟩
    · simp only [pn] at g
      intro hs
      have := hs.1
      omega
    · intro hs
      have e := hs.1
      rw [← d] at e
      exact h (r.2.2 e)
    · have e : y.toInt = (sln m : Int) := by
        apply Classical.byContradiction
        intro hh
        have t := r.2.1 (by omega)
        rw [t.1] at h
        exact t.2 h
      refine hq _ _ hJ1 hF1 h0 (Or.inl ⟨m, hm9, x1', ?_, fun j hj2 => hj j (by omega)⟩)
      rw [← d]
      exact e
  unfold wp_X9_named_27
  refine ⟨fun k y1 y2 y3 y4 W => W = S1 ∧ y1 = x1 + 1 ∧ y2 = b9g_taped S ∧ y3 = x3 ∧ 0 ≤ y4.toInt ∧ y4.toInt ≤ (sln m : Int) ∧ y4.toInt ≤ (b9g_taped S).toInt ∧ (∀ j : Nat, (j : Int) < y4.toInt → b9g_tape S j = sbt m j) ∧ k = (160 - y4.toInt).toNat, ⟨_, rfl, rfl, rfl, rfl, by decide, by rw [pl_0]; omega, by rw [pl_0]; exact jt.1, fun j hj => by rw [pl_0] at hj; omega, rfl⟩, ?_⟩
  rintro k y1 y2 y3 y4 W ⟨eW, ey1, ey2, ey3, a, b, c2, hj, hk⟩
  unfold wp_X9_named_27b
  rw [eW, ey1, ey2, ey3]
  have r := rdn y4 a b
  have cy := pt_clamp a
  refine ⟨fun d => after y4 a b c2 hj (Or.inl ?_), fun d => ?_⟩
  · simp only [pn] at d
    exact Int32.toInt_inj.mp (by omega)
  simp only [pn] at d
  have vin : vp_in y4 160 := pt_in (by omega) (by omega)
  rw [ht]
  refine ⟨r.1, vin, fun g => after y4 a b c2 hj (Or.inr ?_), fun g => ⟨vin, fun h => after y4 a b c2 hj (Or.inr ?_), fun h => ?_⟩⟩
  · intro hs
    have e := hs.1
    have t := r.2.1 (by omega)
    exact g (t.1.trans (hs.2 _ (by omega)).symm)
  · intro hs
    have e := hs.1
    have t := r.2.1 (by omega)
    rw [hs.2 _ (by omega)] at h
    exact t.2 h
  · have lt : y4.toInt < (sln m : Int) := by
      apply Classical.byContradiction
      intro hh
      have t := r.2.2 (by omega)
      rw [t] at g
      exact h g.symm
    have t := r.2.1 lt
    have y4' : (y4 + 1).toInt = y4.toInt + 1 := ps (by omega) (by omega)
    refine ⟨_, ?_, rfl, rfl, rfl, rfl, by omega, by omega, by omega, ?_, rfl⟩
    · omega
    · intro j hj2
      by_cases hjy : j = y4.toNatClampNeg
      · rw [hjy, ← g, t.1]
      · exact hj j (by omega)
def F_X9_mode (S u : bT9) : Prop := (b9g_keys u) = (b9g_keys S) ∧ (b9g_lengths u) = (b9g_lengths S) ∧ (b9g_drawn u) = (b9g_drawn S) ∧ (b9g_drawnLength u) = (b9g_drawnLength S) ∧ (b9g_tape u) = (b9g_tape S) ∧ (b9g_names u) = (b9g_names S) ∧ (b9g_chosen u) = (b9g_chosen S) ∧ (b9g_common u) = (b9g_common S) ∧ (b9g_beginning u) = (b9g_beginning S) ∧ (b9g_isLaid u) = (b9g_isLaid S) ∧ (b9g_nodeLevel u) = (b9g_nodeLevel S) ∧ (b9g_nodeLeaf u) = (b9g_nodeLeaf S) ∧ (b9g_nodeLeaves u) = (b9g_nodeLeaves S) ∧ (b9g_nodeMany u) = (b9g_nodeMany S) ∧ (b9g_levelMany u) = (b9g_levelMany S) ∧ (b9g_upper u) = (b9g_upper S) ∧ (b9g_upperNodes u) = (b9g_upperNodes S) ∧ (b9g_areNodesLaid u) = (b9g_areNodesLaid S) ∧ (b9g_itemNode u) = (b9g_itemNode S) ∧ (b9g_itemByte u) = (b9g_itemByte S) ∧ (b9g_itemChild u) = (b9g_itemChild S) ∧ (b9g_itemMany u) = (b9g_itemMany S) ∧ (b9g_placeOf u) = (b9g_placeOf S) ∧ (b9g_leafOfPlace u) = (b9g_leafOfPlace S) ∧ (b9g_places u) = (b9g_places S) ∧ (b9g_lowKey u) = (b9g_lowKey S) ∧ (b9g_highKey u) = (b9g_highKey S) ∧ (b9g_lowLength u) = (b9g_lowLength S) ∧ (b9g_highLength u) = (b9g_highLength S) ∧ (b9g_fromKey u) = (b9g_fromKey S) ∧ (b9g_toKey u) = (b9g_toKey S) ∧ (b9g_fromLength u) = (b9g_fromLength S) ∧ (b9g_toLength u) = (b9g_toLength S) ∧ (b9g_ones u) = (b9g_ones S) ∧ (b9g_oneMany u) = (b9g_oneMany S) ∧ (b9g_rowLong u) = (b9g_rowLong S) ∧ (b9g_laidFor u) = (b9g_laidFor S) ∧ (b9g_signs u) = (b9g_signs S) ∧ (b9g_signMany u) = (b9g_signMany S) ∧ (b9g_hasImage u) = (b9g_hasImage S) ∧ (b9g_images u) = (b9g_images S) ∧ (b9g_keyImages u) = (b9g_keyImages S) ∧ (b9g_lengthImages u) = (b9g_lengthImages S)
theorem sf_X9_mode {S : bT9} (hJ : J9 S) {Q : Int32 → (bT9) → Prop} (hq : ∀ (r : Int32) (u : bT9), (J9 u) → F_X9_mode S u → ((b9g_taped u).toInt = 0) → (MDE (b9g_tape S) (b9g_taped S) r) → (∀ i : Nat, i ≠ 6 → b9g_now u i = b9g_now S i) → ((r.toInt = -1 → b9g_now u 6 = b9g_now S 6) ∧ (r.toInt ≠ -1 → b9g_now u 6 = r)) → (b9g_now u 10 = b9g_now S 10) → (b9g_now u 7 = b9g_now S 7) → Q r u) : wp_X9_mode S Q := by
  unfold wp_X9_mode
  intro S1 e1
  have hJ1 : J9 S1 := by rw [e1]; exact J9s_told hJ
  have hF1 : F_X9_mode S S1 := by rw [e1]; exact ⟨rfl, rfl, rfl, rfl, rfl, rfl, rfl, rfl, rfl, rfl, rfl, rfl, rfl, rfl, rfl, rfl, rfl, rfl, rfl, rfl, rfl, rfl, rfl, rfl, rfl, rfl, rfl, rfl, rfl, rfl, rfl, rfl, rfl, rfl, rfl, rfl, rfl, rfl, rfl, rfl, rfl, rfl, rfl⟩
  have et : b9g_taped S1 = b9g_taped S := by rw [e1]
  have ep : b9g_tape S1 = b9g_tape S := by rw [e1]
  have en : b9g_now S1 = b9g_now S := by rw [e1]
  refine sf_X9_named hJ1 (fun r2 u3 hJ3 hf3 t3 hN => ?_)
  rw [et, ep] at hN
  have hF3 : F_X9_mode S u3 := ⟨(hf3.2.2.1).trans (hF1.1), (hf3.2.2.2.1).trans (hF1.2.1), (hf3.2.2.2.2.1).trans (hF1.2.2.1), (hf3.2.2.2.2.2.1).trans (hF1.2.2.2.1), (hf3.2.2.2.2.2.2.1).trans (hF1.2.2.2.2.1), (hf3.2.2.2.2.2.2.2.1).trans (hF1.2.2.2.2.2.1), (hf3.2.2.2.2.2.2.2.2.1).trans (hF1.2.2.2.2.2.2.1), (hf3.2.2.2.2.2.2.2.2.2.1).trans (hF1.2.2.2.2.2.2.2.1), (hf3.2.2.2.2.2.2.2.2.2.2.1).trans (hF1.2.2.2.2.2.2.2.2.1), (hf3.2.2.2.2.2.2.2.2.2.2.2.1).trans (hF1.2.2.2.2.2.2.2.2.2.1), (hf3.2.2.2.2.2.2.2.2.2.2.2.2.1).trans (hF1.2.2.2.2.2.2.2.2.2.2.1), (hf3.2.2.2.2.2.2.2.2.2.2.2.2.2.1).trans (hF1.2.2.2.2.2.2.2.2.2.2.2.1), (hf3.2.2.2.2.2.2.2.2.2.2.2.2.2.2.1).trans (hF1.2.2.2.2.2.2.2.2.2.2.2.2.1), (hf3.2.2.2.2.2.2.2.2.2.2.2.2.2.2.2.1).trans (hF1.2.2.2.2.2.2.2.2.2.2.2.2.2.1), (hf3.2.2.2.2.2.2.2.2.2.2.2.2.2.2.2.2.1).trans (hF1.2.2.2.2.2.2.2.2.2.2.2.2.2.2.1), (hf3.2.2.2.2.2.2.2.2.2.2.2.2.2.2.2.2.2.1).trans (hF1.2.2.2.2.2.2.2.2.2.2.2.2.2.2.2.1), (hf3.2.2.2.2.2.2.2.2.2.2.2.2.2.2.2.2.2.2.1).trans (hF1.2.2.2.2.2.2.2.2.2.2.2.2.2.2.2.2.1), (hf3.2.2.2.2.2.2.2.2.2.2.2.2.2.2.2.2.2.2.2.1).trans (hF1.2.2.2.2.2.2.2.2.2.2.2.2.2.2.2.2.2.1), (hf3.2.2.2.2.2.2.2.2.2.2.2.2.2.2.2.2.2.2.2.2.1).trans (hF1.2.2.2.2.2.2.2.2.2.2.2.2.2.2.2.2.2.2.1), (hf3.2.2.2.2.2.2.2.2.2.2.2.2.2.2.2.2.2.2.2.2.2.1).trans (hF1.2.2.2.2.2.2.2.2.2.2.2.2.2.2.2.2.2.2.2.1), (hf3.2.2.2.2.2.2.2.2.2.2.2.2.2.2.2.2.2.2.2.2.2.2.1).trans (hF1.2.2.2.2.2.2.2.2.2.2.2.2.2.2.2.2.2.2.2.2.1), (hf3.2.2.2.2.2.2.2.2.2.2.2.2.2.2.2.2.2.2.2.2.2.2.2.1).trans (hF1.2.2.2.2.2.2.2.2.2.2.2.2.2.2.2.2.2.2.2.2.2.1), (hf3.2.2.2.2.2.2.2.2.2.2.2.2.2.2.2.2.2.2.2.2.2.2.2.2.1).trans (hF1.2.2.2.2.2.2.2.2.2.2.2.2.2.2.2.2.2.2.2.2.2.2.1), (hf3.2.2.2.2.2.2.2.2.2.2.2.2.2.2.2.2.2.2.2.2.2.2.2.2.2.1).trans (hF1.2.2.2.2.2.2.2.2.2.2.2.2.2.2.2.2.2.2.2.2.2.2.2.1), (hf3.2.2.2.2.2.2.2.2.2.2.2.2.2.2.2.2.2.2.2.2.2.2.2.2.2.2.1).trans (hF1.2.2.2.2.2.2.2.2.2.2.2.2.2.2.2.2.2.2.2.2.2.2.2.2.1), (hf3.2.2.2.2.2.2.2.2.2.2.2.2.2.2.2.2.2.2.2.2.2.2.2.2.2.2.2.1).trans (hF1.2.2.2.2.2.2.2.2.2.2.2.2.2.2.2.2.2.2.2.2.2.2.2.2.2.1), (hf3.2.2.2.2.2.2.2.2.2.2.2.2.2.2.2.2.2.2.2.2.2.2.2.2.2.2.2.2.1).trans (hF1.2.2.2.2.2.2.2.2.2.2.2.2.2.2.2.2.2.2.2.2.2.2.2.2.2.2.1), (hf3.2.2.2.2.2.2.2.2.2.2.2.2.2.2.2.2.2.2.2.2.2.2.2.2.2.2.2.2.2.1).trans (hF1.2.2.2.2.2.2.2.2.2.2.2.2.2.2.2.2.2.2.2.2.2.2.2.2.2.2.2.1), (hf3.2.2.2.2.2.2.2.2.2.2.2.2.2.2.2.2.2.2.2.2.2.2.2.2.2.2.2.2.2.2.1).trans (hF1.2.2.2.2.2.2.2.2.2.2.2.2.2.2.2.2.2.2.2.2.2.2.2.2.2.2.2.2.1), (hf3.2.2.2.2.2.2.2.2.2.2.2.2.2.2.2.2.2.2.2.2.2.2.2.2.2.2.2.2.2.2.2.1).trans (hF1.2.2.2.2.2.2.2.2.2.2.2.2.2.2.2.2.2.2.2.2.2.2.2.2.2.2.2.2.2.1), (hf3.2.2.2.2.2.2.2.2.2.2.2.2.2.2.2.2.2.2.2.2.2.2.2.2.2.2.2.2.2.2.2.2.1).trans (hF1.2.2.2.2.2.2.2.2.2.2.2.2.2.2.2.2.2.2.2.2.2.2.2.2.2.2.2.2.2.2.1), (hf3.2.2.2.2.2.2.2.2.2.2.2.2.2.2.2.2.2.2.2.2.2.2.2.2.2.2.2.2.2.2.2.2.2.1).trans (hF1.2.2.2.2.2.2.2.2.2.2.2.2.2.2.2.2.2.2.2.2.2.2.2.2.2.2.2.2.2.2.2.1), (hf3.2.2.2.2.2.2.2.2.2.2.2.2.2.2.2.2.2.2.2.2.2.2.2.2.2.2.2.2.2.2.2.2.2.2.1).trans (hF1.2.2.2.2.2.2.2.2.2.2.2.2.2.2.2.2.2.2.2.2.2.2.2.2.2.2.2.2.2.2.2.2.1), (hf3.2.2.2.2.2.2.2.2.2.2.2.2.2.2.2.2.2.2.2.2.2.2.2.2.2.2.2.2.2.2.2.2.2.2.2.1).trans (hF1.2.2.2.2.2.2.2.2.2.2.2.2.2.2.2.2.2.2.2.2.2.2.2.2.2.2.2.2.2.2.2.2.2.1), (hf3.2.2.2.2.2.2.2.2.2.2.2.2.2.2.2.2.2.2.2.2.2.2.2.2.2.2.2.2.2.2.2.2.2.2.2.2.1).trans (hF1.2.2.2.2.2.2.2.2.2.2.2.2.2.2.2.2.2.2.2.2.2.2.2.2.2.2.2.2.2.2.2.2.2.2.1), (hf3.2.2.2.2.2.2.2.2.2.2.2.2.2.2.2.2.2.2.2.2.2.2.2.2.2.2.2.2.2.2.2.2.2.2.2.2.2.1).trans (hF1.2.2.2.2.2.2.2.2.2.2.2.2.2.2.2.2.2.2.2.2.2.2.2.2.2.2.2.2.2.2.2.2.2.2.2.1), (hf3.2.2.2.2.2.2.2.2.2.2.2.2.2.2.2.2.2.2.2.2.2.2.2.2.2.2.2.2.2.2.2.2.2.2.2.2.2.2.1).trans (hF1.2.2.2.2.2.2.2.2.2.2.2.2.2.2.2.2.2.2.2.2.2.2.2.2.2.2.2.2.2.2.2.2.2.2.2.2.1), (hf3.2.2.2.2.2.2.2.2.2.2.2.2.2.2.2.2.2.2.2.2.2.2.2.2.2.2.2.2.2.2.2.2.2.2.2.2.2.2.2.1).trans (hF1.2.2.2.2.2.2.2.2.2.2.2.2.2.2.2.2.2.2.2.2.2.2.2.2.2.2.2.2.2.2.2.2.2.2.2.2.2.1), (hf3.2.2.2.2.2.2.2.2.2.2.2.2.2.2.2.2.2.2.2.2.2.2.2.2.2.2.2.2.2.2.2.2.2.2.2.2.2.2.2.2.1).trans (hF1.2.2.2.2.2.2.2.2.2.2.2.2.2.2.2.2.2.2.2.2.2.2.2.2.2.2.2.2.2.2.2.2.2.2.2.2.2.2.1), (hf3.2.2.2.2.2.2.2.2.2.2.2.2.2.2.2.2.2.2.2.2.2.2.2.2.2.2.2.2.2.2.2.2.2.2.2.2.2.2.2.2.2.1).trans (hF1.2.2.2.2.2.2.2.2.2.2.2.2.2.2.2.2.2.2.2.2.2.2.2.2.2.2.2.2.2.2.2.2.2.2.2.2.2.2.2.1), (hf3.2.2.2.2.2.2.2.2.2.2.2.2.2.2.2.2.2.2.2.2.2.2.2.2.2.2.2.2.2.2.2.2.2.2.2.2.2.2.2.2.2.2.1).trans (hF1.2.2.2.2.2.2.2.2.2.2.2.2.2.2.2.2.2.2.2.2.2.2.2.2.2.2.2.2.2.2.2.2.2.2.2.2.2.2.2.2.1), (hf3.2.2.2.2.2.2.2.2.2.2.2.2.2.2.2.2.2.2.2.2.2.2.2.2.2.2.2.2.2.2.2.2.2.2.2.2.2.2.2.2.2.2.2.1).trans (hF1.2.2.2.2.2.2.2.2.2.2.2.2.2.2.2.2.2.2.2.2.2.2.2.2.2.2.2.2.2.2.2.2.2.2.2.2.2.2.2.2.2.1), (hf3.2.2.2.2.2.2.2.2.2.2.2.2.2.2.2.2.2.2.2.2.2.2.2.2.2.2.2.2.2.2.2.2.2.2.2.2.2.2.2.2.2.2.2.2).trans (hF1.2.2.2.2.2.2.2.2.2.2.2.2.2.2.2.2.2.2.2.2.2.2.2.2.2.2.2.2.2.2.2.2.2.2.2.2.2.2.2.2.2.2)⟩
  have en3 : b9g_now u3 = b9g_now S := (hf3.2.1).trans en
  refine sf_X9_isIn hJ3.1 (fun r4 hz h4 => ?_)
  simp only [pn] at h4
  refine ⟨fun c => ⟨pt_in (by decide) (by decide), fun S6 e6 => ?_⟩, fun c => ?_⟩
  · simp only [pn] at c
    have hr : 0 ≤ r2.toInt ∧ r2.toInt ≤ 3 := by omega
    refine hq r2 _ ?_ ?_ ?_ ?_ (fun i hi => by rw [e6, ← en3]; exact Int32.toInt_inj.mp (pt_updn hi)) ⟨fun h => absurd h (by omega), fun _ => Int32.toInt_inj.mp (by rw [e6]; exact pt_updq (by decide))⟩ ?_ ?_
    · rw [e6]
      exact J9s_now hJ3 (NW_set (J9g_now hJ3) (by (try simp (disch := first | ((try simp (disch := first | ((try simp only [pn]) <;> omega) | fail) only [pn, pq]) <;> omega) | fail) only [pn, pq]) <;> (intros; (try simp (disch := first | ((try simp (disch := first | ((try simp only [pn]) <;> omega) | fail) only [pn, pq]) <;> omega) | fail) only [pn, pq]) <;> omega)) (by (try simp (disch := first | ((try simp (disch := first | ((try simp only [pn]) <;> omega) | fail) only [pn, pq]) <;> omega) | fail) only [pn, pq]) <;> (intros; (try simp (disch := first | ((try simp (disch := first | ((try simp only [pn]) <;> omega) | fail) only [pn, pq]) <;> omega) | fail) only [pn, pq]) <;> omega)) (by (try simp (disch := first | ((try simp (disch := first | ((try simp only [pn]) <;> omega) | fail) only [pn, pq]) <;> omega) | fail) only [pn, pq]) <;> (intros; (try simp (disch := first | ((try simp (disch := first | ((try simp only [pn]) <;> omega) | fail) only [pn, pq]) <;> omega) | fail) only [pn, pq]) <;> omega)) (by (try simp (disch := first | ((try simp (disch := first | ((try simp only [pn]) <;> omega) | fail) only [pn, pq]) <;> omega) | fail) only [pn, pq]) <;> (intros; (try simp (disch := first | ((try simp (disch := first | ((try simp only [pn]) <;> omega) | fail) only [pn, pq]) <;> omega) | fail) only [pn, pq]) <;> omega)) (by (try simp (disch := first | ((try simp (disch := first | ((try simp only [pn]) <;> omega) | fail) only [pn, pq]) <;> omega) | fail) only [pn, pq]) <;> (intros; (try simp (disch := first | ((try simp (disch := first | ((try simp only [pn]) <;> omega) | fail) only [pn, pq]) <;> omega) | fail) only [pn, pq]) <;> omega)) (by (try simp (disch := first | ((try simp (disch := first | ((try simp only [pn]) <;> omega) | fail) only [pn, pq]) <;> omega) | fail) only [pn, pq]) <;> (intros; (try simp (disch := first | ((try simp (disch := first | ((try simp only [pn]) <;> omega) | fail) only [pn, pq]) <;> omega) | fail) only [pn, pq]) <;> omega))) (up_n (by decide))
    · rw [e6]
      exact hF3
    · rw [e6]
      exact t3
    · rcases hN with ⟨m, hm, e, h⟩ | ⟨e, h⟩
      · exact Or.inl ⟨m, by omega, e, by rw [Nat.zero_add]; exact h⟩
      · omega
    · rw [e6, ← en3]
      exact Int32.toInt_inj.mp (pt_updn (by decide))
    · rw [e6, ← en3]
      exact Int32.toInt_inj.mp (pt_updn (by decide))
  · simp only [pn] at c
    refine hq _ _ hJ3 hF3 t3 ?_ (fun i hi => by rw [en3]) ⟨fun _ => by rw [en3], fun h => absurd rfl h⟩ (by rw [en3]) (by rw [en3])
    rcases hN with ⟨m, hm, e, h⟩ | ⟨e, h⟩
    · refine Or.inr ⟨rfl, fun k hk hh => ?_⟩
      rw [Nat.zero_add] at hh
      have := SPL_one hm (by omega) h hh
      omega
    · exact Or.inr ⟨rfl, fun k hk => by rw [Nat.zero_add]; exact h k (by omega)⟩
def F_X9_row (S u : bT9) : Prop := (b9g_now u) = (b9g_now S) ∧ (b9g_keys u) = (b9g_keys S) ∧ (b9g_lengths u) = (b9g_lengths S) ∧ (b9g_drawn u) = (b9g_drawn S) ∧ (b9g_drawnLength u) = (b9g_drawnLength S) ∧ (b9g_tape u) = (b9g_tape S) ∧ (b9g_names u) = (b9g_names S) ∧ (b9g_common u) = (b9g_common S) ∧ (b9g_beginning u) = (b9g_beginning S) ∧ (b9g_isLaid u) = (b9g_isLaid S) ∧ (b9g_nodeLevel u) = (b9g_nodeLevel S) ∧ (b9g_nodeLeaf u) = (b9g_nodeLeaf S) ∧ (b9g_nodeLeaves u) = (b9g_nodeLeaves S) ∧ (b9g_nodeMany u) = (b9g_nodeMany S) ∧ (b9g_levelMany u) = (b9g_levelMany S) ∧ (b9g_upper u) = (b9g_upper S) ∧ (b9g_upperNodes u) = (b9g_upperNodes S) ∧ (b9g_areNodesLaid u) = (b9g_areNodesLaid S) ∧ (b9g_itemNode u) = (b9g_itemNode S) ∧ (b9g_itemByte u) = (b9g_itemByte S) ∧ (b9g_itemChild u) = (b9g_itemChild S) ∧ (b9g_itemMany u) = (b9g_itemMany S) ∧ (b9g_placeOf u) = (b9g_placeOf S) ∧ (b9g_leafOfPlace u) = (b9g_leafOfPlace S) ∧ (b9g_places u) = (b9g_places S) ∧ (b9g_lowKey u) = (b9g_lowKey S) ∧ (b9g_highKey u) = (b9g_highKey S) ∧ (b9g_lowLength u) = (b9g_lowLength S) ∧ (b9g_highLength u) = (b9g_highLength S) ∧ (b9g_fromKey u) = (b9g_fromKey S) ∧ (b9g_toKey u) = (b9g_toKey S) ∧ (b9g_fromLength u) = (b9g_fromLength S) ∧ (b9g_toLength u) = (b9g_toLength S) ∧ (b9g_ones u) = (b9g_ones S) ∧ (b9g_oneMany u) = (b9g_oneMany S) ∧ (b9g_rowLong u) = (b9g_rowLong S) ∧ (b9g_laidFor u) = (b9g_laidFor S) ∧ (b9g_signs u) = (b9g_signs S) ∧ (b9g_signMany u) = (b9g_signMany S) ∧ (b9g_hasImage u) = (b9g_hasImage S) ∧ (b9g_images u) = (b9g_images S) ∧ (b9g_keyImages u) = (b9g_keyImages S) ∧ (b9g_lengthImages u) = (b9g_lengthImages S)
theorem sf_X9_row {S : bT9} (hJ : J9 S) {Q : Int32 → (bT9) → Prop} (hq : ∀ (r : Int32) (u : bT9), (J9 u) → F_X9_row S u → ((b9g_taped u).toInt = 0) → (RWE (b9g_tape S) (b9g_taped S) r) → ((r.toInt = -1 → b9g_chosen u = b9g_chosen S) ∧ (r.toInt ≠ -1 → b9g_chosen u = r)) → Q r u) : wp_X9_row S Q := by
  unfold wp_X9_row
  intro S1 e1
  have hJ1 : J9 S1 := by rw [e1]; exact J9s_told hJ
  have hF1 : F_X9_row S S1 := by rw [e1]; exact ⟨rfl, rfl, rfl, rfl, rfl, rfl, rfl, rfl, rfl, rfl, rfl, rfl, rfl, rfl, rfl, rfl, rfl, rfl, rfl, rfl, rfl, rfl, rfl, rfl, rfl, rfl, rfl, rfl, rfl, rfl, rfl, rfl, rfl, rfl, rfl, rfl, rfl, rfl, rfl, rfl, rfl, rfl, rfl⟩
  have et : b9g_taped S1 = b9g_taped S := by rw [e1]
  have ep : b9g_tape S1 = b9g_tape S := by rw [e1]
  refine sf_X9_named hJ1 (fun r2 u3 hJ3 hf3 t3 hN => ?_)
  rw [et, ep] at hN
  have hF3 : F_X9_row S u3 := ⟨(hf3.2.1).trans (hF1.1), (hf3.2.2.1).trans (hF1.2.1), (hf3.2.2.2.1).trans (hF1.2.2.1), (hf3.2.2.2.2.1).trans (hF1.2.2.2.1), (hf3.2.2.2.2.2.1).trans (hF1.2.2.2.2.1), (hf3.2.2.2.2.2.2.1).trans (hF1.2.2.2.2.2.1), (hf3.2.2.2.2.2.2.2.1).trans (hF1.2.2.2.2.2.2.1), (hf3.2.2.2.2.2.2.2.2.2.1).trans (hF1.2.2.2.2.2.2.2.1), (hf3.2.2.2.2.2.2.2.2.2.2.1).trans (hF1.2.2.2.2.2.2.2.2.1), (hf3.2.2.2.2.2.2.2.2.2.2.2.1).trans (hF1.2.2.2.2.2.2.2.2.2.1), (hf3.2.2.2.2.2.2.2.2.2.2.2.2.1).trans (hF1.2.2.2.2.2.2.2.2.2.2.1), (hf3.2.2.2.2.2.2.2.2.2.2.2.2.2.1).trans (hF1.2.2.2.2.2.2.2.2.2.2.2.1), (hf3.2.2.2.2.2.2.2.2.2.2.2.2.2.2.1).trans (hF1.2.2.2.2.2.2.2.2.2.2.2.2.1), (hf3.2.2.2.2.2.2.2.2.2.2.2.2.2.2.2.1).trans (hF1.2.2.2.2.2.2.2.2.2.2.2.2.2.1), (hf3.2.2.2.2.2.2.2.2.2.2.2.2.2.2.2.2.1).trans (hF1.2.2.2.2.2.2.2.2.2.2.2.2.2.2.1), (hf3.2.2.2.2.2.2.2.2.2.2.2.2.2.2.2.2.2.1).trans (hF1.2.2.2.2.2.2.2.2.2.2.2.2.2.2.2.1), (hf3.2.2.2.2.2.2.2.2.2.2.2.2.2.2.2.2.2.2.1).trans (hF1.2.2.2.2.2.2.2.2.2.2.2.2.2.2.2.2.1), (hf3.2.2.2.2.2.2.2.2.2.2.2.2.2.2.2.2.2.2.2.1).trans (hF1.2.2.2.2.2.2.2.2.2.2.2.2.2.2.2.2.2.1), (hf3.2.2.2.2.2.2.2.2.2.2.2.2.2.2.2.2.2.2.2.2.1).trans (hF1.2.2.2.2.2.2.2.2.2.2.2.2.2.2.2.2.2.2.1), (hf3.2.2.2.2.2.2.2.2.2.2.2.2.2.2.2.2.2.2.2.2.2.1).trans (hF1.2.2.2.2.2.2.2.2.2.2.2.2.2.2.2.2.2.2.2.1), (hf3.2.2.2.2.2.2.2.2.2.2.2.2.2.2.2.2.2.2.2.2.2.2.1).trans (hF1.2.2.2.2.2.2.2.2.2.2.2.2.2.2.2.2.2.2.2.2.1), (hf3.2.2.2.2.2.2.2.2.2.2.2.2.2.2.2.2.2.2.2.2.2.2.2.1).trans (hF1.2.2.2.2.2.2.2.2.2.2.2.2.2.2.2.2.2.2.2.2.2.1), (hf3.2.2.2.2.2.2.2.2.2.2.2.2.2.2.2.2.2.2.2.2.2.2.2.2.1).trans (hF1.2.2.2.2.2.2.2.2.2.2.2.2.2.2.2.2.2.2.2.2.2.2.1), (hf3.2.2.2.2.2.2.2.2.2.2.2.2.2.2.2.2.2.2.2.2.2.2.2.2.2.1).trans (hF1.2.2.2.2.2.2.2.2.2.2.2.2.2.2.2.2.2.2.2.2.2.2.2.1), (hf3.2.2.2.2.2.2.2.2.2.2.2.2.2.2.2.2.2.2.2.2.2.2.2.2.2.2.1).trans (hF1.2.2.2.2.2.2.2.2.2.2.2.2.2.2.2.2.2.2.2.2.2.2.2.2.1), (hf3.2.2.2.2.2.2.2.2.2.2.2.2.2.2.2.2.2.2.2.2.2.2.2.2.2.2.2.1).trans (hF1.2.2.2.2.2.2.2.2.2.2.2.2.2.2.2.2.2.2.2.2.2.2.2.2.2.1), (hf3.2.2.2.2.2.2.2.2.2.2.2.2.2.2.2.2.2.2.2.2.2.2.2.2.2.2.2.2.1).trans (hF1.2.2.2.2.2.2.2.2.2.2.2.2.2.2.2.2.2.2.2.2.2.2.2.2.2.2.1), (hf3.2.2.2.2.2.2.2.2.2.2.2.2.2.2.2.2.2.2.2.2.2.2.2.2.2.2.2.2.2.1).trans (hF1.2.2.2.2.2.2.2.2.2.2.2.2.2.2.2.2.2.2.2.2.2.2.2.2.2.2.2.1), (hf3.2.2.2.2.2.2.2.2.2.2.2.2.2.2.2.2.2.2.2.2.2.2.2.2.2.2.2.2.2.2.1).trans (hF1.2.2.2.2.2.2.2.2.2.2.2.2.2.2.2.2.2.2.2.2.2.2.2.2.2.2.2.2.1), (hf3.2.2.2.2.2.2.2.2.2.2.2.2.2.2.2.2.2.2.2.2.2.2.2.2.2.2.2.2.2.2.2.1).trans (hF1.2.2.2.2.2.2.2.2.2.2.2.2.2.2.2.2.2.2.2.2.2.2.2.2.2.2.2.2.2.1), (hf3.2.2.2.2.2.2.2.2.2.2.2.2.2.2.2.2.2.2.2.2.2.2.2.2.2.2.2.2.2.2.2.2.1).trans (hF1.2.2.2.2.2.2.2.2.2.2.2.2.2.2.2.2.2.2.2.2.2.2.2.2.2.2.2.2.2.2.1), (hf3.2.2.2.2.2.2.2.2.2.2.2.2.2.2.2.2.2.2.2.2.2.2.2.2.2.2.2.2.2.2.2.2.2.1).trans (hF1.2.2.2.2.2.2.2.2.2.2.2.2.2.2.2.2.2.2.2.2.2.2.2.2.2.2.2.2.2.2.2.1), (hf3.2.2.2.2.2.2.2.2.2.2.2.2.2.2.2.2.2.2.2.2.2.2.2.2.2.2.2.2.2.2.2.2.2.2.1).trans (hF1.2.2.2.2.2.2.2.2.2.2.2.2.2.2.2.2.2.2.2.2.2.2.2.2.2.2.2.2.2.2.2.2.1), (hf3.2.2.2.2.2.2.2.2.2.2.2.2.2.2.2.2.2.2.2.2.2.2.2.2.2.2.2.2.2.2.2.2.2.2.2.1).trans (hF1.2.2.2.2.2.2.2.2.2.2.2.2.2.2.2.2.2.2.2.2.2.2.2.2.2.2.2.2.2.2.2.2.2.1), (hf3.2.2.2.2.2.2.2.2.2.2.2.2.2.2.2.2.2.2.2.2.2.2.2.2.2.2.2.2.2.2.2.2.2.2.2.2.1).trans (hF1.2.2.2.2.2.2.2.2.2.2.2.2.2.2.2.2.2.2.2.2.2.2.2.2.2.2.2.2.2.2.2.2.2.2.1), (hf3.2.2.2.2.2.2.2.2.2.2.2.2.2.2.2.2.2.2.2.2.2.2.2.2.2.2.2.2.2.2.2.2.2.2.2.2.2.1).trans (hF1.2.2.2.2.2.2.2.2.2.2.2.2.2.2.2.2.2.2.2.2.2.2.2.2.2.2.2.2.2.2.2.2.2.2.2.1), (hf3.2.2.2.2.2.2.2.2.2.2.2.2.2.2.2.2.2.2.2.2.2.2.2.2.2.2.2.2.2.2.2.2.2.2.2.2.2.2.1).trans (hF1.2.2.2.2.2.2.2.2.2.2.2.2.2.2.2.2.2.2.2.2.2.2.2.2.2.2.2.2.2.2.2.2.2.2.2.2.1), (hf3.2.2.2.2.2.2.2.2.2.2.2.2.2.2.2.2.2.2.2.2.2.2.2.2.2.2.2.2.2.2.2.2.2.2.2.2.2.2.2.1).trans (hF1.2.2.2.2.2.2.2.2.2.2.2.2.2.2.2.2.2.2.2.2.2.2.2.2.2.2.2.2.2.2.2.2.2.2.2.2.2.1), (hf3.2.2.2.2.2.2.2.2.2.2.2.2.2.2.2.2.2.2.2.2.2.2.2.2.2.2.2.2.2.2.2.2.2.2.2.2.2.2.2.2.1).trans (hF1.2.2.2.2.2.2.2.2.2.2.2.2.2.2.2.2.2.2.2.2.2.2.2.2.2.2.2.2.2.2.2.2.2.2.2.2.2.2.1), (hf3.2.2.2.2.2.2.2.2.2.2.2.2.2.2.2.2.2.2.2.2.2.2.2.2.2.2.2.2.2.2.2.2.2.2.2.2.2.2.2.2.2.1).trans (hF1.2.2.2.2.2.2.2.2.2.2.2.2.2.2.2.2.2.2.2.2.2.2.2.2.2.2.2.2.2.2.2.2.2.2.2.2.2.2.2.1), (hf3.2.2.2.2.2.2.2.2.2.2.2.2.2.2.2.2.2.2.2.2.2.2.2.2.2.2.2.2.2.2.2.2.2.2.2.2.2.2.2.2.2.2.1).trans (hF1.2.2.2.2.2.2.2.2.2.2.2.2.2.2.2.2.2.2.2.2.2.2.2.2.2.2.2.2.2.2.2.2.2.2.2.2.2.2.2.2.1), (hf3.2.2.2.2.2.2.2.2.2.2.2.2.2.2.2.2.2.2.2.2.2.2.2.2.2.2.2.2.2.2.2.2.2.2.2.2.2.2.2.2.2.2.2.1).trans (hF1.2.2.2.2.2.2.2.2.2.2.2.2.2.2.2.2.2.2.2.2.2.2.2.2.2.2.2.2.2.2.2.2.2.2.2.2.2.2.2.2.2.1), (hf3.2.2.2.2.2.2.2.2.2.2.2.2.2.2.2.2.2.2.2.2.2.2.2.2.2.2.2.2.2.2.2.2.2.2.2.2.2.2.2.2.2.2.2.2).trans (hF1.2.2.2.2.2.2.2.2.2.2.2.2.2.2.2.2.2.2.2.2.2.2.2.2.2.2.2.2.2.2.2.2.2.2.2.2.2.2.2.2.2.2)⟩
  refine ⟨fun c S4 e4 => ?_, fun c => ?_⟩
  · simp only [pn] at c
    have ec : b9g_chosen S4 = r2 - 4 := by rw [e4]
    refine hq _ _ ?_ ?_ ?_ ?_ ⟨fun z => ?_, fun _ => rfl⟩
    · rw [e4]
      exact J9s_chosen hJ3
    · rw [e4]
      exact hF3
    · rw [e4]
      exact t3
    · rw [ec]
      rcases hN with ⟨m, hm, e, h⟩ | ⟨e, h⟩
      · have e4' : (r2 - 4).toInt = r2.toInt - 4 := by
          have : (4 : Int32).toInt = 4 := rfl
          rw [pt_sub (by omega) (by omega)]
          omega
        refine Or.inl ⟨m - 4, by omega, by omega, ?_⟩
        have : 4 + (m - 4) = m := by omega
        rw [this]
        exact h
      · omega
    · exfalso
      rw [ec] at z
      have : (4 : Int32).toInt = 4 := rfl
      rcases hN with ⟨m, hm, e, h⟩ | ⟨e, h⟩
      · rw [pt_sub (by omega) (by omega)] at z
        omega
      · omega
  · simp only [pn] at c
    refine hq _ _ hJ3 hF3 t3 ?_ ⟨fun _ => (hf3.2.2.2.2.2.2.2.2.1).trans (by rw [e1]), fun h => absurd rfl h⟩
    rcases hN with ⟨m, hm, e, h⟩ | ⟨e, h⟩
    · refine Or.inr ⟨rfl, fun k hk hh => ?_⟩
      have := SPL_one hm (by omega) h hh
      omega
    · exact Or.inr ⟨rfl, fun k hk => h (4 + k) (by omega)⟩
theorem sf_X9_tapedKey {S : bT9} (hJ : K9 S) {a1 : Int32} {a2 : Int32} {Q : Int64 → Prop} (hp0 : 0 ≤ a1.toInt) (hp1 : 0 ≤ a2.toInt) (hp2 : a1.toInt + a2.toInt ≤ 160) (hq : ∀ r : Int64, (a2.toInt ≤ 8 → r = TKf (b9g_tape S) a1.toNatClampNeg a2.toInt.toNat) → Q r) : wp_X9_tapedKey S a1 a2 Q := by
  have c1 := pt_clamp hp0
  unfold wp_X9_tapedKey wp_X9_tapedKey_5
  refine ⟨fun n x1 x2 x3 x5 => x1 = a1 ∧ x2 = a2 ∧ 0 ≤ x5.toInt ∧ x5.toInt ≤ a2.toInt ∧ (a2.toInt ≤ 8 → x3 = TKf (b9g_tape S) a1.toNatClampNeg x5.toInt.toNat) ∧ n = (a2.toInt - x5.toInt).toNat, ⟨_, rfl, rfl, by decide, hp1, fun _ => by rw [z0]; rfl, rfl⟩, ?_⟩
  rintro n x1 x2 x3 x5 ⟨e1, e2, h0, h2, hk, hn⟩
  unfold wp_X9_tapedKey_5b
  rw [e1, e2]
  refine ⟨fun c => ?_, fun c => ?_⟩
  · simp only [pn] at c
    refine hq _ (fun h8 => ?_)
    rw [hk h8, show x5.toInt = a2.toInt by omega]
  simp only [pn] at c
  have ea : (a1 + x5).toInt = a1.toInt + x5.toInt := pt_add (by omega) (by omega)
  have ca := pt_clamp (i := a1 + x5) (by omega)
  have x5' : (x5 + 1).toInt = x5.toInt + 1 := by rw [pt_add (by rw [pl_1]; omega) (by rw [pl_1]; omega), pl_1]
  refine ⟨pt_in (by omega) (by omega), fun v1 ev => ⟨_, ?_, rfl, rfl, by omega, by omega, fun h8 => ?_, rfl⟩⟩
  · omega
  · rw [ev, hk h8, TKf_s h0 (by omega), show (a1 + x5).toNatClampNeg = a1.toNatClampNeg + x5.toInt.toNat by omega]
theorem sf_X9_areKeys {S : bT9} (hJ : K9 S) {a1 : Int32} {Q : Int32 → Prop} (hp0 : 0 ≤ a1.toInt) (hp1 : a1.toInt ≤ 160) (hq : ∀ r : Int32, bf_bool r → ((r.toInt = 1 ∧ ∃ p : Nat, WFP (b9g_tape S) a1.toInt p) ∨ (r.toInt = 0 ∧ ∀ p : Nat, ¬ WFP (b9g_tape S) a1.toInt p)) → Q r) : wp_X9_areKeys S a1 Q := by
  obtain ⟨T, hT⟩ : ∃ T : Nat → Int32, b9g_tape S = T := ⟨_, rfl⟩
  rw [hT] at hq
  unfold wp_X9_areKeys wp_X9_areKeys_2
  refine ⟨fun n x1 x2 => x1 = a1 ∧ (∃ i : Nat, x2.toInt = (POS T i : Int) ∧ x2.toInt ≤ 200 ∧ ∀ q : Nat, q < i → 1 ≤ (T (POS T q)).toInt ∧ (T (POS T q)).toInt ≤ 8 ∧ (POS T q : Int) < a1.toInt) ∧ n = (300 - x2.toInt).toNat, ⟨_, rfl, ⟨0, rfl, by decide, fun q hq => by omega⟩, rfl⟩, ?_⟩
  rintro n x1 x2 ⟨e1, ⟨i, hx, h200, hq8⟩, hn⟩
  have cx := pt_clamp (i := x2) (by omega)
  have ex : x2.toNatClampNeg = POS T i := by omega
  unfold wp_X9_areKeys_2b
  rw [e1, hT, ex]
  refine ⟨fun c => ⟨fun d => ⟨rfl, hq _ rfl (Or.inr ⟨rfl, fun p hp => ?_⟩)⟩, fun d => ⟨rfl, hq _ rfl (Or.inl ⟨rfl, i, ?_, fun q h => ⟨(hq8 q h).1, (hq8 q h).2.1⟩⟩)⟩⟩, fun c => ?_⟩
  · simp only [pn] at c d
    have h1 := hp.1
    by_cases h : p < i
    · have := (hq8 p h).2.2
      omega
    · have := POS_le (T := T) (show i ≤ p by omega)
      omega
  · rw [← hx, d]
  · simp only [pn] at c
    refine ⟨pt_in (by omega) (by omega), sf_X9_isKey hJ (fun r1 hz hr => ⟨fun c3 => ⟨pt_in (by omega) (by omega), ?_⟩, fun c3 => ⟨rfl, hq _ rfl (Or.inr ⟨rfl, fun p hp => ?_⟩)⟩⟩)⟩
    · simp only [pn] at c3
      have l18 : 1 ≤ (T (POS T i)).toInt ∧ (T (POS T i)).toInt ≤ 8 := by omega
      have e3 : (x2 + 1).toInt = x2.toInt + 1 := by rw [pt_add (by rw [pl_1]; omega) (by rw [pl_1]; omega), pl_1]
      have e4 : (x2 + 1 + T (POS T i)).toInt = x2.toInt + 1 + (T (POS T i)).toInt := by rw [pt_add (by omega) (by omega), e3]
      have ps := POS_s T i
      refine ⟨_, ?_, rfl, ⟨i + 1, by omega, by omega, fun q hq2 => ?_⟩, rfl⟩
      · omega
      · by_cases h : q = i
        · rw [h]; exact ⟨l18.1, l18.2, by omega⟩
        · exact hq8 q (by omega)
    · simp only [pn] at c3
      have := hp.2 i (POS_in hp (by omega))
      omega
def F_X9_comingFrom (S u : bT9) : Prop := (b9g_told u) = (b9g_told S) ∧ (b9g_drawn u) = (b9g_drawn S) ∧ (b9g_drawnLength u) = (b9g_drawnLength S) ∧ (b9g_tape u) = (b9g_tape S) ∧ (b9g_taped u) = (b9g_taped S) ∧ (b9g_names u) = (b9g_names S) ∧ (b9g_chosen u) = (b9g_chosen S) ∧ (b9g_common u) = (b9g_common S) ∧ (b9g_beginning u) = (b9g_beginning S) ∧ (b9g_isLaid u) = (b9g_isLaid S) ∧ (b9g_nodeLevel u) = (b9g_nodeLevel S) ∧ (b9g_nodeLeaf u) = (b9g_nodeLeaf S) ∧ (b9g_nodeLeaves u) = (b9g_nodeLeaves S) ∧ (b9g_nodeMany u) = (b9g_nodeMany S) ∧ (b9g_levelMany u) = (b9g_levelMany S) ∧ (b9g_upper u) = (b9g_upper S) ∧ (b9g_upperNodes u) = (b9g_upperNodes S) ∧ (b9g_areNodesLaid u) = (b9g_areNodesLaid S) ∧ (b9g_itemNode u) = (b9g_itemNode S) ∧ (b9g_itemByte u) = (b9g_itemByte S) ∧ (b9g_itemChild u) = (b9g_itemChild S) ∧ (b9g_itemMany u) = (b9g_itemMany S) ∧ (b9g_placeOf u) = (b9g_placeOf S) ∧ (b9g_leafOfPlace u) = (b9g_leafOfPlace S) ∧ (b9g_places u) = (b9g_places S) ∧ (b9g_lowKey u) = (b9g_lowKey S) ∧ (b9g_highKey u) = (b9g_highKey S) ∧ (b9g_lowLength u) = (b9g_lowLength S) ∧ (b9g_highLength u) = (b9g_highLength S) ∧ (b9g_fromKey u) = (b9g_fromKey S) ∧ (b9g_toKey u) = (b9g_toKey S) ∧ (b9g_fromLength u) = (b9g_fromLength S) ∧ (b9g_toLength u) = (b9g_toLength S) ∧ (b9g_ones u) = (b9g_ones S) ∧ (b9g_oneMany u) = (b9g_oneMany S) ∧ (b9g_rowLong u) = (b9g_rowLong S) ∧ (b9g_laidFor u) = (b9g_laidFor S) ∧ (b9g_signs u) = (b9g_signs S) ∧ (b9g_signMany u) = (b9g_signMany S) ∧ (b9g_hasImage u) = (b9g_hasImage S) ∧ (b9g_images u) = (b9g_images S) ∧ (b9g_keyImages u) = (b9g_keyImages S) ∧ (b9g_lengthImages u) = (b9g_lengthImages S)
theorem sf_X9_comingFrom {S : bT9} (hJ : J9 S) {a1 : Int32} {Q : Int32 → (bT9) → Prop} (hp0 : WFQ (b9g_tape S) a1) (hq : ∀ (r : Int32) (u : bT9), (J9 u) → F_X9_comingFrom S u → (SRT (b9g_keys S) (b9g_lengths S) (b9g_now S 8).toInt → ∀ p : Nat, WFP (b9g_tape S) a1.toInt p → CHN (TKY (b9g_tape S)) (TNY (b9g_tape S)) p (b9g_keys S) (b9g_lengths S) (b9g_now S 8).toInt (b9g_keys u) (b9g_lengths u) (b9g_now u 8).toInt r.toInt) → (∀ j : Nat, 64 ≤ j → b9g_keys u j = b9g_keys S j ∧ b9g_lengths u j = b9g_lengths S j) → (∀ i : Nat, i ≠ 8 → b9g_now u i = b9g_now S i) → (b9g_now u 10 = b9g_now S 10) → (b9g_now u 7 = b9g_now S 7) → Q r u) : wp_X9_comingFrom S a1 Q := by
  obtain ⟨hn160, p, hp⟩ := hp0
  obtain ⟨T, hT⟩ : ∃ T : Nat → Int32, b9g_tape S = T := ⟨_, rfl⟩
  rw [hT] at hp hq
  have pos1 : ∀ k : Nat, k ≤ POS T k := by
    intro k
    induction k with
    | zero => exact Nat.zero_le _
    | succ k ih => rw [POS_s]; omega
  unfold wp_X9_comingFrom wp_X9_comingFrom_4
  refine ⟨fun n x1 x2 x3 V => x1 = a1 ∧ J9 V ∧ F_X9_comingFrom S V ∧ (∀ j : Nat, 64 ≤ j → b9g_keys V j = b9g_keys S j ∧ b9g_lengths V j = b9g_lengths S j) ∧ (∀ i : Nat, i ≠ 8 → b9g_now V i = b9g_now S i) ∧ (∃ i : Nat, i ≤ p ∧ x3.toInt = (POS T i : Int) ∧ 0 ≤ x2.toInt ∧ x2.toInt ≤ (i : Int) ∧ (SRT (b9g_keys S) (b9g_lengths S) (b9g_now S 8).toInt → CHN (TKY T) (TNY T) i (b9g_keys S) (b9g_lengths S) (b9g_now S 8).toInt (b9g_keys V) (b9g_lengths V) (b9g_now V 8).toInt x2.toInt)) ∧ n = (300 - x3.toInt).toNat, ⟨_, rfl, hJ, ⟨rfl, rfl, rfl, rfl, rfl, rfl, rfl, rfl, rfl, rfl, rfl, rfl, rfl, rfl, rfl, rfl, rfl, rfl, rfl, rfl, rfl, rfl, rfl, rfl, rfl, rfl, rfl, rfl, rfl, rfl, rfl, rfl, rfl, rfl, rfl, rfl, rfl, rfl, rfl, rfl, rfl, rfl, rfl⟩, fun j hj => ⟨rfl, rfl⟩, fun i hi => rfl, ⟨0, Nat.zero_le _, rfl, by decide, by decide, fun _ => ⟨rfl, fun j hj => ⟨rfl, rfl⟩, rfl⟩⟩, rfl⟩, ?_⟩
  rintro n x1 x2 x3 V ⟨e1, hJV, hFV, h64, h8, ⟨i, hi, hx, w0, w1, hC⟩, hm⟩
  have tV : b9g_tape V = T := (hFV.2.2.2.1).trans hT
  have b1 := POS_le (T := T) hi
  have b2 := hp.1
  have b3 := pos1 i
  unfold wp_X9_comingFrom_4b
  rw [e1, tV]
  refine ⟨fun c => ?_, fun c => ?_⟩
  · simp only [pn] at c
    have hip : i = p := by
      apply Classical.byContradiction
      intro hh
      have := POS_lt (T := T) (show i < p by omega)
      omega
    refine hq _ _ hJV hFV (fun hs q hq2 => ?_) h64 h8 (h8 10 (by decide)) (h8 7 (by decide))
    rw [WFP_one hq2 hp, ← hip]
    exact hC hs
  simp only [pn] at c
  have hip : i < p := POS_in hp (by omega)
  have l := hp.2 i hip
  have b4 := POS_le (T := T) (show i + 1 ≤ p by omega)
  have ps := POS_s T i
  have c1 := pt_clamp (i := x3) (by omega)
  have s7 : x3.toNatClampNeg = POS T i := by omega
  have s3 : (x3 + 1).toInt = x3.toInt + 1 := by rw [pt_add (by rw [pl_1]; omega) (by rw [pl_1]; omega), pl_1]
  have c2 := pt_clamp (i := x3 + 1) (by omega)
  have s8 : (x3 + 1).toNatClampNeg = POS T i + 1 := by omega
  have s4 : (x3 + 1 + T (POS T i)).toInt = (POS T (i + 1) : Int) := by
    rw [pt_add (by omega) (by omega), s3]
    omega
  have x2' : (x2 + 1).toInt = x2.toInt + 1 := by rw [pt_add (by rw [pl_1]; omega) (by rw [pl_1]; omega), pl_1]
  have v3 : vp_in x3 160 := pt_in (by omega) (by omega)
  rw [s7]
  refine ⟨v3, sf_X9_tapedKey hJV.1 (by omega) (by omega) (by omega) (fun r1 k1 => ⟨v3, ?_⟩)⟩
  have q1 : r1 = TKY T i := by
    rw [k1 (by omega), tV, s8]
    rfl
  refine sf_X9_comes hJV (by omega) (by omega) (fun r3 u4 hJ4 hf4 hI hO hN g10 g7 => ?_)
  have hF4 : F_X9_comingFrom S u4 := ⟨(hf4.1).trans (hFV.1), (hf4.2.1).trans (hFV.2.1), (hf4.2.2.1).trans (hFV.2.2.1), (hf4.2.2.2.1).trans (hFV.2.2.2.1), (hf4.2.2.2.2.1).trans (hFV.2.2.2.2.1), (hf4.2.2.2.2.2.1).trans (hFV.2.2.2.2.2.1), (hf4.2.2.2.2.2.2.1).trans (hFV.2.2.2.2.2.2.1), (hf4.2.2.2.2.2.2.2.1).trans (hFV.2.2.2.2.2.2.2.1), (hf4.2.2.2.2.2.2.2.2.1).trans (hFV.2.2.2.2.2.2.2.2.1), (hf4.2.2.2.2.2.2.2.2.2.1).trans (hFV.2.2.2.2.2.2.2.2.2.1), (hf4.2.2.2.2.2.2.2.2.2.2.1).trans (hFV.2.2.2.2.2.2.2.2.2.2.1), (hf4.2.2.2.2.2.2.2.2.2.2.2.1).trans (hFV.2.2.2.2.2.2.2.2.2.2.2.1), (hf4.2.2.2.2.2.2.2.2.2.2.2.2.1).trans (hFV.2.2.2.2.2.2.2.2.2.2.2.2.1), (hf4.2.2.2.2.2.2.2.2.2.2.2.2.2.1).trans (hFV.2.2.2.2.2.2.2.2.2.2.2.2.2.1), (hf4.2.2.2.2.2.2.2.2.2.2.2.2.2.2.1).trans (hFV.2.2.2.2.2.2.2.2.2.2.2.2.2.2.1), (hf4.2.2.2.2.2.2.2.2.2.2.2.2.2.2.2.1).trans (hFV.2.2.2.2.2.2.2.2.2.2.2.2.2.2.2.1), (hf4.2.2.2.2.2.2.2.2.2.2.2.2.2.2.2.2.1).trans (hFV.2.2.2.2.2.2.2.2.2.2.2.2.2.2.2.2.1), (hf4.2.2.2.2.2.2.2.2.2.2.2.2.2.2.2.2.2.1).trans (hFV.2.2.2.2.2.2.2.2.2.2.2.2.2.2.2.2.2.1), (hf4.2.2.2.2.2.2.2.2.2.2.2.2.2.2.2.2.2.2.1).trans (hFV.2.2.2.2.2.2.2.2.2.2.2.2.2.2.2.2.2.2.1), (hf4.2.2.2.2.2.2.2.2.2.2.2.2.2.2.2.2.2.2.2.1).trans (hFV.2.2.2.2.2.2.2.2.2.2.2.2.2.2.2.2.2.2.2.1), (hf4.2.2.2.2.2.2.2.2.2.2.2.2.2.2.2.2.2.2.2.2.1).trans (hFV.2.2.2.2.2.2.2.2.2.2.2.2.2.2.2.2.2.2.2.2.1), (hf4.2.2.2.2.2.2.2.2.2.2.2.2.2.2.2.2.2.2.2.2.2.1).trans (hFV.2.2.2.2.2.2.2.2.2.2.2.2.2.2.2.2.2.2.2.2.2.1), (hf4.2.2.2.2.2.2.2.2.2.2.2.2.2.2.2.2.2.2.2.2.2.2.1).trans (hFV.2.2.2.2.2.2.2.2.2.2.2.2.2.2.2.2.2.2.2.2.2.2.1), (hf4.2.2.2.2.2.2.2.2.2.2.2.2.2.2.2.2.2.2.2.2.2.2.2.1).trans (hFV.2.2.2.2.2.2.2.2.2.2.2.2.2.2.2.2.2.2.2.2.2.2.2.1), (hf4.2.2.2.2.2.2.2.2.2.2.2.2.2.2.2.2.2.2.2.2.2.2.2.2.1).trans (hFV.2.2.2.2.2.2.2.2.2.2.2.2.2.2.2.2.2.2.2.2.2.2.2.2.1), (hf4.2.2.2.2.2.2.2.2.2.2.2.2.2.2.2.2.2.2.2.2.2.2.2.2.2.1).trans (hFV.2.2.2.2.2.2.2.2.2.2.2.2.2.2.2.2.2.2.2.2.2.2.2.2.2.1), (hf4.2.2.2.2.2.2.2.2.2.2.2.2.2.2.2.2.2.2.2.2.2.2.2.2.2.2.1).trans (hFV.2.2.2.2.2.2.2.2.2.2.2.2.2.2.2.2.2.2.2.2.2.2.2.2.2.2.1), (hf4.2.2.2.2.2.2.2.2.2.2.2.2.2.2.2.2.2.2.2.2.2.2.2.2.2.2.2.1).trans (hFV.2.2.2.2.2.2.2.2.2.2.2.2.2.2.2.2.2.2.2.2.2.2.2.2.2.2.2.1), (hf4.2.2.2.2.2.2.2.2.2.2.2.2.2.2.2.2.2.2.2.2.2.2.2.2.2.2.2.2.1).trans (hFV.2.2.2.2.2.2.2.2.2.2.2.2.2.2.2.2.2.2.2.2.2.2.2.2.2.2.2.2.1), (hf4.2.2.2.2.2.2.2.2.2.2.2.2.2.2.2.2.2.2.2.2.2.2.2.2.2.2.2.2.2.1).trans (hFV.2.2.2.2.2.2.2.2.2.2.2.2.2.2.2.2.2.2.2.2.2.2.2.2.2.2.2.2.2.1), (hf4.2.2.2.2.2.2.2.2.2.2.2.2.2.2.2.2.2.2.2.2.2.2.2.2.2.2.2.2.2.2.1).trans (hFV.2.2.2.2.2.2.2.2.2.2.2.2.2.2.2.2.2.2.2.2.2.2.2.2.2.2.2.2.2.2.1), (hf4.2.2.2.2.2.2.2.2.2.2.2.2.2.2.2.2.2.2.2.2.2.2.2.2.2.2.2.2.2.2.2.1).trans (hFV.2.2.2.2.2.2.2.2.2.2.2.2.2.2.2.2.2.2.2.2.2.2.2.2.2.2.2.2.2.2.2.1), (hf4.2.2.2.2.2.2.2.2.2.2.2.2.2.2.2.2.2.2.2.2.2.2.2.2.2.2.2.2.2.2.2.2.1).trans (hFV.2.2.2.2.2.2.2.2.2.2.2.2.2.2.2.2.2.2.2.2.2.2.2.2.2.2.2.2.2.2.2.2.1), (hf4.2.2.2.2.2.2.2.2.2.2.2.2.2.2.2.2.2.2.2.2.2.2.2.2.2.2.2.2.2.2.2.2.2.1).trans (hFV.2.2.2.2.2.2.2.2.2.2.2.2.2.2.2.2.2.2.2.2.2.2.2.2.2.2.2.2.2.2.2.2.2.1), (hf4.2.2.2.2.2.2.2.2.2.2.2.2.2.2.2.2.2.2.2.2.2.2.2.2.2.2.2.2.2.2.2.2.2.2.1).trans (hFV.2.2.2.2.2.2.2.2.2.2.2.2.2.2.2.2.2.2.2.2.2.2.2.2.2.2.2.2.2.2.2.2.2.2.1), (hf4.2.2.2.2.2.2.2.2.2.2.2.2.2.2.2.2.2.2.2.2.2.2.2.2.2.2.2.2.2.2.2.2.2.2.2.1).trans (hFV.2.2.2.2.2.2.2.2.2.2.2.2.2.2.2.2.2.2.2.2.2.2.2.2.2.2.2.2.2.2.2.2.2.2.2.1), (hf4.2.2.2.2.2.2.2.2.2.2.2.2.2.2.2.2.2.2.2.2.2.2.2.2.2.2.2.2.2.2.2.2.2.2.2.2.1).trans (hFV.2.2.2.2.2.2.2.2.2.2.2.2.2.2.2.2.2.2.2.2.2.2.2.2.2.2.2.2.2.2.2.2.2.2.2.2.1), (hf4.2.2.2.2.2.2.2.2.2.2.2.2.2.2.2.2.2.2.2.2.2.2.2.2.2.2.2.2.2.2.2.2.2.2.2.2.2.1).trans (hFV.2.2.2.2.2.2.2.2.2.2.2.2.2.2.2.2.2.2.2.2.2.2.2.2.2.2.2.2.2.2.2.2.2.2.2.2.2.1), (hf4.2.2.2.2.2.2.2.2.2.2.2.2.2.2.2.2.2.2.2.2.2.2.2.2.2.2.2.2.2.2.2.2.2.2.2.2.2.2.1).trans (hFV.2.2.2.2.2.2.2.2.2.2.2.2.2.2.2.2.2.2.2.2.2.2.2.2.2.2.2.2.2.2.2.2.2.2.2.2.2.2.1), (hf4.2.2.2.2.2.2.2.2.2.2.2.2.2.2.2.2.2.2.2.2.2.2.2.2.2.2.2.2.2.2.2.2.2.2.2.2.2.2.2.1).trans (hFV.2.2.2.2.2.2.2.2.2.2.2.2.2.2.2.2.2.2.2.2.2.2.2.2.2.2.2.2.2.2.2.2.2.2.2.2.2.2.2.1), (hf4.2.2.2.2.2.2.2.2.2.2.2.2.2.2.2.2.2.2.2.2.2.2.2.2.2.2.2.2.2.2.2.2.2.2.2.2.2.2.2.2.1).trans (hFV.2.2.2.2.2.2.2.2.2.2.2.2.2.2.2.2.2.2.2.2.2.2.2.2.2.2.2.2.2.2.2.2.2.2.2.2.2.2.2.2.1), (hf4.2.2.2.2.2.2.2.2.2.2.2.2.2.2.2.2.2.2.2.2.2.2.2.2.2.2.2.2.2.2.2.2.2.2.2.2.2.2.2.2.2.1).trans (hFV.2.2.2.2.2.2.2.2.2.2.2.2.2.2.2.2.2.2.2.2.2.2.2.2.2.2.2.2.2.2.2.2.2.2.2.2.2.2.2.2.2.1), (hf4.2.2.2.2.2.2.2.2.2.2.2.2.2.2.2.2.2.2.2.2.2.2.2.2.2.2.2.2.2.2.2.2.2.2.2.2.2.2.2.2.2.2).trans (hFV.2.2.2.2.2.2.2.2.2.2.2.2.2.2.2.2.2.2.2.2.2.2.2.2.2.2.2.2.2.2.2.2.2.2.2.2.2.2.2.2.2.2)⟩
  have next : ∀ y2 : Int32, y2.toInt = x2.toInt + (if r3.toInt = -1 then 0 else 1) → wp_X9_comingFrom_40 u4 a1 y2 x3 Q (fun x1 x2 x3 V => ∃ n2 : Nat, n2 < n ∧ x1 = a1 ∧ J9 V ∧ F_X9_comingFrom S V ∧ (∀ j : Nat, 64 ≤ j → b9g_keys V j = b9g_keys S j ∧ b9g_lengths V j = b9g_lengths S j) ∧ (∀ i : Nat, i ≠ 8 → b9g_now V i = b9g_now S i) ∧ (∃ i : Nat, i ≤ p ∧ x3.toInt = (POS T i : Int) ∧ 0 ≤ x2.toInt ∧ x2.toInt ≤ (i : Int) ∧ (SRT (b9g_keys S) (b9g_lengths S) (b9g_now S 8).toInt → CHN (TKY T) (TNY T) i (b9g_keys S) (b9g_lengths S) (b9g_now S 8).toInt (b9g_keys V) (b9g_lengths V) (b9g_now V 8).toInt x2.toInt)) ∧ n2 = (300 - x3.toInt).toNat) := by
    intro y2 hy
    have t4 : b9g_tape u4 = T := (hF4.2.2.2.1).trans hT
    unfold wp_X9_comingFrom_40
    rw [t4, s7]
    refine ⟨v3, _, ?_, rfl, hJ4, hF4, fun j hj => ?_, fun k hk => (hN k hk).trans (h8 k hk), ⟨i + 1, by omega, s4, by split at hy <;> omega, by split at hy <;> omega, fun hs => ?_⟩, rfl⟩
    · omega
    · exact ⟨(hO j hj).1.trans (h64 j hj).1, (hO j hj).2.trans (h64 j hj).2⟩
    · have hsV := CHN_srt hs i (fun q hq2 => hp.2 q (by omega)) (hC hs)
      have ins := hI hsV
      rw [q1] at ins
      exact ⟨_, _, _, r3.toInt, x2.toInt, hC hs, ins, hy⟩
  refine ⟨fun g => next x2 ?_, fun g => next (x2 + 1) ?_⟩
  · rw [if_pos (by rw [g]; rfl)]
    omega
  · rw [if_neg (fun h => g (Int32.toInt_inj.mp (h.trans pl_m1.symm)))]
    exact x2'
theorem sf_X9_newMany {S : bT9} (hJ : K9 S) {a1 : Int32} {Q : Int32 → Prop} (hp0 : WFQ (b9g_tape S) a1) (hq : ∀ r : Int32, (0 ≤ r.toInt) → (r.toInt ≤ 160) → (SRT (b9g_keys S) (b9g_lengths S) (b9g_now S 8).toInt → ∀ p : Nat, WFP (b9g_tape S) a1.toInt p → r.toInt = NWC (b9g_keys S) (b9g_lengths S) (b9g_now S 8).toInt (TKY (b9g_tape S)) (TNY (b9g_tape S)) p) → Q r) : wp_X9_newMany S a1 Q := by
  obtain ⟨hn160, p, hp⟩ := hp0
  have jn := (K9g_now hJ).2.2.1
  have c8 : ((8 : Int32)).toNatClampNeg = 8 := by decide
  obtain ⟨T, hT⟩ : ∃ T : Nat → Int32, b9g_tape S = T := ⟨_, rfl⟩
  rw [hT] at hp hq
  have p160 : ∀ i : Nat, i ≤ p → (POS T i : Int) ≤ a1.toInt ∧ (i : Int) ≤ (POS T i : Int) := by
    intro i hi
    have a := POS_le (T := T) hi
    have b := hp.1
    have c : ∀ k : Nat, k ≤ POS T k := by
      intro k
      induction k with
      | zero => exact Nat.zero_le _
      | succ k ih => rw [POS_s]; omega
    have := c i
    omega
  have pstep : ∀ (x : Int32) (i : Nat), x.toInt = (POS T i : Int) → i < p → 1 ≤ (T (POS T i)).toInt ∧ (T (POS T i)).toInt ≤ 8 ∧ (x + 1).toInt = x.toInt + 1 ∧ (x + 1 + T (POS T i)).toInt = (POS T (i + 1) : Int) ∧ (POS T (i + 1) : Int) = (POS T i : Int) + 1 + (T (POS T i)).toInt ∧ (POS T (i + 1) : Int) ≤ a1.toInt ∧ x.toNatClampNeg = POS T i ∧ (x + 1).toNatClampNeg = POS T i + 1 := by
    intro x i hx hi
    have l := hp.2 i hi
    have b := p160 i (by omega)
    have b2 := p160 (i + 1) (by omega)
    have ps := POS_s T i
    have e1 : (x + 1).toInt = x.toInt + 1 := by rw [pt_add (by rw [pl_1]; omega) (by rw [pl_1]; omega), pl_1]
    have e2 : (x + 1 + T (POS T i)).toInt = x.toInt + 1 + (T (POS T i)).toInt := by rw [pt_add (by omega) (by omega), e1]
    have c1 := pt_clamp (i := x) (by omega)
    have c2 := pt_clamp (i := x + 1) (by omega)
    refine ⟨l.1, l.2, e1, by omega, by omega, b2.1, by omega, by omega⟩
  unfold wp_X9_newMany wp_X9_newMany_4
  refine ⟨fun n x1 x2 x3 => x1 = a1 ∧ (∃ i : Nat, i ≤ p ∧ x3.toInt = (POS T i : Int) ∧ 0 ≤ x2.toInt ∧ x2.toInt ≤ (i : Int) ∧ (SRT (b9g_keys S) (b9g_lengths S) (b9g_now S 8).toInt → x2.toInt = NWC (b9g_keys S) (b9g_lengths S) (b9g_now S 8).toInt (TKY T) (TNY T) i)) ∧ n = (300 - x3.toInt).toNat, ⟨_, rfl, ⟨0, Nat.zero_le _, rfl, by decide, by decide, fun _ => rfl⟩, rfl⟩, ?_⟩
  rintro n x1 x2 x3 ⟨e1, ⟨i, hi, hx, w0, w1, hw⟩, hm⟩
  unfold wp_X9_newMany_4b
  have bi := p160 i hi
  rw [e1, hT, c8]
  refine ⟨fun c => ?_, fun c => ?_⟩
  · simp only [pn] at c
    have hip : i = p := by
      apply Classical.byContradiction
      intro hh
      have := POS_lt (T := T) (show i < p by omega)
      have := hp.1
      omega
    refine hq _ (by omega) (by omega) (fun hs q hq2 => ?_)
    rw [WFP_one hq2 hp, ← hip]
    exact hw hs
  simp only [pn] at c
  have hip : i < p := POS_in hp (by omega)
  obtain ⟨s1, s2, s3, s4, s5, s6, s7, s8⟩ := pstep x3 i hx hip
  have x2' : (x2 + 1).toInt = x2.toInt + 1 := by rw [pt_add (by rw [pl_1]; omega) (by rw [pl_1]; omega), pl_1]
  rw [s7]
  have rest : ∀ t0 : Int32, (SRT (b9g_keys S) (b9g_lengths S) (b9g_now S 8).toInt → (t0 = 0 ↔ ∃ j : Nat, (j : Int) < (b9g_now S 8).toInt ∧ b9g_keys S j = TKY T i ∧ b9g_lengths S j = TNY T i)) → wp_X9_newMany_49 S a1 x2 x3 t0 Q (fun x1 x2 x3 => ∃ n2 : Nat, n2 < n ∧ x1 = a1 ∧ (∃ i : Nat, i ≤ p ∧ x3.toInt = (POS T i : Int) ∧ 0 ≤ x2.toInt ∧ x2.toInt ≤ (i : Int) ∧ (SRT (b9g_keys S) (b9g_lengths S) (b9g_now S 8).toInt → x2.toInt = NWC (b9g_keys S) (b9g_lengths S) (b9g_now S 8).toInt (TKY T) (TNY T) i)) ∧ n2 = (300 - x3.toInt).toNat) := by
    intro t0 ht
    unfold wp_X9_newMany_49 wp_X9_newMany_54
    have fin : ∀ y2 : Int32, 0 ≤ y2.toInt → y2.toInt ≤ (i : Int) + 1 → (SRT (b9g_keys S) (b9g_lengths S) (b9g_now S 8).toInt → y2.toInt = NWC (b9g_keys S) (b9g_lengths S) (b9g_now S 8).toInt (TKY T) (TNY T) (i + 1)) → wp_X9_newMany_146 S a1 y2 x3 Q (fun x1 x2 x3 => ∃ n2 : Nat, n2 < n ∧ x1 = a1 ∧ (∃ i : Nat, i ≤ p ∧ x3.toInt = (POS T i : Int) ∧ 0 ≤ x2.toInt ∧ x2.toInt ≤ (i : Int) ∧ (SRT (b9g_keys S) (b9g_lengths S) (b9g_now S 8).toInt → x2.toInt = NWC (b9g_keys S) (b9g_lengths S) (b9g_now S 8).toInt (TKY T) (TNY T) i)) ∧ n2 = (300 - x3.toInt).toNat) := by
      intro y2 g0 g1 g2
      unfold wp_X9_newMany_146
      rw [hT, s7]
      refine ⟨pt_in (by omega) (by omega), _, ?_, rfl, ⟨i + 1, by omega, s4, g0, by omega, g2⟩, rfl⟩
      omega
    refine ⟨fun k y1 y2 y3 y4 y5 => y1 = a1 ∧ y2 = x2 ∧ y3 = x3 ∧ (∃ q : Nat, q ≤ i ∧ y5.toInt = (POS T q : Int) ∧ (SRT (b9g_keys S) (b9g_lengths S) (b9g_now S 8).toInt → (y4 = 0 ↔ OLD (b9g_keys S) (b9g_lengths S) (b9g_now S 8).toInt (TKY T) (TNY T) q (TKY T i) (TNY T i)))) ∧ k = (300 - y5.toInt).toNat, ⟨_, rfl, rfl, rfl, ⟨0, Nat.zero_le _, rfl, fun hs => ?_⟩, rfl⟩, ?_⟩
    · rw [ht hs]
      refine ⟨fun h => Or.inl h, fun h => ?_⟩
      rcases h with h | ⟨q, hq2, _⟩
      · exact h
      · omega
    rintro k y1 y2 y3 y4 y5 ⟨f1, f2, f3, ⟨q, hqi, hy, ho⟩, gm⟩
    unfold wp_X9_newMany_54b
    rw [f1, f2, f3]
    have bq := p160 q (by omega)
    refine ⟨fun c2 => ?_, fun c2 => ?_⟩
    · simp only [pn] at c2
      have hqe : q = i := by
        apply Classical.byContradiction
        intro hh
        have := POS_lt (T := T) (show q < i by omega)
        omega
      rw [hqe] at ho
      refine ⟨fun g => fin x2 w0 (by omega) (fun hs => ?_), fun g => fin (x2 + 1) (by omega) (by omega) (fun hs => ?_)⟩
      · rw [NWC_o ((ho hs).mp g)]
        exact hw hs
      · rw [NWC_n (fun h => g ((ho hs).mpr h)), x2', hw hs]
    simp only [pn] at c2
    have hq3 : q < i := by
      apply Classical.byContradiction
      intro hh
      have := POS_le (T := T) (show i ≤ q by omega)
      omega
    obtain ⟨u1, u2, u3, u4, u5, u6, u7, u8⟩ := pstep y5 q hy (by omega)
    have old : OLD (b9g_keys S) (b9g_lengths S) (b9g_now S 8).toInt (TKY T) (TNY T) (q + 1) (TKY T i) (TNY T i) ↔ OLD (b9g_keys S) (b9g_lengths S) (b9g_now S 8).toInt (TKY T) (TNY T) q (TKY T i) (TNY T i) ∨ (TKY T q = TKY T i ∧ TNY T q = TNY T i) := by
      unfold OLD
      refine ⟨fun h => ?_, fun h => ?_⟩
      · rcases h with h | ⟨z, hz, x⟩
        · exact Or.inl (Or.inl h)
        · by_cases e : z = q
          · rw [e] at x; exact Or.inr x
          · exact Or.inl (Or.inr ⟨z, by omega, x⟩)
      · rcases h with (h | ⟨z, hz, x⟩) | h
        · exact Or.inl h
        · exact Or.inr ⟨z, by omega, x⟩
        · exact Or.inr ⟨q, by omega, h⟩
    have next : ∀ t : Int32, (SRT (b9g_keys S) (b9g_lengths S) (b9g_now S 8).toInt → (t = 0 ↔ OLD (b9g_keys S) (b9g_lengths S) (b9g_now S 8).toInt (TKY T) (TNY T) (q + 1) (TKY T i) (TNY T i))) → wp_X9_newMany_118 S a1 x2 x3 y5 t Q (fun x1 x2 x3 => ∃ n2 : Nat, n2 < n ∧ x1 = a1 ∧ (∃ i : Nat, i ≤ p ∧ x3.toInt = (POS T i : Int) ∧ 0 ≤ x2.toInt ∧ x2.toInt ≤ (i : Int) ∧ (SRT (b9g_keys S) (b9g_lengths S) (b9g_now S 8).toInt → x2.toInt = NWC (b9g_keys S) (b9g_lengths S) (b9g_now S 8).toInt (TKY T) (TNY T) i)) ∧ n2 = (300 - x3.toInt).toNat) (fun y1 y2 y3 y4 y5 => ∃ n2 : Nat, n2 < k ∧ y1 = a1 ∧ y2 = x2 ∧ y3 = x3 ∧ (∃ q : Nat, q ≤ i ∧ y5.toInt = (POS T q : Int) ∧ (SRT (b9g_keys S) (b9g_lengths S) (b9g_now S 8).toInt → (y4 = 0 ↔ OLD (b9g_keys S) (b9g_lengths S) (b9g_now S 8).toInt (TKY T) (TNY T) q (TKY T i) (TNY T i)))) ∧ n2 = (300 - y5.toInt).toNat) := by
      intro t g
      unfold wp_X9_newMany_118
      rw [hT, u7]
      refine ⟨pt_in (by omega) (by omega), _, ?_, rfl, rfl, rfl, ⟨q + 1, by omega, u4, g⟩, rfl⟩
      omega
    have v5 : vp_in y5 160 := pt_in (by omega) (by omega)
    have v3 : vp_in x3 160 := pt_in (by omega) (by omega)
    rw [hT, u7, s7]
    refine ⟨fun g => ?_, fun g => ⟨v5, v3, fun g2 => ?_, fun g2 => ⟨v5, ?_⟩⟩⟩
    · unfold wp_X9_newMany_117
      refine next _ (fun hs => ?_)
      rw [old]
      exact ⟨fun _ => Or.inl ((ho hs).mp g), fun _ => rfl⟩
    · unfold wp_X9_newMany_113
      refine next _ (fun hs => ?_)
      rw [old]
      refine ⟨fun h => absurd h (by decide), fun h => ?_⟩
      rcases h with h | h
      · exact absurd ((ho hs).mpr h) g
      · exact absurd h.2 g2
    · refine sf_X9_tapedKey hJ (by omega) (by omega) (by omega) (fun r1 k1 => ⟨v3, sf_X9_tapedKey hJ (by omega) (by omega) (by omega) (fun r3 k3 => ?_)⟩)
      have q1 : r1 = TKY T q := by
        rw [k1 (by omega), hT, u8]
        rfl
      have q3 : r3 = TKY T i := by
        rw [k3 (by omega), hT, s8]
        rfl
      refine ⟨fun h => ?_, fun h => ?_⟩
      · unfold wp_X9_newMany_117
        refine next _ (fun hs => ?_)
        rw [old]
        exact ⟨fun _ => Or.inr ⟨by rw [← q1, ← q3]; exact (lg_cmp_eq _ _).mp h, g2⟩, fun _ => rfl⟩
      · unfold wp_X9_newMany_113
        refine next _ (fun hs => ?_)
        rw [old]
        refine ⟨fun h2 => absurd h2 (by decide), fun h2 => ?_⟩
        rcases h2 with h2 | h2
        · exact absurd ((ho hs).mpr h2) g
        · exact absurd ((lg_cmp_eq _ _).mpr (by rw [q1, q3]; exact h2.1)) h
  have v3 : vp_in x3 160 := pt_in (by omega) (by omega)
  refine ⟨pt_in (by decide) (by decide), v3, ?_⟩
  refine sf_X9_tapedKey hJ (by omega) (by omega) (by omega) (fun r5 k5 => ⟨v3, ?_⟩)
  have q5 : r5 = TKY T i := by
    rw [k5 (by omega), hT, s8]
    rfl
  refine sf_X9_find hJ (by decide) jn.1 (by rw [pl_0]; omega) (fun r7 h7 hN => ?_)
  rw [sh0, sh0', q5] at hN
  refine ⟨fun g => rest _ (fun hs => ?_), fun g => rest _ (fun hs => ?_)⟩
  · refine ⟨fun _ => ?_, fun _ => rfl⟩
    rcases hN hs with ⟨a, b, e⟩ | ⟨a, b⟩
    · exact ⟨r7.toInt.toNat, by omega, e _ (by omega)⟩
    · exact absurd (Int32.toInt_inj.mp (a.trans pl_m1.symm)) g
  · refine ⟨fun h => absurd h (by decide), fun ⟨j, x, y, z⟩ => ?_⟩
    rcases hN hs with ⟨a, b, e⟩ | ⟨a, b⟩
    · rw [g, pl_m1] at a
      omega
    · exact absurd ⟨y, z⟩ (b j x)
def F_X9_keys (S u : bT9) : Prop := (b9g_drawn u) = (b9g_drawn S) ∧ (b9g_drawnLength u) = (b9g_drawnLength S) ∧ (b9g_tape u) = (b9g_tape S) ∧ (b9g_names u) = (b9g_names S) ∧ (b9g_chosen u) = (b9g_chosen S) ∧ (b9g_common u) = (b9g_common S) ∧ (b9g_beginning u) = (b9g_beginning S) ∧ (b9g_isLaid u) = (b9g_isLaid S) ∧ (b9g_nodeLevel u) = (b9g_nodeLevel S) ∧ (b9g_nodeLeaf u) = (b9g_nodeLeaf S) ∧ (b9g_nodeLeaves u) = (b9g_nodeLeaves S) ∧ (b9g_nodeMany u) = (b9g_nodeMany S) ∧ (b9g_levelMany u) = (b9g_levelMany S) ∧ (b9g_upper u) = (b9g_upper S) ∧ (b9g_upperNodes u) = (b9g_upperNodes S) ∧ (b9g_areNodesLaid u) = (b9g_areNodesLaid S) ∧ (b9g_itemNode u) = (b9g_itemNode S) ∧ (b9g_itemByte u) = (b9g_itemByte S) ∧ (b9g_itemChild u) = (b9g_itemChild S) ∧ (b9g_itemMany u) = (b9g_itemMany S) ∧ (b9g_placeOf u) = (b9g_placeOf S) ∧ (b9g_leafOfPlace u) = (b9g_leafOfPlace S) ∧ (b9g_places u) = (b9g_places S) ∧ (b9g_lowKey u) = (b9g_lowKey S) ∧ (b9g_highKey u) = (b9g_highKey S) ∧ (b9g_lowLength u) = (b9g_lowLength S) ∧ (b9g_highLength u) = (b9g_highLength S) ∧ (b9g_fromKey u) = (b9g_fromKey S) ∧ (b9g_toKey u) = (b9g_toKey S) ∧ (b9g_fromLength u) = (b9g_fromLength S) ∧ (b9g_toLength u) = (b9g_toLength S) ∧ (b9g_ones u) = (b9g_ones S) ∧ (b9g_oneMany u) = (b9g_oneMany S) ∧ (b9g_rowLong u) = (b9g_rowLong S) ∧ (b9g_laidFor u) = (b9g_laidFor S) ∧ (b9g_signs u) = (b9g_signs S) ∧ (b9g_signMany u) = (b9g_signMany S) ∧ (b9g_hasImage u) = (b9g_hasImage S) ∧ (b9g_images u) = (b9g_images S) ∧ (b9g_keyImages u) = (b9g_keyImages S) ∧ (b9g_lengthImages u) = (b9g_lengthImages S)
theorem sf_X9_keys {S : bT9} (hJ : J9 S) {Q : Int32 → (bT9) → Prop} (hq : ∀ (r : Int32) (u : bT9), (J9 u) → F_X9_keys S u → ((b9g_taped u).toInt = 0) → (SRT (b9g_keys S) (b9g_lengths S) (b9g_now S 8).toInt → (∃ p : Nat, WFP (b9g_tape S) (b9g_taped S).toInt p ∧ (b9g_now S 8).toInt + NWC (b9g_keys S) (b9g_lengths S) (b9g_now S 8).toInt (TKY (b9g_tape S)) (TNY (b9g_tape S)) p ≤ 64 ∧ CHN (TKY (b9g_tape S)) (TNY (b9g_tape S)) p (b9g_keys S) (b9g_lengths S) (b9g_now S 8).toInt (b9g_keys u) (b9g_lengths u) (b9g_now u 8).toInt r.toInt) ∨ (r.toInt = -1 ∧ (∀ p : Nat, WFP (b9g_tape S) (b9g_taped S).toInt p → 64 < (b9g_now S 8).toInt + NWC (b9g_keys S) (b9g_lengths S) (b9g_now S 8).toInt (TKY (b9g_tape S)) (TNY (b9g_tape S)) p) ∧ b9g_keys u = b9g_keys S ∧ b9g_lengths u = b9g_lengths S ∧ b9g_now u = b9g_now S)) → (∀ j : Nat, 64 ≤ j → b9g_keys u j = b9g_keys S j ∧ b9g_lengths u j = b9g_lengths S j) → (∀ i : Nat, i ≠ 8 → b9g_now u i = b9g_now S i) → (b9g_now u 10 = b9g_now S 10) → (b9g_now u 7 = b9g_now S 7) → Q r u) : wp_X9_keys S Q := by
  have jt := J9g_taped hJ
  have jn := (J9g_now hJ).2.2.1
  have c8 : ((8 : Int32)).toNatClampNeg = 8 := by decide
  unfold wp_X9_keys
  intro S1 e1 S2 e2
  have hJ1 : J9 S1 := by rw [e1]; exact J9s_told hJ
  have et : b9g_taped S1 = b9g_taped S := by rw [e1]
  have hJ2 : J9 S2 := by rw [e2]; exact J9s_taped hJ1 ⟨by decide, by decide⟩
  have hF2 : F_X9_keys S S2 := by rw [e2, e1]; exact ⟨rfl, rfl, rfl, rfl, rfl, rfl, rfl, rfl, rfl, rfl, rfl, rfl, rfl, rfl, rfl, rfl, rfl, rfl, rfl, rfl, rfl, rfl, rfl, rfl, rfl, rfl, rfl, rfl, rfl, rfl, rfl, rfl, rfl, rfl, rfl, rfl, rfl, rfl, rfl, rfl, rfl⟩
  have t2 : (b9g_taped S2).toInt = 0 := by rw [e2]; first | done | rfl
  have en : b9g_now S2 = b9g_now S := by rw [e2, e1]
  have ek : b9g_keys S2 = b9g_keys S := by rw [e2, e1]
  have el : b9g_lengths S2 = b9g_lengths S := by rw [e2, e1]
  have ep : b9g_tape S2 = b9g_tape S := by rw [e2, e1]
  rw [et]
  have bad : (SRT (b9g_keys S) (b9g_lengths S) (b9g_now S 8).toInt → ∀ p : Nat, WFP (b9g_tape S) (b9g_taped S).toInt p → 64 < (b9g_now S 8).toInt + NWC (b9g_keys S) (b9g_lengths S) (b9g_now S 8).toInt (TKY (b9g_tape S)) (TNY (b9g_tape S)) p) → Q (-1) S2 := by
    intro h
    exact hq _ _ hJ2 hF2 t2 (fun hs => Or.inr ⟨rfl, h hs, ek, el, en⟩) (fun j hj => ⟨by rw [ek], by rw [el]⟩) (fun i hi => by rw [en]) (by rw [en]) (by rw [en])
  refine sf_X9_areKeys hJ2.1 jt.1 jt.2 (fun r3 hz hr => ⟨fun c => ?_, fun c => ?_⟩)
  · refine bad (fun _ p hp => ?_)
    rw [ep] at hr
    rcases hr with hr | hr
    · rw [c] at hr
      exact absurd hr.1 (by decide)
    · exact absurd hp (hr.2 p)
  rw [ep] at hr
  have hW : ∃ p : Nat, WFP (b9g_tape S) (b9g_taped S).toInt p := by
    rcases hr with hr | hr
    · exact hr.2
    · exact absurd (Int32.toInt_inj.mp hr.1) c
  have hQ : WFQ (b9g_tape S2) (b9g_taped S) := by rw [ep]; exact ⟨jt.2, hW⟩
  refine ⟨pt_in (by decide) (by decide), sf_X9_newMany hJ2.1 hQ (fun r5 g0 g1 hN => ?_)⟩
  rw [c8, en]
  rw [ek, el, en, ep] at hN
  have ea : (b9g_now S 8 + r5).toInt = (b9g_now S 8).toInt + r5.toInt := pt_add (by omega) (by omega)
  obtain ⟨p, hp⟩ := hW
  refine ⟨fun d => ?_, fun d => bad (fun hs q hq2 => ?_)⟩
  · simp only [pn, ea] at d
    refine sf_X9_comingFrom hJ2 hQ (fun r7 u8 hJu hf hC hO h8 h10 h7 => ?_)
    rw [ek, el, en, ep] at hC
    rw [ek, el] at hO
    rw [en] at h8 h10 h7
    refine hq _ _ hJu ⟨(hf.2.1).trans (hF2.1), (hf.2.2.1).trans (hF2.2.1), (hf.2.2.2.1).trans (hF2.2.2.1), (hf.2.2.2.2.2.1).trans (hF2.2.2.2.1), (hf.2.2.2.2.2.2.1).trans (hF2.2.2.2.2.1), (hf.2.2.2.2.2.2.2.1).trans (hF2.2.2.2.2.2.1), (hf.2.2.2.2.2.2.2.2.1).trans (hF2.2.2.2.2.2.2.1), (hf.2.2.2.2.2.2.2.2.2.1).trans (hF2.2.2.2.2.2.2.2.1), (hf.2.2.2.2.2.2.2.2.2.2.1).trans (hF2.2.2.2.2.2.2.2.2.1), (hf.2.2.2.2.2.2.2.2.2.2.2.1).trans (hF2.2.2.2.2.2.2.2.2.2.1), (hf.2.2.2.2.2.2.2.2.2.2.2.2.1).trans (hF2.2.2.2.2.2.2.2.2.2.2.1), (hf.2.2.2.2.2.2.2.2.2.2.2.2.2.1).trans (hF2.2.2.2.2.2.2.2.2.2.2.2.1), (hf.2.2.2.2.2.2.2.2.2.2.2.2.2.2.1).trans (hF2.2.2.2.2.2.2.2.2.2.2.2.2.1), (hf.2.2.2.2.2.2.2.2.2.2.2.2.2.2.2.1).trans (hF2.2.2.2.2.2.2.2.2.2.2.2.2.2.1), (hf.2.2.2.2.2.2.2.2.2.2.2.2.2.2.2.2.1).trans (hF2.2.2.2.2.2.2.2.2.2.2.2.2.2.2.1), (hf.2.2.2.2.2.2.2.2.2.2.2.2.2.2.2.2.2.1).trans (hF2.2.2.2.2.2.2.2.2.2.2.2.2.2.2.2.1), (hf.2.2.2.2.2.2.2.2.2.2.2.2.2.2.2.2.2.2.1).trans (hF2.2.2.2.2.2.2.2.2.2.2.2.2.2.2.2.2.1), (hf.2.2.2.2.2.2.2.2.2.2.2.2.2.2.2.2.2.2.2.1).trans (hF2.2.2.2.2.2.2.2.2.2.2.2.2.2.2.2.2.2.1), (hf.2.2.2.2.2.2.2.2.2.2.2.2.2.2.2.2.2.2.2.2.1).trans (hF2.2.2.2.2.2.2.2.2.2.2.2.2.2.2.2.2.2.2.1), (hf.2.2.2.2.2.2.2.2.2.2.2.2.2.2.2.2.2.2.2.2.2.1).trans (hF2.2.2.2.2.2.2.2.2.2.2.2.2.2.2.2.2.2.2.2.1), (hf.2.2.2.2.2.2.2.2.2.2.2.2.2.2.2.2.2.2.2.2.2.2.1).trans (hF2.2.2.2.2.2.2.2.2.2.2.2.2.2.2.2.2.2.2.2.2.1), (hf.2.2.2.2.2.2.2.2.2.2.2.2.2.2.2.2.2.2.2.2.2.2.2.1).trans (hF2.2.2.2.2.2.2.2.2.2.2.2.2.2.2.2.2.2.2.2.2.2.1), (hf.2.2.2.2.2.2.2.2.2.2.2.2.2.2.2.2.2.2.2.2.2.2.2.2.1).trans (hF2.2.2.2.2.2.2.2.2.2.2.2.2.2.2.2.2.2.2.2.2.2.2.1), (hf.2.2.2.2.2.2.2.2.2.2.2.2.2.2.2.2.2.2.2.2.2.2.2.2.2.1).trans (hF2.2.2.2.2.2.2.2.2.2.2.2.2.2.2.2.2.2.2.2.2.2.2.2.1), (hf.2.2.2.2.2.2.2.2.2.2.2.2.2.2.2.2.2.2.2.2.2.2.2.2.2.2.1).trans (hF2.2.2.2.2.2.2.2.2.2.2.2.2.2.2.2.2.2.2.2.2.2.2.2.2.1), (hf.2.2.2.2.2.2.2.2.2.2.2.2.2.2.2.2.2.2.2.2.2.2.2.2.2.2.2.1).trans (hF2.2.2.2.2.2.2.2.2.2.2.2.2.2.2.2.2.2.2.2.2.2.2.2.2.2.1), (hf.2.2.2.2.2.2.2.2.2.2.2.2.2.2.2.2.2.2.2.2.2.2.2.2.2.2.2.2.1).trans (hF2.2.2.2.2.2.2.2.2.2.2.2.2.2.2.2.2.2.2.2.2.2.2.2.2.2.2.1), (hf.2.2.2.2.2.2.2.2.2.2.2.2.2.2.2.2.2.2.2.2.2.2.2.2.2.2.2.2.2.1).trans (hF2.2.2.2.2.2.2.2.2.2.2.2.2.2.2.2.2.2.2.2.2.2.2.2.2.2.2.2.1), (hf.2.2.2.2.2.2.2.2.2.2.2.2.2.2.2.2.2.2.2.2.2.2.2.2.2.2.2.2.2.2.1).trans (hF2.2.2.2.2.2.2.2.2.2.2.2.2.2.2.2.2.2.2.2.2.2.2.2.2.2.2.2.2.1), (hf.2.2.2.2.2.2.2.2.2.2.2.2.2.2.2.2.2.2.2.2.2.2.2.2.2.2.2.2.2.2.2.1).trans (hF2.2.2.2.2.2.2.2.2.2.2.2.2.2.2.2.2.2.2.2.2.2.2.2.2.2.2.2.2.2.1), (hf.2.2.2.2.2.2.2.2.2.2.2.2.2.2.2.2.2.2.2.2.2.2.2.2.2.2.2.2.2.2.2.2.1).trans (hF2.2.2.2.2.2.2.2.2.2.2.2.2.2.2.2.2.2.2.2.2.2.2.2.2.2.2.2.2.2.2.1), (hf.2.2.2.2.2.2.2.2.2.2.2.2.2.2.2.2.2.2.2.2.2.2.2.2.2.2.2.2.2.2.2.2.2.1).trans (hF2.2.2.2.2.2.2.2.2.2.2.2.2.2.2.2.2.2.2.2.2.2.2.2.2.2.2.2.2.2.2.2.1), (hf.2.2.2.2.2.2.2.2.2.2.2.2.2.2.2.2.2.2.2.2.2.2.2.2.2.2.2.2.2.2.2.2.2.2.1).trans (hF2.2.2.2.2.2.2.2.2.2.2.2.2.2.2.2.2.2.2.2.2.2.2.2.2.2.2.2.2.2.2.2.2.1), (hf.2.2.2.2.2.2.2.2.2.2.2.2.2.2.2.2.2.2.2.2.2.2.2.2.2.2.2.2.2.2.2.2.2.2.2.1).trans (hF2.2.2.2.2.2.2.2.2.2.2.2.2.2.2.2.2.2.2.2.2.2.2.2.2.2.2.2.2.2.2.2.2.2.1), (hf.2.2.2.2.2.2.2.2.2.2.2.2.2.2.2.2.2.2.2.2.2.2.2.2.2.2.2.2.2.2.2.2.2.2.2.2.1).trans (hF2.2.2.2.2.2.2.2.2.2.2.2.2.2.2.2.2.2.2.2.2.2.2.2.2.2.2.2.2.2.2.2.2.2.2.1), (hf.2.2.2.2.2.2.2.2.2.2.2.2.2.2.2.2.2.2.2.2.2.2.2.2.2.2.2.2.2.2.2.2.2.2.2.2.2.1).trans (hF2.2.2.2.2.2.2.2.2.2.2.2.2.2.2.2.2.2.2.2.2.2.2.2.2.2.2.2.2.2.2.2.2.2.2.2.1), (hf.2.2.2.2.2.2.2.2.2.2.2.2.2.2.2.2.2.2.2.2.2.2.2.2.2.2.2.2.2.2.2.2.2.2.2.2.2.2.1).trans (hF2.2.2.2.2.2.2.2.2.2.2.2.2.2.2.2.2.2.2.2.2.2.2.2.2.2.2.2.2.2.2.2.2.2.2.2.2.1), (hf.2.2.2.2.2.2.2.2.2.2.2.2.2.2.2.2.2.2.2.2.2.2.2.2.2.2.2.2.2.2.2.2.2.2.2.2.2.2.2.1).trans (hF2.2.2.2.2.2.2.2.2.2.2.2.2.2.2.2.2.2.2.2.2.2.2.2.2.2.2.2.2.2.2.2.2.2.2.2.2.2.1), (hf.2.2.2.2.2.2.2.2.2.2.2.2.2.2.2.2.2.2.2.2.2.2.2.2.2.2.2.2.2.2.2.2.2.2.2.2.2.2.2.2.1).trans (hF2.2.2.2.2.2.2.2.2.2.2.2.2.2.2.2.2.2.2.2.2.2.2.2.2.2.2.2.2.2.2.2.2.2.2.2.2.2.2.1), (hf.2.2.2.2.2.2.2.2.2.2.2.2.2.2.2.2.2.2.2.2.2.2.2.2.2.2.2.2.2.2.2.2.2.2.2.2.2.2.2.2.2.1).trans (hF2.2.2.2.2.2.2.2.2.2.2.2.2.2.2.2.2.2.2.2.2.2.2.2.2.2.2.2.2.2.2.2.2.2.2.2.2.2.2.2.1), (hf.2.2.2.2.2.2.2.2.2.2.2.2.2.2.2.2.2.2.2.2.2.2.2.2.2.2.2.2.2.2.2.2.2.2.2.2.2.2.2.2.2.2).trans (hF2.2.2.2.2.2.2.2.2.2.2.2.2.2.2.2.2.2.2.2.2.2.2.2.2.2.2.2.2.2.2.2.2.2.2.2.2.2.2.2.2)⟩ ((congrArg Int32.toInt (hf.2.2.2.2.1)).trans t2) (fun hs => Or.inl ⟨p, hp, ?_, hC hs p hp⟩) hO h8 h10 h7
    have := hN hs p hp
    omega
  · simp only [pn, ea] at d
    have := hN hs q hq2
    omega
theorem sf_X9_key {S : bT9} (hJ : K9 S) {a1 : Int32} {Q : Int64 → Prop} (hp0 : 0 ≤ a1.toInt) (hp1 : a1.toInt ≤ 63) (hq : ∀ r : Int64, (r = b9g_keys S ((64 : Int32) + a1).toNatClampNeg) → Q r) : wp_X9_key S a1 Q := by
  unfold wp_X9_key
  exact ⟨pt_in (by (try simp (disch := first | ((try simp (disch := first | ((try simp only [pn]) <;> omega) | fail) only [pn, pq]) <;> omega) | fail) only [pn, pq]) <;> (intros; (try simp (disch := first | ((try simp (disch := first | ((try simp only [pn]) <;> omega) | fail) only [pn, pq]) <;> omega) | fail) only [pn, pq]) <;> omega)) (by (try simp (disch := first | ((try simp (disch := first | ((try simp only [pn]) <;> omega) | fail) only [pn, pq]) <;> omega) | fail) only [pn, pq]) <;> (intros; (try simp (disch := first | ((try simp (disch := first | ((try simp only [pn]) <;> omega) | fail) only [pn, pq]) <;> omega) | fail) only [pn, pq]) <;> omega)), hq _ rfl⟩
set_option maxRecDepth 20000 in
set_option maxHeartbeats 8000000 in
theorem sf_X9_lengthOf {S : bT9} (hJ : K9 S) {a1 : Int32} {Q : Int32 → Prop} (hp0 : 0 ≤ a1.toInt) (hp1 : a1.toInt ≤ 63) (hq : ∀ r : Int32, (r.toInt = (b9g_lengths S ((64 : Int32) + a1).toNatClampNeg).toInt) → (0 ≤ r.toInt) → (r.toInt ≤ 8) → Q r) : wp_X9_lengthOf S a1 Q := by
  unfold wp_X9_lengthOf
  have jf1 : (-4 ≤ ((b9g_now S) 1).toInt ∧ ((b9g_now S) 1).toInt ≤ 4) ∧ (-3 ≤ ((b9g_now S) 4).toInt ∧ ((b9g_now S) 4).toInt ≤ 252) ∧ (0 ≤ ((b9g_now S) 8).toInt ∧ ((b9g_now S) 8).toInt ≤ 64) ∧ (0 ≤ ((b9g_now S) 9).toInt ∧ ((b9g_now S) 9).toInt ≤ 64) ∧ (0 ≤ ((b9g_now S) 10).toInt ∧ ((b9g_now S) 10).toInt ≤ 16) ∧ (0 ≤ ((b9g_now S) 12).toInt ∧ ((b9g_now S) 12).toInt ≤ 8) := K9g_now hJ
  have rga1 := pt_rg a1
  refine ⟨pt_in (by (try simp (disch := first | ((try simp (disch := first | ((try simp only [pn]) <;> omega) | fail) only [pn, pq]) <;> omega) | fail) only [pn, pq]) <;> (intros; (try simp (disch := first | ((try simp (disch := first | ((try simp only [pn]) <;> omega) | fail) only [pn, pq]) <;> omega) | fail) only [pn, pq]) <;> omega)) (by (try simp (disch := first | ((try simp (disch := first | ((try simp only [pn]) <;> omega) | fail) only [pn, pq]) <;> omega) | fail) only [pn, pq]) <;> (intros; (try simp (disch := first | ((try simp (disch := first | ((try simp only [pn]) <;> omega) | fail) only [pn, pq]) <;> omega) | fail) only [pn, pq]) <;> omega)), ?_⟩
  have jr2 := K9g_lengths hJ (((64 : Int32) + a1)).toNatClampNeg
  try simp (disch := first | ((try simp (disch := first | ((try simp only [pn]) <;> omega) | fail) only [pn, pq]) <;> omega) | fail) only [pn, pq] at jr2
  exact hq _ (by (try simp (disch := first | ((try simp (disch := first | ((try simp only [pn]) <;> omega) | fail) only [pn, pq]) <;> omega) | fail) only [pn, pq]) <;> (intros; (try simp (disch := first | ((try simp (disch := first | ((try simp only [pn]) <;> omega) | fail) only [pn, pq]) <;> omega) | fail) only [pn, pq]) <;> omega)) (by (try simp (disch := first | ((try simp (disch := first | ((try simp only [pn]) <;> omega) | fail) only [pn, pq]) <;> omega) | fail) only [pn, pq]) <;> (intros; (try simp (disch := first | ((try simp (disch := first | ((try simp only [pn]) <;> omega) | fail) only [pn, pq]) <;> omega) | fail) only [pn, pq]) <;> omega)) (by (try simp (disch := first | ((try simp (disch := first | ((try simp only [pn]) <;> omega) | fail) only [pn, pq]) <;> omega) | fail) only [pn, pq]) <;> (intros; (try simp (disch := first | ((try simp (disch := first | ((try simp only [pn]) <;> omega) | fail) only [pn, pq]) <;> omega) | fail) only [pn, pq]) <;> omega))
set_option maxRecDepth 20000 in
set_option maxHeartbeats 8000000 in
theorem sf_X9_alike {S : bT9} (hJ : K9 S) {a1 : Int32} {a2 : Int32} {Q : Int32 → Prop} (hp0 : -1 ≤ a1.toInt) (hp1 : a1.toInt ≤ 63) (hp2 : a2.toInt = a1.toInt + 1) (hq : ∀ r : Int32, (0 ≤ r.toInt) → (r.toInt ≤ 8) → (r.toInt = 0 ∨ r.toInt ≤ (b9g_lengths S ((64 : Int32) + a1).toNatClampNeg).toInt) → (r.toInt = 0 ∨ r.toInt ≤ (b9g_lengths S ((64 : Int32) + a2).toNatClampNeg).toInt) → Q r) : wp_X9_alike S a1 a2 Q := by
  unfold wp_X9_alike
  have jf1 : (-4 ≤ ((b9g_now S) 1).toInt ∧ ((b9g_now S) 1).toInt ≤ 4) ∧ (-3 ≤ ((b9g_now S) 4).toInt ∧ ((b9g_now S) 4).toInt ≤ 252) ∧ (0 ≤ ((b9g_now S) 8).toInt ∧ ((b9g_now S) 8).toInt ≤ 64) ∧ (0 ≤ ((b9g_now S) 9).toInt ∧ ((b9g_now S) 9).toInt ≤ 64) ∧ (0 ≤ ((b9g_now S) 10).toInt ∧ ((b9g_now S) 10).toInt ≤ 16) ∧ (0 ≤ ((b9g_now S) 12).toInt ∧ ((b9g_now S) 12).toInt ≤ 8) := K9g_now hJ
  have rga1 := pt_rg a1
  have rga2 := pt_rg a2
  refine ⟨fun c1 => ?_, fun c1 => ?_⟩
  · try simp (disch := first | ((try simp (disch := first | ((try simp only [pn]) <;> omega) | fail) only [pn, pq]) <;> omega) | fail) only [pn, pq] at c1
    exact hq _ (by (try simp (disch := first | ((try simp (disch := first | ((try simp only [pn]) <;> omega) | fail) only [pn, pq]) <;> omega) | fail) only [pn, pq]) <;> (intros; (try simp (disch := first | ((try simp (disch := first | ((try simp only [pn]) <;> omega) | fail) only [pn, pq]) <;> omega) | fail) only [pn, pq]) <;> omega)) (by (try simp (disch := first | ((try simp (disch := first | ((try simp only [pn]) <;> omega) | fail) only [pn, pq]) <;> omega) | fail) only [pn, pq]) <;> (intros; (try simp (disch := first | ((try simp (disch := first | ((try simp only [pn]) <;> omega) | fail) only [pn, pq]) <;> omega) | fail) only [pn, pq]) <;> omega)) (by (try simp (disch := first | ((try simp (disch := first | ((try simp only [pn]) <;> omega) | fail) only [pn, pq]) <;> omega) | fail) only [pn, pq]) <;> (intros; (try simp (disch := first | ((try simp (disch := first | ((try simp only [pn]) <;> omega) | fail) only [pn, pq]) <;> omega) | fail) only [pn, pq]) <;> omega)) (by (try simp (disch := first | ((try simp (disch := first | ((try simp only [pn]) <;> omega) | fail) only [pn, pq]) <;> omega) | fail) only [pn, pq]) <;> (intros; (try simp (disch := first | ((try simp (disch := first | ((try simp only [pn]) <;> omega) | fail) only [pn, pq]) <;> omega) | fail) only [pn, pq]) <;> omega))
  · try simp (disch := first | ((try simp (disch := first | ((try simp only [pn]) <;> omega) | fail) only [pn, pq]) <;> omega) | fail) only [pn, pq] at c1
    refine ⟨pt_in (by (try simp (disch := first | ((try simp (disch := first | ((try simp only [pn]) <;> omega) | fail) only [pn, pq]) <;> omega) | fail) only [pn, pq]) <;> (intros; (try simp (disch := first | ((try simp (disch := first | ((try simp only [pn]) <;> omega) | fail) only [pn, pq]) <;> omega) | fail) only [pn, pq]) <;> omega)) (by (try simp (disch := first | ((try simp (disch := first | ((try simp only [pn]) <;> omega) | fail) only [pn, pq]) <;> omega) | fail) only [pn, pq]) <;> (intros; (try simp (disch := first | ((try simp (disch := first | ((try simp only [pn]) <;> omega) | fail) only [pn, pq]) <;> omega) | fail) only [pn, pq]) <;> omega)), ?_⟩
    refine ⟨fun c2 => ?_, fun c2 => ?_⟩
    · try simp (disch := first | ((try simp (disch := first | ((try simp only [pn]) <;> omega) | fail) only [pn, pq]) <;> omega) | fail) only [pn, pq] at c2
      refine ⟨fun n x1q3 x2q3 x3q3 => (x1q3 = a1) ∧ (x2q3 = a2) ∧ (0 ≤ (x3q3).toInt) ∧ ((x3q3).toInt ≤ 8) ∧ ((x3q3).toInt = 0 ∨ (x3q3).toInt ≤ (b9g_lengths S ((64 : Int32) + (x1q3)).toNatClampNeg).toInt) ∧ ((x3q3).toInt = 0 ∨ (x3q3).toInt ≤ (b9g_lengths S ((64 : Int32) + (x2q3)).toNatClampNeg).toInt) ∧ n = (8 - (x3q3).toInt).toNat, ⟨_, rfl, rfl, (by (try simp (disch := first | ((try simp (disch := first | ((try simp only [pn]) <;> omega) | fail) only [pn, pq]) <;> omega) | fail) only [pn, pq]) <;> (intros; (try simp (disch := first | ((try simp (disch := first | ((try simp only [pn]) <;> omega) | fail) only [pn, pq]) <;> omega) | fail) only [pn, pq]) <;> omega)), (by (try simp (disch := first | ((try simp (disch := first | ((try simp only [pn]) <;> omega) | fail) only [pn, pq]) <;> omega) | fail) only [pn, pq]) <;> (intros; (try simp (disch := first | ((try simp (disch := first | ((try simp only [pn]) <;> omega) | fail) only [pn, pq]) <;> omega) | fail) only [pn, pq]) <;> omega)), (by (try simp (disch := first | ((try simp (disch := first | ((try simp only [pn]) <;> omega) | fail) only [pn, pq]) <;> omega) | fail) only [pn, pq]) <;> (intros; (try simp (disch := first | ((try simp (disch := first | ((try simp only [pn]) <;> omega) | fail) only [pn, pq]) <;> omega) | fail) only [pn, pq]) <;> omega)), (by (try simp (disch := first | ((try simp (disch := first | ((try simp only [pn]) <;> omega) | fail) only [pn, pq]) <;> omega) | fail) only [pn, pq]) <;> (intros; (try simp (disch := first | ((try simp (disch := first | ((try simp only [pn]) <;> omega) | fail) only [pn, pq]) <;> omega) | fail) only [pn, pq]) <;> omega)), rfl⟩, ?_⟩
      rintro n4 x1q3 x2q3 x3q3 ⟨hkq3_0, hkq3_1, hiq3_0, hiq3_1, hiq3_2, hiq3_3, hn4⟩
      subst hkq3_0
      subst hkq3_1
      have rgx1q3 := pt_rg x1q3
      have rgx2q3 := pt_rg x2q3
      have rgx3q3 := pt_rg x3q3
      unfold wp_X9_alike_19b
      refine sf_X9_lengthOf hJ (by (try simp (disch := first | ((try simp (disch := first | ((try simp only [pn]) <;> omega) | fail) only [pn, pq]) <;> omega) | fail) only [pn, pq]) <;> (intros; (try simp (disch := first | ((try simp (disch := first | ((try simp only [pn]) <;> omega) | fail) only [pn, pq]) <;> omega) | fail) only [pn, pq]) <;> omega)) (by (try simp (disch := first | ((try simp (disch := first | ((try simp only [pn]) <;> omega) | fail) only [pn, pq]) <;> omega) | fail) only [pn, pq]) <;> (intros; (try simp (disch := first | ((try simp (disch := first | ((try simp only [pn]) <;> omega) | fail) only [pn, pq]) <;> omega) | fail) only [pn, pq]) <;> omega)) (fun r5 hr5_0 hr5_1 hr5_2 => ?_)
      have rgr5 := pt_rg r5
      try simp (disch := first | ((try simp (disch := first | ((try simp only [pn]) <;> omega) | fail) only [pn, pq]) <;> omega) | fail) only [pn, pq] at hr5_0
      try simp (disch := first | ((try simp (disch := first | ((try simp only [pn]) <;> omega) | fail) only [pn, pq]) <;> omega) | fail) only [pn, pq] at hr5_1
      try simp (disch := first | ((try simp (disch := first | ((try simp only [pn]) <;> omega) | fail) only [pn, pq]) <;> omega) | fail) only [pn, pq] at hr5_2
      refine ⟨fun c7 => ?_, fun c7 => ?_⟩
      · try simp (disch := first | ((try simp (disch := first | ((try simp only [pn]) <;> omega) | fail) only [pn, pq]) <;> omega) | fail) only [pn, pq] at c7
        exact hq _ (by (try simp (disch := first | ((try simp (disch := first | ((try simp only [pn]) <;> omega) | fail) only [pn, pq]) <;> omega) | fail) only [pn, pq]) <;> (intros; (try simp (disch := first | ((try simp (disch := first | ((try simp only [pn]) <;> omega) | fail) only [pn, pq]) <;> omega) | fail) only [pn, pq]) <;> omega)) (by (try simp (disch := first | ((try simp (disch := first | ((try simp only [pn]) <;> omega) | fail) only [pn, pq]) <;> omega) | fail) only [pn, pq]) <;> (intros; (try simp (disch := first | ((try simp (disch := first | ((try simp only [pn]) <;> omega) | fail) only [pn, pq]) <;> omega) | fail) only [pn, pq]) <;> omega)) (by (try simp (disch := first | ((try simp (disch := first | ((try simp only [pn]) <;> omega) | fail) only [pn, pq]) <;> omega) | fail) only [pn, pq]) <;> (intros; (try simp (disch := first | ((try simp (disch := first | ((try simp only [pn]) <;> omega) | fail) only [pn, pq]) <;> omega) | fail) only [pn, pq]) <;> omega)) (by (try simp (disch := first | ((try simp (disch := first | ((try simp only [pn]) <;> omega) | fail) only [pn, pq]) <;> omega) | fail) only [pn, pq]) <;> (intros; (try simp (disch := first | ((try simp (disch := first | ((try simp only [pn]) <;> omega) | fail) only [pn, pq]) <;> omega) | fail) only [pn, pq]) <;> omega))
      · try simp (disch := first | ((try simp (disch := first | ((try simp only [pn]) <;> omega) | fail) only [pn, pq]) <;> omega) | fail) only [pn, pq] at c7
        refine sf_X9_lengthOf hJ (by (try simp (disch := first | ((try simp (disch := first | ((try simp only [pn]) <;> omega) | fail) only [pn, pq]) <;> omega) | fail) only [pn, pq]) <;> (intros; (try simp (disch := first | ((try simp (disch := first | ((try simp only [pn]) <;> omega) | fail) only [pn, pq]) <;> omega) | fail) only [pn, pq]) <;> omega)) (by (try simp (disch := first | ((try simp (disch := first | ((try simp only [pn]) <;> omega) | fail) only [pn, pq]) <;> omega) | fail) only [pn, pq]) <;> (intros; (try simp (disch := first | ((try simp (disch := first | ((try simp only [pn]) <;> omega) | fail) only [pn, pq]) <;> omega) | fail) only [pn, pq]) <;> omega)) (fun r8 hr8_0 hr8_1 hr8_2 => ?_)
        have rgr8 := pt_rg r8
        try simp (disch := first | ((try simp (disch := first | ((try simp only [pn]) <;> omega) | fail) only [pn, pq]) <;> omega) | fail) only [pn, pq] at hr8_0
        try simp (disch := first | ((try simp (disch := first | ((try simp only [pn]) <;> omega) | fail) only [pn, pq]) <;> omega) | fail) only [pn, pq] at hr8_1
        try simp (disch := first | ((try simp (disch := first | ((try simp only [pn]) <;> omega) | fail) only [pn, pq]) <;> omega) | fail) only [pn, pq] at hr8_2
        refine ⟨fun c10 => ?_, fun c10 => ?_⟩
        · try simp (disch := first | ((try simp (disch := first | ((try simp only [pn]) <;> omega) | fail) only [pn, pq]) <;> omega) | fail) only [pn, pq] at c10
          exact hq _ (by (try simp (disch := first | ((try simp (disch := first | ((try simp only [pn]) <;> omega) | fail) only [pn, pq]) <;> omega) | fail) only [pn, pq]) <;> (intros; (try simp (disch := first | ((try simp (disch := first | ((try simp only [pn]) <;> omega) | fail) only [pn, pq]) <;> omega) | fail) only [pn, pq]) <;> omega)) (by (try simp (disch := first | ((try simp (disch := first | ((try simp only [pn]) <;> omega) | fail) only [pn, pq]) <;> omega) | fail) only [pn, pq]) <;> (intros; (try simp (disch := first | ((try simp (disch := first | ((try simp only [pn]) <;> omega) | fail) only [pn, pq]) <;> omega) | fail) only [pn, pq]) <;> omega)) (by (try simp (disch := first | ((try simp (disch := first | ((try simp only [pn]) <;> omega) | fail) only [pn, pq]) <;> omega) | fail) only [pn, pq]) <;> (intros; (try simp (disch := first | ((try simp (disch := first | ((try simp only [pn]) <;> omega) | fail) only [pn, pq]) <;> omega) | fail) only [pn, pq]) <;> omega)) (by (try simp (disch := first | ((try simp (disch := first | ((try simp only [pn]) <;> omega) | fail) only [pn, pq]) <;> omega) | fail) only [pn, pq]) <;> (intros; (try simp (disch := first | ((try simp (disch := first | ((try simp only [pn]) <;> omega) | fail) only [pn, pq]) <;> omega) | fail) only [pn, pq]) <;> omega))
        · try simp (disch := first | ((try simp (disch := first | ((try simp only [pn]) <;> omega) | fail) only [pn, pq]) <;> omega) | fail) only [pn, pq] at c10
          refine sf_X9_key hJ (by (try simp (disch := first | ((try simp (disch := first | ((try simp only [pn]) <;> omega) | fail) only [pn, pq]) <;> omega) | fail) only [pn, pq]) <;> (intros; (try simp (disch := first | ((try simp (disch := first | ((try simp only [pn]) <;> omega) | fail) only [pn, pq]) <;> omega) | fail) only [pn, pq]) <;> omega)) (by (try simp (disch := first | ((try simp (disch := first | ((try simp only [pn]) <;> omega) | fail) only [pn, pq]) <;> omega) | fail) only [pn, pq]) <;> (intros; (try simp (disch := first | ((try simp (disch := first | ((try simp only [pn]) <;> omega) | fail) only [pn, pq]) <;> omega) | fail) only [pn, pq]) <;> omega)) (fun r11 hr11_0 => ?_)
          try simp (disch := first | ((try simp (disch := first | ((try simp only [pn]) <;> omega) | fail) only [pn, pq]) <;> omega) | fail) only [pn, pq] at hr11_0
          refine sf_X9_byteOf hJ (fun r13  => ?_)
          have rgr13 := pt_rg r13
          refine sf_X9_key hJ (by (try simp (disch := first | ((try simp (disch := first | ((try simp only [pn]) <;> omega) | fail) only [pn, pq]) <;> omega) | fail) only [pn, pq]) <;> (intros; (try simp (disch := first | ((try simp (disch := first | ((try simp only [pn]) <;> omega) | fail) only [pn, pq]) <;> omega) | fail) only [pn, pq]) <;> omega)) (by (try simp (disch := first | ((try simp (disch := first | ((try simp only [pn]) <;> omega) | fail) only [pn, pq]) <;> omega) | fail) only [pn, pq]) <;> (intros; (try simp (disch := first | ((try simp (disch := first | ((try simp only [pn]) <;> omega) | fail) only [pn, pq]) <;> omega) | fail) only [pn, pq]) <;> omega)) (fun r15 hr15_0 => ?_)
          try simp (disch := first | ((try simp (disch := first | ((try simp only [pn]) <;> omega) | fail) only [pn, pq]) <;> omega) | fail) only [pn, pq] at hr15_0
          refine sf_X9_byteOf hJ (fun r17  => ?_)
          have rgr17 := pt_rg r17
          refine ⟨fun c19 => ?_, fun c19 => ?_⟩
          · try simp (disch := first | ((try simp (disch := first | ((try simp only [pn]) <;> omega) | fail) only [pn, pq]) <;> omega) | fail) only [pn, pq] at c19
            exact hq _ (by (try simp (disch := first | ((try simp (disch := first | ((try simp only [pn]) <;> omega) | fail) only [pn, pq]) <;> omega) | fail) only [pn, pq]) <;> (intros; (try simp (disch := first | ((try simp (disch := first | ((try simp only [pn]) <;> omega) | fail) only [pn, pq]) <;> omega) | fail) only [pn, pq]) <;> omega)) (by (try simp (disch := first | ((try simp (disch := first | ((try simp only [pn]) <;> omega) | fail) only [pn, pq]) <;> omega) | fail) only [pn, pq]) <;> (intros; (try simp (disch := first | ((try simp (disch := first | ((try simp only [pn]) <;> omega) | fail) only [pn, pq]) <;> omega) | fail) only [pn, pq]) <;> omega)) (by (try simp (disch := first | ((try simp (disch := first | ((try simp only [pn]) <;> omega) | fail) only [pn, pq]) <;> omega) | fail) only [pn, pq]) <;> (intros; (try simp (disch := first | ((try simp (disch := first | ((try simp only [pn]) <;> omega) | fail) only [pn, pq]) <;> omega) | fail) only [pn, pq]) <;> omega)) (by (try simp (disch := first | ((try simp (disch := first | ((try simp only [pn]) <;> omega) | fail) only [pn, pq]) <;> omega) | fail) only [pn, pq]) <;> (intros; (try simp (disch := first | ((try simp (disch := first | ((try simp only [pn]) <;> omega) | fail) only [pn, pq]) <;> omega) | fail) only [pn, pq]) <;> omega))
          · try simp (disch := first | ((try simp (disch := first | ((try simp only [pn]) <;> omega) | fail) only [pn, pq]) <;> omega) | fail) only [pn, pq] at c19
            refine ⟨_, ?_, ?_, ?_, ?_, ?_, ?_, ?_, rfl⟩
            · (try simp (disch := first | ((try simp (disch := first | ((try simp only [pn]) <;> omega) | fail) only [pn, pq]) <;> omega) | fail) only [pn, pq]) <;> (intros; (try simp (disch := first | ((try simp (disch := first | ((try simp only [pn]) <;> omega) | fail) only [pn, pq]) <;> omega) | fail) only [pn, pq]) <;> omega)
            · first | rfl | assumption
            · first | rfl | assumption
            · (try simp (disch := first | ((try simp (disch := first | ((try simp only [pn]) <;> omega) | fail) only [pn, pq]) <;> omega) | fail) only [pn, pq]) <;> (intros; (try simp (disch := first | ((try simp (disch := first | ((try simp only [pn]) <;> omega) | fail) only [pn, pq]) <;> omega) | fail) only [pn, pq]) <;> omega)
            · (try simp (disch := first | ((try simp (disch := first | ((try simp only [pn]) <;> omega) | fail) only [pn, pq]) <;> omega) | fail) only [pn, pq]) <;> (intros; (try simp (disch := first | ((try simp (disch := first | ((try simp only [pn]) <;> omega) | fail) only [pn, pq]) <;> omega) | fail) only [pn, pq]) <;> omega)
            · (try simp (disch := first | ((try simp (disch := first | ((try simp only [pn]) <;> omega) | fail) only [pn, pq]) <;> omega) | fail) only [pn, pq]) <;> (intros; (try simp (disch := first | ((try simp (disch := first | ((try simp only [pn]) <;> omega) | fail) only [pn, pq]) <;> omega) | fail) only [pn, pq]) <;> omega)
            · (try simp (disch := first | ((try simp (disch := first | ((try simp only [pn]) <;> omega) | fail) only [pn, pq]) <;> omega) | fail) only [pn, pq]) <;> (intros; (try simp (disch := first | ((try simp (disch := first | ((try simp only [pn]) <;> omega) | fail) only [pn, pq]) <;> omega) | fail) only [pn, pq]) <;> omega)
    · try simp (disch := first | ((try simp (disch := first | ((try simp only [pn]) <;> omega) | fail) only [pn, pq]) <;> omega) | fail) only [pn, pq] at c2
      exact hq _ (by (try simp (disch := first | ((try simp (disch := first | ((try simp only [pn]) <;> omega) | fail) only [pn, pq]) <;> omega) | fail) only [pn, pq]) <;> (intros; (try simp (disch := first | ((try simp (disch := first | ((try simp only [pn]) <;> omega) | fail) only [pn, pq]) <;> omega) | fail) only [pn, pq]) <;> omega)) (by (try simp (disch := first | ((try simp (disch := first | ((try simp only [pn]) <;> omega) | fail) only [pn, pq]) <;> omega) | fail) only [pn, pq]) <;> (intros; (try simp (disch := first | ((try simp (disch := first | ((try simp only [pn]) <;> omega) | fail) only [pn, pq]) <;> omega) | fail) only [pn, pq]) <;> omega)) (by (try simp (disch := first | ((try simp (disch := first | ((try simp only [pn]) <;> omega) | fail) only [pn, pq]) <;> omega) | fail) only [pn, pq]) <;> (intros; (try simp (disch := first | ((try simp (disch := first | ((try simp only [pn]) <;> omega) | fail) only [pn, pq]) <;> omega) | fail) only [pn, pq]) <;> omega)) (by (try simp (disch := first | ((try simp (disch := first | ((try simp only [pn]) <;> omega) | fail) only [pn, pq]) <;> omega) | fail) only [pn, pq]) <;> (intros; (try simp (disch := first | ((try simp (disch := first | ((try simp only [pn]) <;> omega) | fail) only [pn, pq]) <;> omega) | fail) only [pn, pq]) <;> omega))
