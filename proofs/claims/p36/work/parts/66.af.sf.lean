set_option maxRecDepth 20000 in
set_option maxHeartbeats 8000000 in
theorem sf_X9_isEnded {S : bT9} (hJ : K9 S) {a1 : Int32} {Q : Int32 → Prop} (hp0 : 0 ≤ a1.toInt) (hp1 : a1.toInt ≤ 63) (hq : ∀ r : Int32, bf_bool r → Q r) : wp_X9_isEnded S a1 Q := by
  unfold wp_X9_isEnded
  have jf1 : (-4 ≤ ((b9g_now S) 1).toInt ∧ ((b9g_now S) 1).toInt ≤ 4) ∧ (-3 ≤ ((b9g_now S) 4).toInt ∧ ((b9g_now S) 4).toInt ≤ 252) ∧ (0 ≤ ((b9g_now S) 8).toInt ∧ ((b9g_now S) 8).toInt ≤ 64) ∧ (0 ≤ ((b9g_now S) 9).toInt ∧ ((b9g_now S) 9).toInt ≤ 64) ∧ (0 ≤ ((b9g_now S) 10).toInt ∧ ((b9g_now S) 10).toInt ≤ 16) ∧ (0 ≤ ((b9g_now S) 12).toInt ∧ ((b9g_now S) 12).toInt ≤ 8) := K9g_now hJ
  have rga1 := pt_rg a1
  refine ⟨pt_in (by (try simp (disch := first | ((try simp (disch := first | ((try simp only [pn]) <;> omega) | fail) only [pn, pq]) <;> omega) | fail) only [pn, pq]) <;> (intros; (try simp (disch := first | ((try simp (disch := first | ((try simp only [pn]) <;> omega) | fail) only [pn, pq]) <;> omega) | fail) only [pn, pq]) <;> omega)) (by (try simp (disch := first | ((try simp (disch := first | ((try simp only [pn]) <;> omega) | fail) only [pn, pq]) <;> omega) | fail) only [pn, pq]) <;> (intros; (try simp (disch := first | ((try simp (disch := first | ((try simp only [pn]) <;> omega) | fail) only [pn, pq]) <;> omega) | fail) only [pn, pq]) <;> omega)), ?_⟩
  have jr2 := K9g_common hJ (a1).toNatClampNeg
  try simp (disch := first | ((try simp (disch := first | ((try simp only [pn]) <;> omega) | fail) only [pn, pq]) <;> omega) | fail) only [pn, pq] at jr2
  refine sf_X9_lengthOf hJ (by (try simp (disch := first | ((try simp (disch := first | ((try simp only [pn]) <;> omega) | fail) only [pn, pq]) <;> omega) | fail) only [pn, pq]) <;> (intros; (try simp (disch := first | ((try simp (disch := first | ((try simp only [pn]) <;> omega) | fail) only [pn, pq]) <;> omega) | fail) only [pn, pq]) <;> omega)) (by (try simp (disch := first | ((try simp (disch := first | ((try simp only [pn]) <;> omega) | fail) only [pn, pq]) <;> omega) | fail) only [pn, pq]) <;> (intros; (try simp (disch := first | ((try simp (disch := first | ((try simp only [pn]) <;> omega) | fail) only [pn, pq]) <;> omega) | fail) only [pn, pq]) <;> omega)) (fun r1 hr1_0 hr1_1 hr1_2 => ?_)
  have rgr1 := pt_rg r1
  try simp (disch := first | ((try simp (disch := first | ((try simp only [pn]) <;> omega) | fail) only [pn, pq]) <;> omega) | fail) only [pn, pq] at hr1_0
  try simp (disch := first | ((try simp (disch := first | ((try simp only [pn]) <;> omega) | fail) only [pn, pq]) <;> omega) | fail) only [pn, pq] at hr1_1
  try simp (disch := first | ((try simp (disch := first | ((try simp only [pn]) <;> omega) | fail) only [pn, pq]) <;> omega) | fail) only [pn, pq] at hr1_2
  refine ⟨fun c3 => ?_, fun c3 => ?_⟩
  · try simp (disch := first | ((try simp (disch := first | ((try simp only [pn]) <;> omega) | fail) only [pn, pq]) <;> omega) | fail) only [pn, pq] at c3
    exact ⟨by first | rfl | assumption, hq _ (by first | rfl | assumption) ⟩
  · try simp (disch := first | ((try simp (disch := first | ((try simp only [pn]) <;> omega) | fail) only [pn, pq]) <;> omega) | fail) only [pn, pq] at c3
    exact ⟨by first | rfl | assumption, hq _ (by first | rfl | assumption) ⟩
def F_X9_build (S u : bT9) : Prop := (b9g_drawn u) = (b9g_drawn S) ∧ (b9g_drawnLength u) = (b9g_drawnLength S) ∧ (b9g_tape u) = (b9g_tape S) ∧ (b9g_taped u) = (b9g_taped S) ∧ (b9g_names u) = (b9g_names S) ∧ (b9g_chosen u) = (b9g_chosen S) ∧ (b9g_common u) = (b9g_common S) ∧ (b9g_beginning u) = (b9g_beginning S) ∧ (b9g_nodeLevel u) = (b9g_nodeLevel S) ∧ (b9g_nodeLeaf u) = (b9g_nodeLeaf S) ∧ (b9g_nodeLeaves u) = (b9g_nodeLeaves S) ∧ (b9g_nodeMany u) = (b9g_nodeMany S) ∧ (b9g_levelMany u) = (b9g_levelMany S) ∧ (b9g_upper u) = (b9g_upper S) ∧ (b9g_upperNodes u) = (b9g_upperNodes S) ∧ (b9g_itemNode u) = (b9g_itemNode S) ∧ (b9g_itemByte u) = (b9g_itemByte S) ∧ (b9g_itemChild u) = (b9g_itemChild S) ∧ (b9g_itemMany u) = (b9g_itemMany S) ∧ (b9g_placeOf u) = (b9g_placeOf S) ∧ (b9g_leafOfPlace u) = (b9g_leafOfPlace S) ∧ (b9g_places u) = (b9g_places S) ∧ (b9g_lowKey u) = (b9g_lowKey S) ∧ (b9g_highKey u) = (b9g_highKey S) ∧ (b9g_lowLength u) = (b9g_lowLength S) ∧ (b9g_highLength u) = (b9g_highLength S) ∧ (b9g_fromKey u) = (b9g_fromKey S) ∧ (b9g_toKey u) = (b9g_toKey S) ∧ (b9g_fromLength u) = (b9g_fromLength S) ∧ (b9g_toLength u) = (b9g_toLength S) ∧ (b9g_ones u) = (b9g_ones S) ∧ (b9g_oneMany u) = (b9g_oneMany S) ∧ (b9g_rowLong u) = (b9g_rowLong S) ∧ (b9g_laidFor u) = (b9g_laidFor S) ∧ (b9g_signs u) = (b9g_signs S) ∧ (b9g_signMany u) = (b9g_signMany S) ∧ (b9g_hasImage u) = (b9g_hasImage S) ∧ (b9g_images u) = (b9g_images S) ∧ (b9g_keyImages u) = (b9g_keyImages S) ∧ (b9g_lengthImages u) = (b9g_lengthImages S)
theorem sf_X9_build {S : bT9} (hJ : J9 S) {Q : Int32 → (bT9) → Prop} (hq : ∀ (r : Int32) (u : bT9), (J9 u) → F_X9_build S u → (r.toInt = (b9g_now S 8).toInt) → (b9g_now u 8 = b9g_now S 8) → (b9g_now u 4 = b9g_now S 4) → (∀ j : Nat, j < 64 → b9g_keys u j = b9g_keys S j ∧ b9g_lengths u j = b9g_lengths S j) → (∀ j : Nat, (j : Int) < (b9g_now S 8).toInt → b9g_keys u (64 + j) = b9g_keys S j ∧ b9g_lengths u (64 + j) = b9g_lengths S j) → (b9g_now u 9 = b9g_now S 8) → (b9g_now u 11 = b9g_now S 0 + 4 ∧ b9g_now u 12 = b9g_now S 1 + 4 ∧ b9g_now u 13 = b9g_now S 2 + 9 + 1 ∧ b9g_now u 14 = b9g_now S 3 + 16 ∧ b9g_now u 15 = b9g_now S 6 ∧ b9g_now u 16 = b9g_now S 5) → (∀ i : Nat, i < 11 → i ≠ 9 → b9g_now u i = b9g_now S i) → (∀ i : Nat, 17 ≤ i → b9g_now u i = b9g_now S i) → (∀ j : Nat, 128 ≤ j → b9g_keys u j = b9g_keys S j ∧ b9g_lengths u j = b9g_lengths S j) → (b9g_now u 10 = b9g_now S 10) → (b9g_now u 7 = b9g_now S 7) → Q r u) : wp_X9_build S Q := by
  have jn := (J9g_now hJ).2.2.1
  have c8 : ((8 : Int32)).toNatClampNeg = 8 := by decide
  have v8 : vp_in (8 : Int32) 23 := pt_in (by decide) (by decide)
  unfold wp_X9_build
  intro S0 e0
  have hJ0 : M9 S0 := by rw [e0]; exact ⟨K9s_told hJ.1, hJ.2.1⟩
  have hF0 : F_X9_build S S0 := by rw [e0]; exact ⟨rfl, rfl, rfl, rfl, rfl, rfl, rfl, rfl, rfl, rfl, rfl, rfl, rfl, rfl, rfl, rfl, rfl, rfl, rfl, rfl, rfl, rfl, rfl, rfl, rfl, rfl, rfl, rfl, rfl, rfl, rfl, rfl, rfl, rfl, rfl, rfl, rfl, rfl, rfl, rfl⟩
  have k0 : b9g_keys S0 = b9g_keys S := by rw [e0]
  have l0 : b9g_lengths S0 = b9g_lengths S := by rw [e0]
  have n0 : b9g_now S0 = b9g_now S := by rw [e0]
  unfold wp_X9_build_7
  refine ⟨fun n x1 V => 0 ≤ x1.toInt ∧ x1.toInt ≤ (b9g_now S 8).toInt ∧ M9 V ∧ F_X9_build S V ∧ b9g_now V = b9g_now S ∧ (∀ j : Nat, j < 64 → b9g_keys V j = b9g_keys S j ∧ b9g_lengths V j = b9g_lengths S j) ∧ (∀ j : Nat, (j : Int) < x1.toInt → b9g_keys V (64 + j) = b9g_keys S j ∧ b9g_lengths V (64 + j) = b9g_lengths S j) ∧ (∀ j : Nat, 128 ≤ j → b9g_keys V j = b9g_keys S j ∧ b9g_lengths V j = b9g_lengths S j) ∧ n = ((b9g_now S 8).toInt - x1.toInt).toNat, ⟨_, by decide, by rw [pl_0]; exact jn.1, hJ0, hF0, n0, fun j hj => ⟨by rw [k0], by rw [l0]⟩, fun j hj => by rw [pl_0] at hj; omega, fun j hj => ⟨by rw [k0], by rw [l0]⟩, rfl⟩, ?_⟩
  rintro n x1 V ⟨h0, h1, hJV, hFV, nV, lo, hi, upr, hn⟩
  unfold wp_X9_build_7b
  rw [c8, nV]
  refine ⟨v8, fun c => ?_, fun c => ?_⟩
  · simp only [pn] at c
    have ex : x1.toInt = (b9g_now S 8).toInt := by omega
    rw [ex] at hi
    refine ⟨v8, pt_in (by decide) (by decide), fun S1 e1 => ?_⟩
    have n1 : b9g_now S1 = upd (b9g_now S) 9 (b9g_now S 8) := by rw [e1]; rfl
    have hJ1 : M9 S1 := by rw [e1, ← nV]; exact ⟨K9s_now hJV.1 (NW_set (K9g_now hJV.1) (fun e => absurd e (by decide)) (fun e => absurd e (by decide)) (fun e => absurd e (by decide)) (fun _ => by rw [nV]; exact jn) (fun e => absurd e (by decide)) (fun e => absurd e (by decide))), hJV.2⟩
    refine sf_X9_settingOf hJ1.1 (by decide) (by decide) (fun r2 _ _ _ s2 => ⟨pt_in (by decide) (by decide), fun S4 e4 => ?_⟩)
    have n4 : b9g_now S4 = upd (b9g_now S1) 11 r2 := by rw [e4]; rfl
    have hJ4 : M9 S4 := by rw [e4]; exact ⟨K9s_now hJ1.1 (NW_set (K9g_now hJ1.1) (fun e => absurd e (by decide)) (fun e => absurd e (by decide)) (fun e => absurd e (by decide)) (fun e => absurd e (by decide)) (fun e => absurd e (by decide)) (fun e => absurd e (by decide))), hJ1.2⟩
    refine sf_X9_settingOf hJ4.1 (by decide) (by decide) (fun r5 _ q5 _ s5 => ⟨pt_in (by decide) (by decide), fun S7 e7 => ?_⟩)
    have n7 : b9g_now S7 = upd (b9g_now S4) 12 r5 := by rw [e7]; rfl
    have hJ7 : M9 S7 := by rw [e7]; exact ⟨K9s_now hJ4.1 (NW_set (K9g_now hJ4.1) (fun e => absurd e (by decide)) (fun e => absurd e (by decide)) (fun e => absurd e (by decide)) (fun e => absurd e (by decide)) (fun e => absurd e (by decide)) (fun _ => q5 (by decide))), hJ4.2⟩
    refine sf_X9_settingOf hJ7.1 (by decide) (by decide) (fun r8 _ _ _ s8 => ⟨pt_in (by decide) (by decide), fun S10 e10 => ?_⟩)
    have n10 : b9g_now S10 = upd (b9g_now S7) 13 (r8 + 1) := by rw [e10]; rfl
    have hJ10 : M9 S10 := by rw [e10]; exact ⟨K9s_now hJ7.1 (NW_set (K9g_now hJ7.1) (fun e => absurd e (by decide)) (fun e => absurd e (by decide)) (fun e => absurd e (by decide)) (fun e => absurd e (by decide)) (fun e => absurd e (by decide)) (fun e => absurd e (by decide))), hJ7.2⟩
    refine sf_X9_settingOf hJ10.1 (by decide) (by decide) (fun r11 _ _ _ s11 => ⟨pt_in (by decide) (by decide), fun S13 e13 => ?_⟩)
    have n13 : b9g_now S13 = upd (b9g_now S10) 14 r11 := by rw [e13]; rfl
    have hJ13 : M9 S13 := by rw [e13]; exact ⟨K9s_now hJ10.1 (NW_set (K9g_now hJ10.1) (fun e => absurd e (by decide)) (fun e => absurd e (by decide)) (fun e => absurd e (by decide)) (fun e => absurd e (by decide)) (fun e => absurd e (by decide)) (fun e => absurd e (by decide))), hJ10.2⟩
    refine ⟨pt_in (by decide) (by decide), pt_in (by decide) (by decide), fun S14 e14 => ?_⟩
    have n14 : b9g_now S14 = upd (b9g_now S13) 15 (b9g_now S13 6) := by rw [e14]; rfl
    have hJ14 : M9 S14 := by rw [e14]; exact ⟨K9s_now hJ13.1 (NW_set (K9g_now hJ13.1) (fun e => absurd e (by decide)) (fun e => absurd e (by decide)) (fun e => absurd e (by decide)) (fun e => absurd e (by decide)) (fun e => absurd e (by decide)) (fun e => absurd e (by decide))), hJ13.2⟩
    refine ⟨pt_in (by decide) (by decide), pt_in (by decide) (by decide), fun S15 e15 S16 e16 S17 e17 => ⟨pt_in (by decide) (by decide), ?_⟩⟩
    have n15 : b9g_now S15 = upd (b9g_now S14) 16 (b9g_now S14 5) := by rw [e15]; rfl
    have hJ15 : M9 S15 := by rw [e15]; exact ⟨K9s_now hJ14.1 (NW_set (K9g_now hJ14.1) (fun e => absurd e (by decide)) (fun e => absurd e (by decide)) (fun e => absurd e (by decide)) (fun e => absurd e (by decide)) (fun e => absurd e (by decide)) (fun e => absurd e (by decide))), hJ14.2⟩
    have hJ17 : J9 S17 := by rw [e17, e16]; exact ⟨K9s_areNodesLaid (K9s_isLaid hJ15.1), hJ15.2, LD_0 rfl⟩
    have n17 : b9g_now S17 = b9g_now S15 := by rw [e17, e16]
    have oth : ∀ i : Nat, i ≠ 9 → i < 11 → b9g_now S17 i = b9g_now S i := by
      intro i h9 h11
      rw [n17, n15, n14, n13, n10, n7, n4, n1]
      unfold upd
      rw [if_neg (by omega), if_neg (by omega), if_neg (by omega), if_neg (by omega), if_neg (by omega), if_neg (by omega), if_neg h9]
    have o9 : b9g_now S17 9 = b9g_now S 8 := by
      rw [n17, n15, n14, n13, n10, n7, n4, n1]
      unfold upd
      rw [if_neg (by decide), if_neg (by decide), if_neg (by decide), if_neg (by decide), if_neg (by decide), if_neg (by decide), if_pos rfl]
    have k17 : b9g_keys S17 = b9g_keys V := by rw [e17, e16, e15, e14, e13, e10, e7, e4, e1]
    have l17 : b9g_lengths S17 = b9g_lengths V := by rw [e17, e16, e15, e14, e13, e10, e7, e4, e1]
    have hF17 : F_X9_build S S17 := by rw [e17, e16, e15, e14, e13, e10, e7, e4, e1]; exact hFV
    have b11 : b9g_now S17 11 = b9g_now S 0 + 4 := by
      have q : b9g_now S1 0 = b9g_now S 0 := by rw [n1, up_n (by decide)]
      have z : r2 = b9g_now S1 0 + FST 0 := s2
      rw [n17, n15, n14, n13, n10, n7, n4, up_n (by decide), up_n (by decide), up_n (by decide), up_n (by decide), up_n (by decide), up_s, z, q]
      rfl
    have b12 : b9g_now S17 12 = b9g_now S 1 + 4 := by
      have q : b9g_now S4 1 = b9g_now S 1 := by rw [n4, n1, up_n (by decide), up_n (by decide)]
      have z : r5 = b9g_now S4 1 + FST 1 := s5
      rw [n17, n15, n14, n13, n10, n7, up_n (by decide), up_n (by decide), up_n (by decide), up_n (by decide), up_s, z, q]
      rfl
    have b13 : b9g_now S17 13 = b9g_now S 2 + 9 + 1 := by
      have q : b9g_now S7 2 = b9g_now S 2 := by rw [n7, n4, n1, up_n (by decide), up_n (by decide), up_n (by decide)]
      have z : r8 = b9g_now S7 2 + FST 2 := s8
      rw [n17, n15, n14, n13, n10, up_n (by decide), up_n (by decide), up_n (by decide), up_s, z, q]
      rfl
    have b14 : b9g_now S17 14 = b9g_now S 3 + 16 := by
      have q : b9g_now S10 3 = b9g_now S 3 := by rw [n10, n7, n4, n1, up_n (by decide), up_n (by decide), up_n (by decide), up_n (by decide)]
      have z : r11 = b9g_now S10 3 + FST 3 := s11
      rw [n17, n15, n14, n13, up_n (by decide), up_n (by decide), up_s, z, q]
      rfl
    have b15 : b9g_now S17 15 = b9g_now S 6 := by
      have q : b9g_now S13 6 = b9g_now S 6 := by rw [n13, n10, n7, n4, n1, up_n (by decide), up_n (by decide), up_n (by decide), up_n (by decide), up_n (by decide)]
      rw [n17, n15, n14, up_n (by decide), up_s, q]
    have b16 : b9g_now S17 16 = b9g_now S 5 := by
      have q : b9g_now S14 5 = b9g_now S 5 := by rw [n14, n13, n10, n7, n4, n1, up_n (by decide), up_n (by decide), up_n (by decide), up_n (by decide), up_n (by decide), up_n (by decide)]
      rw [n17, n15, up_s, q]
    have hi17 : ∀ i : Nat, 17 ≤ i → b9g_now S17 i = b9g_now S i := by
      intro i hi
      rw [n17, n15, n14, n13, n10, n7, n4, n1, up_n (by omega), up_n (by omega), up_n (by omega), up_n (by omega), up_n (by omega), up_n (by omega), up_n (by omega)]
    have c9 : ((9 : Int32)).toNatClampNeg = 9 := by decide
    rw [c9]
    exact hq _ _ hJ17 hF17 (by rw [o9]) (by rw [oth 8 (by decide) (by decide)]) (by rw [oth 4 (by decide) (by decide)]) (fun j hj => by rw [k17, l17]; exact lo j hj) (fun j hj => by rw [k17, l17]; exact hi j hj) o9 ⟨b11, b12, b13, b14, b15, b16⟩ (fun i h1 h2 => oth i h2 h1) hi17 (fun j hj => by rw [k17, l17]; exact upr j hj) (oth 10 (by decide) (by decide)) (oth 7 (by decide) (by decide))
  · simp only [pn] at c
    have e64 : ((64 : Int32) + x1).toInt = 64 + x1.toInt := by rw [pt_add (by rw [pl_64]; omega) (by rw [pl_64]; omega), pl_64]
    have x1' : (x1 + 1).toInt = x1.toInt + 1 := by rw [pt_add (by rw [pl_1]; omega) (by rw [pl_1]; omega), pl_1]
    have cx := pt_clamp h0
    have c64 := pt_clamp (i := (64 : Int32) + x1) (by omega)
    have v1 : vp_in x1 144 := pt_in (by omega) (by omega)
    have v2 : vp_in ((64 : Int32) + x1) 144 := pt_in (by omega) (by omega)
    refine ⟨v1, v2, fun S4 d4 => ⟨v1, v2, fun S5 d5 => ?_⟩⟩
    have hJ4 : M9 S4 := by rw [d4]; exact ⟨K9s_keys hJV.1, hJV.2⟩
    have hJ5 : M9 S5 := by rw [d5]; exact ⟨K9s_lengths hJ4.1 (pt_updr (K9g_lengths hJ4.1) (K9g_lengths hJ4.1 _)), hJ4.2⟩
    have eb : b9g_keys S5 = vp_updL (b9g_keys V) ((64 : Int32) + x1).toNatClampNeg (b9g_keys V x1.toNatClampNeg) := by rw [d5, d4]
    have eg : b9g_lengths S5 = upd (b9g_lengths V) ((64 : Int32) + x1).toNatClampNeg (b9g_lengths V x1.toNatClampNeg) := by rw [d5, d4]
    refine ⟨_, ?_, by omega, by omega, hJ5, by rw [d5, d4]; exact hFV, by rw [d5, d4]; exact nV, fun j hj => ?_, fun j hj => ?_, fun j hj => ?_, rfl⟩
    · omega
    · rw [eb, eg]
      unfold vp_updL upd
      rw [if_neg (by omega), if_neg (by omega)]
      exact lo j hj
    · rw [eb, eg]
      unfold vp_updL upd
      by_cases h : 64 + j = ((64 : Int32) + x1).toNatClampNeg
      · rw [if_pos h, if_pos h, show x1.toNatClampNeg = j by omega]
        exact lo j (by omega)
      · rw [if_neg h, if_neg h]
        exact hi j (by omega)
    · rw [eb, eg]
      unfold vp_updL upd
      rw [if_neg (by omega), if_neg (by omega)]
      exact upr j hj
theorem sf_X9_hashBits {S : bT9} (hJ : K9 S) {Q : Int32 → Prop} (hq : ∀ r : Int32, (r = HBT (b9g_now S)) → Q r) : wp_X9_hashBits S Q := by
  unfold wp_X9_hashBits
  refine ⟨pt_in (by decide) (by decide), by decide, fun c => ?_, fun c => ⟨pt_in (by decide) (by decide), ?_⟩⟩
  · have c' : ¬ b9g_now S 15 - b9g_now S 15 / (2 : Int32) * (2 : Int32) = (1 : Int32) := c
    exact hq _ (by unfold HBT; rw [if_neg c'])
  · have c' : b9g_now S 15 - b9g_now S 15 / (2 : Int32) * (2 : Int32) = (1 : Int32) := c
    exact hq _ (by unfold HBT; rw [if_pos c']; rfl)
theorem sf_X9_nextBits {S : bT9} (hJ : K9 S) {Q : Int32 → Prop} (hq : ∀ r : Int32, (0 ≤ r.toInt) → (r.toInt ≤ 8) → (r = NBT (b9g_now S)) → Q r) : wp_X9_nextBits S Q := by
  have n12 := (K9g_now hJ).2.2.2.2.2
  unfold wp_X9_nextBits
  refine ⟨pt_in (by decide) (by decide), fun c => ?_, fun c => ⟨pt_in (by decide) (by decide), ?_⟩⟩
  · have c' : b9g_now S 15 ≤ (1 : Int32) := c
    exact hq _ (by decide) (by decide) (by unfold NBT; rw [if_pos c'])
  · have c' : ¬ b9g_now S 15 ≤ (1 : Int32) := c
    exact hq _ n12.1 n12.2 (by unfold NBT; rw [if_neg c']; rfl)
theorem sf_X9_isAlike {S : bT9} (hJ : K9 S) {a1 : Int32} {a2 : Int32} {a3 : Int32} {Q : Int32 → Prop} (hp0 : 0 ≤ a1.toInt) (hp1 : a1.toInt ≤ 63) (hp2 : 0 ≤ a2.toInt) (hp3 : a2.toInt ≤ 63) (hq : ∀ r : Int32, bf_bool r → ((r.toInt = 1 ∧ AK (b9g_keys S) a3 a1.toNatClampNeg a2.toNatClampNeg) ∨ (r.toInt = 0 ∧ ¬ AK (b9g_keys S) a3 a1.toNatClampNeg a2.toNatClampNeg)) → Q r) : wp_X9_isAlike S a1 a2 a3 Q := by
  unfold wp_X9_isAlike
  refine sf_X9_key hJ hp0 hp1 (fun r1 e1 => sf_X9_cut hJ (fun r3 e3 => sf_X9_key hJ hp2 hp3 (fun r5 e5 => sf_X9_cut hJ (fun r7 e7 => ?_))))
  rw [ix64 hp0 hp1] at e1
  rw [ix64 hp2 hp3] at e5
  have hAK : AK (b9g_keys S) a3 a1.toNatClampNeg a2.toNatClampNeg ↔ r3 = r7 := by
    unfold AK
    rw [e3, e7, e1, e5]
  refine ⟨fun c => ⟨rfl, hq _ rfl (Or.inr ⟨rfl, ?_⟩)⟩, fun c => ⟨rfl, hq _ rfl (Or.inl ⟨rfl, ?_⟩)⟩⟩
  · intro h
    apply c
    rw [hAK.mp h]
    exact (lg_cmp_eq _ _).mpr rfl
  · rw [hAK]
    exact (lg_cmp_eq _ _).mp c
theorem sf_X9_firstLike {S : bT9} (hJ : K9 S) {a1 : Int32} {a2 : Int32} {Q : Int32 → Prop} (hp0 : 0 ≤ a1.toInt) (hp1 : a1.toInt ≤ 63) (hq : ∀ r : Int32, (0 ≤ r.toInt) → (r.toInt ≤ a1.toInt) → (∀ j : Nat, r.toInt ≤ j → (j : Int) < a1.toInt → a2.toInt ≤ (b9g_beginning S j).toInt ∧ AK (b9g_keys S) a2 j a1.toNatClampNeg) → (∀ j : Nat, (j : Int) + 1 = r.toInt → a2.toInt ≤ (b9g_beginning S j).toInt → ¬ AK (b9g_keys S) a2 j a1.toNatClampNeg) → Q r) : wp_X9_firstLike S a1 a2 Q := by
  unfold wp_X9_firstLike wp_X9_firstLike_2
  refine ⟨fun n x1 x2 x3 => x1 = a1 ∧ x2 = a2 ∧ 0 ≤ x3.toInt ∧ x3.toInt ≤ a1.toInt ∧ (∀ j : Nat, x3.toInt ≤ j → (j : Int) < a1.toInt → a2.toInt ≤ (b9g_beginning S j).toInt ∧ AK (b9g_keys S) a2 j a1.toNatClampNeg) ∧ n = x3.toInt.toNat, ⟨_, rfl, rfl, hp0, Int.le_refl _, fun j h1 h2 => by omega, rfl⟩, ?_⟩
  rintro n x1 x2 x3 ⟨rfl, rfl, h0, h1, h2, hn⟩
  unfold wp_X9_firstLike_2b
  refine ⟨fun c => ?_, fun c => ?_⟩
  · simp (disch := first | ((try simp (disch := first | ((try simp only [pn]) <;> omega) | fail) only [pn, pq]) <;> omega) | fail) only [pn, pq] at c
    exact hq _ h0 h1 h2 (fun j e => by omega)
  · simp (disch := first | ((try simp (disch := first | ((try simp only [pn]) <;> omega) | fail) only [pn, pq]) <;> omega) | fail) only [pn, pq] at c
    have e1 : (x3 - 1).toInt = x3.toInt - 1 := by rw [pt_sub (by rw [pl_1]; omega) (by rw [pl_1]; omega), pl_1]
    have e2 := pt_clamp (i := x3 - 1) (by omega)
    refine ⟨pt_in (by omega) (by omega), fun c2 => ?_, fun c2 => ?_⟩
    · simp (disch := first | ((try simp (disch := first | ((try simp only [pn]) <;> omega) | fail) only [pn, pq]) <;> omega) | fail) only [pn, pq] at c2
      refine hq _ h0 h1 h2 (fun j e h => ?_)
      have : j = (x3 - 1).toNatClampNeg := by omega
      subst this
      omega
    · simp (disch := first | ((try simp (disch := first | ((try simp only [pn]) <;> omega) | fail) only [pn, pq]) <;> omega) | fail) only [pn, pq] at c2
      refine sf_X9_isAlike hJ (by omega) (by omega) hp0 hp1 (fun r1 hz hr => ⟨fun c3 => ?_, fun c3 => ?_⟩)
      · simp (disch := first | ((try simp (disch := first | ((try simp only [pn]) <;> omega) | fail) only [pn, pq]) <;> omega) | fail) only [pn, pq] at c3
        refine hq _ h0 h1 h2 (fun j e h => ?_)
        have : j = (x3 - 1).toNatClampNeg := by omega
        subst this
        rcases hr with hr | hr
        · omega
        · exact hr.2
      · simp (disch := first | ((try simp (disch := first | ((try simp only [pn]) <;> omega) | fail) only [pn, pq]) <;> omega) | fail) only [pn, pq] at c3
        have hA : AK (b9g_keys S) x2 (x3 - 1).toNatClampNeg x1.toNatClampNeg := by
          rcases hr with hr | hr
          · exact hr.2
          · omega
        refine ⟨_, ?_, rfl, rfl, by omega, by omega, ?_, rfl⟩
        · omega
        · intro j h3 h4
          by_cases e : j = (x3 - 1).toNatClampNeg
          · subst e
            exact ⟨by omega, hA⟩
          · exact h2 j (by omega) h4
theorem sf_X9_manyLike {S : bT9} (hJ : K9 S) {a1 : Int32} {a2 : Int32} {Q : Int32 → Prop} (hp0 : 0 ≤ a1.toInt) (hp1 : a1.toInt ≤ (b9g_now S 9).toInt) (hp2 : a1.toInt ≤ 63) (hq : ∀ r : Int32, (0 ≤ r.toInt) → (a1.toInt + r.toInt ≤ (b9g_now S 9).toInt) → (∀ j : Nat, a1.toInt ≤ j → (j : Int) < a1.toInt + r.toInt → a2.toInt ≤ (b9g_beginning S j).toInt ∧ AK (b9g_keys S) a2 j a1.toNatClampNeg) → (∀ e : Nat, (e : Int) = a1.toInt + r.toInt → (e : Int) < (b9g_now S 9).toInt → a2.toInt ≤ (b9g_beginning S e).toInt → ¬ AK (b9g_keys S) a2 e a1.toNatClampNeg) → Q r) : wp_X9_manyLike S a1 a2 Q := by
  unfold wp_X9_manyLike wp_X9_manyLike_2
  have jn := (K9g_now hJ).2.2.2.1
  refine ⟨fun n x1 x2 x3 => x1 = a1 ∧ x2 = a2 ∧ a1.toInt ≤ x3.toInt ∧ x3.toInt ≤ (b9g_now S 9).toInt ∧ (∀ j : Nat, a1.toInt ≤ j → (j : Int) < x3.toInt → a2.toInt ≤ (b9g_beginning S j).toInt ∧ AK (b9g_keys S) a2 j a1.toNatClampNeg) ∧ n = (64 - x3.toInt).toNat, ⟨_, rfl, rfl, Int.le_refl _, hp1, fun j h1 h2 => by omega, rfl⟩, ?_⟩
  rintro n x1 x2 x3 ⟨rfl, rfl, h0, h1, h2, hn⟩
  unfold wp_X9_manyLike_2b
  have es : (x3 - x1).toInt = x3.toInt - x1.toInt := pt_sub (by omega) (by omega)
  have e9 : b9g_now S ((9 : Int32)).toNatClampNeg = b9g_now S 9 := rfl
  have e2 := pt_clamp (i := x3) (by omega)
  refine ⟨pt_in (by decide) (by decide), fun c => ?_, fun c => ?_⟩
  · simp (disch := first | ((try simp (disch := first | ((try simp only [pn]) <;> omega) | fail) only [pn, pq]) <;> omega) | fail) only [pn, pq] at c
    refine hq _ (by omega) (by omega) (fun j h3 h4 => h2 j h3 (by omega)) (fun e h3 h4 => by omega)
  · simp (disch := first | ((try simp (disch := first | ((try simp only [pn]) <;> omega) | fail) only [pn, pq]) <;> omega) | fail) only [pn, pq] at c
    refine ⟨pt_in (by omega) (by omega), fun c2 => ?_, fun c2 => ?_⟩
    · simp (disch := first | ((try simp (disch := first | ((try simp only [pn]) <;> omega) | fail) only [pn, pq]) <;> omega) | fail) only [pn, pq] at c2
      refine hq _ (by omega) (by omega) (fun j h3 h4 => h2 j h3 (by omega)) (fun e h3 h4 h5 => ?_)
      have : e = x3.toNatClampNeg := by omega
      subst this
      omega
    · simp (disch := first | ((try simp (disch := first | ((try simp only [pn]) <;> omega) | fail) only [pn, pq]) <;> omega) | fail) only [pn, pq] at c2
      refine sf_X9_isAlike hJ (by omega) (by omega) hp0 hp2 (fun r1 hz hr => ⟨fun c3 => ?_, fun c3 => ?_⟩)
      · simp (disch := first | ((try simp (disch := first | ((try simp only [pn]) <;> omega) | fail) only [pn, pq]) <;> omega) | fail) only [pn, pq] at c3
        refine hq _ (by omega) (by omega) (fun j h3 h4 => h2 j h3 (by omega)) (fun e h3 h4 h5 => ?_)
        have : e = x3.toNatClampNeg := by omega
        subst this
        rcases hr with hr | hr
        · omega
        · exact hr.2
      · simp (disch := first | ((try simp (disch := first | ((try simp only [pn]) <;> omega) | fail) only [pn, pq]) <;> omega) | fail) only [pn, pq] at c3
        have hA : AK (b9g_keys S) x2 x3.toNatClampNeg x1.toNatClampNeg := by
          rcases hr with hr | hr
          · exact hr.2
          · omega
        have e1 : (x3 + 1).toInt = x3.toInt + 1 := by rw [pt_add (by rw [pl_1]; omega) (by rw [pl_1]; omega), pl_1]
        refine ⟨_, ?_, rfl, rfl, by omega, by omega, ?_, rfl⟩
        · omega
        · intro j h3 h4
          by_cases e : j = x3.toNatClampNeg
          · subst e
            exact ⟨by omega, hA⟩
          · exact h2 j h3 (by omega)
theorem sf_X9_childAt {S : bT9} (hJ : K9 S) {a1 : Int32} {a2 : Int32} {Q : Int32 → Prop} (hp0 : 0 ≤ a1.toInt) (hp1 : a1.toInt < (b9g_nodeMany S).toInt) (hq : ∀ r : Int32, (r.toInt = -1 → ∀ y : Nat, a1.toNatClampNeg < y → (y : Int) < (b9g_nodeMany S).toInt → (b9g_nodeLevel S y).toInt = (b9g_nodeLevel S a1.toNatClampNeg).toInt + 1 → (b9g_nodeLeaf S y).toInt ≠ a2.toInt) → Q r) : wp_X9_childAt S a1 a2 Q := by
  have jx := ND_at (K9g_ND hJ) hp0 hp1
  have jm := K9g_nodeMany hJ
  have hN := K9g_ND hJ
  unfold wp_X9_childAt wp_X9_childAt_14
  have e1 : (a1 + 1).toInt = a1.toInt + 1 := by rw [pt_add (by rw [pl_1]; omega) (by rw [pl_1]; omega), pl_1]
  have el : (b9g_nodeLevel S a1.toNatClampNeg + 1).toInt = (b9g_nodeLevel S a1.toNatClampNeg).toInt + 1 := by rw [pt_add (by rw [pl_1]; omega) (by rw [pl_1]; omega), pl_1]
  have ea := pt_clamp hp0
  refine ⟨pt_in (by omega) (by omega), fun n x2 x3 x4 => x2 = a2 ∧ x3.toInt = (b9g_nodeLevel S a1.toNatClampNeg).toInt + 1 ∧ a1.toInt < x4.toInt ∧ (∀ y : Nat, a1.toNatClampNeg < y → (y : Int) < x4.toInt → (b9g_nodeLevel S y).toInt = (b9g_nodeLevel S a1.toNatClampNeg).toInt + 1 → (b9g_nodeLeaf S y).toInt ≠ a2.toInt) ∧ n = ((b9g_nodeMany S).toInt + 1 - x4.toInt).toNat, ⟨_, rfl, el, by omega, fun y h1 h2 => by omega, rfl⟩, ?_⟩
  rintro n x2 x3 x4 ⟨rfl, h3, h4, h5, hn⟩
  unfold wp_X9_childAt_14b
  refine ⟨fun c => ?_, fun c => ?_⟩
  · simp (disch := first | ((try simp (disch := first | ((try simp only [pn]) <;> omega) | fail) only [pn, pq]) <;> omega) | fail) only [pn, pq] at c
    exact hq _ (fun _ y h1 h2 => h5 y h1 (by omega))
  · simp (disch := first | ((try simp (disch := first | ((try simp only [pn]) <;> omega) | fail) only [pn, pq]) <;> omega) | fail) only [pn, pq] at c
    have jy := ND_at (K9g_ND hJ) (x := x4) (by omega) (by omega)
    have e4 := pt_clamp (i := x4) (by omega)
    refine ⟨pt_in (by omega) (by omega), fun c2 => ?_, fun c2 => ?_⟩
    · simp (disch := first | ((try simp (disch := first | ((try simp only [pn]) <;> omega) | fail) only [pn, pq]) <;> omega) | fail) only [pn, pq] at c2
      refine hq _ (fun _ y h1 h2 h6 => ?_)
      by_cases e : (y : Int) < x4.toInt
      · exact h5 y h1 e h6
      · exfalso
        by_cases e2 : y = x4.toNatClampNeg
        · subst e2
          omega
        · have p := ND_pos hN (show x4.toNatClampNeg < y by omega) h2
          have b := (hN y h2).1
          omega
    · simp (disch := first | ((try simp (disch := first | ((try simp only [pn]) <;> omega) | fail) only [pn, pq]) <;> omega) | fail) only [pn, pq] at c2
      have e5 : (x4 + 1).toInt = x4.toInt + 1 := by rw [pt_add (by rw [pl_1]; omega) (by rw [pl_1]; omega), pl_1]
      have next : ((b9g_nodeLevel S x4.toNatClampNeg).toInt = (b9g_nodeLevel S a1.toNatClampNeg).toInt + 1 → (b9g_nodeLeaf S x4.toNatClampNeg).toInt ≠ x2.toInt) → wp_X9_childAt_59 S x2 x3 x4 Q (fun x2_1 x3_1 x4_1 => ∃ n2 : Nat, n2 < n ∧ x2_1 = x2 ∧ x3_1.toInt = (b9g_nodeLevel S a1.toNatClampNeg).toInt + 1 ∧ a1.toInt < x4_1.toInt ∧ (∀ y : Nat, a1.toNatClampNeg < y → (y : Int) < x4_1.toInt → (b9g_nodeLevel S y).toInt = (b9g_nodeLevel S a1.toNatClampNeg).toInt + 1 → (b9g_nodeLeaf S y).toInt ≠ x2.toInt) ∧ n2 = ((b9g_nodeMany S).toInt + 1 - x4_1.toInt).toNat) := by
        intro hx
        unfold wp_X9_childAt_59
        refine ⟨_, ?_, rfl, h3, by omega, ?_, rfl⟩
        · omega
        · intro y h1 h2 h6
          by_cases e : y = x4.toNatClampNeg
          · subst e
            exact hx h6
          · exact h5 y h1 (by omega) h6
      refine ⟨pt_in (by omega) (by omega), fun c3 => next (fun h => ?_), fun c3 => ⟨pt_in (by omega) (by omega), fun c4 => next (fun _ => ?_), fun c4 => hq _ (fun h => by omega)⟩⟩
      · simp (disch := first | ((try simp (disch := first | ((try simp only [pn]) <;> omega) | fail) only [pn, pq]) <;> omega) | fail) only [pn, pq] at c3
        omega
      · simp (disch := first | ((try simp (disch := first | ((try simp only [pn]) <;> omega) | fail) only [pn, pq]) <;> omega) | fail) only [pn, pq] at c4
        exact c4
theorem sf_X9_isBranch {S : bT9} (hJ : K9 S) {a1 : Int32} {a2 : Int32} {Q : Int32 → Prop} (hp0 : 0 ≤ a1.toInt) (hp1 : a1.toInt < (b9g_nodeMany S).toInt) (hp2 : (b9g_nodeLeaf S a1.toNatClampNeg).toInt ≤ a2.toInt) (hp3 : a2.toInt ≤ 63) (hq : ∀ r : Int32, bf_bool r → (r.toInt = 0 ∨ BRd S a1 a2) → Q r) : wp_X9_isBranch S a1 a2 Q := by
  have jx := ND_at (K9g_ND hJ) hp0 hp1
  have jm := K9g_nodeMany hJ
  unfold wp_X9_isBranch
  have e2 := pt_clamp (i := a2) (by omega)
  refine ⟨pt_in (by omega) (by omega), pt_in (by omega) (by omega), fun c => ⟨rfl, hq _ rfl (Or.inl rfl)⟩, fun c => ?_⟩
  simp (disch := first | ((try simp (disch := first | ((try simp only [pn]) <;> omega) | fail) only [pn, pq]) <;> omega) | fail) only [pn, pq] at c
  refine ⟨pt_in (by omega) (by omega), fun c2 => ?_, fun c2 => ?_⟩
  · unfold wp_X9_isBranch_53
    exact ⟨rfl, hq _ rfl (Or.inr (show BRd S a1 a2 from ⟨by omega, Or.inl (by rw [c2])⟩))⟩
  · simp (disch := first | ((try simp (disch := first | ((try simp only [pn]) <;> omega) | fail) only [pn, pq]) <;> omega) | fail) only [pn, pq] at c2
    have e1 : (a2 - 1).toInt = a2.toInt - 1 := by rw [pt_sub (by rw [pl_1]; omega) (by rw [pl_1]; omega), pl_1]
    have e3 := pt_clamp (i := a2 - 1) (by omega)
    refine ⟨pt_in (by omega) (by omega), fun c3 => ?_, fun c3 => ?_⟩
    · simp (disch := first | ((try simp (disch := first | ((try simp only [pn]) <;> omega) | fail) only [pn, pq]) <;> omega) | fail) only [pn, pq] at c3
      unfold wp_X9_isBranch_53
      exact ⟨rfl, hq _ rfl (Or.inr (show BRd S a1 a2 from ⟨by omega, Or.inr ⟨(a2 - 1).toNatClampNeg, by omega, Or.inl c3⟩⟩))⟩
    · refine sf_X9_isAlike hJ (by omega) (by omega) (by omega) (by omega) (fun r1 hz hr => ⟨fun c4 => ⟨rfl, hq _ rfl (Or.inl rfl)⟩, fun c4 => ?_⟩)
      simp (disch := first | ((try simp (disch := first | ((try simp only [pn]) <;> omega) | fail) only [pn, pq]) <;> omega) | fail) only [pn, pq] at c4
      unfold wp_X9_isBranch_53
      refine ⟨rfl, hq _ rfl (Or.inr (show BRd S a1 a2 from ⟨by omega, Or.inr ⟨(a2 - 1).toNatClampNeg, by omega, Or.inr ?_⟩⟩))⟩
      rcases hr with hr | hr
      · omega
      · exact hr.2
set_option maxRecDepth 20000 in
set_option maxHeartbeats 8000000 in
theorem sf_X9_isNodeEnd {S : bT9} (hJ : K9 S) {a1 : Int32} {Q : Int32 → Prop} (hp0 : 0 ≤ a1.toInt) (hp1 : a1.toInt < (b9g_nodeMany S).toInt) (hq : ∀ r : Int32, bf_bool r → (r.toInt = 0 ∨ (b9g_beginning S (b9g_nodeLeaf S a1.toNatClampNeg).toNatClampNeg).toInt = (b9g_nodeLevel S a1.toNatClampNeg).toInt) → Q r) : wp_X9_isNodeEnd S a1 Q := by
  unfold wp_X9_isNodeEnd
  have jf1 := K9g_nodeMany hJ
  have jf2 : (-4 ≤ ((b9g_now S) 1).toInt ∧ ((b9g_now S) 1).toInt ≤ 4) ∧ (-3 ≤ ((b9g_now S) 4).toInt ∧ ((b9g_now S) 4).toInt ≤ 252) ∧ (0 ≤ ((b9g_now S) 8).toInt ∧ ((b9g_now S) 8).toInt ≤ 64) ∧ (0 ≤ ((b9g_now S) 9).toInt ∧ ((b9g_now S) 9).toInt ≤ 64) ∧ (0 ≤ ((b9g_now S) 10).toInt ∧ ((b9g_now S) 10).toInt ≤ 16) ∧ (0 ≤ ((b9g_now S) 12).toInt ∧ ((b9g_now S) 12).toInt ≤ 8) := K9g_now hJ
  have rga1 := pt_rg a1
  refine ⟨pt_in (by (try simp (disch := first | ((try simp (disch := first | ((try simp only [pn]) <;> omega) | fail) only [pn, pq]) <;> omega) | fail) only [pn, pq]) <;> (intros; (try simp (disch := first | ((try simp (disch := first | ((try simp only [pn]) <;> omega) | fail) only [pn, pq]) <;> omega) | fail) only [pn, pq]) <;> omega)) (by (try simp (disch := first | ((try simp (disch := first | ((try simp only [pn]) <;> omega) | fail) only [pn, pq]) <;> omega) | fail) only [pn, pq]) <;> (intros; (try simp (disch := first | ((try simp (disch := first | ((try simp only [pn]) <;> omega) | fail) only [pn, pq]) <;> omega) | fail) only [pn, pq]) <;> omega)), ?_⟩
  have jr3 := ND_at (K9g_ND hJ) (x := a1) (by (try simp (disch := first | ((try simp (disch := first | ((try simp only [pn]) <;> omega) | fail) only [pn, pq]) <;> omega) | fail) only [pn, pq]) <;> (intros; (try simp (disch := first | ((try simp (disch := first | ((try simp only [pn]) <;> omega) | fail) only [pn, pq]) <;> omega) | fail) only [pn, pq]) <;> omega)) (by (try simp (disch := first | ((try simp (disch := first | ((try simp only [pn]) <;> omega) | fail) only [pn, pq]) <;> omega) | fail) only [pn, pq]) <;> (intros; (try simp (disch := first | ((try simp (disch := first | ((try simp only [pn]) <;> omega) | fail) only [pn, pq]) <;> omega) | fail) only [pn, pq]) <;> omega))
  try simp (disch := first | ((try simp (disch := first | ((try simp only [pn]) <;> omega) | fail) only [pn, pq]) <;> omega) | fail) only [pn, pq] at jr3
  refine ⟨pt_in (by (try simp (disch := first | ((try simp (disch := first | ((try simp only [pn]) <;> omega) | fail) only [pn, pq]) <;> omega) | fail) only [pn, pq]) <;> (intros; (try simp (disch := first | ((try simp (disch := first | ((try simp only [pn]) <;> omega) | fail) only [pn, pq]) <;> omega) | fail) only [pn, pq]) <;> omega)) (by (try simp (disch := first | ((try simp (disch := first | ((try simp only [pn]) <;> omega) | fail) only [pn, pq]) <;> omega) | fail) only [pn, pq]) <;> (intros; (try simp (disch := first | ((try simp (disch := first | ((try simp only [pn]) <;> omega) | fail) only [pn, pq]) <;> omega) | fail) only [pn, pq]) <;> omega)), ?_⟩
  have jr4 := K9g_beginning hJ (((b9g_nodeLeaf S) (a1).toNatClampNeg)).toNatClampNeg
  try simp (disch := first | ((try simp (disch := first | ((try simp only [pn]) <;> omega) | fail) only [pn, pq]) <;> omega) | fail) only [pn, pq] at jr4
  refine ⟨pt_in (by (try simp (disch := first | ((try simp (disch := first | ((try simp only [pn]) <;> omega) | fail) only [pn, pq]) <;> omega) | fail) only [pn, pq]) <;> (intros; (try simp (disch := first | ((try simp (disch := first | ((try simp only [pn]) <;> omega) | fail) only [pn, pq]) <;> omega) | fail) only [pn, pq]) <;> omega)) (by (try simp (disch := first | ((try simp (disch := first | ((try simp only [pn]) <;> omega) | fail) only [pn, pq]) <;> omega) | fail) only [pn, pq]) <;> (intros; (try simp (disch := first | ((try simp (disch := first | ((try simp only [pn]) <;> omega) | fail) only [pn, pq]) <;> omega) | fail) only [pn, pq]) <;> omega)), ?_⟩
  have jr5 := ND_at (K9g_ND hJ) (x := a1) (by (try simp (disch := first | ((try simp (disch := first | ((try simp only [pn]) <;> omega) | fail) only [pn, pq]) <;> omega) | fail) only [pn, pq]) <;> (intros; (try simp (disch := first | ((try simp (disch := first | ((try simp only [pn]) <;> omega) | fail) only [pn, pq]) <;> omega) | fail) only [pn, pq]) <;> omega)) (by (try simp (disch := first | ((try simp (disch := first | ((try simp only [pn]) <;> omega) | fail) only [pn, pq]) <;> omega) | fail) only [pn, pq]) <;> (intros; (try simp (disch := first | ((try simp (disch := first | ((try simp only [pn]) <;> omega) | fail) only [pn, pq]) <;> omega) | fail) only [pn, pq]) <;> omega))
  try simp (disch := first | ((try simp (disch := first | ((try simp only [pn]) <;> omega) | fail) only [pn, pq]) <;> omega) | fail) only [pn, pq] at jr5
  refine ⟨fun c1 => ?_, fun c1 => ?_⟩
  · try simp (disch := first | ((try simp (disch := first | ((try simp only [pn]) <;> omega) | fail) only [pn, pq]) <;> omega) | fail) only [pn, pq] at c1
    exact ⟨by first | rfl | assumption, hq _ (by first | rfl | assumption) (by (try simp (disch := first | ((try simp (disch := first | ((try simp only [pn]) <;> omega) | fail) only [pn, pq]) <;> omega) | fail) only [pn, pq]) <;> (intros; (try simp (disch := first | ((try simp (disch := first | ((try simp only [pn]) <;> omega) | fail) only [pn, pq]) <;> omega) | fail) only [pn, pq]) <;> omega))⟩
  · try simp (disch := first | ((try simp (disch := first | ((try simp only [pn]) <;> omega) | fail) only [pn, pq]) <;> omega) | fail) only [pn, pq] at c1
    exact ⟨by first | rfl | assumption, hq _ (by first | rfl | assumption) (by (try simp (disch := first | ((try simp (disch := first | ((try simp only [pn]) <;> omega) | fail) only [pn, pq]) <;> omega) | fail) only [pn, pq]) <;> (intros; (try simp (disch := first | ((try simp (disch := first | ((try simp only [pn]) <;> omega) | fail) only [pn, pq]) <;> omega) | fail) only [pn, pq]) <;> omega))⟩
set_option maxRecDepth 20000 in
set_option maxHeartbeats 8000000 in
theorem sf_X9_lastOf {S : bT9} (hJ : K9 S) {a1 : Int32} {Q : Int32 → Prop} (hp0 : 0 ≤ a1.toInt) (hp1 : a1.toInt < (b9g_nodeMany S).toInt) (hq : ∀ r : Int32, (r.toInt = (b9g_nodeLeaf S a1.toNatClampNeg).toInt + (b9g_nodeLeaves S a1.toNatClampNeg).toInt - 1) → (r.toInt ≤ 63) → Q r) : wp_X9_lastOf S a1 Q := by
  unfold wp_X9_lastOf
  have jf1 := K9g_nodeMany hJ
  have jf2 : (-4 ≤ ((b9g_now S) 1).toInt ∧ ((b9g_now S) 1).toInt ≤ 4) ∧ (-3 ≤ ((b9g_now S) 4).toInt ∧ ((b9g_now S) 4).toInt ≤ 252) ∧ (0 ≤ ((b9g_now S) 8).toInt ∧ ((b9g_now S) 8).toInt ≤ 64) ∧ (0 ≤ ((b9g_now S) 9).toInt ∧ ((b9g_now S) 9).toInt ≤ 64) ∧ (0 ≤ ((b9g_now S) 10).toInt ∧ ((b9g_now S) 10).toInt ≤ 16) ∧ (0 ≤ ((b9g_now S) 12).toInt ∧ ((b9g_now S) 12).toInt ≤ 8) := K9g_now hJ
  have rga1 := pt_rg a1
  refine ⟨pt_in (by (try simp (disch := first | ((try simp (disch := first | ((try simp only [pn]) <;> omega) | fail) only [pn, pq]) <;> omega) | fail) only [pn, pq]) <;> (intros; (try simp (disch := first | ((try simp (disch := first | ((try simp only [pn]) <;> omega) | fail) only [pn, pq]) <;> omega) | fail) only [pn, pq]) <;> omega)) (by (try simp (disch := first | ((try simp (disch := first | ((try simp only [pn]) <;> omega) | fail) only [pn, pq]) <;> omega) | fail) only [pn, pq]) <;> (intros; (try simp (disch := first | ((try simp (disch := first | ((try simp only [pn]) <;> omega) | fail) only [pn, pq]) <;> omega) | fail) only [pn, pq]) <;> omega)), ?_⟩
  have jr3 := ND_at (K9g_ND hJ) (x := a1) (by (try simp (disch := first | ((try simp (disch := first | ((try simp only [pn]) <;> omega) | fail) only [pn, pq]) <;> omega) | fail) only [pn, pq]) <;> (intros; (try simp (disch := first | ((try simp (disch := first | ((try simp only [pn]) <;> omega) | fail) only [pn, pq]) <;> omega) | fail) only [pn, pq]) <;> omega)) (by (try simp (disch := first | ((try simp (disch := first | ((try simp only [pn]) <;> omega) | fail) only [pn, pq]) <;> omega) | fail) only [pn, pq]) <;> (intros; (try simp (disch := first | ((try simp (disch := first | ((try simp only [pn]) <;> omega) | fail) only [pn, pq]) <;> omega) | fail) only [pn, pq]) <;> omega))
  try simp (disch := first | ((try simp (disch := first | ((try simp only [pn]) <;> omega) | fail) only [pn, pq]) <;> omega) | fail) only [pn, pq] at jr3
  refine ⟨pt_in (by (try simp (disch := first | ((try simp (disch := first | ((try simp only [pn]) <;> omega) | fail) only [pn, pq]) <;> omega) | fail) only [pn, pq]) <;> (intros; (try simp (disch := first | ((try simp (disch := first | ((try simp only [pn]) <;> omega) | fail) only [pn, pq]) <;> omega) | fail) only [pn, pq]) <;> omega)) (by (try simp (disch := first | ((try simp (disch := first | ((try simp only [pn]) <;> omega) | fail) only [pn, pq]) <;> omega) | fail) only [pn, pq]) <;> (intros; (try simp (disch := first | ((try simp (disch := first | ((try simp only [pn]) <;> omega) | fail) only [pn, pq]) <;> omega) | fail) only [pn, pq]) <;> omega)), ?_⟩
  have jr4 := ND_at (K9g_ND hJ) (x := a1) (by (try simp (disch := first | ((try simp (disch := first | ((try simp only [pn]) <;> omega) | fail) only [pn, pq]) <;> omega) | fail) only [pn, pq]) <;> (intros; (try simp (disch := first | ((try simp (disch := first | ((try simp only [pn]) <;> omega) | fail) only [pn, pq]) <;> omega) | fail) only [pn, pq]) <;> omega)) (by (try simp (disch := first | ((try simp (disch := first | ((try simp only [pn]) <;> omega) | fail) only [pn, pq]) <;> omega) | fail) only [pn, pq]) <;> (intros; (try simp (disch := first | ((try simp (disch := first | ((try simp only [pn]) <;> omega) | fail) only [pn, pq]) <;> omega) | fail) only [pn, pq]) <;> omega))
  try simp (disch := first | ((try simp (disch := first | ((try simp only [pn]) <;> omega) | fail) only [pn, pq]) <;> omega) | fail) only [pn, pq] at jr4
  exact hq _ (by (try simp (disch := first | ((try simp (disch := first | ((try simp only [pn]) <;> omega) | fail) only [pn, pq]) <;> omega) | fail) only [pn, pq]) <;> (intros; (try simp (disch := first | ((try simp (disch := first | ((try simp only [pn]) <;> omega) | fail) only [pn, pq]) <;> omega) | fail) only [pn, pq]) <;> omega)) (by (try simp (disch := first | ((try simp (disch := first | ((try simp only [pn]) <;> omega) | fail) only [pn, pq]) <;> omega) | fail) only [pn, pq]) <;> (intros; (try simp (disch := first | ((try simp (disch := first | ((try simp only [pn]) <;> omega) | fail) only [pn, pq]) <;> omega) | fail) only [pn, pq]) <;> omega))
def F_X9_laysItem (S u : bT9) : Prop := (b9g_told u) = (b9g_told S) ∧ (b9g_now u) = (b9g_now S) ∧ (b9g_keys u) = (b9g_keys S) ∧ (b9g_lengths u) = (b9g_lengths S) ∧ (b9g_drawn u) = (b9g_drawn S) ∧ (b9g_drawnLength u) = (b9g_drawnLength S) ∧ (b9g_tape u) = (b9g_tape S) ∧ (b9g_taped u) = (b9g_taped S) ∧ (b9g_names u) = (b9g_names S) ∧ (b9g_chosen u) = (b9g_chosen S) ∧ (b9g_common u) = (b9g_common S) ∧ (b9g_beginning u) = (b9g_beginning S) ∧ (b9g_isLaid u) = (b9g_isLaid S) ∧ (b9g_nodeLevel u) = (b9g_nodeLevel S) ∧ (b9g_nodeLeaf u) = (b9g_nodeLeaf S) ∧ (b9g_nodeLeaves u) = (b9g_nodeLeaves S) ∧ (b9g_nodeMany u) = (b9g_nodeMany S) ∧ (b9g_levelMany u) = (b9g_levelMany S) ∧ (b9g_upper u) = (b9g_upper S) ∧ (b9g_upperNodes u) = (b9g_upperNodes S) ∧ (b9g_areNodesLaid u) = (b9g_areNodesLaid S) ∧ (b9g_placeOf u) = (b9g_placeOf S) ∧ (b9g_leafOfPlace u) = (b9g_leafOfPlace S) ∧ (b9g_places u) = (b9g_places S) ∧ (b9g_lowKey u) = (b9g_lowKey S) ∧ (b9g_highKey u) = (b9g_highKey S) ∧ (b9g_lowLength u) = (b9g_lowLength S) ∧ (b9g_highLength u) = (b9g_highLength S) ∧ (b9g_fromKey u) = (b9g_fromKey S) ∧ (b9g_toKey u) = (b9g_toKey S) ∧ (b9g_fromLength u) = (b9g_fromLength S) ∧ (b9g_toLength u) = (b9g_toLength S) ∧ (b9g_ones u) = (b9g_ones S) ∧ (b9g_oneMany u) = (b9g_oneMany S) ∧ (b9g_rowLong u) = (b9g_rowLong S) ∧ (b9g_laidFor u) = (b9g_laidFor S) ∧ (b9g_signs u) = (b9g_signs S) ∧ (b9g_signMany u) = (b9g_signMany S) ∧ (b9g_hasImage u) = (b9g_hasImage S) ∧ (b9g_images u) = (b9g_images S) ∧ (b9g_keyImages u) = (b9g_keyImages S) ∧ (b9g_lengthImages u) = (b9g_lengthImages S)
set_option maxRecDepth 20000 in
set_option maxHeartbeats 8000000 in
theorem sf_X9_laysItem {S : bT9} (hJ : J9 S) {a1 : Int32} {a2 : Int32} {a3 : Int32} {Q : (bT9) → Prop} (hp0 : (b9g_itemMany S).toInt ≤ 699) (hq : ∀ u : bT9, (J9 u) → F_X9_laysItem S u → ((b9g_itemMany u).toInt = (b9g_itemMany S).toInt + 1) → Q u) : wp_X9_laysItem S a1 a2 a3 Q := by
  unfold wp_X9_laysItem
  have hFS : F_X9_laysItem S S := ⟨rfl, rfl, rfl, rfl, rfl, rfl, rfl, rfl, rfl, rfl, rfl, rfl, rfl, rfl, rfl, rfl, rfl, rfl, rfl, rfl, rfl, rfl, rfl, rfl, rfl, rfl, rfl, rfl, rfl, rfl, rfl, rfl, rfl, rfl, rfl, rfl, rfl, rfl, rfl, rfl, rfl, rfl⟩
  have jf1 := J9g_itemMany hJ
  have jf2 : (-4 ≤ ((b9g_now S) 1).toInt ∧ ((b9g_now S) 1).toInt ≤ 4) ∧ (-3 ≤ ((b9g_now S) 4).toInt ∧ ((b9g_now S) 4).toInt ≤ 252) ∧ (0 ≤ ((b9g_now S) 8).toInt ∧ ((b9g_now S) 8).toInt ≤ 64) ∧ (0 ≤ ((b9g_now S) 9).toInt ∧ ((b9g_now S) 9).toInt ≤ 64) ∧ (0 ≤ ((b9g_now S) 10).toInt ∧ ((b9g_now S) 10).toInt ≤ 16) ∧ (0 ≤ ((b9g_now S) 12).toInt ∧ ((b9g_now S) 12).toInt ≤ 8) := J9g_now hJ
  have ju2_S := hJ.2.1
  have rga1 := pt_rg a1
  have rga2 := pt_rg a2
  have rga3 := pt_rg a3
  refine ⟨pt_in (by (try simp (disch := first | ((try simp (disch := first | ((try simp only [pn]) <;> omega) | fail) only [pn, pq]) <;> omega) | fail) only [pn, pq]) <;> (intros; (try simp (disch := first | ((try simp (disch := first | ((try simp only [pn]) <;> omega) | fail) only [pn, pq]) <;> omega) | fail) only [pn, pq]) <;> omega)) (by (try simp (disch := first | ((try simp (disch := first | ((try simp only [pn]) <;> omega) | fail) only [pn, pq]) <;> omega) | fail) only [pn, pq]) <;> (intros; (try simp (disch := first | ((try simp (disch := first | ((try simp only [pn]) <;> omega) | fail) only [pn, pq]) <;> omega) | fail) only [pn, pq]) <;> omega)), ?_⟩
  intro S1 eS1
  have hJS1 : J9 S1 := by rw [eS1]; exact (J9s_itemNode hJ)
  have hFS1 : F_X9_laysItem S S1 := by rw [eS1]; exact hFS
  have je3 : ((b9g_itemMany S1)).toInt = ((b9g_itemMany S)).toInt := by rw [eS1]
  have jf4 := J9g_itemMany hJS1
  have je6 : ((b9g_now S1) 1).toInt = ((b9g_now S) 1).toInt := congrArg (fun z => (z 1).toInt) hFS1.2.1
  have je8 : ((b9g_now S1) 4).toInt = ((b9g_now S) 4).toInt := congrArg (fun z => (z 4).toInt) hFS1.2.1
  have je10 : ((b9g_now S1) 7).toInt = ((b9g_now S) 7).toInt := congrArg (fun z => (z 7).toInt) hFS1.2.1
  have je12 : ((b9g_now S1) 8).toInt = ((b9g_now S) 8).toInt := congrArg (fun z => (z 8).toInt) hFS1.2.1
  have je14 : ((b9g_now S1) 9).toInt = ((b9g_now S) 9).toInt := congrArg (fun z => (z 9).toInt) hFS1.2.1
  have je16 : ((b9g_now S1) 10).toInt = ((b9g_now S) 10).toInt := congrArg (fun z => (z 10).toInt) hFS1.2.1
  have je18 : ((b9g_now S1) 12).toInt = ((b9g_now S) 12).toInt := congrArg (fun z => (z 12).toInt) hFS1.2.1
  have ju18_S1 := hJS1.2.1
  refine ⟨pt_in (by (try simp (disch := first | ((try simp (disch := first | ((try simp only [pn]) <;> omega) | fail) only [pn, pq]) <;> omega) | fail) only [pn, pq]) <;> (intros; (try simp (disch := first | ((try simp (disch := first | ((try simp only [pn]) <;> omega) | fail) only [pn, pq]) <;> omega) | fail) only [pn, pq]) <;> omega)) (by (try simp (disch := first | ((try simp (disch := first | ((try simp only [pn]) <;> omega) | fail) only [pn, pq]) <;> omega) | fail) only [pn, pq]) <;> (intros; (try simp (disch := first | ((try simp (disch := first | ((try simp only [pn]) <;> omega) | fail) only [pn, pq]) <;> omega) | fail) only [pn, pq]) <;> omega)), ?_⟩
  intro S2 eS2
  have hJS2 : J9 S2 := by rw [eS2]; exact (J9s_itemByte hJS1)
  have hFS2 : F_X9_laysItem S S2 := by rw [eS2]; exact hFS1
  have je19 : ((b9g_itemMany S2)).toInt = ((b9g_itemMany S1)).toInt := by rw [eS2]
  have jf20 := J9g_itemMany hJS2
  have je22 : ((b9g_now S2) 1).toInt = ((b9g_now S) 1).toInt := congrArg (fun z => (z 1).toInt) hFS2.2.1
  have je24 : ((b9g_now S2) 4).toInt = ((b9g_now S) 4).toInt := congrArg (fun z => (z 4).toInt) hFS2.2.1
  have je26 : ((b9g_now S2) 7).toInt = ((b9g_now S) 7).toInt := congrArg (fun z => (z 7).toInt) hFS2.2.1
  have je28 : ((b9g_now S2) 8).toInt = ((b9g_now S) 8).toInt := congrArg (fun z => (z 8).toInt) hFS2.2.1
  have je30 : ((b9g_now S2) 9).toInt = ((b9g_now S) 9).toInt := congrArg (fun z => (z 9).toInt) hFS2.2.1
  have je32 : ((b9g_now S2) 10).toInt = ((b9g_now S) 10).toInt := congrArg (fun z => (z 10).toInt) hFS2.2.1
  have je34 : ((b9g_now S2) 12).toInt = ((b9g_now S) 12).toInt := congrArg (fun z => (z 12).toInt) hFS2.2.1
  have ju34_S2 := hJS2.2.1
  refine ⟨pt_in (by (try simp (disch := first | ((try simp (disch := first | ((try simp only [pn]) <;> omega) | fail) only [pn, pq]) <;> omega) | fail) only [pn, pq]) <;> (intros; (try simp (disch := first | ((try simp (disch := first | ((try simp only [pn]) <;> omega) | fail) only [pn, pq]) <;> omega) | fail) only [pn, pq]) <;> omega)) (by (try simp (disch := first | ((try simp (disch := first | ((try simp only [pn]) <;> omega) | fail) only [pn, pq]) <;> omega) | fail) only [pn, pq]) <;> (intros; (try simp (disch := first | ((try simp (disch := first | ((try simp only [pn]) <;> omega) | fail) only [pn, pq]) <;> omega) | fail) only [pn, pq]) <;> omega)), ?_⟩
  intro S3 eS3
  have hJS3 : J9 S3 := by rw [eS3]; exact (J9s_itemChild hJS2)
  have hFS3 : F_X9_laysItem S S3 := by rw [eS3]; exact hFS2
  have je35 : ((b9g_itemMany S3)).toInt = ((b9g_itemMany S2)).toInt := by rw [eS3]
  have jf36 := J9g_itemMany hJS3
  have je38 : ((b9g_now S3) 1).toInt = ((b9g_now S) 1).toInt := congrArg (fun z => (z 1).toInt) hFS3.2.1
  have je40 : ((b9g_now S3) 4).toInt = ((b9g_now S) 4).toInt := congrArg (fun z => (z 4).toInt) hFS3.2.1
  have je42 : ((b9g_now S3) 7).toInt = ((b9g_now S) 7).toInt := congrArg (fun z => (z 7).toInt) hFS3.2.1
  have je44 : ((b9g_now S3) 8).toInt = ((b9g_now S) 8).toInt := congrArg (fun z => (z 8).toInt) hFS3.2.1
  have je46 : ((b9g_now S3) 9).toInt = ((b9g_now S) 9).toInt := congrArg (fun z => (z 9).toInt) hFS3.2.1
  have je48 : ((b9g_now S3) 10).toInt = ((b9g_now S) 10).toInt := congrArg (fun z => (z 10).toInt) hFS3.2.1
  have je50 : ((b9g_now S3) 12).toInt = ((b9g_now S) 12).toInt := congrArg (fun z => (z 12).toInt) hFS3.2.1
  have ju50_S3 := hJS3.2.1
  intro S4 eS4
  have hJS4 : J9 S4 := by rw [eS4]; exact (J9s_itemMany hJS3 ⟨(by (try simp (disch := first | ((try simp (disch := first | ((try simp only [pn]) <;> omega) | fail) only [pn, pq]) <;> omega) | fail) only [pn, pq]) <;> (intros; (try simp (disch := first | ((try simp (disch := first | ((try simp only [pn]) <;> omega) | fail) only [pn, pq]) <;> omega) | fail) only [pn, pq]) <;> omega)), (by (try simp (disch := first | ((try simp (disch := first | ((try simp only [pn]) <;> omega) | fail) only [pn, pq]) <;> omega) | fail) only [pn, pq]) <;> (intros; (try simp (disch := first | ((try simp (disch := first | ((try simp only [pn]) <;> omega) | fail) only [pn, pq]) <;> omega) | fail) only [pn, pq]) <;> omega))⟩)
  have hFS4 : F_X9_laysItem S S4 := by rw [eS4]; exact hFS3
  have je51 : ((b9g_itemMany S4)).toInt = (((b9g_itemMany S3) + (1 : Int32))).toInt := by rw [eS4]
  try simp (disch := first | ((try simp (disch := first | ((try simp only [pn]) <;> omega) | fail) only [pn, pq]) <;> omega) | fail) only [pn, pq] at je51
  have jf52 := J9g_itemMany hJS4
  have je54 : ((b9g_now S4) 1).toInt = ((b9g_now S) 1).toInt := congrArg (fun z => (z 1).toInt) hFS4.2.1
  have je56 : ((b9g_now S4) 4).toInt = ((b9g_now S) 4).toInt := congrArg (fun z => (z 4).toInt) hFS4.2.1
  have je58 : ((b9g_now S4) 7).toInt = ((b9g_now S) 7).toInt := congrArg (fun z => (z 7).toInt) hFS4.2.1
  have je60 : ((b9g_now S4) 8).toInt = ((b9g_now S) 8).toInt := congrArg (fun z => (z 8).toInt) hFS4.2.1
  have je62 : ((b9g_now S4) 9).toInt = ((b9g_now S) 9).toInt := congrArg (fun z => (z 9).toInt) hFS4.2.1
  have je64 : ((b9g_now S4) 10).toInt = ((b9g_now S) 10).toInt := congrArg (fun z => (z 10).toInt) hFS4.2.1
  have je66 : ((b9g_now S4) 12).toInt = ((b9g_now S) 12).toInt := congrArg (fun z => (z 12).toInt) hFS4.2.1
  have ju66_S4 := hJS4.2.1
  exact hq _ hJS4 hFS4 (by (try simp (disch := first | ((try simp (disch := first | ((try simp only [pn]) <;> omega) | fail) only [pn, pq]) <;> omega) | fail) only [pn, pq]) <;> (intros; (try simp (disch := first | ((try simp (disch := first | ((try simp only [pn]) <;> omega) | fail) only [pn, pq]) <;> omega) | fail) only [pn, pq]) <;> omega))
def F_X9_places (S u : bT9) : Prop := (b9g_told u) = (b9g_told S) ∧ (b9g_now u) = (b9g_now S) ∧ (b9g_keys u) = (b9g_keys S) ∧ (b9g_lengths u) = (b9g_lengths S) ∧ (b9g_drawn u) = (b9g_drawn S) ∧ (b9g_drawnLength u) = (b9g_drawnLength S) ∧ (b9g_tape u) = (b9g_tape S) ∧ (b9g_taped u) = (b9g_taped S) ∧ (b9g_names u) = (b9g_names S) ∧ (b9g_chosen u) = (b9g_chosen S) ∧ (b9g_common u) = (b9g_common S) ∧ (b9g_beginning u) = (b9g_beginning S) ∧ (b9g_isLaid u) = (b9g_isLaid S) ∧ (b9g_nodeLevel u) = (b9g_nodeLevel S) ∧ (b9g_nodeLeaf u) = (b9g_nodeLeaf S) ∧ (b9g_nodeLeaves u) = (b9g_nodeLeaves S) ∧ (b9g_nodeMany u) = (b9g_nodeMany S) ∧ (b9g_levelMany u) = (b9g_levelMany S) ∧ (b9g_upper u) = (b9g_upper S) ∧ (b9g_upperNodes u) = (b9g_upperNodes S) ∧ (b9g_areNodesLaid u) = (b9g_areNodesLaid S) ∧ (b9g_itemNode u) = (b9g_itemNode S) ∧ (b9g_itemByte u) = (b9g_itemByte S) ∧ (b9g_itemChild u) = (b9g_itemChild S) ∧ (b9g_itemMany u) = (b9g_itemMany S) ∧ (b9g_lowKey u) = (b9g_lowKey S) ∧ (b9g_highKey u) = (b9g_highKey S) ∧ (b9g_lowLength u) = (b9g_lowLength S) ∧ (b9g_highLength u) = (b9g_highLength S) ∧ (b9g_fromKey u) = (b9g_fromKey S) ∧ (b9g_toKey u) = (b9g_toKey S) ∧ (b9g_fromLength u) = (b9g_fromLength S) ∧ (b9g_toLength u) = (b9g_toLength S) ∧ (b9g_ones u) = (b9g_ones S) ∧ (b9g_oneMany u) = (b9g_oneMany S) ∧ (b9g_rowLong u) = (b9g_rowLong S) ∧ (b9g_laidFor u) = (b9g_laidFor S) ∧ (b9g_signs u) = (b9g_signs S) ∧ (b9g_signMany u) = (b9g_signMany S) ∧ (b9g_hasImage u) = (b9g_hasImage S) ∧ (b9g_images u) = (b9g_images S) ∧ (b9g_keyImages u) = (b9g_keyImages S) ∧ (b9g_lengthImages u) = (b9g_lengthImages S)
set_option maxRecDepth 20000 in
set_option maxHeartbeats 8000000 in
theorem sf_X9_places {S : bT9} (hJ : J9 S) {a1 : Int32} {Q : (bT9) → Prop} (hp0 : 0 ≤ a1.toInt) (hp1 : a1.toInt ≤ 63) (hp2 : (b9g_places S).toInt ≤ 63) (hq : ∀ u : bT9, (J9 u) → F_X9_places S u → ((b9g_places u).toInt = (b9g_places S).toInt + 1) → Q u) : wp_X9_places S a1 Q := by
  unfold wp_X9_places
  have hFS : F_X9_places S S := ⟨rfl, rfl, rfl, rfl, rfl, rfl, rfl, rfl, rfl, rfl, rfl, rfl, rfl, rfl, rfl, rfl, rfl, rfl, rfl, rfl, rfl, rfl, rfl, rfl, rfl, rfl, rfl, rfl, rfl, rfl, rfl, rfl, rfl, rfl, rfl, rfl, rfl, rfl, rfl, rfl, rfl, rfl, rfl⟩
  have jf1 := J9g_places hJ
  have jf2 : (-4 ≤ ((b9g_now S) 1).toInt ∧ ((b9g_now S) 1).toInt ≤ 4) ∧ (-3 ≤ ((b9g_now S) 4).toInt ∧ ((b9g_now S) 4).toInt ≤ 252) ∧ (0 ≤ ((b9g_now S) 8).toInt ∧ ((b9g_now S) 8).toInt ≤ 64) ∧ (0 ≤ ((b9g_now S) 9).toInt ∧ ((b9g_now S) 9).toInt ≤ 64) ∧ (0 ≤ ((b9g_now S) 10).toInt ∧ ((b9g_now S) 10).toInt ≤ 16) ∧ (0 ≤ ((b9g_now S) 12).toInt ∧ ((b9g_now S) 12).toInt ≤ 8) := J9g_now hJ
  have ju2_S := hJ.2.1
  have rga1 := pt_rg a1
  refine ⟨pt_in (by (try simp (disch := first | ((try simp (disch := first | ((try simp only [pn]) <;> omega) | fail) only [pn, pq]) <;> omega) | fail) only [pn, pq]) <;> (intros; (try simp (disch := first | ((try simp (disch := first | ((try simp only [pn]) <;> omega) | fail) only [pn, pq]) <;> omega) | fail) only [pn, pq]) <;> omega)) (by (try simp (disch := first | ((try simp (disch := first | ((try simp only [pn]) <;> omega) | fail) only [pn, pq]) <;> omega) | fail) only [pn, pq]) <;> (intros; (try simp (disch := first | ((try simp (disch := first | ((try simp only [pn]) <;> omega) | fail) only [pn, pq]) <;> omega) | fail) only [pn, pq]) <;> omega)), ?_⟩
  intro S1 eS1
  have hJS1 : J9 S1 := by rw [eS1]; exact (J9s_placeOf hJ)
  have hFS1 : F_X9_places S S1 := by rw [eS1]; exact hFS
  have je3 : ((b9g_places S1)).toInt = ((b9g_places S)).toInt := by rw [eS1]
  have jf4 := J9g_places hJS1
  have je6 : ((b9g_now S1) 1).toInt = ((b9g_now S) 1).toInt := congrArg (fun z => (z 1).toInt) hFS1.2.1
  have je8 : ((b9g_now S1) 4).toInt = ((b9g_now S) 4).toInt := congrArg (fun z => (z 4).toInt) hFS1.2.1
  have je10 : ((b9g_now S1) 7).toInt = ((b9g_now S) 7).toInt := congrArg (fun z => (z 7).toInt) hFS1.2.1
  have je12 : ((b9g_now S1) 8).toInt = ((b9g_now S) 8).toInt := congrArg (fun z => (z 8).toInt) hFS1.2.1
  have je14 : ((b9g_now S1) 9).toInt = ((b9g_now S) 9).toInt := congrArg (fun z => (z 9).toInt) hFS1.2.1
  have je16 : ((b9g_now S1) 10).toInt = ((b9g_now S) 10).toInt := congrArg (fun z => (z 10).toInt) hFS1.2.1
  have je18 : ((b9g_now S1) 12).toInt = ((b9g_now S) 12).toInt := congrArg (fun z => (z 12).toInt) hFS1.2.1
  have ju18_S1 := hJS1.2.1
  refine ⟨pt_in (by (try simp (disch := first | ((try simp (disch := first | ((try simp only [pn]) <;> omega) | fail) only [pn, pq]) <;> omega) | fail) only [pn, pq]) <;> (intros; (try simp (disch := first | ((try simp (disch := first | ((try simp only [pn]) <;> omega) | fail) only [pn, pq]) <;> omega) | fail) only [pn, pq]) <;> omega)) (by (try simp (disch := first | ((try simp (disch := first | ((try simp only [pn]) <;> omega) | fail) only [pn, pq]) <;> omega) | fail) only [pn, pq]) <;> (intros; (try simp (disch := first | ((try simp (disch := first | ((try simp only [pn]) <;> omega) | fail) only [pn, pq]) <;> omega) | fail) only [pn, pq]) <;> omega)), ?_⟩
  intro S2 eS2
  have hJS2 : J9 S2 := by rw [eS2]; exact (J9s_leafOfPlace hJS1)
  have hFS2 : F_X9_places S S2 := by rw [eS2]; exact hFS1
  have je19 : ((b9g_places S2)).toInt = ((b9g_places S1)).toInt := by rw [eS2]
  have jf20 := J9g_places hJS2
  have je22 : ((b9g_now S2) 1).toInt = ((b9g_now S) 1).toInt := congrArg (fun z => (z 1).toInt) hFS2.2.1
  have je24 : ((b9g_now S2) 4).toInt = ((b9g_now S) 4).toInt := congrArg (fun z => (z 4).toInt) hFS2.2.1
  have je26 : ((b9g_now S2) 7).toInt = ((b9g_now S) 7).toInt := congrArg (fun z => (z 7).toInt) hFS2.2.1
  have je28 : ((b9g_now S2) 8).toInt = ((b9g_now S) 8).toInt := congrArg (fun z => (z 8).toInt) hFS2.2.1
  have je30 : ((b9g_now S2) 9).toInt = ((b9g_now S) 9).toInt := congrArg (fun z => (z 9).toInt) hFS2.2.1
  have je32 : ((b9g_now S2) 10).toInt = ((b9g_now S) 10).toInt := congrArg (fun z => (z 10).toInt) hFS2.2.1
  have je34 : ((b9g_now S2) 12).toInt = ((b9g_now S) 12).toInt := congrArg (fun z => (z 12).toInt) hFS2.2.1
  have ju34_S2 := hJS2.2.1
  intro S3 eS3
  have hJS3 : J9 S3 := by rw [eS3]; exact (J9s_places hJS2 ⟨(by (try simp (disch := first | ((try simp (disch := first | ((try simp only [pn]) <;> omega) | fail) only [pn, pq]) <;> omega) | fail) only [pn, pq]) <;> (intros; (try simp (disch := first | ((try simp (disch := first | ((try simp only [pn]) <;> omega) | fail) only [pn, pq]) <;> omega) | fail) only [pn, pq]) <;> omega)), (by (try simp (disch := first | ((try simp (disch := first | ((try simp only [pn]) <;> omega) | fail) only [pn, pq]) <;> omega) | fail) only [pn, pq]) <;> (intros; (try simp (disch := first | ((try simp (disch := first | ((try simp only [pn]) <;> omega) | fail) only [pn, pq]) <;> omega) | fail) only [pn, pq]) <;> omega))⟩)
  have hFS3 : F_X9_places S S3 := by rw [eS3]; exact hFS2
  have je35 : ((b9g_places S3)).toInt = (((b9g_places S2) + (1 : Int32))).toInt := by rw [eS3]
  try simp (disch := first | ((try simp (disch := first | ((try simp only [pn]) <;> omega) | fail) only [pn, pq]) <;> omega) | fail) only [pn, pq] at je35
  have jf36 := J9g_places hJS3
  have je38 : ((b9g_now S3) 1).toInt = ((b9g_now S) 1).toInt := congrArg (fun z => (z 1).toInt) hFS3.2.1
  have je40 : ((b9g_now S3) 4).toInt = ((b9g_now S) 4).toInt := congrArg (fun z => (z 4).toInt) hFS3.2.1
  have je42 : ((b9g_now S3) 7).toInt = ((b9g_now S) 7).toInt := congrArg (fun z => (z 7).toInt) hFS3.2.1
  have je44 : ((b9g_now S3) 8).toInt = ((b9g_now S) 8).toInt := congrArg (fun z => (z 8).toInt) hFS3.2.1
  have je46 : ((b9g_now S3) 9).toInt = ((b9g_now S) 9).toInt := congrArg (fun z => (z 9).toInt) hFS3.2.1
  have je48 : ((b9g_now S3) 10).toInt = ((b9g_now S) 10).toInt := congrArg (fun z => (z 10).toInt) hFS3.2.1
  have je50 : ((b9g_now S3) 12).toInt = ((b9g_now S) 12).toInt := congrArg (fun z => (z 12).toInt) hFS3.2.1
  have ju50_S3 := hJS3.2.1
  exact hq _ hJS3 hFS3 (by (try simp (disch := first | ((try simp (disch := first | ((try simp only [pn]) <;> omega) | fail) only [pn, pq]) <;> omega) | fail) only [pn, pq]) <;> (intros; (try simp (disch := first | ((try simp (disch := first | ((try simp only [pn]) <;> omega) | fail) only [pn, pq]) <;> omega) | fail) only [pn, pq]) <;> omega))
def F_X9_laysNode (S u : bT9) : Prop := (b9g_told u) = (b9g_told S) ∧ (b9g_now u) = (b9g_now S) ∧ (b9g_keys u) = (b9g_keys S) ∧ (b9g_lengths u) = (b9g_lengths S) ∧ (b9g_drawn u) = (b9g_drawn S) ∧ (b9g_drawnLength u) = (b9g_drawnLength S) ∧ (b9g_tape u) = (b9g_tape S) ∧ (b9g_taped u) = (b9g_taped S) ∧ (b9g_names u) = (b9g_names S) ∧ (b9g_chosen u) = (b9g_chosen S) ∧ (b9g_common u) = (b9g_common S) ∧ (b9g_beginning u) = (b9g_beginning S) ∧ (b9g_isLaid u) = (b9g_isLaid S) ∧ (b9g_nodeLevel u) = (b9g_nodeLevel S) ∧ (b9g_nodeLeaf u) = (b9g_nodeLeaf S) ∧ (b9g_nodeLeaves u) = (b9g_nodeLeaves S) ∧ (b9g_nodeMany u) = (b9g_nodeMany S) ∧ (b9g_levelMany u) = (b9g_levelMany S) ∧ (b9g_upper u) = (b9g_upper S) ∧ (b9g_upperNodes u) = (b9g_upperNodes S) ∧ (b9g_areNodesLaid u) = (b9g_areNodesLaid S) ∧ (b9g_lowKey u) = (b9g_lowKey S) ∧ (b9g_highKey u) = (b9g_highKey S) ∧ (b9g_lowLength u) = (b9g_lowLength S) ∧ (b9g_highLength u) = (b9g_highLength S) ∧ (b9g_fromKey u) = (b9g_fromKey S) ∧ (b9g_toKey u) = (b9g_toKey S) ∧ (b9g_fromLength u) = (b9g_fromLength S) ∧ (b9g_toLength u) = (b9g_toLength S) ∧ (b9g_ones u) = (b9g_ones S) ∧ (b9g_oneMany u) = (b9g_oneMany S) ∧ (b9g_rowLong u) = (b9g_rowLong S) ∧ (b9g_laidFor u) = (b9g_laidFor S) ∧ (b9g_signs u) = (b9g_signs S) ∧ (b9g_signMany u) = (b9g_signMany S) ∧ (b9g_hasImage u) = (b9g_hasImage S) ∧ (b9g_images u) = (b9g_images S) ∧ (b9g_keyImages u) = (b9g_keyImages S) ∧ (b9g_lengthImages u) = (b9g_lengthImages S)
theorem sf_X9_laysNode {S : bT9} (hJ : J9 S) {a1 : Int32} {Q : (bT9) → Prop} (hp0 : 0 ≤ a1.toInt) (hp1 : a1.toInt < (b9g_nodeMany S).toInt) (hp2 : TR S 8 0) (hp3 : (b9g_itemMany S).toInt ≤ 64 * (b9g_nodeLevel S a1.toNatClampNeg).toInt + (b9g_nodeLeaf S a1.toNatClampNeg).toInt) (hp4 : ∃ T : Nat → Bool, (∀ i : Nat, T i = true → ∃ y : Nat, y < a1.toNatClampNeg ∧ PLS S y i) ∧ (b9g_places S).toInt = cntB T 64) (hq : ∀ u : bT9, (J9 u) → F_X9_laysNode S u → ((b9g_itemMany u).toInt ≤ (b9g_itemMany S).toInt + (b9g_nodeLeaves S a1.toNatClampNeg).toInt) → (∃ T : Nat → Bool, (∀ i : Nat, T i = true → ∃ y : Nat, y < a1.toNatClampNeg + 1 ∧ PLS S y i) ∧ (b9g_places u).toInt = cntB T 64) → Q u) : wp_X9_laysNode S a1 Q := by
  have jx := ND_at (J9g_ND hJ) hp0 hp1
  have hN := J9g_ND hJ
  have jm := J9g_nodeMany hJ
  have jb := J9g_beginning hJ
  have ex := pt_clamp hp0
  have elf := pt_clamp (i := b9g_nodeLeaf S a1.toNatClampNeg) (by omega)
  have hTR := hp2
  obtain ⟨hM, hC, hE, _⟩ := hTR
  have hEx := hE a1.toNatClampNeg (by omega)
  obtain ⟨T0, t1, t2⟩ := hp4
  have loop : ∀ (x2 : Int32) (U : bT9), J9 U → F_X9_laysNode S U → (∃ T : Nat → Bool, (∀ i : Nat, T i = true → (∃ y : Nat, y < a1.toNatClampNeg ∧ PLS S y i) ∨ (PLS S a1.toNatClampNeg i ∧ ((i : Int) < (b9g_nodeLeaf S a1.toNatClampNeg).toInt ∨ (b9g_beginning S i).toInt = (b9g_nodeLevel S a1.toNatClampNeg).toInt))) ∧ (b9g_places U).toInt = cntB T 64) → ((b9g_itemMany U).toInt ≤ (b9g_itemMany S).toInt + ((b9g_nodeLeaf S a1.toNatClampNeg).toInt - (b9g_nodeLeaf S a1.toNatClampNeg).toInt) ∨ ((b9g_nodeLeaf S a1.toNatClampNeg).toInt = (b9g_nodeLeaf S a1.toNatClampNeg).toInt ∧ (b9g_beginning S (b9g_nodeLeaf S a1.toNatClampNeg).toNatClampNeg).toInt = (b9g_nodeLevel S a1.toNatClampNeg).toInt ∧ (b9g_itemMany U).toInt ≤ (b9g_itemMany S).toInt + 1)) → wp_X9_laysNode_43 U a1 x2 Q := by
    intro x2 U hJU hFU hpU hiU
    have eFU : b9g_nodeLeaf U = b9g_nodeLeaf S := hFU.2.2.2.2.2.2.2.2.2.2.2.2.2.2.1
    unfold wp_X9_laysNode_43 wp_X9_laysNode_50
    rw [eFU]
    refine ⟨pt_in (by omega) (by omega), fun n x1 y2 x3 V => a1 = x1 ∧ J9 V ∧ F_X9_laysNode S V ∧ (b9g_nodeLeaf S a1.toNatClampNeg).toInt ≤ x3.toInt ∧ x3.toInt ≤ (b9g_nodeLeaf S a1.toNatClampNeg).toInt + (b9g_nodeLeaves S a1.toNatClampNeg).toInt ∧ (∃ T : Nat → Bool, (∀ i : Nat, T i = true → (∃ y : Nat, y < a1.toNatClampNeg ∧ PLS S y i) ∨ (PLS S a1.toNatClampNeg i ∧ ((i : Int) < x3.toInt ∨ (b9g_beginning S i).toInt = (b9g_nodeLevel S a1.toNatClampNeg).toInt))) ∧ (b9g_places V).toInt = cntB T 64) ∧ ((b9g_itemMany V).toInt ≤ (b9g_itemMany S).toInt + (x3.toInt - (b9g_nodeLeaf S a1.toNatClampNeg).toInt) ∨ (x3.toInt = (b9g_nodeLeaf S a1.toNatClampNeg).toInt ∧ (b9g_beginning S (b9g_nodeLeaf S a1.toNatClampNeg).toNatClampNeg).toInt = (b9g_nodeLevel S a1.toNatClampNeg).toInt ∧ (b9g_itemMany V).toInt ≤ (b9g_itemMany S).toInt + 1)) ∧ n = ((b9g_nodeLeaf S a1.toNatClampNeg).toInt + (b9g_nodeLeaves S a1.toNatClampNeg).toInt - x3.toInt).toNat, ⟨_, rfl, hJU, hFU, by omega, by omega, hpU, hiU, rfl⟩, ?_⟩
    rintro n x1 y2 x3 V ⟨rfl, hJV, hF, h1, h2, hpV, hiV, hn⟩
    have eL : b9g_nodeLevel V = b9g_nodeLevel S := hF.2.2.2.2.2.2.2.2.2.2.2.2.2.1
    have eF : b9g_nodeLeaf V = b9g_nodeLeaf S := hF.2.2.2.2.2.2.2.2.2.2.2.2.2.2.1
    have eS : b9g_nodeLeaves V = b9g_nodeLeaves S := hF.2.2.2.2.2.2.2.2.2.2.2.2.2.2.2.1
    have eM : b9g_nodeMany V = b9g_nodeMany S := hF.2.2.2.2.2.2.2.2.2.2.2.2.2.2.2.2.1
    have eB : b9g_beginning V = b9g_beginning S := hF.2.2.2.2.2.2.2.2.2.2.2.1
    have eK : b9g_keys V = b9g_keys S := hF.2.2.1
    have hmV : a1.toInt < (b9g_nodeMany V).toInt := by rw [eM]; exact hp1
    have e3 := pt_clamp (i := x3) (by omega)
    unfold wp_X9_laysNode_50b
    refine sf_X9_lastOf hJV.1 hp0 hmV (fun r7 h71 h72 => ?_)
    rw [eF, eS] at h71
    refine ⟨fun c => ?_, fun c => ?_⟩
    · simp (disch := first | ((try simp (disch := first | ((try simp only [pn]) <;> omega) | fail) only [pn, pq]) <;> omega) | fail) only [pn, pq] at c
      refine hq V hJV hF (by omega) ?_
      obtain ⟨T, ta, tb⟩ := hpV
      refine ⟨T, fun i hi => ?_, tb⟩
      rcases ta i hi with ⟨y, y1, y2⟩ | ⟨y1, _⟩
      · exact ⟨y, by omega, y2⟩
      · exact ⟨a1.toNatClampNeg, by omega, y1⟩
    · simp (disch := first | ((try simp (disch := first | ((try simp only [pn]) <;> omega) | fail) only [pn, pq]) <;> omega) | fail) only [pn, pq] at c
      have e31 : (x3 + 1).toInt = x3.toInt + 1 := by rw [pt_add (by rw [pl_1]; omega) (by rw [pl_1]; omega), pl_1]
      have next : ∀ W : bT9, J9 W → F_X9_laysNode S W → (∃ T : Nat → Bool, (∀ i : Nat, T i = true → (∃ y : Nat, y < a1.toNatClampNeg ∧ PLS S y i) ∨ (PLS S a1.toNatClampNeg i ∧ ((i : Int) < (x3.toInt + 1) ∨ (b9g_beginning S i).toInt = (b9g_nodeLevel S a1.toNatClampNeg).toInt))) ∧ (b9g_places W).toInt = cntB T 64) → (b9g_itemMany W).toInt ≤ (b9g_itemMany S).toInt + (x3.toInt + 1 - (b9g_nodeLeaf S a1.toNatClampNeg).toInt) → wp_X9_laysNode_116 W a1 y2 x3 Q (fun z1 z2 z3 Z => ∃ n2 : Nat, n2 < n ∧ a1 = z1 ∧ J9 Z ∧ F_X9_laysNode S Z ∧ (b9g_nodeLeaf S a1.toNatClampNeg).toInt ≤ z3.toInt ∧ z3.toInt ≤ (b9g_nodeLeaf S a1.toNatClampNeg).toInt + (b9g_nodeLeaves S a1.toNatClampNeg).toInt ∧ (∃ T : Nat → Bool, (∀ i : Nat, T i = true → (∃ y : Nat, y < a1.toNatClampNeg ∧ PLS S y i) ∨ (PLS S a1.toNatClampNeg i ∧ ((i : Int) < z3.toInt ∨ (b9g_beginning S i).toInt = (b9g_nodeLevel S a1.toNatClampNeg).toInt))) ∧ (b9g_places Z).toInt = cntB T 64) ∧ ((b9g_itemMany Z).toInt ≤ (b9g_itemMany S).toInt + (z3.toInt - (b9g_nodeLeaf S a1.toNatClampNeg).toInt) ∨ (z3.toInt = (b9g_nodeLeaf S a1.toNatClampNeg).toInt ∧ (b9g_beginning S (b9g_nodeLeaf S a1.toNatClampNeg).toNatClampNeg).toInt = (b9g_nodeLevel S a1.toNatClampNeg).toInt ∧ (b9g_itemMany Z).toInt ≤ (b9g_itemMany S).toInt + 1)) ∧ n2 = ((b9g_nodeLeaf S a1.toNatClampNeg).toInt + (b9g_nodeLeaves S a1.toNatClampNeg).toInt - z3.toInt).toNat) := by
        intro W hW hFW hpW hiW
        unfold wp_X9_laysNode_116
        refine ⟨_, ?_, rfl, hW, hFW, by omega, by omega, ?_, ?_, rfl⟩
        · omega
        · rw [e31]; exact hpW
        · left; omega
      have weak : (∃ T : Nat → Bool, (∀ i : Nat, T i = true → (∃ y : Nat, y < a1.toNatClampNeg ∧ PLS S y i) ∨ (PLS S a1.toNatClampNeg i ∧ ((i : Int) < (x3.toInt + 1) ∨ (b9g_beginning S i).toInt = (b9g_nodeLevel S a1.toNatClampNeg).toInt))) ∧ (b9g_places V).toInt = cntB T 64) := by
        obtain ⟨T, ta, tb⟩ := hpV
        refine ⟨T, fun i hi => ?_, tb⟩
        rcases ta i hi with h | ⟨y1, y2⟩
        · exact Or.inl h
        · exact Or.inr ⟨y1, by omega⟩
      refine sf_X9_isBranch hJV.1 hp0 hmV (by rw [eF]; omega) (by omega) (fun r9 hz9 h9 => ⟨fun c2 => ?_, fun c2 => ?_⟩)
      · simp (disch := first | ((try simp (disch := first | ((try simp only [pn]) <;> omega) | fail) only [pn, pq]) <;> omega) | fail) only [pn, pq] at c2
        have hBR : BRd V a1 x3 := by
          rcases h9 with h9 | h9
          · omega
          · exact h9
        unfold BRd at hBR
        rw [eL, eB, eF, eK] at hBR
        obtain ⟨b1, b2⟩ := hBR
        have hi2 : (b9g_itemMany V).toInt ≤ (b9g_itemMany S).toInt + (x3.toInt - (b9g_nodeLeaf S a1.toNatClampNeg).toInt) := by
          rcases hiV with h | ⟨h, h', h''⟩
          · exact h
          · exfalso
            have : x3.toNatClampNeg = (b9g_nodeLeaf S a1.toNatClampNeg).toNatClampNeg := by omega
            rw [this] at b1
            omega
        have fin : ∀ (W : bT9) (r : Int32), J9 W → F_X9_laysNode S W → (∃ T : Nat → Bool, (∀ i : Nat, T i = true → (∃ y : Nat, y < a1.toNatClampNeg ∧ PLS S y i) ∨ (PLS S a1.toNatClampNeg i ∧ ((i : Int) < (x3.toInt + 1) ∨ (b9g_beginning S i).toInt = (b9g_nodeLevel S a1.toNatClampNeg).toInt))) ∧ (b9g_places W).toInt = cntB T 64) → (b9g_itemMany W).toInt ≤ (b9g_itemMany S).toInt + (x3.toInt - (b9g_nodeLeaf S a1.toNatClampNeg).toInt) → wp_X9_laysNode_90 W a1 y2 x3 r Q (fun z1 z2 z3 Z => ∃ n2 : Nat, n2 < n ∧ a1 = z1 ∧ J9 Z ∧ F_X9_laysNode S Z ∧ (b9g_nodeLeaf S a1.toNatClampNeg).toInt ≤ z3.toInt ∧ z3.toInt ≤ (b9g_nodeLeaf S a1.toNatClampNeg).toInt + (b9g_nodeLeaves S a1.toNatClampNeg).toInt ∧ (∃ T : Nat → Bool, (∀ i : Nat, T i = true → (∃ y : Nat, y < a1.toNatClampNeg ∧ PLS S y i) ∨ (PLS S a1.toNatClampNeg i ∧ ((i : Int) < z3.toInt ∨ (b9g_beginning S i).toInt = (b9g_nodeLevel S a1.toNatClampNeg).toInt))) ∧ (b9g_places Z).toInt = cntB T 64) ∧ ((b9g_itemMany Z).toInt ≤ (b9g_itemMany S).toInt + (z3.toInt - (b9g_nodeLeaf S a1.toNatClampNeg).toInt) ∨ (z3.toInt = (b9g_nodeLeaf S a1.toNatClampNeg).toInt ∧ (b9g_beginning S (b9g_nodeLeaf S a1.toNatClampNeg).toNatClampNeg).toInt = (b9g_nodeLevel S a1.toNatClampNeg).toInt ∧ (b9g_itemMany Z).toInt ≤ (b9g_itemMany S).toInt + 1)) ∧ n2 = ((b9g_nodeLeaf S a1.toNatClampNeg).toInt + (b9g_nodeLeaves S a1.toNatClampNeg).toInt - z3.toInt).toNat) := by
          intro W r hW hFW hpW hiW
          have eMW : b9g_nodeMany W = b9g_nodeMany S := hFW.2.2.2.2.2.2.2.2.2.2.2.2.2.2.2.2.1
          unfold wp_X9_laysNode_90
          refine ⟨fun _ => next W hW hFW hpW (by omega), fun _ => ?_⟩
          refine sf_X9_key hW.1 (by omega) (by omega) (fun r1 _ => ⟨pt_in (by omega) (by omega), sf_X9_byteOf hW.1 (fun r3 => ?_)⟩)
          refine sf_X9_laysItem hW (by omega) (fun u6 hJ6 hf6 h6 => ?_)
          have ep : b9g_places u6 = b9g_places W := hf6.2.2.2.2.2.2.2.2.2.2.2.2.2.2.2.2.2.2.2.2.2.2.2.1
          refine next u6 hJ6 ⟨(hf6.1).trans (hFW.1), (hf6.2.1).trans (hFW.2.1), (hf6.2.2.1).trans (hFW.2.2.1), (hf6.2.2.2.1).trans (hFW.2.2.2.1), (hf6.2.2.2.2.1).trans (hFW.2.2.2.2.1), (hf6.2.2.2.2.2.1).trans (hFW.2.2.2.2.2.1), (hf6.2.2.2.2.2.2.1).trans (hFW.2.2.2.2.2.2.1), (hf6.2.2.2.2.2.2.2.1).trans (hFW.2.2.2.2.2.2.2.1), (hf6.2.2.2.2.2.2.2.2.1).trans (hFW.2.2.2.2.2.2.2.2.1), (hf6.2.2.2.2.2.2.2.2.2.1).trans (hFW.2.2.2.2.2.2.2.2.2.1), (hf6.2.2.2.2.2.2.2.2.2.2.1).trans (hFW.2.2.2.2.2.2.2.2.2.2.1), (hf6.2.2.2.2.2.2.2.2.2.2.2.1).trans (hFW.2.2.2.2.2.2.2.2.2.2.2.1), (hf6.2.2.2.2.2.2.2.2.2.2.2.2.1).trans (hFW.2.2.2.2.2.2.2.2.2.2.2.2.1), (hf6.2.2.2.2.2.2.2.2.2.2.2.2.2.1).trans (hFW.2.2.2.2.2.2.2.2.2.2.2.2.2.1), (hf6.2.2.2.2.2.2.2.2.2.2.2.2.2.2.1).trans (hFW.2.2.2.2.2.2.2.2.2.2.2.2.2.2.1), (hf6.2.2.2.2.2.2.2.2.2.2.2.2.2.2.2.1).trans (hFW.2.2.2.2.2.2.2.2.2.2.2.2.2.2.2.1), (hf6.2.2.2.2.2.2.2.2.2.2.2.2.2.2.2.2.1).trans (hFW.2.2.2.2.2.2.2.2.2.2.2.2.2.2.2.2.1), (hf6.2.2.2.2.2.2.2.2.2.2.2.2.2.2.2.2.2.1).trans (hFW.2.2.2.2.2.2.2.2.2.2.2.2.2.2.2.2.2.1), (hf6.2.2.2.2.2.2.2.2.2.2.2.2.2.2.2.2.2.2.1).trans (hFW.2.2.2.2.2.2.2.2.2.2.2.2.2.2.2.2.2.2.1), (hf6.2.2.2.2.2.2.2.2.2.2.2.2.2.2.2.2.2.2.2.1).trans (hFW.2.2.2.2.2.2.2.2.2.2.2.2.2.2.2.2.2.2.2.1), (hf6.2.2.2.2.2.2.2.2.2.2.2.2.2.2.2.2.2.2.2.2.1).trans (hFW.2.2.2.2.2.2.2.2.2.2.2.2.2.2.2.2.2.2.2.2.1), (hf6.2.2.2.2.2.2.2.2.2.2.2.2.2.2.2.2.2.2.2.2.2.2.2.2.1).trans (hFW.2.2.2.2.2.2.2.2.2.2.2.2.2.2.2.2.2.2.2.2.2.1), (hf6.2.2.2.2.2.2.2.2.2.2.2.2.2.2.2.2.2.2.2.2.2.2.2.2.2.1).trans (hFW.2.2.2.2.2.2.2.2.2.2.2.2.2.2.2.2.2.2.2.2.2.2.1), (hf6.2.2.2.2.2.2.2.2.2.2.2.2.2.2.2.2.2.2.2.2.2.2.2.2.2.2.1).trans (hFW.2.2.2.2.2.2.2.2.2.2.2.2.2.2.2.2.2.2.2.2.2.2.2.1), (hf6.2.2.2.2.2.2.2.2.2.2.2.2.2.2.2.2.2.2.2.2.2.2.2.2.2.2.2.1).trans (hFW.2.2.2.2.2.2.2.2.2.2.2.2.2.2.2.2.2.2.2.2.2.2.2.2.1), (hf6.2.2.2.2.2.2.2.2.2.2.2.2.2.2.2.2.2.2.2.2.2.2.2.2.2.2.2.2.1).trans (hFW.2.2.2.2.2.2.2.2.2.2.2.2.2.2.2.2.2.2.2.2.2.2.2.2.2.1), (hf6.2.2.2.2.2.2.2.2.2.2.2.2.2.2.2.2.2.2.2.2.2.2.2.2.2.2.2.2.2.1).trans (hFW.2.2.2.2.2.2.2.2.2.2.2.2.2.2.2.2.2.2.2.2.2.2.2.2.2.2.1), (hf6.2.2.2.2.2.2.2.2.2.2.2.2.2.2.2.2.2.2.2.2.2.2.2.2.2.2.2.2.2.2.1).trans (hFW.2.2.2.2.2.2.2.2.2.2.2.2.2.2.2.2.2.2.2.2.2.2.2.2.2.2.2.1), (hf6.2.2.2.2.2.2.2.2.2.2.2.2.2.2.2.2.2.2.2.2.2.2.2.2.2.2.2.2.2.2.2.1).trans (hFW.2.2.2.2.2.2.2.2.2.2.2.2.2.2.2.2.2.2.2.2.2.2.2.2.2.2.2.2.1), (hf6.2.2.2.2.2.2.2.2.2.2.2.2.2.2.2.2.2.2.2.2.2.2.2.2.2.2.2.2.2.2.2.2.1).trans (hFW.2.2.2.2.2.2.2.2.2.2.2.2.2.2.2.2.2.2.2.2.2.2.2.2.2.2.2.2.2.1), (hf6.2.2.2.2.2.2.2.2.2.2.2.2.2.2.2.2.2.2.2.2.2.2.2.2.2.2.2.2.2.2.2.2.2.1).trans (hFW.2.2.2.2.2.2.2.2.2.2.2.2.2.2.2.2.2.2.2.2.2.2.2.2.2.2.2.2.2.2.1), (hf6.2.2.2.2.2.2.2.2.2.2.2.2.2.2.2.2.2.2.2.2.2.2.2.2.2.2.2.2.2.2.2.2.2.2.1).trans (hFW.2.2.2.2.2.2.2.2.2.2.2.2.2.2.2.2.2.2.2.2.2.2.2.2.2.2.2.2.2.2.2.1), (hf6.2.2.2.2.2.2.2.2.2.2.2.2.2.2.2.2.2.2.2.2.2.2.2.2.2.2.2.2.2.2.2.2.2.2.2.1).trans (hFW.2.2.2.2.2.2.2.2.2.2.2.2.2.2.2.2.2.2.2.2.2.2.2.2.2.2.2.2.2.2.2.2.1), (hf6.2.2.2.2.2.2.2.2.2.2.2.2.2.2.2.2.2.2.2.2.2.2.2.2.2.2.2.2.2.2.2.2.2.2.2.2.1).trans (hFW.2.2.2.2.2.2.2.2.2.2.2.2.2.2.2.2.2.2.2.2.2.2.2.2.2.2.2.2.2.2.2.2.2.1), (hf6.2.2.2.2.2.2.2.2.2.2.2.2.2.2.2.2.2.2.2.2.2.2.2.2.2.2.2.2.2.2.2.2.2.2.2.2.2.1).trans (hFW.2.2.2.2.2.2.2.2.2.2.2.2.2.2.2.2.2.2.2.2.2.2.2.2.2.2.2.2.2.2.2.2.2.2.1), (hf6.2.2.2.2.2.2.2.2.2.2.2.2.2.2.2.2.2.2.2.2.2.2.2.2.2.2.2.2.2.2.2.2.2.2.2.2.2.2.1).trans (hFW.2.2.2.2.2.2.2.2.2.2.2.2.2.2.2.2.2.2.2.2.2.2.2.2.2.2.2.2.2.2.2.2.2.2.2.1), (hf6.2.2.2.2.2.2.2.2.2.2.2.2.2.2.2.2.2.2.2.2.2.2.2.2.2.2.2.2.2.2.2.2.2.2.2.2.2.2.2.1).trans (hFW.2.2.2.2.2.2.2.2.2.2.2.2.2.2.2.2.2.2.2.2.2.2.2.2.2.2.2.2.2.2.2.2.2.2.2.2.1), (hf6.2.2.2.2.2.2.2.2.2.2.2.2.2.2.2.2.2.2.2.2.2.2.2.2.2.2.2.2.2.2.2.2.2.2.2.2.2.2.2.2.1).trans (hFW.2.2.2.2.2.2.2.2.2.2.2.2.2.2.2.2.2.2.2.2.2.2.2.2.2.2.2.2.2.2.2.2.2.2.2.2.2.1), (hf6.2.2.2.2.2.2.2.2.2.2.2.2.2.2.2.2.2.2.2.2.2.2.2.2.2.2.2.2.2.2.2.2.2.2.2.2.2.2.2.2.2).trans (hFW.2.2.2.2.2.2.2.2.2.2.2.2.2.2.2.2.2.2.2.2.2.2.2.2.2.2.2.2.2.2.2.2.2.2.2.2.2.2)⟩ ?_ (by omega)
          rw [ep]
          exact hpW
        refine sf_X9_childAt hJV.1 hp0 hmV (fun r11 h11 => ⟨fun c3 => fin V r11 hJV hF weak hi2, fun c3 => ?_⟩)
        simp (disch := first | ((try simp (disch := first | ((try simp only [pn]) <;> omega) | fail) only [pn, pq]) <;> omega) | fail) only [pn, pq] at c3
        have hnc := h11 c3
        rw [eM, eL, eF] at hnc
        have hPL : PLS S a1.toNatClampNeg x3.toNatClampNeg := by
          refine PL_branch hN hM hC jb (by omega) (by omega) (by omega) (by omega) b1 ?_ (fun y q1 q2 q3 => by have := hnc y q1 q2 q3; omega)
          rcases b2 with b2 | b2
          · left; omega
          · right; exact b2
        obtain ⟨T, ta, tb⟩ := hpV
        have hTf : T x3.toNatClampNeg = false := by
          cases hT : T x3.toNatClampNeg with
          | false => rfl
          | true =>
            exfalso
            have hbeg : (b9g_beginning S x3.toNatClampNeg).toInt = (b9g_nodeLevel S a1.toNatClampNeg).toInt + 1 := by
              unfold PLS at hPL
              rcases hPL with ⟨_, q⟩ | ⟨_, _, q, _⟩
              · omega
              · exact q
            rcases ta _ hT with ⟨y, y1, y2⟩ | ⟨y1, y2⟩
            · exact PL_once hN y1 (by omega) y2 hPL
            · omega
        have hlt := cntB_lt (n := 64) (show x3.toNatClampNeg < 64 by omega) hTf
        have hset := cntB_set (n := 64) (show x3.toNatClampNeg < 64 by omega) hTf
        refine sf_X9_places hJV (by omega) (by omega) (by omega) (fun u14 hJ14 hf14 h14 => ?_)
        have eI : b9g_itemMany u14 = b9g_itemMany V := hf14.2.2.2.2.2.2.2.2.2.2.2.2.2.2.2.2.2.2.2.2.2.2.2.2.1
        refine fin u14 r11 hJ14 ⟨(hf14.1).trans (hF.1), (hf14.2.1).trans (hF.2.1), (hf14.2.2.1).trans (hF.2.2.1), (hf14.2.2.2.1).trans (hF.2.2.2.1), (hf14.2.2.2.2.1).trans (hF.2.2.2.2.1), (hf14.2.2.2.2.2.1).trans (hF.2.2.2.2.2.1), (hf14.2.2.2.2.2.2.1).trans (hF.2.2.2.2.2.2.1), (hf14.2.2.2.2.2.2.2.1).trans (hF.2.2.2.2.2.2.2.1), (hf14.2.2.2.2.2.2.2.2.1).trans (hF.2.2.2.2.2.2.2.2.1), (hf14.2.2.2.2.2.2.2.2.2.1).trans (hF.2.2.2.2.2.2.2.2.2.1), (hf14.2.2.2.2.2.2.2.2.2.2.1).trans (hF.2.2.2.2.2.2.2.2.2.2.1), (hf14.2.2.2.2.2.2.2.2.2.2.2.1).trans (hF.2.2.2.2.2.2.2.2.2.2.2.1), (hf14.2.2.2.2.2.2.2.2.2.2.2.2.1).trans (hF.2.2.2.2.2.2.2.2.2.2.2.2.1), (hf14.2.2.2.2.2.2.2.2.2.2.2.2.2.1).trans (hF.2.2.2.2.2.2.2.2.2.2.2.2.2.1), (hf14.2.2.2.2.2.2.2.2.2.2.2.2.2.2.1).trans (hF.2.2.2.2.2.2.2.2.2.2.2.2.2.2.1), (hf14.2.2.2.2.2.2.2.2.2.2.2.2.2.2.2.1).trans (hF.2.2.2.2.2.2.2.2.2.2.2.2.2.2.2.1), (hf14.2.2.2.2.2.2.2.2.2.2.2.2.2.2.2.2.1).trans (hF.2.2.2.2.2.2.2.2.2.2.2.2.2.2.2.2.1), (hf14.2.2.2.2.2.2.2.2.2.2.2.2.2.2.2.2.2.1).trans (hF.2.2.2.2.2.2.2.2.2.2.2.2.2.2.2.2.2.1), (hf14.2.2.2.2.2.2.2.2.2.2.2.2.2.2.2.2.2.2.1).trans (hF.2.2.2.2.2.2.2.2.2.2.2.2.2.2.2.2.2.2.1), (hf14.2.2.2.2.2.2.2.2.2.2.2.2.2.2.2.2.2.2.2.1).trans (hF.2.2.2.2.2.2.2.2.2.2.2.2.2.2.2.2.2.2.2.1), (hf14.2.2.2.2.2.2.2.2.2.2.2.2.2.2.2.2.2.2.2.2.1).trans (hF.2.2.2.2.2.2.2.2.2.2.2.2.2.2.2.2.2.2.2.2.1), (hf14.2.2.2.2.2.2.2.2.2.2.2.2.2.2.2.2.2.2.2.2.2.2.2.2.2.1).trans (hF.2.2.2.2.2.2.2.2.2.2.2.2.2.2.2.2.2.2.2.2.2.1), (hf14.2.2.2.2.2.2.2.2.2.2.2.2.2.2.2.2.2.2.2.2.2.2.2.2.2.2.1).trans (hF.2.2.2.2.2.2.2.2.2.2.2.2.2.2.2.2.2.2.2.2.2.2.1), (hf14.2.2.2.2.2.2.2.2.2.2.2.2.2.2.2.2.2.2.2.2.2.2.2.2.2.2.2.1).trans (hF.2.2.2.2.2.2.2.2.2.2.2.2.2.2.2.2.2.2.2.2.2.2.2.1), (hf14.2.2.2.2.2.2.2.2.2.2.2.2.2.2.2.2.2.2.2.2.2.2.2.2.2.2.2.2.1).trans (hF.2.2.2.2.2.2.2.2.2.2.2.2.2.2.2.2.2.2.2.2.2.2.2.2.1), (hf14.2.2.2.2.2.2.2.2.2.2.2.2.2.2.2.2.2.2.2.2.2.2.2.2.2.2.2.2.2.1).trans (hF.2.2.2.2.2.2.2.2.2.2.2.2.2.2.2.2.2.2.2.2.2.2.2.2.2.1), (hf14.2.2.2.2.2.2.2.2.2.2.2.2.2.2.2.2.2.2.2.2.2.2.2.2.2.2.2.2.2.2.1).trans (hF.2.2.2.2.2.2.2.2.2.2.2.2.2.2.2.2.2.2.2.2.2.2.2.2.2.2.1), (hf14.2.2.2.2.2.2.2.2.2.2.2.2.2.2.2.2.2.2.2.2.2.2.2.2.2.2.2.2.2.2.2.1).trans (hF.2.2.2.2.2.2.2.2.2.2.2.2.2.2.2.2.2.2.2.2.2.2.2.2.2.2.2.1), (hf14.2.2.2.2.2.2.2.2.2.2.2.2.2.2.2.2.2.2.2.2.2.2.2.2.2.2.2.2.2.2.2.2.1).trans (hF.2.2.2.2.2.2.2.2.2.2.2.2.2.2.2.2.2.2.2.2.2.2.2.2.2.2.2.2.1), (hf14.2.2.2.2.2.2.2.2.2.2.2.2.2.2.2.2.2.2.2.2.2.2.2.2.2.2.2.2.2.2.2.2.2.1).trans (hF.2.2.2.2.2.2.2.2.2.2.2.2.2.2.2.2.2.2.2.2.2.2.2.2.2.2.2.2.2.1), (hf14.2.2.2.2.2.2.2.2.2.2.2.2.2.2.2.2.2.2.2.2.2.2.2.2.2.2.2.2.2.2.2.2.2.2.1).trans (hF.2.2.2.2.2.2.2.2.2.2.2.2.2.2.2.2.2.2.2.2.2.2.2.2.2.2.2.2.2.2.1), (hf14.2.2.2.2.2.2.2.2.2.2.2.2.2.2.2.2.2.2.2.2.2.2.2.2.2.2.2.2.2.2.2.2.2.2.2.1).trans (hF.2.2.2.2.2.2.2.2.2.2.2.2.2.2.2.2.2.2.2.2.2.2.2.2.2.2.2.2.2.2.2.1), (hf14.2.2.2.2.2.2.2.2.2.2.2.2.2.2.2.2.2.2.2.2.2.2.2.2.2.2.2.2.2.2.2.2.2.2.2.2.1).trans (hF.2.2.2.2.2.2.2.2.2.2.2.2.2.2.2.2.2.2.2.2.2.2.2.2.2.2.2.2.2.2.2.2.1), (hf14.2.2.2.2.2.2.2.2.2.2.2.2.2.2.2.2.2.2.2.2.2.2.2.2.2.2.2.2.2.2.2.2.2.2.2.2.2.1).trans (hF.2.2.2.2.2.2.2.2.2.2.2.2.2.2.2.2.2.2.2.2.2.2.2.2.2.2.2.2.2.2.2.2.2.1), (hf14.2.2.2.2.2.2.2.2.2.2.2.2.2.2.2.2.2.2.2.2.2.2.2.2.2.2.2.2.2.2.2.2.2.2.2.2.2.2.1).trans (hF.2.2.2.2.2.2.2.2.2.2.2.2.2.2.2.2.2.2.2.2.2.2.2.2.2.2.2.2.2.2.2.2.2.2.1), (hf14.2.2.2.2.2.2.2.2.2.2.2.2.2.2.2.2.2.2.2.2.2.2.2.2.2.2.2.2.2.2.2.2.2.2.2.2.2.2.2.1).trans (hF.2.2.2.2.2.2.2.2.2.2.2.2.2.2.2.2.2.2.2.2.2.2.2.2.2.2.2.2.2.2.2.2.2.2.2.1), (hf14.2.2.2.2.2.2.2.2.2.2.2.2.2.2.2.2.2.2.2.2.2.2.2.2.2.2.2.2.2.2.2.2.2.2.2.2.2.2.2.2.1).trans (hF.2.2.2.2.2.2.2.2.2.2.2.2.2.2.2.2.2.2.2.2.2.2.2.2.2.2.2.2.2.2.2.2.2.2.2.2.1), (hf14.2.2.2.2.2.2.2.2.2.2.2.2.2.2.2.2.2.2.2.2.2.2.2.2.2.2.2.2.2.2.2.2.2.2.2.2.2.2.2.2.2.1).trans (hF.2.2.2.2.2.2.2.2.2.2.2.2.2.2.2.2.2.2.2.2.2.2.2.2.2.2.2.2.2.2.2.2.2.2.2.2.2.1), (hf14.2.2.2.2.2.2.2.2.2.2.2.2.2.2.2.2.2.2.2.2.2.2.2.2.2.2.2.2.2.2.2.2.2.2.2.2.2.2.2.2.2.2).trans (hF.2.2.2.2.2.2.2.2.2.2.2.2.2.2.2.2.2.2.2.2.2.2.2.2.2.2.2.2.2.2.2.2.2.2.2.2.2.2)⟩ ⟨setB T x3.toNatClampNeg, fun i hi => ?_, by omega⟩ (by rw [eI]; exact hi2)
        rcases setB_true hi with h | h
        · subst h
          exact Or.inr ⟨hPL, Or.inl (by omega)⟩
        · rcases ta i h with h | ⟨q1, q2⟩
          · exact Or.inl h
          · exact Or.inr ⟨q1, by omega⟩
      · refine next V hJV hF weak ?_
        rcases hiV with h | ⟨h, h', h''⟩
        · omega
        · omega
  have start : ∀ t0 : Int32, wp_X9_laysNode_13 S a1 t0 Q := by
    intro t0
    have hF0 : F_X9_laysNode S S := ⟨rfl, rfl, rfl, rfl, rfl, rfl, rfl, rfl, rfl, rfl, rfl, rfl, rfl, rfl, rfl, rfl, rfl, rfl, rfl, rfl, rfl, rfl, rfl, rfl, rfl, rfl, rfl, rfl, rfl, rfl, rfl, rfl, rfl, rfl, rfl, rfl, rfl, rfl, rfl⟩
    unfold wp_X9_laysNode_13
    refine sf_X9_isNodeEnd hJ.1 hp0 hp1 (fun r15 hz hr => ⟨fun c => ?_, fun c => ?_⟩)
    · exact loop t0 S hJ hF0 ⟨T0, fun i hi => Or.inl (t1 i hi), t2⟩ (Or.inl (by omega))
    · simp (disch := first | ((try simp (disch := first | ((try simp only [pn]) <;> omega) | fail) only [pn, pq]) <;> omega) | fail) only [pn, pq] at c
      have hbe : (b9g_beginning S (b9g_nodeLeaf S a1.toNatClampNeg).toNatClampNeg).toInt = (b9g_nodeLevel S a1.toNatClampNeg).toInt := by omega
      have hPL : PLS S a1.toNatClampNeg (b9g_nodeLeaf S a1.toNatClampNeg).toNatClampNeg := Or.inl ⟨by omega, hbe⟩
      have hTf : T0 (b9g_nodeLeaf S a1.toNatClampNeg).toNatClampNeg = false := by
        cases hT : T0 (b9g_nodeLeaf S a1.toNatClampNeg).toNatClampNeg with
        | false => rfl
        | true =>
          exfalso
          obtain ⟨y, y1, y2⟩ := t1 _ hT
          exact PL_once hN y1 (by omega) y2 hPL
      have hlt := cntB_lt (n := 64) (show (b9g_nodeLeaf S a1.toNatClampNeg).toNatClampNeg < 64 by omega) hTf
      have hset := cntB_set (n := 64) (show (b9g_nodeLeaf S a1.toNatClampNeg).toNatClampNeg < 64 by omega) hTf
      refine ⟨pt_in (by omega) (by omega), sf_X9_places hJ (by omega) (by omega) (by omega) (fun u18 hJ18 hf18 h18 => ?_)⟩
      have eI : b9g_itemMany u18 = b9g_itemMany S := hf18.2.2.2.2.2.2.2.2.2.2.2.2.2.2.2.2.2.2.2.2.2.2.2.2.1
      have hF18 : F_X9_laysNode S u18 := ⟨(hf18.1).trans (hF0.1), (hf18.2.1).trans (hF0.2.1), (hf18.2.2.1).trans (hF0.2.2.1), (hf18.2.2.2.1).trans (hF0.2.2.2.1), (hf18.2.2.2.2.1).trans (hF0.2.2.2.2.1), (hf18.2.2.2.2.2.1).trans (hF0.2.2.2.2.2.1), (hf18.2.2.2.2.2.2.1).trans (hF0.2.2.2.2.2.2.1), (hf18.2.2.2.2.2.2.2.1).trans (hF0.2.2.2.2.2.2.2.1), (hf18.2.2.2.2.2.2.2.2.1).trans (hF0.2.2.2.2.2.2.2.2.1), (hf18.2.2.2.2.2.2.2.2.2.1).trans (hF0.2.2.2.2.2.2.2.2.2.1), (hf18.2.2.2.2.2.2.2.2.2.2.1).trans (hF0.2.2.2.2.2.2.2.2.2.2.1), (hf18.2.2.2.2.2.2.2.2.2.2.2.1).trans (hF0.2.2.2.2.2.2.2.2.2.2.2.1), (hf18.2.2.2.2.2.2.2.2.2.2.2.2.1).trans (hF0.2.2.2.2.2.2.2.2.2.2.2.2.1), (hf18.2.2.2.2.2.2.2.2.2.2.2.2.2.1).trans (hF0.2.2.2.2.2.2.2.2.2.2.2.2.2.1), (hf18.2.2.2.2.2.2.2.2.2.2.2.2.2.2.1).trans (hF0.2.2.2.2.2.2.2.2.2.2.2.2.2.2.1), (hf18.2.2.2.2.2.2.2.2.2.2.2.2.2.2.2.1).trans (hF0.2.2.2.2.2.2.2.2.2.2.2.2.2.2.2.1), (hf18.2.2.2.2.2.2.2.2.2.2.2.2.2.2.2.2.1).trans (hF0.2.2.2.2.2.2.2.2.2.2.2.2.2.2.2.2.1), (hf18.2.2.2.2.2.2.2.2.2.2.2.2.2.2.2.2.2.1).trans (hF0.2.2.2.2.2.2.2.2.2.2.2.2.2.2.2.2.2.1), (hf18.2.2.2.2.2.2.2.2.2.2.2.2.2.2.2.2.2.2.1).trans (hF0.2.2.2.2.2.2.2.2.2.2.2.2.2.2.2.2.2.2.1), (hf18.2.2.2.2.2.2.2.2.2.2.2.2.2.2.2.2.2.2.2.1).trans (hF0.2.2.2.2.2.2.2.2.2.2.2.2.2.2.2.2.2.2.2.1), (hf18.2.2.2.2.2.2.2.2.2.2.2.2.2.2.2.2.2.2.2.2.1).trans (hF0.2.2.2.2.2.2.2.2.2.2.2.2.2.2.2.2.2.2.2.2.1), (hf18.2.2.2.2.2.2.2.2.2.2.2.2.2.2.2.2.2.2.2.2.2.2.2.2.2.1).trans (hF0.2.2.2.2.2.2.2.2.2.2.2.2.2.2.2.2.2.2.2.2.2.1), (hf18.2.2.2.2.2.2.2.2.2.2.2.2.2.2.2.2.2.2.2.2.2.2.2.2.2.2.1).trans (hF0.2.2.2.2.2.2.2.2.2.2.2.2.2.2.2.2.2.2.2.2.2.2.1), (hf18.2.2.2.2.2.2.2.2.2.2.2.2.2.2.2.2.2.2.2.2.2.2.2.2.2.2.2.1).trans (hF0.2.2.2.2.2.2.2.2.2.2.2.2.2.2.2.2.2.2.2.2.2.2.2.1), (hf18.2.2.2.2.2.2.2.2.2.2.2.2.2.2.2.2.2.2.2.2.2.2.2.2.2.2.2.2.1).trans (hF0.2.2.2.2.2.2.2.2.2.2.2.2.2.2.2.2.2.2.2.2.2.2.2.2.1), (hf18.2.2.2.2.2.2.2.2.2.2.2.2.2.2.2.2.2.2.2.2.2.2.2.2.2.2.2.2.2.1).trans (hF0.2.2.2.2.2.2.2.2.2.2.2.2.2.2.2.2.2.2.2.2.2.2.2.2.2.1), (hf18.2.2.2.2.2.2.2.2.2.2.2.2.2.2.2.2.2.2.2.2.2.2.2.2.2.2.2.2.2.2.1).trans (hF0.2.2.2.2.2.2.2.2.2.2.2.2.2.2.2.2.2.2.2.2.2.2.2.2.2.2.1), (hf18.2.2.2.2.2.2.2.2.2.2.2.2.2.2.2.2.2.2.2.2.2.2.2.2.2.2.2.2.2.2.2.1).trans (hF0.2.2.2.2.2.2.2.2.2.2.2.2.2.2.2.2.2.2.2.2.2.2.2.2.2.2.2.1), (hf18.2.2.2.2.2.2.2.2.2.2.2.2.2.2.2.2.2.2.2.2.2.2.2.2.2.2.2.2.2.2.2.2.1).trans (hF0.2.2.2.2.2.2.2.2.2.2.2.2.2.2.2.2.2.2.2.2.2.2.2.2.2.2.2.2.1), (hf18.2.2.2.2.2.2.2.2.2.2.2.2.2.2.2.2.2.2.2.2.2.2.2.2.2.2.2.2.2.2.2.2.2.1).trans (hF0.2.2.2.2.2.2.2.2.2.2.2.2.2.2.2.2.2.2.2.2.2.2.2.2.2.2.2.2.2.1), (hf18.2.2.2.2.2.2.2.2.2.2.2.2.2.2.2.2.2.2.2.2.2.2.2.2.2.2.2.2.2.2.2.2.2.2.1).trans (hF0.2.2.2.2.2.2.2.2.2.2.2.2.2.2.2.2.2.2.2.2.2.2.2.2.2.2.2.2.2.2.1), (hf18.2.2.2.2.2.2.2.2.2.2.2.2.2.2.2.2.2.2.2.2.2.2.2.2.2.2.2.2.2.2.2.2.2.2.2.1).trans (hF0.2.2.2.2.2.2.2.2.2.2.2.2.2.2.2.2.2.2.2.2.2.2.2.2.2.2.2.2.2.2.2.1), (hf18.2.2.2.2.2.2.2.2.2.2.2.2.2.2.2.2.2.2.2.2.2.2.2.2.2.2.2.2.2.2.2.2.2.2.2.2.1).trans (hF0.2.2.2.2.2.2.2.2.2.2.2.2.2.2.2.2.2.2.2.2.2.2.2.2.2.2.2.2.2.2.2.2.1), (hf18.2.2.2.2.2.2.2.2.2.2.2.2.2.2.2.2.2.2.2.2.2.2.2.2.2.2.2.2.2.2.2.2.2.2.2.2.2.1).trans (hF0.2.2.2.2.2.2.2.2.2.2.2.2.2.2.2.2.2.2.2.2.2.2.2.2.2.2.2.2.2.2.2.2.2.1), (hf18.2.2.2.2.2.2.2.2.2.2.2.2.2.2.2.2.2.2.2.2.2.2.2.2.2.2.2.2.2.2.2.2.2.2.2.2.2.2.1).trans (hF0.2.2.2.2.2.2.2.2.2.2.2.2.2.2.2.2.2.2.2.2.2.2.2.2.2.2.2.2.2.2.2.2.2.2.1), (hf18.2.2.2.2.2.2.2.2.2.2.2.2.2.2.2.2.2.2.2.2.2.2.2.2.2.2.2.2.2.2.2.2.2.2.2.2.2.2.2.1).trans (hF0.2.2.2.2.2.2.2.2.2.2.2.2.2.2.2.2.2.2.2.2.2.2.2.2.2.2.2.2.2.2.2.2.2.2.2.1), (hf18.2.2.2.2.2.2.2.2.2.2.2.2.2.2.2.2.2.2.2.2.2.2.2.2.2.2.2.2.2.2.2.2.2.2.2.2.2.2.2.2.1).trans (hF0.2.2.2.2.2.2.2.2.2.2.2.2.2.2.2.2.2.2.2.2.2.2.2.2.2.2.2.2.2.2.2.2.2.2.2.2.1), (hf18.2.2.2.2.2.2.2.2.2.2.2.2.2.2.2.2.2.2.2.2.2.2.2.2.2.2.2.2.2.2.2.2.2.2.2.2.2.2.2.2.2.1).trans (hF0.2.2.2.2.2.2.2.2.2.2.2.2.2.2.2.2.2.2.2.2.2.2.2.2.2.2.2.2.2.2.2.2.2.2.2.2.2.1), (hf18.2.2.2.2.2.2.2.2.2.2.2.2.2.2.2.2.2.2.2.2.2.2.2.2.2.2.2.2.2.2.2.2.2.2.2.2.2.2.2.2.2.2).trans (hF0.2.2.2.2.2.2.2.2.2.2.2.2.2.2.2.2.2.2.2.2.2.2.2.2.2.2.2.2.2.2.2.2.2.2.2.2.2.2)⟩
      have hp18 : ∀ W : bT9, b9g_places W = b9g_places u18 → (∃ T : Nat → Bool, (∀ i : Nat, T i = true → (∃ y : Nat, y < a1.toNatClampNeg ∧ PLS S y i) ∨ (PLS S a1.toNatClampNeg i ∧ ((i : Int) < (b9g_nodeLeaf S a1.toNatClampNeg).toInt ∨ (b9g_beginning S i).toInt = (b9g_nodeLevel S a1.toNatClampNeg).toInt))) ∧ (b9g_places W).toInt = cntB T 64) := by
        intro W eW
        refine ⟨setB T0 (b9g_nodeLeaf S a1.toNatClampNeg).toNatClampNeg, fun i hi => ?_, by rw [eW]; omega⟩
        rcases setB_true hi with h | h
        · subst h
          exact Or.inr ⟨hPL, Or.inr hbe⟩
        · exact Or.inl (t1 i h)
      refine ⟨fun _ => ?_, fun _ => ?_⟩
      · exact loop t0 u18 hJ18 hF18 (hp18 u18 rfl) (Or.inl (by rw [eI]; omega))
      · refine sf_X9_laysItem hJ18 (by rw [eI]; omega) (fun u20 hJ20 hf20 h20 => ?_)
        have ep : b9g_places u20 = b9g_places u18 := hf20.2.2.2.2.2.2.2.2.2.2.2.2.2.2.2.2.2.2.2.2.2.2.2.1
        refine loop t0 u20 hJ20 ⟨(hf20.1).trans (hF18.1), (hf20.2.1).trans (hF18.2.1), (hf20.2.2.1).trans (hF18.2.2.1), (hf20.2.2.2.1).trans (hF18.2.2.2.1), (hf20.2.2.2.2.1).trans (hF18.2.2.2.2.1), (hf20.2.2.2.2.2.1).trans (hF18.2.2.2.2.2.1), (hf20.2.2.2.2.2.2.1).trans (hF18.2.2.2.2.2.2.1), (hf20.2.2.2.2.2.2.2.1).trans (hF18.2.2.2.2.2.2.2.1), (hf20.2.2.2.2.2.2.2.2.1).trans (hF18.2.2.2.2.2.2.2.2.1), (hf20.2.2.2.2.2.2.2.2.2.1).trans (hF18.2.2.2.2.2.2.2.2.2.1), (hf20.2.2.2.2.2.2.2.2.2.2.1).trans (hF18.2.2.2.2.2.2.2.2.2.2.1), (hf20.2.2.2.2.2.2.2.2.2.2.2.1).trans (hF18.2.2.2.2.2.2.2.2.2.2.2.1), (hf20.2.2.2.2.2.2.2.2.2.2.2.2.1).trans (hF18.2.2.2.2.2.2.2.2.2.2.2.2.1), (hf20.2.2.2.2.2.2.2.2.2.2.2.2.2.1).trans (hF18.2.2.2.2.2.2.2.2.2.2.2.2.2.1), (hf20.2.2.2.2.2.2.2.2.2.2.2.2.2.2.1).trans (hF18.2.2.2.2.2.2.2.2.2.2.2.2.2.2.1), (hf20.2.2.2.2.2.2.2.2.2.2.2.2.2.2.2.1).trans (hF18.2.2.2.2.2.2.2.2.2.2.2.2.2.2.2.1), (hf20.2.2.2.2.2.2.2.2.2.2.2.2.2.2.2.2.1).trans (hF18.2.2.2.2.2.2.2.2.2.2.2.2.2.2.2.2.1), (hf20.2.2.2.2.2.2.2.2.2.2.2.2.2.2.2.2.2.1).trans (hF18.2.2.2.2.2.2.2.2.2.2.2.2.2.2.2.2.2.1), (hf20.2.2.2.2.2.2.2.2.2.2.2.2.2.2.2.2.2.2.1).trans (hF18.2.2.2.2.2.2.2.2.2.2.2.2.2.2.2.2.2.2.1), (hf20.2.2.2.2.2.2.2.2.2.2.2.2.2.2.2.2.2.2.2.1).trans (hF18.2.2.2.2.2.2.2.2.2.2.2.2.2.2.2.2.2.2.2.1), (hf20.2.2.2.2.2.2.2.2.2.2.2.2.2.2.2.2.2.2.2.2.1).trans (hF18.2.2.2.2.2.2.2.2.2.2.2.2.2.2.2.2.2.2.2.2.1), (hf20.2.2.2.2.2.2.2.2.2.2.2.2.2.2.2.2.2.2.2.2.2.2.2.2.1).trans (hF18.2.2.2.2.2.2.2.2.2.2.2.2.2.2.2.2.2.2.2.2.2.1), (hf20.2.2.2.2.2.2.2.2.2.2.2.2.2.2.2.2.2.2.2.2.2.2.2.2.2.1).trans (hF18.2.2.2.2.2.2.2.2.2.2.2.2.2.2.2.2.2.2.2.2.2.2.1), (hf20.2.2.2.2.2.2.2.2.2.2.2.2.2.2.2.2.2.2.2.2.2.2.2.2.2.2.1).trans (hF18.2.2.2.2.2.2.2.2.2.2.2.2.2.2.2.2.2.2.2.2.2.2.2.1), (hf20.2.2.2.2.2.2.2.2.2.2.2.2.2.2.2.2.2.2.2.2.2.2.2.2.2.2.2.1).trans (hF18.2.2.2.2.2.2.2.2.2.2.2.2.2.2.2.2.2.2.2.2.2.2.2.2.1), (hf20.2.2.2.2.2.2.2.2.2.2.2.2.2.2.2.2.2.2.2.2.2.2.2.2.2.2.2.2.1).trans (hF18.2.2.2.2.2.2.2.2.2.2.2.2.2.2.2.2.2.2.2.2.2.2.2.2.2.1), (hf20.2.2.2.2.2.2.2.2.2.2.2.2.2.2.2.2.2.2.2.2.2.2.2.2.2.2.2.2.2.1).trans (hF18.2.2.2.2.2.2.2.2.2.2.2.2.2.2.2.2.2.2.2.2.2.2.2.2.2.2.1), (hf20.2.2.2.2.2.2.2.2.2.2.2.2.2.2.2.2.2.2.2.2.2.2.2.2.2.2.2.2.2.2.1).trans (hF18.2.2.2.2.2.2.2.2.2.2.2.2.2.2.2.2.2.2.2.2.2.2.2.2.2.2.2.1), (hf20.2.2.2.2.2.2.2.2.2.2.2.2.2.2.2.2.2.2.2.2.2.2.2.2.2.2.2.2.2.2.2.1).trans (hF18.2.2.2.2.2.2.2.2.2.2.2.2.2.2.2.2.2.2.2.2.2.2.2.2.2.2.2.2.1), (hf20.2.2.2.2.2.2.2.2.2.2.2.2.2.2.2.2.2.2.2.2.2.2.2.2.2.2.2.2.2.2.2.2.1).trans (hF18.2.2.2.2.2.2.2.2.2.2.2.2.2.2.2.2.2.2.2.2.2.2.2.2.2.2.2.2.2.1), (hf20.2.2.2.2.2.2.2.2.2.2.2.2.2.2.2.2.2.2.2.2.2.2.2.2.2.2.2.2.2.2.2.2.2.1).trans (hF18.2.2.2.2.2.2.2.2.2.2.2.2.2.2.2.2.2.2.2.2.2.2.2.2.2.2.2.2.2.2.1), (hf20.2.2.2.2.2.2.2.2.2.2.2.2.2.2.2.2.2.2.2.2.2.2.2.2.2.2.2.2.2.2.2.2.2.2.1).trans (hF18.2.2.2.2.2.2.2.2.2.2.2.2.2.2.2.2.2.2.2.2.2.2.2.2.2.2.2.2.2.2.2.1), (hf20.2.2.2.2.2.2.2.2.2.2.2.2.2.2.2.2.2.2.2.2.2.2.2.2.2.2.2.2.2.2.2.2.2.2.2.1).trans (hF18.2.2.2.2.2.2.2.2.2.2.2.2.2.2.2.2.2.2.2.2.2.2.2.2.2.2.2.2.2.2.2.2.1), (hf20.2.2.2.2.2.2.2.2.2.2.2.2.2.2.2.2.2.2.2.2.2.2.2.2.2.2.2.2.2.2.2.2.2.2.2.2.1).trans (hF18.2.2.2.2.2.2.2.2.2.2.2.2.2.2.2.2.2.2.2.2.2.2.2.2.2.2.2.2.2.2.2.2.2.1), (hf20.2.2.2.2.2.2.2.2.2.2.2.2.2.2.2.2.2.2.2.2.2.2.2.2.2.2.2.2.2.2.2.2.2.2.2.2.2.1).trans (hF18.2.2.2.2.2.2.2.2.2.2.2.2.2.2.2.2.2.2.2.2.2.2.2.2.2.2.2.2.2.2.2.2.2.2.1), (hf20.2.2.2.2.2.2.2.2.2.2.2.2.2.2.2.2.2.2.2.2.2.2.2.2.2.2.2.2.2.2.2.2.2.2.2.2.2.2.1).trans (hF18.2.2.2.2.2.2.2.2.2.2.2.2.2.2.2.2.2.2.2.2.2.2.2.2.2.2.2.2.2.2.2.2.2.2.2.1), (hf20.2.2.2.2.2.2.2.2.2.2.2.2.2.2.2.2.2.2.2.2.2.2.2.2.2.2.2.2.2.2.2.2.2.2.2.2.2.2.2.1).trans (hF18.2.2.2.2.2.2.2.2.2.2.2.2.2.2.2.2.2.2.2.2.2.2.2.2.2.2.2.2.2.2.2.2.2.2.2.2.1), (hf20.2.2.2.2.2.2.2.2.2.2.2.2.2.2.2.2.2.2.2.2.2.2.2.2.2.2.2.2.2.2.2.2.2.2.2.2.2.2.2.2.1).trans (hF18.2.2.2.2.2.2.2.2.2.2.2.2.2.2.2.2.2.2.2.2.2.2.2.2.2.2.2.2.2.2.2.2.2.2.2.2.2.1), (hf20.2.2.2.2.2.2.2.2.2.2.2.2.2.2.2.2.2.2.2.2.2.2.2.2.2.2.2.2.2.2.2.2.2.2.2.2.2.2.2.2.2).trans (hF18.2.2.2.2.2.2.2.2.2.2.2.2.2.2.2.2.2.2.2.2.2.2.2.2.2.2.2.2.2.2.2.2.2.2.2.2.2.2)⟩ (hp18 u20 ep) (Or.inr ⟨rfl, hbe, ?_⟩)
        rw [eI] at h20
        omega
  unfold wp_X9_laysNode
  exact ⟨fun _ => start _, fun _ => start _⟩
def F_X9_laysItems (S u : bT9) : Prop := (b9g_told u) = (b9g_told S) ∧ (b9g_now u) = (b9g_now S) ∧ (b9g_keys u) = (b9g_keys S) ∧ (b9g_lengths u) = (b9g_lengths S) ∧ (b9g_drawn u) = (b9g_drawn S) ∧ (b9g_drawnLength u) = (b9g_drawnLength S) ∧ (b9g_tape u) = (b9g_tape S) ∧ (b9g_taped u) = (b9g_taped S) ∧ (b9g_names u) = (b9g_names S) ∧ (b9g_chosen u) = (b9g_chosen S) ∧ (b9g_common u) = (b9g_common S) ∧ (b9g_beginning u) = (b9g_beginning S) ∧ (b9g_isLaid u) = (b9g_isLaid S) ∧ (b9g_nodeLevel u) = (b9g_nodeLevel S) ∧ (b9g_nodeLeaf u) = (b9g_nodeLeaf S) ∧ (b9g_nodeLeaves u) = (b9g_nodeLeaves S) ∧ (b9g_nodeMany u) = (b9g_nodeMany S) ∧ (b9g_levelMany u) = (b9g_levelMany S) ∧ (b9g_upper u) = (b9g_upper S) ∧ (b9g_upperNodes u) = (b9g_upperNodes S) ∧ (b9g_areNodesLaid u) = (b9g_areNodesLaid S) ∧ (b9g_lowKey u) = (b9g_lowKey S) ∧ (b9g_highKey u) = (b9g_highKey S) ∧ (b9g_lowLength u) = (b9g_lowLength S) ∧ (b9g_highLength u) = (b9g_highLength S) ∧ (b9g_fromKey u) = (b9g_fromKey S) ∧ (b9g_toKey u) = (b9g_toKey S) ∧ (b9g_fromLength u) = (b9g_fromLength S) ∧ (b9g_toLength u) = (b9g_toLength S) ∧ (b9g_ones u) = (b9g_ones S) ∧ (b9g_oneMany u) = (b9g_oneMany S) ∧ (b9g_rowLong u) = (b9g_rowLong S) ∧ (b9g_laidFor u) = (b9g_laidFor S) ∧ (b9g_signs u) = (b9g_signs S) ∧ (b9g_signMany u) = (b9g_signMany S) ∧ (b9g_hasImage u) = (b9g_hasImage S) ∧ (b9g_images u) = (b9g_images S) ∧ (b9g_keyImages u) = (b9g_keyImages S) ∧ (b9g_lengthImages u) = (b9g_lengthImages S)
theorem sf_X9_laysItems {S : bT9} (hJ : J9 S) {Q : (bT9) → Prop} (hp0 : TR S 8 0) (hq : ∀ u : bT9, (J9 u) → F_X9_laysItems S u → Q u) : wp_X9_laysItems S Q := by
  have hN := J9g_ND hJ
  have jm := J9g_nodeMany hJ
  unfold wp_X9_laysItems
  intro S3 e3 S4 e4
  have hJ4 : J9 S4 := by rw [e4, e3]; exact J9s_places (J9s_itemMany hJ ⟨by decide, by decide⟩) ⟨by decide, by decide⟩
  have hF4 : F_X9_laysItems S S4 := by rw [e4, e3]; exact ⟨rfl, rfl, rfl, rfl, rfl, rfl, rfl, rfl, rfl, rfl, rfl, rfl, rfl, rfl, rfl, rfl, rfl, rfl, rfl, rfl, rfl, rfl, rfl, rfl, rfl, rfl, rfl, rfl, rfl, rfl, rfl, rfl, rfl, rfl, rfl, rfl, rfl, rfl, rfl⟩
  have hi4 : (b9g_itemMany S4).toInt = 0 := by rw [e4, e3]; rfl
  have hp4 : (b9g_places S4).toInt = 0 := by rw [e4]; rfl
  unfold wp_X9_laysItems_12
  refine ⟨fun n x1 V => 0 ≤ x1.toInt ∧ J9 V ∧ F_X9_laysItems S V ∧ (x1.toInt < (b9g_nodeMany S).toInt → (b9g_itemMany V).toInt ≤ 64 * (b9g_nodeLevel S x1.toNatClampNeg).toInt + (b9g_nodeLeaf S x1.toNatClampNeg).toInt) ∧ (∃ T : Nat → Bool, (∀ i : Nat, T i = true → ∃ y : Nat, y < x1.toNatClampNeg ∧ PLS S y i) ∧ (b9g_places V).toInt = cntB T 64) ∧ n = ((b9g_nodeMany S).toInt + 1 - x1.toInt).toNat, ⟨_, by decide, hJ4, hF4, ?_, ⟨fun _ => false, fun i h => absurd h Bool.false_ne_true, by rw [fzero (fun _ => rfl), hp4]; rfl⟩, rfl⟩, ?_⟩
  · intro h0
    have := (hN 0 (by rw [pl_0] at h0; omega)).1
    show (b9g_itemMany S4).toInt ≤ 64 * (b9g_nodeLevel S 0).toInt + (b9g_nodeLeaf S 0).toInt
    omega
  rintro n x1 V ⟨h0, hJV, hF, hi, hT, hn⟩
  have eL : b9g_nodeLevel V = b9g_nodeLevel S := hF.2.2.2.2.2.2.2.2.2.2.2.2.2.1
  have eF : b9g_nodeLeaf V = b9g_nodeLeaf S := hF.2.2.2.2.2.2.2.2.2.2.2.2.2.2.1
  have eS : b9g_nodeLeaves V = b9g_nodeLeaves S := hF.2.2.2.2.2.2.2.2.2.2.2.2.2.2.2.1
  have eM : b9g_nodeMany V = b9g_nodeMany S := hF.2.2.2.2.2.2.2.2.2.2.2.2.2.2.2.2.1
  have eB : b9g_beginning V = b9g_beginning S := hF.2.2.2.2.2.2.2.2.2.2.2.1
  have eK : b9g_keys V = b9g_keys S := hF.2.2.1
  have eN : b9g_now V = b9g_now S := hF.2.1
  have hTRV : TR V 8 0 := by
    unfold TR
    rw [eL, eF, eS, eM, eB, eK, eN, show b9g_isLaid V = b9g_isLaid S from hF.2.2.2.2.2.2.2.2.2.2.2.2.1, show b9g_common V = b9g_common S from hF.2.2.2.2.2.2.2.2.2.2.1, show b9g_lengths V = b9g_lengths S from hF.2.2.2.1]
    exact hp0
  have ePL : ∀ y i : Nat, PLS V y i = PLS S y i := by
    intro y i
    unfold PLS
    rw [eL, eF, eS, eM, eB]
  unfold wp_X9_laysItems_12b
  refine ⟨fun c => hq V hJV hF, fun c => ?_⟩
  simp (disch := first | ((try simp (disch := first | ((try simp only [pn]) <;> omega) | fail) only [pn, pq]) <;> omega) | fail) only [pn, pq] at c
  have hx : x1.toInt < (b9g_nodeMany S).toInt := by rw [eM] at c; omega
  have e1 := pt_clamp h0
  have e2 : (x1 + 1).toInt = x1.toInt + 1 := by rw [pt_add (by rw [pl_1]; omega) (by rw [pl_1]; omega), pl_1]
  have e3 := pt_clamp (i := x1 + 1) (by omega)
  have e4 : (x1 + 1).toNatClampNeg = x1.toNatClampNeg + 1 := by omega
  refine sf_X9_laysNode hJV h0 (by rw [eM]; exact hx) hTRV (by rw [eL, eF]; exact hi hx) ?_ (fun u2 hJu hf r1 r2 => ?_)
  · obtain ⟨T, ta, tb⟩ := hT
    refine ⟨T, fun i hi2 => ?_, tb⟩
    obtain ⟨y, y1, y2⟩ := ta i hi2
    exact ⟨y, y1, by rw [ePL]; exact y2⟩
  · rw [eS] at r1
    refine ⟨_, ?_, by omega, hJu, ⟨(hf.1).trans (hF.1), (hf.2.1).trans (hF.2.1), (hf.2.2.1).trans (hF.2.2.1), (hf.2.2.2.1).trans (hF.2.2.2.1), (hf.2.2.2.2.1).trans (hF.2.2.2.2.1), (hf.2.2.2.2.2.1).trans (hF.2.2.2.2.2.1), (hf.2.2.2.2.2.2.1).trans (hF.2.2.2.2.2.2.1), (hf.2.2.2.2.2.2.2.1).trans (hF.2.2.2.2.2.2.2.1), (hf.2.2.2.2.2.2.2.2.1).trans (hF.2.2.2.2.2.2.2.2.1), (hf.2.2.2.2.2.2.2.2.2.1).trans (hF.2.2.2.2.2.2.2.2.2.1), (hf.2.2.2.2.2.2.2.2.2.2.1).trans (hF.2.2.2.2.2.2.2.2.2.2.1), (hf.2.2.2.2.2.2.2.2.2.2.2.1).trans (hF.2.2.2.2.2.2.2.2.2.2.2.1), (hf.2.2.2.2.2.2.2.2.2.2.2.2.1).trans (hF.2.2.2.2.2.2.2.2.2.2.2.2.1), (hf.2.2.2.2.2.2.2.2.2.2.2.2.2.1).trans (hF.2.2.2.2.2.2.2.2.2.2.2.2.2.1), (hf.2.2.2.2.2.2.2.2.2.2.2.2.2.2.1).trans (hF.2.2.2.2.2.2.2.2.2.2.2.2.2.2.1), (hf.2.2.2.2.2.2.2.2.2.2.2.2.2.2.2.1).trans (hF.2.2.2.2.2.2.2.2.2.2.2.2.2.2.2.1), (hf.2.2.2.2.2.2.2.2.2.2.2.2.2.2.2.2.1).trans (hF.2.2.2.2.2.2.2.2.2.2.2.2.2.2.2.2.1), (hf.2.2.2.2.2.2.2.2.2.2.2.2.2.2.2.2.2.1).trans (hF.2.2.2.2.2.2.2.2.2.2.2.2.2.2.2.2.2.1), (hf.2.2.2.2.2.2.2.2.2.2.2.2.2.2.2.2.2.2.1).trans (hF.2.2.2.2.2.2.2.2.2.2.2.2.2.2.2.2.2.2.1), (hf.2.2.2.2.2.2.2.2.2.2.2.2.2.2.2.2.2.2.2.1).trans (hF.2.2.2.2.2.2.2.2.2.2.2.2.2.2.2.2.2.2.2.1), (hf.2.2.2.2.2.2.2.2.2.2.2.2.2.2.2.2.2.2.2.2.1).trans (hF.2.2.2.2.2.2.2.2.2.2.2.2.2.2.2.2.2.2.2.2.1), (hf.2.2.2.2.2.2.2.2.2.2.2.2.2.2.2.2.2.2.2.2.2.1).trans (hF.2.2.2.2.2.2.2.2.2.2.2.2.2.2.2.2.2.2.2.2.2.1), (hf.2.2.2.2.2.2.2.2.2.2.2.2.2.2.2.2.2.2.2.2.2.2.1).trans (hF.2.2.2.2.2.2.2.2.2.2.2.2.2.2.2.2.2.2.2.2.2.2.1), (hf.2.2.2.2.2.2.2.2.2.2.2.2.2.2.2.2.2.2.2.2.2.2.2.1).trans (hF.2.2.2.2.2.2.2.2.2.2.2.2.2.2.2.2.2.2.2.2.2.2.2.1), (hf.2.2.2.2.2.2.2.2.2.2.2.2.2.2.2.2.2.2.2.2.2.2.2.2.1).trans (hF.2.2.2.2.2.2.2.2.2.2.2.2.2.2.2.2.2.2.2.2.2.2.2.2.1), (hf.2.2.2.2.2.2.2.2.2.2.2.2.2.2.2.2.2.2.2.2.2.2.2.2.2.1).trans (hF.2.2.2.2.2.2.2.2.2.2.2.2.2.2.2.2.2.2.2.2.2.2.2.2.2.1), (hf.2.2.2.2.2.2.2.2.2.2.2.2.2.2.2.2.2.2.2.2.2.2.2.2.2.2.1).trans (hF.2.2.2.2.2.2.2.2.2.2.2.2.2.2.2.2.2.2.2.2.2.2.2.2.2.2.1), (hf.2.2.2.2.2.2.2.2.2.2.2.2.2.2.2.2.2.2.2.2.2.2.2.2.2.2.2.1).trans (hF.2.2.2.2.2.2.2.2.2.2.2.2.2.2.2.2.2.2.2.2.2.2.2.2.2.2.2.1), (hf.2.2.2.2.2.2.2.2.2.2.2.2.2.2.2.2.2.2.2.2.2.2.2.2.2.2.2.2.1).trans (hF.2.2.2.2.2.2.2.2.2.2.2.2.2.2.2.2.2.2.2.2.2.2.2.2.2.2.2.2.1), (hf.2.2.2.2.2.2.2.2.2.2.2.2.2.2.2.2.2.2.2.2.2.2.2.2.2.2.2.2.2.1).trans (hF.2.2.2.2.2.2.2.2.2.2.2.2.2.2.2.2.2.2.2.2.2.2.2.2.2.2.2.2.2.1), (hf.2.2.2.2.2.2.2.2.2.2.2.2.2.2.2.2.2.2.2.2.2.2.2.2.2.2.2.2.2.2.1).trans (hF.2.2.2.2.2.2.2.2.2.2.2.2.2.2.2.2.2.2.2.2.2.2.2.2.2.2.2.2.2.2.1), (hf.2.2.2.2.2.2.2.2.2.2.2.2.2.2.2.2.2.2.2.2.2.2.2.2.2.2.2.2.2.2.2.1).trans (hF.2.2.2.2.2.2.2.2.2.2.2.2.2.2.2.2.2.2.2.2.2.2.2.2.2.2.2.2.2.2.2.1), (hf.2.2.2.2.2.2.2.2.2.2.2.2.2.2.2.2.2.2.2.2.2.2.2.2.2.2.2.2.2.2.2.2.1).trans (hF.2.2.2.2.2.2.2.2.2.2.2.2.2.2.2.2.2.2.2.2.2.2.2.2.2.2.2.2.2.2.2.2.1), (hf.2.2.2.2.2.2.2.2.2.2.2.2.2.2.2.2.2.2.2.2.2.2.2.2.2.2.2.2.2.2.2.2.2.1).trans (hF.2.2.2.2.2.2.2.2.2.2.2.2.2.2.2.2.2.2.2.2.2.2.2.2.2.2.2.2.2.2.2.2.2.1), (hf.2.2.2.2.2.2.2.2.2.2.2.2.2.2.2.2.2.2.2.2.2.2.2.2.2.2.2.2.2.2.2.2.2.2.1).trans (hF.2.2.2.2.2.2.2.2.2.2.2.2.2.2.2.2.2.2.2.2.2.2.2.2.2.2.2.2.2.2.2.2.2.2.1), (hf.2.2.2.2.2.2.2.2.2.2.2.2.2.2.2.2.2.2.2.2.2.2.2.2.2.2.2.2.2.2.2.2.2.2.2.1).trans (hF.2.2.2.2.2.2.2.2.2.2.2.2.2.2.2.2.2.2.2.2.2.2.2.2.2.2.2.2.2.2.2.2.2.2.2.1), (hf.2.2.2.2.2.2.2.2.2.2.2.2.2.2.2.2.2.2.2.2.2.2.2.2.2.2.2.2.2.2.2.2.2.2.2.2.1).trans (hF.2.2.2.2.2.2.2.2.2.2.2.2.2.2.2.2.2.2.2.2.2.2.2.2.2.2.2.2.2.2.2.2.2.2.2.2.1), (hf.2.2.2.2.2.2.2.2.2.2.2.2.2.2.2.2.2.2.2.2.2.2.2.2.2.2.2.2.2.2.2.2.2.2.2.2.2.1).trans (hF.2.2.2.2.2.2.2.2.2.2.2.2.2.2.2.2.2.2.2.2.2.2.2.2.2.2.2.2.2.2.2.2.2.2.2.2.2.1), (hf.2.2.2.2.2.2.2.2.2.2.2.2.2.2.2.2.2.2.2.2.2.2.2.2.2.2.2.2.2.2.2.2.2.2.2.2.2.2).trans (hF.2.2.2.2.2.2.2.2.2.2.2.2.2.2.2.2.2.2.2.2.2.2.2.2.2.2.2.2.2.2.2.2.2.2.2.2.2.2)⟩, ?_, ?_, rfl⟩
    · omega
    · intro h3
      have a := hi hx
      have b := (hN x1.toNatClampNeg (by omega)).2 (by omega)
      rw [e4]
      omega
    · obtain ⟨T, ta, tb⟩ := r2
      refine ⟨T, fun i hi2 => ?_, tb⟩
      obtain ⟨y, y1, y2⟩ := ta i hi2
      rw [ePL] at y2
      exact ⟨y, by omega, y2⟩
set_option maxRecDepth 20000 in
set_option maxHeartbeats 8000000 in
theorem sf_X9_bitsAbove {S : bT9} (hJ : K9 S) {a1 : Int32} {Q : Int32 → Prop} (hq : ∀ r : Int32, (0 ≤ r.toInt) → (r.toInt ≤ 262656) → (a1.toInt ≤ 0 → r.toInt = 0) → Q r) : wp_X9_bitsAbove S a1 Q := by
  unfold wp_X9_bitsAbove
  have jf1 := K9g_nodeMany hJ
  have jf2 : (-4 ≤ ((b9g_now S) 1).toInt ∧ ((b9g_now S) 1).toInt ≤ 4) ∧ (-3 ≤ ((b9g_now S) 4).toInt ∧ ((b9g_now S) 4).toInt ≤ 252) ∧ (0 ≤ ((b9g_now S) 8).toInt ∧ ((b9g_now S) 8).toInt ≤ 64) ∧ (0 ≤ ((b9g_now S) 9).toInt ∧ ((b9g_now S) 9).toInt ≤ 64) ∧ (0 ≤ ((b9g_now S) 10).toInt ∧ ((b9g_now S) 10).toInt ≤ 16) ∧ (0 ≤ ((b9g_now S) 12).toInt ∧ ((b9g_now S) 12).toInt ≤ 8) := K9g_now hJ
  have rga1 := pt_rg a1
  refine ⟨fun n x1q1 x2q1 x3q1 => (x1q1 = a1) ∧ (0 ≤ (x3q1).toInt) ∧ ((x3q1).toInt ≤ 512) ∧ (0 ≤ (x2q1).toInt) ∧ ((x2q1).toInt ≤ 513 * (x3q1).toInt) ∧ ((x1q1).toInt ≤ 0 → (x2q1).toInt = 0) ∧ n = ((b9g_nodeMany S).toInt + 1 - (x3q1).toInt).toNat, ⟨_, rfl, (by (try simp (disch := first | ((try simp (disch := first | ((try simp only [pn]) <;> omega) | fail) only [pn, pq]) <;> omega) | fail) only [pn, pq]) <;> (intros; (try simp (disch := first | ((try simp (disch := first | ((try simp only [pn]) <;> omega) | fail) only [pn, pq]) <;> omega) | fail) only [pn, pq]) <;> omega)), (by (try simp (disch := first | ((try simp (disch := first | ((try simp only [pn]) <;> omega) | fail) only [pn, pq]) <;> omega) | fail) only [pn, pq]) <;> (intros; (try simp (disch := first | ((try simp (disch := first | ((try simp only [pn]) <;> omega) | fail) only [pn, pq]) <;> omega) | fail) only [pn, pq]) <;> omega)), (by (try simp (disch := first | ((try simp (disch := first | ((try simp only [pn]) <;> omega) | fail) only [pn, pq]) <;> omega) | fail) only [pn, pq]) <;> (intros; (try simp (disch := first | ((try simp (disch := first | ((try simp only [pn]) <;> omega) | fail) only [pn, pq]) <;> omega) | fail) only [pn, pq]) <;> omega)), (by (try simp (disch := first | ((try simp (disch := first | ((try simp only [pn]) <;> omega) | fail) only [pn, pq]) <;> omega) | fail) only [pn, pq]) <;> (intros; (try simp (disch := first | ((try simp (disch := first | ((try simp only [pn]) <;> omega) | fail) only [pn, pq]) <;> omega) | fail) only [pn, pq]) <;> omega)), (by (try simp (disch := first | ((try simp (disch := first | ((try simp only [pn]) <;> omega) | fail) only [pn, pq]) <;> omega) | fail) only [pn, pq]) <;> (intros; (try simp (disch := first | ((try simp (disch := first | ((try simp only [pn]) <;> omega) | fail) only [pn, pq]) <;> omega) | fail) only [pn, pq]) <;> omega)), rfl⟩, ?_⟩
  rintro n2 x1q1 x2q1 x3q1 ⟨hkq1_0, hiq1_0, hiq1_1, hiq1_2, hiq1_3, hiq1_4, hn2⟩
  subst hkq1_0
  have rgx1q1 := pt_rg x1q1
  have rgx2q1 := pt_rg x2q1
  have rgx3q1 := pt_rg x3q1
  unfold wp_X9_bitsAbove_4b
  refine ⟨fun c3 => ?_, fun c3 => ?_⟩
  · try simp (disch := first | ((try simp (disch := first | ((try simp only [pn]) <;> omega) | fail) only [pn, pq]) <;> omega) | fail) only [pn, pq] at c3
    exact hq _ (by (try simp (disch := first | ((try simp (disch := first | ((try simp only [pn]) <;> omega) | fail) only [pn, pq]) <;> omega) | fail) only [pn, pq]) <;> (intros; (try simp (disch := first | ((try simp (disch := first | ((try simp only [pn]) <;> omega) | fail) only [pn, pq]) <;> omega) | fail) only [pn, pq]) <;> omega)) (by (try simp (disch := first | ((try simp (disch := first | ((try simp only [pn]) <;> omega) | fail) only [pn, pq]) <;> omega) | fail) only [pn, pq]) <;> (intros; (try simp (disch := first | ((try simp (disch := first | ((try simp only [pn]) <;> omega) | fail) only [pn, pq]) <;> omega) | fail) only [pn, pq]) <;> omega)) (by (try simp (disch := first | ((try simp (disch := first | ((try simp only [pn]) <;> omega) | fail) only [pn, pq]) <;> omega) | fail) only [pn, pq]) <;> (intros; (try simp (disch := first | ((try simp (disch := first | ((try simp only [pn]) <;> omega) | fail) only [pn, pq]) <;> omega) | fail) only [pn, pq]) <;> omega))
  · try simp (disch := first | ((try simp (disch := first | ((try simp only [pn]) <;> omega) | fail) only [pn, pq]) <;> omega) | fail) only [pn, pq] at c3
    refine ⟨pt_in (by (try simp (disch := first | ((try simp (disch := first | ((try simp only [pn]) <;> omega) | fail) only [pn, pq]) <;> omega) | fail) only [pn, pq]) <;> (intros; (try simp (disch := first | ((try simp (disch := first | ((try simp only [pn]) <;> omega) | fail) only [pn, pq]) <;> omega) | fail) only [pn, pq]) <;> omega)) (by (try simp (disch := first | ((try simp (disch := first | ((try simp only [pn]) <;> omega) | fail) only [pn, pq]) <;> omega) | fail) only [pn, pq]) <;> (intros; (try simp (disch := first | ((try simp (disch := first | ((try simp only [pn]) <;> omega) | fail) only [pn, pq]) <;> omega) | fail) only [pn, pq]) <;> omega)), ?_⟩
    have jr3 := ND_at (K9g_ND hJ) (x := x3q1) (by (try simp (disch := first | ((try simp (disch := first | ((try simp only [pn]) <;> omega) | fail) only [pn, pq]) <;> omega) | fail) only [pn, pq]) <;> (intros; (try simp (disch := first | ((try simp (disch := first | ((try simp only [pn]) <;> omega) | fail) only [pn, pq]) <;> omega) | fail) only [pn, pq]) <;> omega)) (by (try simp (disch := first | ((try simp (disch := first | ((try simp only [pn]) <;> omega) | fail) only [pn, pq]) <;> omega) | fail) only [pn, pq]) <;> (intros; (try simp (disch := first | ((try simp (disch := first | ((try simp only [pn]) <;> omega) | fail) only [pn, pq]) <;> omega) | fail) only [pn, pq]) <;> omega))
    try simp (disch := first | ((try simp (disch := first | ((try simp only [pn]) <;> omega) | fail) only [pn, pq]) <;> omega) | fail) only [pn, pq] at jr3
    refine ⟨fun c4 => ?_, fun c4 => ?_⟩
    · try simp (disch := first | ((try simp (disch := first | ((try simp only [pn]) <;> omega) | fail) only [pn, pq]) <;> omega) | fail) only [pn, pq] at c4
      unfold wp_X9_bitsAbove_28
      refine ⟨_, ?_, ?_, ?_, ?_, ?_, ?_, ?_, rfl⟩
      · (try simp (disch := first | ((try simp (disch := first | ((try simp only [pn]) <;> omega) | fail) only [pn, pq]) <;> omega) | fail) only [pn, pq]) <;> (intros; (try simp (disch := first | ((try simp (disch := first | ((try simp only [pn]) <;> omega) | fail) only [pn, pq]) <;> omega) | fail) only [pn, pq]) <;> omega)
      · first | rfl | assumption
      · (try simp (disch := first | ((try simp (disch := first | ((try simp only [pn]) <;> omega) | fail) only [pn, pq]) <;> omega) | fail) only [pn, pq]) <;> (intros; (try simp (disch := first | ((try simp (disch := first | ((try simp only [pn]) <;> omega) | fail) only [pn, pq]) <;> omega) | fail) only [pn, pq]) <;> omega)
      · (try simp (disch := first | ((try simp (disch := first | ((try simp only [pn]) <;> omega) | fail) only [pn, pq]) <;> omega) | fail) only [pn, pq]) <;> (intros; (try simp (disch := first | ((try simp (disch := first | ((try simp only [pn]) <;> omega) | fail) only [pn, pq]) <;> omega) | fail) only [pn, pq]) <;> omega)
      · (try simp (disch := first | ((try simp (disch := first | ((try simp only [pn]) <;> omega) | fail) only [pn, pq]) <;> omega) | fail) only [pn, pq]) <;> (intros; (try simp (disch := first | ((try simp (disch := first | ((try simp only [pn]) <;> omega) | fail) only [pn, pq]) <;> omega) | fail) only [pn, pq]) <;> omega)
      · (try simp (disch := first | ((try simp (disch := first | ((try simp only [pn]) <;> omega) | fail) only [pn, pq]) <;> omega) | fail) only [pn, pq]) <;> (intros; (try simp (disch := first | ((try simp (disch := first | ((try simp only [pn]) <;> omega) | fail) only [pn, pq]) <;> omega) | fail) only [pn, pq]) <;> omega)
      · (try simp (disch := first | ((try simp (disch := first | ((try simp only [pn]) <;> omega) | fail) only [pn, pq]) <;> omega) | fail) only [pn, pq]) <;> (intros; (try simp (disch := first | ((try simp (disch := first | ((try simp only [pn]) <;> omega) | fail) only [pn, pq]) <;> omega) | fail) only [pn, pq]) <;> omega)
    · try simp (disch := first | ((try simp (disch := first | ((try simp only [pn]) <;> omega) | fail) only [pn, pq]) <;> omega) | fail) only [pn, pq] at c4
      intro v5 ev5
      have nv5 := congrArg Int32.toInt ev5
      try simp (disch := first | ((try simp (disch := first | ((try simp only [pn]) <;> omega) | fail) only [pn, pq]) <;> omega) | fail) only [pn, pq] at nv5
      unfold wp_X9_bitsAbove_28
      refine ⟨_, ?_, ?_, ?_, ?_, ?_, ?_, ?_, rfl⟩
      · (try simp (disch := first | ((try simp (disch := first | ((try simp only [pn]) <;> omega) | fail) only [pn, pq]) <;> omega) | fail) only [pn, pq]) <;> (intros; (try simp (disch := first | ((try simp (disch := first | ((try simp only [pn]) <;> omega) | fail) only [pn, pq]) <;> omega) | fail) only [pn, pq]) <;> omega)
      · first | rfl | assumption
      · (try simp (disch := first | ((try simp (disch := first | ((try simp only [pn]) <;> omega) | fail) only [pn, pq]) <;> omega) | fail) only [pn, pq]) <;> (intros; (try simp (disch := first | ((try simp (disch := first | ((try simp only [pn]) <;> omega) | fail) only [pn, pq]) <;> omega) | fail) only [pn, pq]) <;> omega)
      · (try simp (disch := first | ((try simp (disch := first | ((try simp only [pn]) <;> omega) | fail) only [pn, pq]) <;> omega) | fail) only [pn, pq]) <;> (intros; (try simp (disch := first | ((try simp (disch := first | ((try simp only [pn]) <;> omega) | fail) only [pn, pq]) <;> omega) | fail) only [pn, pq]) <;> omega)
      · (try simp (disch := first | ((try simp (disch := first | ((try simp only [pn]) <;> omega) | fail) only [pn, pq]) <;> omega) | fail) only [pn, pq]) <;> (intros; (try simp (disch := first | ((try simp (disch := first | ((try simp only [pn]) <;> omega) | fail) only [pn, pq]) <;> omega) | fail) only [pn, pq]) <;> omega)
      · (try simp (disch := first | ((try simp (disch := first | ((try simp only [pn]) <;> omega) | fail) only [pn, pq]) <;> omega) | fail) only [pn, pq]) <;> (intros; (try simp (disch := first | ((try simp (disch := first | ((try simp only [pn]) <;> omega) | fail) only [pn, pq]) <;> omega) | fail) only [pn, pq]) <;> omega)
      · (try simp (disch := first | ((try simp (disch := first | ((try simp only [pn]) <;> omega) | fail) only [pn, pq]) <;> omega) | fail) only [pn, pq]) <;> (intros; (try simp (disch := first | ((try simp (disch := first | ((try simp only [pn]) <;> omega) | fail) only [pn, pq]) <;> omega) | fail) only [pn, pq]) <;> omega)
set_option maxRecDepth 20000 in
set_option maxHeartbeats 8000000 in
theorem sf_X9_branchMany {S : bT9} (hJ : K9 S) {a1 : Int32} {Q : Int32 → Prop} (hp0 : 0 ≤ a1.toInt) (hp1 : a1.toInt < (b9g_nodeMany S).toInt) (hq : ∀ r : Int32, (0 ≤ r.toInt) → (r.toInt ≤ (b9g_nodeLeaves S a1.toNatClampNeg).toInt) → (r.toInt ≤ 64) → Q r) : wp_X9_branchMany S a1 Q := by
  unfold wp_X9_branchMany
  have jf1 := K9g_nodeMany hJ
  have jf2 : (-4 ≤ ((b9g_now S) 1).toInt ∧ ((b9g_now S) 1).toInt ≤ 4) ∧ (-3 ≤ ((b9g_now S) 4).toInt ∧ ((b9g_now S) 4).toInt ≤ 252) ∧ (0 ≤ ((b9g_now S) 8).toInt ∧ ((b9g_now S) 8).toInt ≤ 64) ∧ (0 ≤ ((b9g_now S) 9).toInt ∧ ((b9g_now S) 9).toInt ≤ 64) ∧ (0 ≤ ((b9g_now S) 10).toInt ∧ ((b9g_now S) 10).toInt ≤ 16) ∧ (0 ≤ ((b9g_now S) 12).toInt ∧ ((b9g_now S) 12).toInt ≤ 8) := K9g_now hJ
  have rga1 := pt_rg a1
  have jx := ND_at (K9g_ND hJ) hp0 hp1
  refine ⟨pt_in (by (try simp (disch := first | ((try simp (disch := first | ((try simp only [pn]) <;> omega) | fail) only [pn, pq]) <;> omega) | fail) only [pn, pq]) <;> (intros; (try simp (disch := first | ((try simp (disch := first | ((try simp only [pn]) <;> omega) | fail) only [pn, pq]) <;> omega) | fail) only [pn, pq]) <;> omega)) (by (try simp (disch := first | ((try simp (disch := first | ((try simp only [pn]) <;> omega) | fail) only [pn, pq]) <;> omega) | fail) only [pn, pq]) <;> (intros; (try simp (disch := first | ((try simp (disch := first | ((try simp only [pn]) <;> omega) | fail) only [pn, pq]) <;> omega) | fail) only [pn, pq]) <;> omega)), ?_⟩
  have jr3 := ND_at (K9g_ND hJ) (x := a1) (by (try simp (disch := first | ((try simp (disch := first | ((try simp only [pn]) <;> omega) | fail) only [pn, pq]) <;> omega) | fail) only [pn, pq]) <;> (intros; (try simp (disch := first | ((try simp (disch := first | ((try simp only [pn]) <;> omega) | fail) only [pn, pq]) <;> omega) | fail) only [pn, pq]) <;> omega)) (by (try simp (disch := first | ((try simp (disch := first | ((try simp only [pn]) <;> omega) | fail) only [pn, pq]) <;> omega) | fail) only [pn, pq]) <;> (intros; (try simp (disch := first | ((try simp (disch := first | ((try simp only [pn]) <;> omega) | fail) only [pn, pq]) <;> omega) | fail) only [pn, pq]) <;> omega))
  try simp (disch := first | ((try simp (disch := first | ((try simp only [pn]) <;> omega) | fail) only [pn, pq]) <;> omega) | fail) only [pn, pq] at jr3
  refine ⟨fun n x1q1 x2q1 x3q1 => (x1q1 = a1) ∧ ((b9g_nodeLeaf S (x1q1).toNatClampNeg).toInt ≤ (x3q1).toInt) ∧ ((x3q1).toInt ≤ (b9g_nodeLeaf S (x1q1).toNatClampNeg).toInt + (b9g_nodeLeaves S (x1q1).toNatClampNeg).toInt) ∧ (0 ≤ (x2q1).toInt) ∧ ((x2q1).toInt ≤ (x3q1).toInt - (b9g_nodeLeaf S (x1q1).toNatClampNeg).toInt) ∧ n = ((b9g_nodeLeaf S (x1q1).toNatClampNeg).toInt + (b9g_nodeLeaves S (x1q1).toNatClampNeg).toInt - (x3q1).toInt).toNat, ⟨_, rfl, (by (try simp (disch := first | ((try simp (disch := first | ((try simp only [pn]) <;> omega) | fail) only [pn, pq]) <;> omega) | fail) only [pn, pq]) <;> (intros; (try simp (disch := first | ((try simp (disch := first | ((try simp only [pn]) <;> omega) | fail) only [pn, pq]) <;> omega) | fail) only [pn, pq]) <;> omega)), (by (try simp (disch := first | ((try simp (disch := first | ((try simp only [pn]) <;> omega) | fail) only [pn, pq]) <;> omega) | fail) only [pn, pq]) <;> (intros; (try simp (disch := first | ((try simp (disch := first | ((try simp only [pn]) <;> omega) | fail) only [pn, pq]) <;> omega) | fail) only [pn, pq]) <;> omega)), (by (try simp (disch := first | ((try simp (disch := first | ((try simp only [pn]) <;> omega) | fail) only [pn, pq]) <;> omega) | fail) only [pn, pq]) <;> (intros; (try simp (disch := first | ((try simp (disch := first | ((try simp only [pn]) <;> omega) | fail) only [pn, pq]) <;> omega) | fail) only [pn, pq]) <;> omega)), (by (try simp (disch := first | ((try simp (disch := first | ((try simp only [pn]) <;> omega) | fail) only [pn, pq]) <;> omega) | fail) only [pn, pq]) <;> (intros; (try simp (disch := first | ((try simp (disch := first | ((try simp only [pn]) <;> omega) | fail) only [pn, pq]) <;> omega) | fail) only [pn, pq]) <;> omega)), rfl⟩, ?_⟩
  rintro n2 x1q1 x2q1 x3q1 ⟨hkq1_0, hiq1_0, hiq1_1, hiq1_2, hiq1_3, hn2⟩
  subst hkq1_0
  have rgx1q1 := pt_rg x1q1
  have rgx2q1 := pt_rg x2q1
  have rgx3q1 := pt_rg x3q1
  unfold wp_X9_branchMany_9b
  refine sf_X9_lastOf hJ (by (try simp (disch := first | ((try simp (disch := first | ((try simp only [pn]) <;> omega) | fail) only [pn, pq]) <;> omega) | fail) only [pn, pq]) <;> (intros; (try simp (disch := first | ((try simp (disch := first | ((try simp only [pn]) <;> omega) | fail) only [pn, pq]) <;> omega) | fail) only [pn, pq]) <;> omega)) (by (try simp (disch := first | ((try simp (disch := first | ((try simp only [pn]) <;> omega) | fail) only [pn, pq]) <;> omega) | fail) only [pn, pq]) <;> (intros; (try simp (disch := first | ((try simp (disch := first | ((try simp only [pn]) <;> omega) | fail) only [pn, pq]) <;> omega) | fail) only [pn, pq]) <;> omega)) (fun r3 hr3_0 hr3_1 => ?_)
  have rgr3 := pt_rg r3
  try simp (disch := first | ((try simp (disch := first | ((try simp only [pn]) <;> omega) | fail) only [pn, pq]) <;> omega) | fail) only [pn, pq] at hr3_0
  try simp (disch := first | ((try simp (disch := first | ((try simp only [pn]) <;> omega) | fail) only [pn, pq]) <;> omega) | fail) only [pn, pq] at hr3_1
  refine ⟨fun c5 => ?_, fun c5 => ?_⟩
  · try simp (disch := first | ((try simp (disch := first | ((try simp only [pn]) <;> omega) | fail) only [pn, pq]) <;> omega) | fail) only [pn, pq] at c5
    exact hq _ (by (try simp (disch := first | ((try simp (disch := first | ((try simp only [pn]) <;> omega) | fail) only [pn, pq]) <;> omega) | fail) only [pn, pq]) <;> (intros; (try simp (disch := first | ((try simp (disch := first | ((try simp only [pn]) <;> omega) | fail) only [pn, pq]) <;> omega) | fail) only [pn, pq]) <;> omega)) (by (try simp (disch := first | ((try simp (disch := first | ((try simp only [pn]) <;> omega) | fail) only [pn, pq]) <;> omega) | fail) only [pn, pq]) <;> (intros; (try simp (disch := first | ((try simp (disch := first | ((try simp only [pn]) <;> omega) | fail) only [pn, pq]) <;> omega) | fail) only [pn, pq]) <;> omega)) (by (try simp (disch := first | ((try simp (disch := first | ((try simp only [pn]) <;> omega) | fail) only [pn, pq]) <;> omega) | fail) only [pn, pq]) <;> (intros; (try simp (disch := first | ((try simp (disch := first | ((try simp only [pn]) <;> omega) | fail) only [pn, pq]) <;> omega) | fail) only [pn, pq]) <;> omega))
  · try simp (disch := first | ((try simp (disch := first | ((try simp only [pn]) <;> omega) | fail) only [pn, pq]) <;> omega) | fail) only [pn, pq] at c5
    refine sf_X9_isBranch hJ (by (try simp (disch := first | ((try simp (disch := first | ((try simp only [pn]) <;> omega) | fail) only [pn, pq]) <;> omega) | fail) only [pn, pq]) <;> (intros; (try simp (disch := first | ((try simp (disch := first | ((try simp only [pn]) <;> omega) | fail) only [pn, pq]) <;> omega) | fail) only [pn, pq]) <;> omega)) (by (try simp (disch := first | ((try simp (disch := first | ((try simp only [pn]) <;> omega) | fail) only [pn, pq]) <;> omega) | fail) only [pn, pq]) <;> (intros; (try simp (disch := first | ((try simp (disch := first | ((try simp only [pn]) <;> omega) | fail) only [pn, pq]) <;> omega) | fail) only [pn, pq]) <;> omega)) (by (try simp (disch := first | ((try simp (disch := first | ((try simp only [pn]) <;> omega) | fail) only [pn, pq]) <;> omega) | fail) only [pn, pq]) <;> (intros; (try simp (disch := first | ((try simp (disch := first | ((try simp only [pn]) <;> omega) | fail) only [pn, pq]) <;> omega) | fail) only [pn, pq]) <;> omega)) (by (try simp (disch := first | ((try simp (disch := first | ((try simp only [pn]) <;> omega) | fail) only [pn, pq]) <;> omega) | fail) only [pn, pq]) <;> (intros; (try simp (disch := first | ((try simp (disch := first | ((try simp only [pn]) <;> omega) | fail) only [pn, pq]) <;> omega) | fail) only [pn, pq]) <;> omega)) (fun r6 hzr6 hr6_0 => ?_)
    try simp (disch := first | ((try simp (disch := first | ((try simp only [pn]) <;> omega) | fail) only [pn, pq]) <;> omega) | fail) only [pn, pq] at hr6_0
    refine ⟨fun c8 => ?_, fun c8 => ?_⟩
    · try simp (disch := first | ((try simp (disch := first | ((try simp only [pn]) <;> omega) | fail) only [pn, pq]) <;> omega) | fail) only [pn, pq] at c8
      unfold wp_X9_branchMany_31
      refine ⟨_, ?_, ?_, ?_, ?_, ?_, ?_, rfl⟩
      · (try simp (disch := first | ((try simp (disch := first | ((try simp only [pn]) <;> omega) | fail) only [pn, pq]) <;> omega) | fail) only [pn, pq]) <;> (intros; (try simp (disch := first | ((try simp (disch := first | ((try simp only [pn]) <;> omega) | fail) only [pn, pq]) <;> omega) | fail) only [pn, pq]) <;> omega)
      · first | rfl | assumption
      · (try simp (disch := first | ((try simp (disch := first | ((try simp only [pn]) <;> omega) | fail) only [pn, pq]) <;> omega) | fail) only [pn, pq]) <;> (intros; (try simp (disch := first | ((try simp (disch := first | ((try simp only [pn]) <;> omega) | fail) only [pn, pq]) <;> omega) | fail) only [pn, pq]) <;> omega)
      · (try simp (disch := first | ((try simp (disch := first | ((try simp only [pn]) <;> omega) | fail) only [pn, pq]) <;> omega) | fail) only [pn, pq]) <;> (intros; (try simp (disch := first | ((try simp (disch := first | ((try simp only [pn]) <;> omega) | fail) only [pn, pq]) <;> omega) | fail) only [pn, pq]) <;> omega)
      · (try simp (disch := first | ((try simp (disch := first | ((try simp only [pn]) <;> omega) | fail) only [pn, pq]) <;> omega) | fail) only [pn, pq]) <;> (intros; (try simp (disch := first | ((try simp (disch := first | ((try simp only [pn]) <;> omega) | fail) only [pn, pq]) <;> omega) | fail) only [pn, pq]) <;> omega)
      · (try simp (disch := first | ((try simp (disch := first | ((try simp only [pn]) <;> omega) | fail) only [pn, pq]) <;> omega) | fail) only [pn, pq]) <;> (intros; (try simp (disch := first | ((try simp (disch := first | ((try simp only [pn]) <;> omega) | fail) only [pn, pq]) <;> omega) | fail) only [pn, pq]) <;> omega)
    · try simp (disch := first | ((try simp (disch := first | ((try simp only [pn]) <;> omega) | fail) only [pn, pq]) <;> omega) | fail) only [pn, pq] at c8
      unfold wp_X9_branchMany_31
      refine ⟨_, ?_, ?_, ?_, ?_, ?_, ?_, rfl⟩
      · (try simp (disch := first | ((try simp (disch := first | ((try simp only [pn]) <;> omega) | fail) only [pn, pq]) <;> omega) | fail) only [pn, pq]) <;> (intros; (try simp (disch := first | ((try simp (disch := first | ((try simp only [pn]) <;> omega) | fail) only [pn, pq]) <;> omega) | fail) only [pn, pq]) <;> omega)
      · first | rfl | assumption
      · (try simp (disch := first | ((try simp (disch := first | ((try simp only [pn]) <;> omega) | fail) only [pn, pq]) <;> omega) | fail) only [pn, pq]) <;> (intros; (try simp (disch := first | ((try simp (disch := first | ((try simp only [pn]) <;> omega) | fail) only [pn, pq]) <;> omega) | fail) only [pn, pq]) <;> omega)
      · (try simp (disch := first | ((try simp (disch := first | ((try simp only [pn]) <;> omega) | fail) only [pn, pq]) <;> omega) | fail) only [pn, pq]) <;> (intros; (try simp (disch := first | ((try simp (disch := first | ((try simp only [pn]) <;> omega) | fail) only [pn, pq]) <;> omega) | fail) only [pn, pq]) <;> omega)
      · (try simp (disch := first | ((try simp (disch := first | ((try simp only [pn]) <;> omega) | fail) only [pn, pq]) <;> omega) | fail) only [pn, pq]) <;> (intros; (try simp (disch := first | ((try simp (disch := first | ((try simp only [pn]) <;> omega) | fail) only [pn, pq]) <;> omega) | fail) only [pn, pq]) <;> omega)
      · (try simp (disch := first | ((try simp (disch := first | ((try simp only [pn]) <;> omega) | fail) only [pn, pq]) <;> omega) | fail) only [pn, pq]) <;> (intros; (try simp (disch := first | ((try simp (disch := first | ((try simp only [pn]) <;> omega) | fail) only [pn, pq]) <;> omega) | fail) only [pn, pq]) <;> omega)
set_option maxRecDepth 20000 in
set_option maxHeartbeats 8000000 in
theorem sf_X9_bitsOf {S : bT9} (hJ : K9 S) {a1 : Int32} {a2 : Int32} {Q : Int32 → Prop} (hp0 : 0 ≤ a1.toInt) (hp1 : a1.toInt < (b9g_nodeMany S).toInt) (hq : ∀ r : Int32, (0 ≤ r.toInt) → (r.toInt ≤ 715) → Q r) : wp_X9_bitsOf S a1 a2 Q := by
  unfold wp_X9_bitsOf
  have jf1 := K9g_nodeMany hJ
  have jf2 : (-4 ≤ ((b9g_now S) 1).toInt ∧ ((b9g_now S) 1).toInt ≤ 4) ∧ (-3 ≤ ((b9g_now S) 4).toInt ∧ ((b9g_now S) 4).toInt ≤ 252) ∧ (0 ≤ ((b9g_now S) 8).toInt ∧ ((b9g_now S) 8).toInt ≤ 64) ∧ (0 ≤ ((b9g_now S) 9).toInt ∧ ((b9g_now S) 9).toInt ≤ 64) ∧ (0 ≤ ((b9g_now S) 10).toInt ∧ ((b9g_now S) 10).toInt ≤ 16) ∧ (0 ≤ ((b9g_now S) 12).toInt ∧ ((b9g_now S) 12).toInt ≤ 8) := K9g_now hJ
  have rga1 := pt_rg a1
  have rga2 := pt_rg a2
  refine ⟨fun c1 => ?_, fun c1 => ?_⟩
  · try simp (disch := first | ((try simp (disch := first | ((try simp only [pn]) <;> omega) | fail) only [pn, pq]) <;> omega) | fail) only [pn, pq] at c1
    refine sf_X9_branchMany hJ (by (try simp (disch := first | ((try simp (disch := first | ((try simp only [pn]) <;> omega) | fail) only [pn, pq]) <;> omega) | fail) only [pn, pq]) <;> (intros; (try simp (disch := first | ((try simp (disch := first | ((try simp only [pn]) <;> omega) | fail) only [pn, pq]) <;> omega) | fail) only [pn, pq]) <;> omega)) (by (try simp (disch := first | ((try simp (disch := first | ((try simp only [pn]) <;> omega) | fail) only [pn, pq]) <;> omega) | fail) only [pn, pq]) <;> (intros; (try simp (disch := first | ((try simp (disch := first | ((try simp only [pn]) <;> omega) | fail) only [pn, pq]) <;> omega) | fail) only [pn, pq]) <;> omega)) (fun r2 hr2_0 hr2_1 hr2_2 => ?_)
    have rgr2 := pt_rg r2
    try simp (disch := first | ((try simp (disch := first | ((try simp only [pn]) <;> omega) | fail) only [pn, pq]) <;> omega) | fail) only [pn, pq] at hr2_0
    try simp (disch := first | ((try simp (disch := first | ((try simp only [pn]) <;> omega) | fail) only [pn, pq]) <;> omega) | fail) only [pn, pq] at hr2_1
    try simp (disch := first | ((try simp (disch := first | ((try simp only [pn]) <;> omega) | fail) only [pn, pq]) <;> omega) | fail) only [pn, pq] at hr2_2
    refine sf_X9_isNodeEnd hJ (by (try simp (disch := first | ((try simp (disch := first | ((try simp only [pn]) <;> omega) | fail) only [pn, pq]) <;> omega) | fail) only [pn, pq]) <;> (intros; (try simp (disch := first | ((try simp (disch := first | ((try simp only [pn]) <;> omega) | fail) only [pn, pq]) <;> omega) | fail) only [pn, pq]) <;> omega)) (by (try simp (disch := first | ((try simp (disch := first | ((try simp only [pn]) <;> omega) | fail) only [pn, pq]) <;> omega) | fail) only [pn, pq]) <;> (intros; (try simp (disch := first | ((try simp (disch := first | ((try simp only [pn]) <;> omega) | fail) only [pn, pq]) <;> omega) | fail) only [pn, pq]) <;> omega)) (fun r4 hzr4 hr4_0 => ?_)
    try simp (disch := first | ((try simp (disch := first | ((try simp only [pn]) <;> omega) | fail) only [pn, pq]) <;> omega) | fail) only [pn, pq] at hr4_0
    refine ⟨fun c6 => ?_, fun c6 => ?_⟩
    · try simp (disch := first | ((try simp (disch := first | ((try simp only [pn]) <;> omega) | fail) only [pn, pq]) <;> omega) | fail) only [pn, pq] at c6
      exact hq _ (by (try simp (disch := first | ((try simp (disch := first | ((try simp only [pn]) <;> omega) | fail) only [pn, pq]) <;> omega) | fail) only [pn, pq]) <;> (intros; (try simp (disch := first | ((try simp (disch := first | ((try simp only [pn]) <;> omega) | fail) only [pn, pq]) <;> omega) | fail) only [pn, pq]) <;> omega)) (by (try simp (disch := first | ((try simp (disch := first | ((try simp only [pn]) <;> omega) | fail) only [pn, pq]) <;> omega) | fail) only [pn, pq]) <;> (intros; (try simp (disch := first | ((try simp (disch := first | ((try simp only [pn]) <;> omega) | fail) only [pn, pq]) <;> omega) | fail) only [pn, pq]) <;> omega))
    · try simp (disch := first | ((try simp (disch := first | ((try simp only [pn]) <;> omega) | fail) only [pn, pq]) <;> omega) | fail) only [pn, pq] at c6
      exact hq _ (by (try simp (disch := first | ((try simp (disch := first | ((try simp only [pn]) <;> omega) | fail) only [pn, pq]) <;> omega) | fail) only [pn, pq]) <;> (intros; (try simp (disch := first | ((try simp (disch := first | ((try simp only [pn]) <;> omega) | fail) only [pn, pq]) <;> omega) | fail) only [pn, pq]) <;> omega)) (by (try simp (disch := first | ((try simp (disch := first | ((try simp only [pn]) <;> omega) | fail) only [pn, pq]) <;> omega) | fail) only [pn, pq]) <;> (intros; (try simp (disch := first | ((try simp (disch := first | ((try simp only [pn]) <;> omega) | fail) only [pn, pq]) <;> omega) | fail) only [pn, pq]) <;> omega))
  · try simp (disch := first | ((try simp (disch := first | ((try simp only [pn]) <;> omega) | fail) only [pn, pq]) <;> omega) | fail) only [pn, pq] at c1
    exact hq _ (by (try simp (disch := first | ((try simp (disch := first | ((try simp only [pn]) <;> omega) | fail) only [pn, pq]) <;> omega) | fail) only [pn, pq]) <;> (intros; (try simp (disch := first | ((try simp (disch := first | ((try simp only [pn]) <;> omega) | fail) only [pn, pq]) <;> omega) | fail) only [pn, pq]) <;> omega)) (by (try simp (disch := first | ((try simp (disch := first | ((try simp only [pn]) <;> omega) | fail) only [pn, pq]) <;> omega) | fail) only [pn, pq]) <;> (intros; (try simp (disch := first | ((try simp (disch := first | ((try simp only [pn]) <;> omega) | fail) only [pn, pq]) <;> omega) | fail) only [pn, pq]) <;> omega))
set_option maxRecDepth 20000 in
set_option maxHeartbeats 8000000 in
theorem sf_X9_bitsBelow {S : bT9} (hJ : K9 S) {a1 : Int32} {Q : Int32 → Prop} (hq : ∀ r : Int32, (0 ≤ r.toInt) → (r.toInt ≤ 366080) → Q r) : wp_X9_bitsBelow S a1 Q := by
  unfold wp_X9_bitsBelow
  have jf1 := K9g_nodeMany hJ
  have jf2 : (-4 ≤ ((b9g_now S) 1).toInt ∧ ((b9g_now S) 1).toInt ≤ 4) ∧ (-3 ≤ ((b9g_now S) 4).toInt ∧ ((b9g_now S) 4).toInt ≤ 252) ∧ (0 ≤ ((b9g_now S) 8).toInt ∧ ((b9g_now S) 8).toInt ≤ 64) ∧ (0 ≤ ((b9g_now S) 9).toInt ∧ ((b9g_now S) 9).toInt ≤ 64) ∧ (0 ≤ ((b9g_now S) 10).toInt ∧ ((b9g_now S) 10).toInt ≤ 16) ∧ (0 ≤ ((b9g_now S) 12).toInt ∧ ((b9g_now S) 12).toInt ≤ 8) := K9g_now hJ
  have rga1 := pt_rg a1
  refine ⟨fun n x1q1 x2q1 x3q1 => (x1q1 = a1) ∧ (0 ≤ (x3q1).toInt) ∧ ((x3q1).toInt ≤ 512) ∧ (0 ≤ (x2q1).toInt) ∧ ((x2q1).toInt ≤ 715 * (x3q1).toInt) ∧ n = ((b9g_nodeMany S).toInt + 1 - (x3q1).toInt).toNat, ⟨_, rfl, (by (try simp (disch := first | ((try simp (disch := first | ((try simp only [pn]) <;> omega) | fail) only [pn, pq]) <;> omega) | fail) only [pn, pq]) <;> (intros; (try simp (disch := first | ((try simp (disch := first | ((try simp only [pn]) <;> omega) | fail) only [pn, pq]) <;> omega) | fail) only [pn, pq]) <;> omega)), (by (try simp (disch := first | ((try simp (disch := first | ((try simp only [pn]) <;> omega) | fail) only [pn, pq]) <;> omega) | fail) only [pn, pq]) <;> (intros; (try simp (disch := first | ((try simp (disch := first | ((try simp only [pn]) <;> omega) | fail) only [pn, pq]) <;> omega) | fail) only [pn, pq]) <;> omega)), (by (try simp (disch := first | ((try simp (disch := first | ((try simp only [pn]) <;> omega) | fail) only [pn, pq]) <;> omega) | fail) only [pn, pq]) <;> (intros; (try simp (disch := first | ((try simp (disch := first | ((try simp only [pn]) <;> omega) | fail) only [pn, pq]) <;> omega) | fail) only [pn, pq]) <;> omega)), (by (try simp (disch := first | ((try simp (disch := first | ((try simp only [pn]) <;> omega) | fail) only [pn, pq]) <;> omega) | fail) only [pn, pq]) <;> (intros; (try simp (disch := first | ((try simp (disch := first | ((try simp only [pn]) <;> omega) | fail) only [pn, pq]) <;> omega) | fail) only [pn, pq]) <;> omega)), rfl⟩, ?_⟩
  rintro n2 x1q1 x2q1 x3q1 ⟨hkq1_0, hiq1_0, hiq1_1, hiq1_2, hiq1_3, hn2⟩
  subst hkq1_0
  have rgx1q1 := pt_rg x1q1
  have rgx2q1 := pt_rg x2q1
  have rgx3q1 := pt_rg x3q1
  unfold wp_X9_bitsBelow_4b
  refine ⟨fun c3 => ?_, fun c3 => ?_⟩
  · try simp (disch := first | ((try simp (disch := first | ((try simp only [pn]) <;> omega) | fail) only [pn, pq]) <;> omega) | fail) only [pn, pq] at c3
    exact hq _ (by (try simp (disch := first | ((try simp (disch := first | ((try simp only [pn]) <;> omega) | fail) only [pn, pq]) <;> omega) | fail) only [pn, pq]) <;> (intros; (try simp (disch := first | ((try simp (disch := first | ((try simp only [pn]) <;> omega) | fail) only [pn, pq]) <;> omega) | fail) only [pn, pq]) <;> omega)) (by (try simp (disch := first | ((try simp (disch := first | ((try simp only [pn]) <;> omega) | fail) only [pn, pq]) <;> omega) | fail) only [pn, pq]) <;> (intros; (try simp (disch := first | ((try simp (disch := first | ((try simp only [pn]) <;> omega) | fail) only [pn, pq]) <;> omega) | fail) only [pn, pq]) <;> omega))
  · try simp (disch := first | ((try simp (disch := first | ((try simp only [pn]) <;> omega) | fail) only [pn, pq]) <;> omega) | fail) only [pn, pq] at c3
    refine ⟨pt_in (by (try simp (disch := first | ((try simp (disch := first | ((try simp only [pn]) <;> omega) | fail) only [pn, pq]) <;> omega) | fail) only [pn, pq]) <;> (intros; (try simp (disch := first | ((try simp (disch := first | ((try simp only [pn]) <;> omega) | fail) only [pn, pq]) <;> omega) | fail) only [pn, pq]) <;> omega)) (by (try simp (disch := first | ((try simp (disch := first | ((try simp only [pn]) <;> omega) | fail) only [pn, pq]) <;> omega) | fail) only [pn, pq]) <;> (intros; (try simp (disch := first | ((try simp (disch := first | ((try simp only [pn]) <;> omega) | fail) only [pn, pq]) <;> omega) | fail) only [pn, pq]) <;> omega)), ?_⟩
    have jr3 := ND_at (K9g_ND hJ) (x := x3q1) (by (try simp (disch := first | ((try simp (disch := first | ((try simp only [pn]) <;> omega) | fail) only [pn, pq]) <;> omega) | fail) only [pn, pq]) <;> (intros; (try simp (disch := first | ((try simp (disch := first | ((try simp only [pn]) <;> omega) | fail) only [pn, pq]) <;> omega) | fail) only [pn, pq]) <;> omega)) (by (try simp (disch := first | ((try simp (disch := first | ((try simp only [pn]) <;> omega) | fail) only [pn, pq]) <;> omega) | fail) only [pn, pq]) <;> (intros; (try simp (disch := first | ((try simp (disch := first | ((try simp only [pn]) <;> omega) | fail) only [pn, pq]) <;> omega) | fail) only [pn, pq]) <;> omega))
    try simp (disch := first | ((try simp (disch := first | ((try simp only [pn]) <;> omega) | fail) only [pn, pq]) <;> omega) | fail) only [pn, pq] at jr3
    refine ⟨fun c4 => ?_, fun c4 => ?_⟩
    · try simp (disch := first | ((try simp (disch := first | ((try simp only [pn]) <;> omega) | fail) only [pn, pq]) <;> omega) | fail) only [pn, pq] at c4
      unfold wp_X9_bitsBelow_31
      refine ⟨_, ?_, ?_, ?_, ?_, ?_, ?_, rfl⟩
      · (try simp (disch := first | ((try simp (disch := first | ((try simp only [pn]) <;> omega) | fail) only [pn, pq]) <;> omega) | fail) only [pn, pq]) <;> (intros; (try simp (disch := first | ((try simp (disch := first | ((try simp only [pn]) <;> omega) | fail) only [pn, pq]) <;> omega) | fail) only [pn, pq]) <;> omega)
      · first | rfl | assumption
      · (try simp (disch := first | ((try simp (disch := first | ((try simp only [pn]) <;> omega) | fail) only [pn, pq]) <;> omega) | fail) only [pn, pq]) <;> (intros; (try simp (disch := first | ((try simp (disch := first | ((try simp only [pn]) <;> omega) | fail) only [pn, pq]) <;> omega) | fail) only [pn, pq]) <;> omega)
      · (try simp (disch := first | ((try simp (disch := first | ((try simp only [pn]) <;> omega) | fail) only [pn, pq]) <;> omega) | fail) only [pn, pq]) <;> (intros; (try simp (disch := first | ((try simp (disch := first | ((try simp only [pn]) <;> omega) | fail) only [pn, pq]) <;> omega) | fail) only [pn, pq]) <;> omega)
      · (try simp (disch := first | ((try simp (disch := first | ((try simp only [pn]) <;> omega) | fail) only [pn, pq]) <;> omega) | fail) only [pn, pq]) <;> (intros; (try simp (disch := first | ((try simp (disch := first | ((try simp only [pn]) <;> omega) | fail) only [pn, pq]) <;> omega) | fail) only [pn, pq]) <;> omega)
      · (try simp (disch := first | ((try simp (disch := first | ((try simp only [pn]) <;> omega) | fail) only [pn, pq]) <;> omega) | fail) only [pn, pq]) <;> (intros; (try simp (disch := first | ((try simp (disch := first | ((try simp only [pn]) <;> omega) | fail) only [pn, pq]) <;> omega) | fail) only [pn, pq]) <;> omega)
    · try simp (disch := first | ((try simp (disch := first | ((try simp only [pn]) <;> omega) | fail) only [pn, pq]) <;> omega) | fail) only [pn, pq] at c4
      refine sf_X9_bitsOf hJ (by (try simp (disch := first | ((try simp (disch := first | ((try simp only [pn]) <;> omega) | fail) only [pn, pq]) <;> omega) | fail) only [pn, pq]) <;> (intros; (try simp (disch := first | ((try simp (disch := first | ((try simp only [pn]) <;> omega) | fail) only [pn, pq]) <;> omega) | fail) only [pn, pq]) <;> omega)) (by (try simp (disch := first | ((try simp (disch := first | ((try simp only [pn]) <;> omega) | fail) only [pn, pq]) <;> omega) | fail) only [pn, pq]) <;> (intros; (try simp (disch := first | ((try simp (disch := first | ((try simp only [pn]) <;> omega) | fail) only [pn, pq]) <;> omega) | fail) only [pn, pq]) <;> omega)) (fun r5 hr5_0 hr5_1 => ?_)
      have rgr5 := pt_rg r5
      try simp (disch := first | ((try simp (disch := first | ((try simp only [pn]) <;> omega) | fail) only [pn, pq]) <;> omega) | fail) only [pn, pq] at hr5_0
      try simp (disch := first | ((try simp (disch := first | ((try simp only [pn]) <;> omega) | fail) only [pn, pq]) <;> omega) | fail) only [pn, pq] at hr5_1
      unfold wp_X9_bitsBelow_31
      refine ⟨_, ?_, ?_, ?_, ?_, ?_, ?_, rfl⟩
      · (try simp (disch := first | ((try simp (disch := first | ((try simp only [pn]) <;> omega) | fail) only [pn, pq]) <;> omega) | fail) only [pn, pq]) <;> (intros; (try simp (disch := first | ((try simp (disch := first | ((try simp only [pn]) <;> omega) | fail) only [pn, pq]) <;> omega) | fail) only [pn, pq]) <;> omega)
      · first | rfl | assumption
      · (try simp (disch := first | ((try simp (disch := first | ((try simp only [pn]) <;> omega) | fail) only [pn, pq]) <;> omega) | fail) only [pn, pq]) <;> (intros; (try simp (disch := first | ((try simp (disch := first | ((try simp only [pn]) <;> omega) | fail) only [pn, pq]) <;> omega) | fail) only [pn, pq]) <;> omega)
      · (try simp (disch := first | ((try simp (disch := first | ((try simp only [pn]) <;> omega) | fail) only [pn, pq]) <;> omega) | fail) only [pn, pq]) <;> (intros; (try simp (disch := first | ((try simp (disch := first | ((try simp only [pn]) <;> omega) | fail) only [pn, pq]) <;> omega) | fail) only [pn, pq]) <;> omega)
      · (try simp (disch := first | ((try simp (disch := first | ((try simp only [pn]) <;> omega) | fail) only [pn, pq]) <;> omega) | fail) only [pn, pq]) <;> (intros; (try simp (disch := first | ((try simp (disch := first | ((try simp only [pn]) <;> omega) | fail) only [pn, pq]) <;> omega) | fail) only [pn, pq]) <;> omega)
      · (try simp (disch := first | ((try simp (disch := first | ((try simp only [pn]) <;> omega) | fail) only [pn, pq]) <;> omega) | fail) only [pn, pq]) <;> (intros; (try simp (disch := first | ((try simp (disch := first | ((try simp only [pn]) <;> omega) | fail) only [pn, pq]) <;> omega) | fail) only [pn, pq]) <;> omega)
theorem sf_X9_upperBy {S : bT9} (hJ : K9 S) {a1 : Int32} {Q : Int32 → Prop} (hq : ∀ r : Int32, Q r) : wp_X9_upperBy S a1 Q := by
  unfold wp_X9_upperBy
  have jf := K9g_levelMany hJ
  refine ⟨fun c1 => ⟨fun c2 => ?_, fun c2 => ⟨fun c3 => hq _, fun c3 => hq _⟩⟩, fun c1 => hq _⟩
  unfold wp_X9_upperBy_37
  refine ⟨fun n x => 0 ≤ x.toInt ∧ n = x.toInt.toNat, ⟨_, jf.1, rfl⟩, ?_⟩
  rintro n x ⟨h0, hn⟩
  unfold wp_X9_upperBy_37b
  refine ⟨pt_in (by decide) (by decide), sf_X9_bitsAbove hJ (fun r1 k1 k2 k3 => sf_X9_bitsBelow hJ (fun r3 m1 m2 => ⟨fun _ => hq _, fun c => ?_⟩))⟩
  have hx : x.toInt ≠ 0 := by
    intro hx
    have e := k3 (by omega)
    apply c
    rw [Int32.le_iff_toInt_le, Int32.toInt_mul, e, Int.mul_zero]
    exact m1
  have rg := pt_rg x
  have e1 : (x - 1).toInt = x.toInt - 1 := by rw [pt_sub (by rw [pl_1]; omega) (by rw [pl_1]; omega), pl_1]
  exact ⟨_, by omega, by omega, rfl⟩
def F_X9_laysNodes (S u : bT9) : Prop := (b9g_told u) = (b9g_told S) ∧ (b9g_now u) = (b9g_now S) ∧ (b9g_keys u) = (b9g_keys S) ∧ (b9g_lengths u) = (b9g_lengths S) ∧ (b9g_drawn u) = (b9g_drawn S) ∧ (b9g_drawnLength u) = (b9g_drawnLength S) ∧ (b9g_tape u) = (b9g_tape S) ∧ (b9g_taped u) = (b9g_taped S) ∧ (b9g_names u) = (b9g_names S) ∧ (b9g_chosen u) = (b9g_chosen S) ∧ (b9g_lowKey u) = (b9g_lowKey S) ∧ (b9g_highKey u) = (b9g_highKey S) ∧ (b9g_lowLength u) = (b9g_lowLength S) ∧ (b9g_highLength u) = (b9g_highLength S) ∧ (b9g_fromKey u) = (b9g_fromKey S) ∧ (b9g_toKey u) = (b9g_toKey S) ∧ (b9g_fromLength u) = (b9g_fromLength S) ∧ (b9g_toLength u) = (b9g_toLength S) ∧ (b9g_ones u) = (b9g_ones S) ∧ (b9g_oneMany u) = (b9g_oneMany S) ∧ (b9g_rowLong u) = (b9g_rowLong S) ∧ (b9g_signs u) = (b9g_signs S) ∧ (b9g_signMany u) = (b9g_signMany S) ∧ (b9g_hasImage u) = (b9g_hasImage S) ∧ (b9g_images u) = (b9g_images S) ∧ (b9g_keyImages u) = (b9g_keyImages S) ∧ (b9g_lengthImages u) = (b9g_lengthImages S)
theorem sf_X9_laysNodes {S : bT9} (hJ : J9 S) {Q : (bT9) → Prop} (hq : ∀ u : bT9, (J9 u) → F_X9_laysNodes S u → Q u) : wp_X9_laysNodes S Q := by
  unfold wp_X9_laysNodes
  refine sf_X9_laysBeginnings hJ (fun u19 hJ19 hf19 hil19 => ?_)
  have hF19 : F_X9_laysNodes S u19 := ⟨hf19.1, hf19.2.1, hf19.2.2.1, hf19.2.2.2.1, hf19.2.2.2.2.1, hf19.2.2.2.2.2.1, hf19.2.2.2.2.2.2.1, hf19.2.2.2.2.2.2.2.1, hf19.2.2.2.2.2.2.2.2.1, hf19.2.2.2.2.2.2.2.2.2.1, hf19.2.2.2.2.2.2.2.2.2.2.2.2.2.2.2.2.2.2.2.2.2.2.2.2.2.1, hf19.2.2.2.2.2.2.2.2.2.2.2.2.2.2.2.2.2.2.2.2.2.2.2.2.2.2.1, hf19.2.2.2.2.2.2.2.2.2.2.2.2.2.2.2.2.2.2.2.2.2.2.2.2.2.2.2.1, hf19.2.2.2.2.2.2.2.2.2.2.2.2.2.2.2.2.2.2.2.2.2.2.2.2.2.2.2.2.1, hf19.2.2.2.2.2.2.2.2.2.2.2.2.2.2.2.2.2.2.2.2.2.2.2.2.2.2.2.2.2.1, hf19.2.2.2.2.2.2.2.2.2.2.2.2.2.2.2.2.2.2.2.2.2.2.2.2.2.2.2.2.2.2.1, hf19.2.2.2.2.2.2.2.2.2.2.2.2.2.2.2.2.2.2.2.2.2.2.2.2.2.2.2.2.2.2.2.1, hf19.2.2.2.2.2.2.2.2.2.2.2.2.2.2.2.2.2.2.2.2.2.2.2.2.2.2.2.2.2.2.2.2.1, hf19.2.2.2.2.2.2.2.2.2.2.2.2.2.2.2.2.2.2.2.2.2.2.2.2.2.2.2.2.2.2.2.2.2.1, hf19.2.2.2.2.2.2.2.2.2.2.2.2.2.2.2.2.2.2.2.2.2.2.2.2.2.2.2.2.2.2.2.2.2.2.1, hf19.2.2.2.2.2.2.2.2.2.2.2.2.2.2.2.2.2.2.2.2.2.2.2.2.2.2.2.2.2.2.2.2.2.2.2.1, hf19.2.2.2.2.2.2.2.2.2.2.2.2.2.2.2.2.2.2.2.2.2.2.2.2.2.2.2.2.2.2.2.2.2.2.2.2.2.1, hf19.2.2.2.2.2.2.2.2.2.2.2.2.2.2.2.2.2.2.2.2.2.2.2.2.2.2.2.2.2.2.2.2.2.2.2.2.2.2.1, hf19.2.2.2.2.2.2.2.2.2.2.2.2.2.2.2.2.2.2.2.2.2.2.2.2.2.2.2.2.2.2.2.2.2.2.2.2.2.2.2.1, hf19.2.2.2.2.2.2.2.2.2.2.2.2.2.2.2.2.2.2.2.2.2.2.2.2.2.2.2.2.2.2.2.2.2.2.2.2.2.2.2.2.1, hf19.2.2.2.2.2.2.2.2.2.2.2.2.2.2.2.2.2.2.2.2.2.2.2.2.2.2.2.2.2.2.2.2.2.2.2.2.2.2.2.2.2.1, hf19.2.2.2.2.2.2.2.2.2.2.2.2.2.2.2.2.2.2.2.2.2.2.2.2.2.2.2.2.2.2.2.2.2.2.2.2.2.2.2.2.2.2⟩
  refine ⟨fun c => ?_, fun c => hq _ hJ19 hF19⟩
  intro S20 e20 S21 e21 S22 e22 S23 e23
  have hK21 : K9 S21 := by rw [e21, e20]; exact K9s_laidFor (K9s_areNodesLaid hJ19.1)
  have hF21 : F_X9_laysNodes S S21 := by rw [e21, e20]; exact hF19
  have hK23 : K9 S23 := by
    rw [e23, e22]
    exact K9s_levelMany (K9s_nodeMany hK21 ⟨by decide, by decide⟩ (fun x hx => by rw [pl_0] at hx; omega)) ⟨by decide, by decide⟩
  have hF23 : F_X9_laysNodes S S23 := by rw [e23, e22]; exact hF21
  have hm23 : (b9g_nodeMany S23).toInt = 0 := by rw [e23, e22]; rfl
  have hTR23 : TR S23 0 0 := by
    refine ⟨fun x hx => ?_, fun l i h0 h1 h2 h3 => ?_, fun x hx => ?_, by rw [e23, e22, e21, e20]; exact hJ19.2.2⟩
    · rw [hm23] at hx; omega
    · omega
    · rw [hm23] at hx; omega
  -- behind the loops
  have last : ∀ V : bT9, K9 V → F_X9_laysNodes S V → TR V 8 0 → wp_X9_laysNodes_34b V 8 Q (fun _ _ => False) := by
    intro V hK hF hT
    have jm := K9g_nodeMany hK
    unfold wp_X9_laysNodes_34b
    refine ⟨fun _ => ⟨pt_in (by decide) (by decide), sf_X9_upperBy hK (fun r14 S16 e16 S17 e17 => ?_)⟩, fun c => absurd (Int32.le_refl _) c⟩
    have hK17 : K9 S17 := by rw [e17, e16]; exact K9s_upperNodes (K9s_upper hK) ⟨by decide, by decide⟩
    have hJ17 : J9 S17 := ⟨hK17, by
      have a : (b9g_upperNodes S17).toInt = 0 := by rw [e17]; rfl
      have b : b9g_nodeMany S17 = b9g_nodeMany V := by rw [e17, e16]
      rw [a, b]; exact jm.1, by rw [e17, e16]; exact hT.2.2.2⟩
    have hF17 : F_X9_laysNodes S S17 := by rw [e17, e16]; exact hF
    have hT17 : TR S17 8 0 := by rw [e17, e16]; exact hT
    unfold wp_X9_laysNodes_192
    refine ⟨fun n W => J9 W ∧ F_X9_laysNodes S W ∧ TR W 8 0 ∧ n = ((b9g_nodeMany W).toInt - (b9g_upperNodes W).toInt).toNat, ⟨_, hJ17, hF17, hT17, rfl⟩, ?_⟩
    rintro n W ⟨hJW, hFW, hTW, hn⟩
    have jmW := J9g_nodeMany hJW
    have juW := J9g_upperNodes hJW
    have fin : wp_X9_laysNodes_232 W Q := by
      unfold wp_X9_laysNodes_232
      exact sf_X9_laysItems hJW hTW (fun u2 hJu hf => hq _ hJu ⟨(hf.1).trans (hFW.1), (hf.2.1).trans (hFW.2.1), (hf.2.2.1).trans (hFW.2.2.1), (hf.2.2.2.1).trans (hFW.2.2.2.1), (hf.2.2.2.2.1).trans (hFW.2.2.2.2.1), (hf.2.2.2.2.2.1).trans (hFW.2.2.2.2.2.1), (hf.2.2.2.2.2.2.1).trans (hFW.2.2.2.2.2.2.1), (hf.2.2.2.2.2.2.2.1).trans (hFW.2.2.2.2.2.2.2.1), (hf.2.2.2.2.2.2.2.2.1).trans (hFW.2.2.2.2.2.2.2.2.1), (hf.2.2.2.2.2.2.2.2.2.1).trans (hFW.2.2.2.2.2.2.2.2.2.1), (hf.2.2.2.2.2.2.2.2.2.2.2.2.2.2.2.2.2.2.2.2.2.1).trans (hFW.2.2.2.2.2.2.2.2.2.2.1), (hf.2.2.2.2.2.2.2.2.2.2.2.2.2.2.2.2.2.2.2.2.2.2.1).trans (hFW.2.2.2.2.2.2.2.2.2.2.2.1), (hf.2.2.2.2.2.2.2.2.2.2.2.2.2.2.2.2.2.2.2.2.2.2.2.1).trans (hFW.2.2.2.2.2.2.2.2.2.2.2.2.1), (hf.2.2.2.2.2.2.2.2.2.2.2.2.2.2.2.2.2.2.2.2.2.2.2.2.1).trans (hFW.2.2.2.2.2.2.2.2.2.2.2.2.2.1), (hf.2.2.2.2.2.2.2.2.2.2.2.2.2.2.2.2.2.2.2.2.2.2.2.2.2.1).trans (hFW.2.2.2.2.2.2.2.2.2.2.2.2.2.2.1), (hf.2.2.2.2.2.2.2.2.2.2.2.2.2.2.2.2.2.2.2.2.2.2.2.2.2.2.1).trans (hFW.2.2.2.2.2.2.2.2.2.2.2.2.2.2.2.1), (hf.2.2.2.2.2.2.2.2.2.2.2.2.2.2.2.2.2.2.2.2.2.2.2.2.2.2.2.1).trans (hFW.2.2.2.2.2.2.2.2.2.2.2.2.2.2.2.2.1), (hf.2.2.2.2.2.2.2.2.2.2.2.2.2.2.2.2.2.2.2.2.2.2.2.2.2.2.2.2.1).trans (hFW.2.2.2.2.2.2.2.2.2.2.2.2.2.2.2.2.2.1), (hf.2.2.2.2.2.2.2.2.2.2.2.2.2.2.2.2.2.2.2.2.2.2.2.2.2.2.2.2.2.1).trans (hFW.2.2.2.2.2.2.2.2.2.2.2.2.2.2.2.2.2.2.1), (hf.2.2.2.2.2.2.2.2.2.2.2.2.2.2.2.2.2.2.2.2.2.2.2.2.2.2.2.2.2.2.1).trans (hFW.2.2.2.2.2.2.2.2.2.2.2.2.2.2.2.2.2.2.2.1), (hf.2.2.2.2.2.2.2.2.2.2.2.2.2.2.2.2.2.2.2.2.2.2.2.2.2.2.2.2.2.2.2.1).trans (hFW.2.2.2.2.2.2.2.2.2.2.2.2.2.2.2.2.2.2.2.2.1), (hf.2.2.2.2.2.2.2.2.2.2.2.2.2.2.2.2.2.2.2.2.2.2.2.2.2.2.2.2.2.2.2.2.2.1).trans (hFW.2.2.2.2.2.2.2.2.2.2.2.2.2.2.2.2.2.2.2.2.2.1), (hf.2.2.2.2.2.2.2.2.2.2.2.2.2.2.2.2.2.2.2.2.2.2.2.2.2.2.2.2.2.2.2.2.2.2.1).trans (hFW.2.2.2.2.2.2.2.2.2.2.2.2.2.2.2.2.2.2.2.2.2.2.1), (hf.2.2.2.2.2.2.2.2.2.2.2.2.2.2.2.2.2.2.2.2.2.2.2.2.2.2.2.2.2.2.2.2.2.2.2.1).trans (hFW.2.2.2.2.2.2.2.2.2.2.2.2.2.2.2.2.2.2.2.2.2.2.2.1), (hf.2.2.2.2.2.2.2.2.2.2.2.2.2.2.2.2.2.2.2.2.2.2.2.2.2.2.2.2.2.2.2.2.2.2.2.2.1).trans (hFW.2.2.2.2.2.2.2.2.2.2.2.2.2.2.2.2.2.2.2.2.2.2.2.2.1), (hf.2.2.2.2.2.2.2.2.2.2.2.2.2.2.2.2.2.2.2.2.2.2.2.2.2.2.2.2.2.2.2.2.2.2.2.2.2.1).trans (hFW.2.2.2.2.2.2.2.2.2.2.2.2.2.2.2.2.2.2.2.2.2.2.2.2.2.1), (hf.2.2.2.2.2.2.2.2.2.2.2.2.2.2.2.2.2.2.2.2.2.2.2.2.2.2.2.2.2.2.2.2.2.2.2.2.2.2).trans (hFW.2.2.2.2.2.2.2.2.2.2.2.2.2.2.2.2.2.2.2.2.2.2.2.2.2.2)⟩)
    unfold wp_X9_laysNodes_192b
    refine ⟨fun _ => fin, fun c1 => ?_⟩
    simp (disch := first | ((try simp (disch := first | ((try simp only [pn]) <;> omega) | fail) only [pn, pq]) <;> omega) | fail) only [pn, pq] at c1
    refine ⟨pt_in (by omega) (by omega), fun _ => fin, fun _ S3 e3 => ?_⟩
    have e1 : (b9g_upperNodes W + 1).toInt = (b9g_upperNodes W).toInt + 1 := by rw [pt_add (by rw [pl_1]; omega) (by rw [pl_1]; omega), pl_1]
    have a : (b9g_upperNodes S3).toInt = (b9g_upperNodes W).toInt + 1 := by rw [e3]; exact e1
    have b : (b9g_nodeMany S3).toInt = (b9g_nodeMany W).toInt := by rw [e3]
    have hJ3 : J9 S3 := ⟨by rw [e3]; exact K9s_upperNodes hJW.1 ⟨by omega, by omega⟩, by omega, by rw [e3]; exact hJW.2.2⟩
    refine ⟨_, ?_, hJ3, by rw [e3]; exact hFW, by rw [e3]; exact hTW, rfl⟩
    omega
  unfold wp_X9_laysNodes_34
  refine ⟨fun n x1 V => K9 V ∧ F_X9_laysNodes S V ∧ 0 ≤ x1.toInt ∧ x1.toInt ≤ 8 ∧ TR V x1.toInt 0 ∧ (b9g_nodeMany V).toInt ≤ 64 * x1.toInt ∧ (∀ x : Nat, (x : Int) + 1 = (b9g_nodeMany V).toInt → (b9g_nodeLevel V x).toInt < x1.toInt) ∧ n = (8 - x1.toInt).toNat, ⟨_, hK23, hF23, by decide, by decide, hTR23, by rw [hm23]; decide, fun x hx => by rw [hm23] at hx; omega, rfl⟩, ?_⟩
  rintro n x1 V ⟨hK, hF, h0, h8, hT, hm, hl, hn⟩
  by_cases hx8 : x1.toInt = 8
  · have ex : x1 = 8 := Int32.toInt_inj.mp hx8
    subst ex
    have q := last V hK hF hT
    unfold wp_X9_laysNodes_34b at q ⊢
    exact ⟨q.1, fun c => absurd (Int32.le_refl _) c⟩
  unfold wp_X9_laysNodes_34b
  refine ⟨fun c => ?_, fun c => ?_⟩
  · simp (disch := first | ((try simp (disch := first | ((try simp only [pn]) <;> omega) | fail) only [pn, pq]) <;> omega) | fail) only [pn, pq] at c
    omega
  unfold wp_X9_laysNodes_44
  refine ⟨fun k y1 y2 y3 W => x1 = y1 ∧ K9 W ∧ F_X9_laysNodes S W ∧ 0 ≤ y3.toInt ∧ y3.toInt ≤ (b9g_now W 9).toInt ∧ TR W x1.toInt y3.toInt ∧ (b9g_nodeMany W).toInt ≤ 64 * x1.toInt + y3.toInt ∧ (LST W (y2.toInt) (x1.toInt) (y3.toInt)) ∧ k = ((b9g_now W 9).toInt - y3.toInt).toNat, ⟨_, rfl, hK, hF, by decide, (K9g_now hK).2.2.2.1.1, hT, by rw [pl_0]; omega, Or.inl ⟨rfl, hl⟩, rfl⟩, ?_⟩
  rintro k y1 y2 y3 W ⟨rfl, hKW, hFW, g0, g1, hTW, hmW, hlst, hk⟩
  have jn := (K9g_now hKW).2.2.2.1
  have jm := K9g_nodeMany hKW
  have e3 := pt_clamp g0
  have hN := K9g_ND hKW
  have e9 : b9g_now W ((9 : Int32)).toNatClampNeg = b9g_now W 9 := rfl
  have e31 : (y3 + 1).toInt = y3.toInt + 1 := by rw [pt_add (by rw [pl_1]; omega) (by rw [pl_1]; omega), pl_1]
  unfold wp_X9_laysNodes_44b
  refine ⟨pt_in (by decide) (by decide), fun c1 => ?_, fun c1 => ?_⟩
  · simp (disch := first | ((try simp (disch := first | ((try simp only [pn]) <;> omega) | fail) only [pn, pq]) <;> omega) | fail) only [pn, pq] at c1
    have e11 : (x1 + 1).toInt = x1.toInt + 1 := by rw [pt_add (by rw [pl_1]; omega) (by rw [pl_1]; omega), pl_1]
    refine ⟨_, ?_, hKW, hFW, by omega, by omega, ⟨hTW.1, ?_, hTW.2.2⟩, by omega, ?_, rfl⟩
    · omega
    · intro l i q0 q1 q2 q3
      exact hTW.2.1 l i q0 q1 q2 (by omega)
    · intro x hx
      rcases hlst with ⟨_, h⟩ | ⟨z, z1, z2, _⟩
      · have := h x hx
        omega
      · have : x = z := by omega
        subst this
        omega
  · simp (disch := first | ((try simp (disch := first | ((try simp only [pn]) <;> omega) | fail) only [pn, pq]) <;> omega) | fail) only [pn, pq] at c1
    have same : ∀ (b : Int32), (LST W (b.toInt) (x1.toInt) ((y3.toInt + 1))) → (∀ l : Int, 0 ≤ l → l < (b9g_beginning W y3.toNatClampNeg).toInt → l = x1.toInt → ∃ y : Nat, (y : Int) < (b9g_nodeMany W).toInt ∧ (b9g_nodeLevel W y).toInt = l ∧ (b9g_nodeLeaf W y).toInt ≤ y3.toNatClampNeg ∧ (y3.toNatClampNeg : Int) < (b9g_nodeLeaf W y).toInt + (b9g_nodeLeaves W y).toInt) → wp_X9_laysNodes_158 W x1 b y3 Q (fun x1_1 S_1 => ∃ n2 : Nat, n2 < n ∧ K9 S_1 ∧ F_X9_laysNodes S S_1 ∧ 0 ≤ x1_1.toInt ∧ x1_1.toInt ≤ 8 ∧ TR S_1 x1_1.toInt 0 ∧ (b9g_nodeMany S_1).toInt ≤ 64 * x1_1.toInt ∧ (∀ x : Nat, (x : Int) + 1 = (b9g_nodeMany S_1).toInt → (b9g_nodeLevel S_1 x).toInt < x1_1.toInt) ∧ n2 = (8 - x1_1.toInt).toNat) (fun z1 z2 z3 Z => ∃ n2 : Nat, n2 < k ∧ x1 = z1 ∧ K9 Z ∧ F_X9_laysNodes S Z ∧ 0 ≤ z3.toInt ∧ z3.toInt ≤ (b9g_now Z 9).toInt ∧ TR Z x1.toInt z3.toInt ∧ (b9g_nodeMany Z).toInt ≤ 64 * x1.toInt + z3.toInt ∧ (LST Z (z2.toInt) (x1.toInt) (z3.toInt)) ∧ n2 = ((b9g_now Z 9).toInt - z3.toInt).toNat) := by
      intro b hb hnew
      unfold wp_X9_laysNodes_158
      refine ⟨_, ?_, rfl, hKW, hFW, by omega, by omega, ⟨hTW.1, ?_, hTW.2.2⟩, by omega, ?_, rfl⟩
      · omega
      · intro l i q0 q1 q2 q3
        by_cases ei : i = y3.toNatClampNeg ∧ l = x1.toInt
        · obtain ⟨ei1, ei2⟩ := ei
          subst ei1
          exact hnew l q0 q2 ei2
        · exact hTW.2.1 l i q0 q1 q2 (by omega)
      · rw [e31]
        exact hb
    refine ⟨pt_in (by omega) (by omega), fun c2 => ?_, fun c2 => ⟨fun c3 => ?_, fun c3 => ?_⟩⟩
    · simp (disch := first | ((try simp (disch := first | ((try simp only [pn]) <;> omega) | fail) only [pn, pq]) <;> omega) | fail) only [pn, pq] at c2
      refine same y2 ?_ (fun l q0 q1 q2 => by omega)
      rcases hlst with h | ⟨z, z1, z2, z3, z4, z5⟩
      · exact Or.inl h
      · exact Or.inr ⟨z, z1, z2, z3, by omega, z5⟩
    · simp (disch := first | ((try simp (disch := first | ((try simp only [pn]) <;> omega) | fail) only [pn, pq]) <;> omega) | fail) only [pn, pq] at c2 c3
      refine ⟨pt_in (by omega) (by omega), ?_⟩
      intro S4 e4
      have hb4 : b9g_beginning S4 = b9g_beginning W := by rw [e4]
      have hk4 : b9g_keys S4 = b9g_keys W := by rw [e4]
      have hm4 : b9g_nodeMany S4 = b9g_nodeMany W := by rw [e4]
      have hK4 : K9 S4 := by
        rw [e4]
        refine K9s_nodeLevel hKW (fun x hx => ?_)
        have a := hN x hx
        have em := pt_clamp jm.1
        have u1 : upd (b9g_nodeLevel W) (b9g_nodeMany W).toNatClampNeg x1 x = b9g_nodeLevel W x := by unfold upd; rw [if_neg (by omega)]
        rw [u1]
        refine ⟨a.1, fun h2 => ?_⟩
        have u2 : upd (b9g_nodeLevel W) (b9g_nodeMany W).toNatClampNeg x1 (x + 1) = b9g_nodeLevel W (x + 1) := by unfold upd; rw [if_neg (by omega)]
        rw [u2]
        exact a.2 h2
      have em := pt_clamp jm.1
      refine sf_X9_firstLike hK4 (by omega) (by omega) (fun r5 f0 f1 f2 f3 => ?_)
      rw [hb4, hk4] at f2 f3
      rw [hm4]
      refine ⟨pt_in (by omega) (by omega), ?_⟩
      intro S7 e7
      have hb7 : b9g_beginning S7 = b9g_beginning W := by rw [e7, e4]
      have hk7 : b9g_keys S7 = b9g_keys W := by rw [e7, e4]
      have hn7 : b9g_now S7 = b9g_now W := by rw [e7, e4]
      have hm7 : b9g_nodeMany S7 = b9g_nodeMany W := by rw [e7, e4]
      have hL7 : b9g_nodeLevel S7 = upd (b9g_nodeLevel W) (b9g_nodeMany W).toNatClampNeg x1 := by rw [e7, e4]
      have hF7 : b9g_nodeLeaf S7 = upd (b9g_nodeLeaf W) (b9g_nodeMany W).toNatClampNeg r5 := by rw [e7, e4]
      have hlf7 : b9g_nodeLeaf S7 (b9g_nodeMany W).toNatClampNeg = r5 := by rw [hF7]; unfold upd; rw [if_pos rfl]
      have hK7 : K9 S7 := by
        have hN4 := K9g_ND hK4
        rw [hm4] at hN4
        rw [e7]
        refine K9s_nodeLeaf hK4 (fun x hx => ?_)
        rw [hm4] at hx
        have a := hN4 x hx
        have u1 : upd (b9g_nodeLeaf S4) (b9g_nodeMany W).toNatClampNeg r5 x = b9g_nodeLeaf S4 x := by unfold upd; rw [if_neg (by omega)]
        rw [hm4, u1]
        refine ⟨a.1, fun h2 => ?_⟩
        have u2 : upd (b9g_nodeLeaf S4) (b9g_nodeMany W).toNatClampNeg r5 (x + 1) = b9g_nodeLeaf S4 (x + 1) := by unfold upd; rw [if_neg (by omega)]
        rw [u2]
        exact a.2 h2
      rw [hm7, hlf7]
      refine ⟨pt_in (by omega) (by omega), ?_⟩
      refine sf_X9_manyLike hK7 f0 (by rw [hn7]; omega) (by omega) (fun r8 m0 m1 m2 m3 => ?_)
      rw [hb7, hk7] at m2 m3
      rw [hn7] at m1 m3
      refine ⟨pt_in (by omega) (by omega), ?_⟩
      intro S10 e10
      have hb10 : b9g_beginning S10 = b9g_beginning W := by rw [e10, e7, e4]
      have hk10 : b9g_keys S10 = b9g_keys W := by rw [e10, e7, e4]
      have hn10 : b9g_now S10 = b9g_now W := by rw [e10, e7, e4]
      have hm10 : b9g_nodeMany S10 = b9g_nodeMany W := by rw [e10]; exact hm7
      have hL10 : b9g_nodeLevel S10 = upd (b9g_nodeLevel W) (b9g_nodeMany W).toNatClampNeg x1 := by rw [e10]; exact hL7
      have hF10 : b9g_nodeLeaf S10 = upd (b9g_nodeLeaf W) (b9g_nodeMany W).toNatClampNeg r5 := by rw [e10]; exact hF7
      have hS10 : b9g_nodeLeaves S10 = upd (b9g_nodeLeaves W) (b9g_nodeMany W).toNatClampNeg r8 := by rw [e10, e7, e4]
      have hlf10 : b9g_nodeLeaf S10 (b9g_nodeMany W).toNatClampNeg = r5 := by rw [hF10]; unfold upd; rw [if_pos rfl]
      have hls10 : b9g_nodeLeaves S10 (b9g_nodeMany W).toNatClampNeg = r8 := by rw [hS10]; unfold upd; rw [if_pos rfl]
      have hlv10 : b9g_nodeLevel S10 (b9g_nodeMany W).toNatClampNeg = x1 := by rw [hL10]; unfold upd; rw [if_pos rfl]
      have hK10 : K9 S10 := by
        have hN7 := K9g_ND hK7
        rw [hm7] at hN7
        rw [e10]
        refine K9s_nodeLeaves hK7 (fun x hx => ?_)
        rw [hm7] at hx
        have a := hN7 x hx
        have u1 : upd (b9g_nodeLeaves S7) (b9g_nodeMany W).toNatClampNeg r8 x = b9g_nodeLeaves S7 x := by unfold upd; rw [if_neg (by omega)]
        rw [hm7, u1]
        exact ⟨a.1, a.2⟩
      rw [hm10, hlf10, hls10]
      refine ⟨pt_in (by omega) (by omega), pt_in (by omega) (by omega), ?_⟩
      intro v11 e11 S12 e12 S13 e13
      have ev : v11.toInt = r5.toInt + r8.toInt := by rw [e11]; exact pt_add (by omega) (by omega)
      have er5 := pt_clamp f0
      -- the leaf itself is of the node
      have hin : (y3.toNatClampNeg : Int) < r5.toInt + r8.toInt := by
        refine node_new (A := AK (b9g_keys W) x1) (beg := fun j => (b9g_beginning W j).toInt) (L := x1.toInt) (n := (b9g_now W 9).toInt) AK_refl AK_symm AK_trans (by omega) (by show x1.toInt < _; omega) f0 (by omega) ?_ m0 ?_
        · intro j q1 q2
          exact f2 j q1 (by omega)
        · intro e q1 q2 q3
          exact m3 e q1 q2 q3
      have hlink : ∀ x : Nat, (x : Int) + 1 = (b9g_nodeMany W).toInt → 64 * (b9g_nodeLevel W x).toInt + (b9g_nodeLeaf W x).toInt + (b9g_nodeLeaves W x).toInt ≤ 64 * x1.toInt + r5.toInt := by
        intro x hx
        have ax := (hN x (by omega)).1
        rcases hlst with ⟨_, h⟩ | ⟨z, z1, z2, z3, z4, z5⟩
        · have := h x hx
          omega
        · have exz : x = z := by omega
          subst exz
          have elv : b9g_nodeLevel W x = x1 := Int32.toInt_inj.mp z2
          have hap : (b9g_nodeLeaf W x).toInt + (b9g_nodeLeaves W x).toInt ≤ r5.toInt := by
            refine node_apart (A := AK (b9g_keys W) x1) (beg := fun j => (b9g_beginning W j).toInt) (L := x1.toInt) (n := (b9g_now W 9).toInt) (i := y3.toNatClampNeg) AK_symm AK_trans AK_refl (by omega) (by show x1.toInt < _; omega) f0 ?_ ax.2.2.1 ax.2.2.2.2.1 ?_ ?_ (by omega)
            · intro j q1 q2
              exact f2 j q1 (by omega)
            · intro j q1 q2
              have q := ((hTW.1 x (by omega)).1 j q1 q2).2
              rw [elv] at q
              exact q
            · intro e q1 q2 q3
              have q := z5 e (by omega) q2 q3
              rw [elv] at q
              exact q
          omega
      have hold : ∀ x : Nat, (x : Int) < (b9g_nodeMany W).toInt → b9g_nodeLevel S10 x = b9g_nodeLevel W x ∧ b9g_nodeLeaf S10 x = b9g_nodeLeaf W x ∧ b9g_nodeLeaves S10 x = b9g_nodeLeaves W x := by
        intro x hx
        rw [hL10, hF10, hS10]
        unfold upd
        rw [if_neg (by omega), if_neg (by omega), if_neg (by omega)]
        exact ⟨rfl, rfl, rfl⟩
      have em2 : (b9g_nodeMany W + 1).toInt = (b9g_nodeMany W).toInt + 1 := by rw [pt_add (by rw [pl_1]; omega) (by rw [pl_1]; omega), pl_1]
      have hND : ND (b9g_nodeLevel S10) (b9g_nodeLeaf S10) (b9g_nodeLeaves S10) (b9g_nodeMany W + 1) := ND_push hN jm.1 em2 hold (by rw [hlv10]) (by rw [hlf10]) (by rw [hls10]) ⟨by omega, by omega⟩ ⟨by omega, by omega⟩ ⟨by omega, by omega⟩ hlink
      have hK13 : K9 S13 := by
        rw [e13, e12]
        have e11' : (x1 + 1).toInt = x1.toInt + 1 := by rw [pt_add (by rw [pl_1]; omega) (by rw [pl_1]; omega), pl_1]
        exact K9s_levelMany (K9s_nodeMany hK10 ⟨by omega, by omega⟩ hND) ⟨by omega, by omega⟩
      have hF13 : F_X9_laysNodes S S13 := by rw [e13, e12, e10, e7, e4]; exact hFW
      have hm13 : b9g_nodeMany S13 = b9g_nodeMany W + 1 := by rw [e13, e12]
      have hL13 : b9g_nodeLevel S13 = b9g_nodeLevel S10 := by rw [e13, e12]
      have hF13b : b9g_nodeLeaf S13 = b9g_nodeLeaf S10 := by rw [e13, e12]
      have hS13 : b9g_nodeLeaves S13 = b9g_nodeLeaves S10 := by rw [e13, e12]
      have hb13 : b9g_beginning S13 = b9g_beginning W := by rw [e13, e12]; exact hb10
      have hk13 : b9g_keys S13 = b9g_keys W := by rw [e13, e12]; exact hk10
      have hn13 : b9g_now S13 = b9g_now W := by rw [e13, e12]; exact hn10
      have hi13 : b9g_isLaid S13 = b9g_isLaid W := by rw [e13, e12, e10, e7, e4]
      have hc13 : b9g_common S13 = b9g_common W := by rw [e13, e12, e10, e7, e4]
      have hl13 : b9g_lengths S13 = b9g_lengths W := by rw [e13, e12, e10, e7, e4]
      have hT13 : TR S13 x1.toInt (y3.toInt + 1) := by
        have LD13 : LD (b9g_isLaid S13) (b9g_common S13) (b9g_beginning W) (b9g_keys W) (b9g_lengths S13) (b9g_now W 9) := by
          rw [hi13, hc13, hl13]
          exact hTW.2.2.2
        unfold TR
        rw [hm13, hL13, hF13b, hS13, hb13, hk13, hn13]
        refine ⟨NM_push hTW.1 jm.1 em2 hold hlv10 hlf10 hls10 ?_ ?_, NC_push hTW.2.1 jm.1 em2 hold (by rw [hlv10]) rfl ⟨by rw [hlf10]; omega, by rw [hlf10, hls10]; omega⟩, NE_push hTW.2.2.1 jm.1 em2 (fun x hx => (hold x hx).2) (by rw [hlf10, hls10]; exact m1), LD13⟩
        · intro j q1 q2
          exact m2 j q1 q2
        · intro j q1 q2 q3
          refine f3 j q1 q2 ?_
          by_cases ej : j + 1 = y3.toNatClampNeg
          · rw [← ej]; exact q3
          · exact AK_trans q3 (f2 (j + 1) (by omega) (by omega)).2
      unfold wp_X9_laysNodes_158
      refine ⟨_, ?_, rfl, hK13, hF13, by omega, by rw [hn13]; omega, by rw [e31]; exact hT13, by rw [hm13, em2]; omega, ?_, rfl⟩
      · rw [hn13]
        omega
      · refine Or.inr ⟨(b9g_nodeMany W).toNatClampNeg, by rw [hm13, em2]; omega, by rw [hL13, hlv10], by rw [hF13b, hS13, hlf10, hls10]; exact ev, by rw [hF13b, hlf10]; omega, ?_⟩
        rw [hn13, hb13, hk13, hL13, hF13b, hlf10, hlv10]
        intro e q1 q2 q3
        exact m3 e (by omega) q2 q3
    · simp (disch := first | ((try simp (disch := first | ((try simp only [pn]) <;> omega) | fail) only [pn, pq]) <;> omega) | fail) only [pn, pq] at c3
      rcases hlst with ⟨h, _⟩ | ⟨z, z1, z2, z3, z4, z5⟩
      · omega
      · refine same y2 (Or.inr ⟨z, z1, z2, z3, by omega, z5⟩) (fun l q0 q1 q2 => ⟨z, by omega, by omega, by omega, by omega⟩)
