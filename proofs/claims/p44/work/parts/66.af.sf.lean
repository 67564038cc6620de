theorem sf_X9_tapedKey {S : bT9} (hJ : K9 S) {a1 : Int32} {a2 : Int32} {Q : Int64 → Prop} (hp0 : 0 ≤ a1.toInt) (hp1 : 0 ≤ a2.toInt) (hp2 : a1.toInt + a2.toInt ≤ 160) (hq : ∀ r : Int64, (a2.toInt ≤ 8 → r = TKf (b9g_tape S) a1.toNatClampNeg a2.toInt.toNat) → Q r) : wp_X9_tapedKey S a1 a2 Q := by
  have c1 := pt_clamp hp0
  unfold wp_X9_tapedKey wp_X9_tapedKey_5
  refine ⟨fun n x1 x2 x3 x5 => x1 = a1 ∧ x2 = a2 ∧ 0 ≤ x5.toInt ∧ x5.toInt ≤ a2.toInt ∧ (a2.toInt ≤ 8 → x3 = TKf (b9g_tape S) a1.toNatClampNeg x5.toInt.toNat) ∧ n = (a2.toInt - x5.toInt).toNat, ⟨_, rfl, rfl, by decide, hp1, fun _ => by rw [z0]; rfl, rfl⟩, ?_⟩
  rintro n x1 x2 x3 x5 ⟨e1, e2, h0, h2, hk, hn⟩
  unfold wp_X9_tapedKey_5b
  rw [e1, e2]
  refine ⟨fun c => ?_, fun c => ?_⟩
  · simp only [pn] at c
    refine hq _ (fun h8 => ?_)
    rw [hk h8, show x5.toInt = a2.toInt by omega]
  simp only [pn] at c
  have ea : (a1 + x5).toInt = a1.toInt + x5.toInt := pt_add (by omega) (by omega)
  have ca := pt_clamp (i := a1 + x5) (by omega)
  have x5' : (x5 + 1).toInt = x5.toInt + 1 := by rw [pt_add (by rw [pl_1]; omega) (by rw [pl_1]; omega), pl_1]
  refine ⟨pt_in (by omega) (by omega), fun v1 ev => ⟨_, ?_, rfl, rfl, by omega, by omega, fun h8 => ?_, rfl⟩⟩
  · omega
  · rw [ev, hk h8, TKf_s h0 (by omega), show (a1 + x5).toNatClampNeg = a1.toNatClampNeg + x5.toInt.toNat by omega]
theorem sf_X9_areKeys {S : bT9} (hJ : K9 S) {a1 : Int32} {Q : Int32 → Prop} (hp0 : 0 ≤ a1.toInt) (hp1 : a1.toInt ≤ 160) (hq : ∀ r : Int32, bf_bool r → ((r.toInt = 1 ∧ ∃ p : Nat, WFP (b9g_tape S) a1.toInt p) ∨ (r.toInt = 0 ∧ ∀ p : Nat, ¬ WFP (b9g_tape S) a1.toInt p)) → Q r) : wp_X9_areKeys S a1 Q := by
  obtain ⟨T, hT⟩ : ∃ T : Nat → Int32, b9g_tape S = T := ⟨_, rfl⟩
  rw [hT] at hq
  unfold wp_X9_areKeys wp_X9_areKeys_2
  refine ⟨fun n x1 x2 => x1 = a1 ∧ (∃ i : Nat, x2.toInt = (POS T i : Int) ∧ x2.toInt ≤ 200 ∧ ∀ q : Nat, q < i → 1 ≤ (T (POS T q)).toInt ∧ (T (POS T q)).toInt ≤ 8 ∧ (POS T q : Int) < a1.toInt) ∧ n = (300 - x2.toInt).toNat, ⟨_, rfl, ⟨0, rfl, by decide, fun q hq => by omega⟩, rfl⟩, ?_⟩
  rintro n x1 x2 ⟨e1, ⟨i, hx, h200, hq8⟩, hn⟩
  have cx := pt_clamp (i := x2) (by omega)
  have ex : x2.toNatClampNeg = POS T i := by omega
  unfold wp_X9_areKeys_2b
  rw [e1, hT, ex]
  refine ⟨fun c => ⟨fun d => ⟨rfl, hq _ rfl (Or.inr ⟨rfl, fun p hp => ?_⟩)⟩, fun d => ⟨rfl, hq _ rfl (Or.inl ⟨rfl, i, ?_, fun q h => ⟨(hq8 q h).1, (hq8 q h).2.1⟩⟩)⟩⟩, fun c => ?_⟩
  · simp only [pn] at c d
    have h1 := hp.1
    by_cases h : p < i
    · have := (hq8 p h).2.2
      omega
    · have := POS_le (T := T) (show i ≤ p by omega)
      omega
  · rw [← hx, d]
  · simp only [pn] at c
    refine ⟨pt_in (by omega) (by omega), sf_X9_isKey hJ (fun r1 hz hr => ⟨fun c3 => ⟨pt_in (by omega) (by omega), ?_⟩, fun c3 => ⟨rfl, hq _ rfl (Or.inr ⟨rfl, fun p hp => ?_⟩)⟩⟩)⟩
    · simp only [pn] at c3
      have l18 : 1 ≤ (T (POS T i)).toInt ∧ (T (POS T i)).toInt ≤ 8 := by omega
      have e3 : (x2 + 1).toInt = x2.toInt + 1 := by rw [pt_add (by rw [pl_1]; omega) (by rw [pl_1]; omega), pl_1]
      have e4 : (x2 + 1 + T (POS T i)).toInt = x2.toInt + 1 + (T (POS T i)).toInt := by rw [pt_add (by omega) (by omega), e3]
      have ps := POS_s T i
      refine ⟨_, ?_, rfl, ⟨i + 1, by omega, by omega, fun q hq2 => ?_⟩, rfl⟩
      · omega
      · by_cases h : q = i
        · rw [h]; exact ⟨l18.1, l18.2, by omega⟩
        · exact hq8 q (by omega)
    · simp only [pn] at c3
      have := hp.2 i (POS_in hp (by omega))
      omega
def F_X9_comingFrom (S u : bT9) : Prop := (b9g_told u) = (b9g_told S) ∧ (b9g_drawn u) = (b9g_drawn S) ∧ (b9g_drawnLength u) = (b9g_drawnLength S) ∧ (b9g_tape u) = (b9g_tape S) ∧ (b9g_taped u) = (b9g_taped S) ∧ (b9g_names u) = (b9g_names S) ∧ (b9g_chosen u) = (b9g_chosen S) ∧ (b9g_common u) = (b9g_common S) ∧ (b9g_beginning u) = (b9g_beginning S) ∧ (b9g_isLaid u) = (b9g_isLaid S) ∧ (b9g_nodeLevel u) = (b9g_nodeLevel S) ∧ (b9g_nodeLeaf u) = (b9g_nodeLeaf S) ∧ (b9g_nodeLeaves u) = (b9g_nodeLeaves S) ∧ (b9g_nodeMany u) = (b9g_nodeMany S) ∧ (b9g_levelMany u) = (b9g_levelMany S) ∧ (b9g_upper u) = (b9g_upper S) ∧ (b9g_upperNodes u) = (b9g_upperNodes S) ∧ (b9g_areNodesLaid u) = (b9g_areNodesLaid S) ∧ (b9g_itemNode u) = (b9g_itemNode S) ∧ (b9g_itemByte u) = (b9g_itemByte S) ∧ (b9g_itemChild u) = (b9g_itemChild S) ∧ (b9g_itemMany u) = (b9g_itemMany S) ∧ (b9g_placeOf u) = (b9g_placeOf S) ∧ (b9g_leafOfPlace u) = (b9g_leafOfPlace S) ∧ (b9g_places u) = (b9g_places S) ∧ (b9g_lowKey u) = (b9g_lowKey S) ∧ (b9g_highKey u) = (b9g_highKey S) ∧ (b9g_lowLength u) = (b9g_lowLength S) ∧ (b9g_highLength u) = (b9g_highLength S) ∧ (b9g_fromKey u) = (b9g_fromKey S) ∧ (b9g_toKey u) = (b9g_toKey S) ∧ (b9g_fromLength u) = (b9g_fromLength S) ∧ (b9g_toLength u) = (b9g_toLength S) ∧ (b9g_ones u) = (b9g_ones S) ∧ (b9g_oneMany u) = (b9g_oneMany S) ∧ (b9g_rowLong u) = (b9g_rowLong S) ∧ (b9g_laidFor u) = (b9g_laidFor S) ∧ (b9g_signs u) = (b9g_signs S) ∧ (b9g_signMany u) = (b9g_signMany S) ∧ (b9g_hasImage u) = (b9g_hasImage S) ∧ (b9g_images u) = (b9g_images S) ∧ (b9g_keyImages u) = (b9g_keyImages S) ∧ (b9g_lengthImages u) = (b9g_lengthImages S)
theorem sf_X9_comingFrom {S : bT9} (hJ : J9 S) {a1 : Int32} {Q : Int32 → (bT9) → Prop} (hp0 : WFQ (b9g_tape S) a1) (hq : ∀ (r : Int32) (u : bT9), (J9 u) → F_X9_comingFrom S u → (SRT (b9g_keys S) (b9g_lengths S) (b9g_now S 8).toInt → ∀ p : Nat, WFP (b9g_tape S) a1.toInt p → CHN (TKY (b9g_tape S)) (TNY (b9g_tape S)) p (b9g_keys S) (b9g_lengths S) (b9g_now S 8).toInt (b9g_keys u) (b9g_lengths u) (b9g_now u 8).toInt r.toInt) → (∀ j : Nat, 64 ≤ j → b9g_keys u j = b9g_keys S j ∧ b9g_lengths u j = b9g_lengths S j) → (∀ i : Nat, i ≠ 8 → b9g_now u i = b9g_now S i) → (b9g_now u 10 = b9g_now S 10) → (b9g_now u 7 = b9g_now S 7) → Q r u) : wp_X9_comingFrom S a1 Q := by
  obtain ⟨hn160, p, hp⟩ := hp0
  obtain ⟨T, hT⟩ : ∃ T : Nat → Int32, b9g_tape S = T := ⟨_, rfl⟩
  rw [hT] at hp hq
  have pos1 : ∀ k : Nat, k ≤ POS T k := by
    intro k
    induction k with
    | zero => exact Nat.zero_le _
    | succ k ih => rw [POS_s]; omega
  unfold wp_X9_comingFrom wp_X9_comingFrom_4
  refine ⟨fun n x1 x2 x3 V => x1 = a1 ∧ J9 V ∧ F_X9_comingFrom S V ∧ (∀ j : Nat, 64 ≤ j → b9g_keys V j = b9g_keys S j ∧ b9g_lengths V j = b9g_lengths S j) ∧ (∀ i : Nat, i ≠ 8 → b9g_now V i = b9g_now S i) ∧ (∃ i : Nat, i ≤ p ∧ x3.toInt = (POS T i : Int) ∧ 0 ≤ x2.toInt ∧ x2.toInt ≤ (i : Int) ∧ (SRT (b9g_keys S) (b9g_lengths S) (b9g_now S 8).toInt → CHN (TKY T) (TNY T) i (b9g_keys S) (b9g_lengths S) (b9g_now S 8).toInt (b9g_keys V) (b9g_lengths V) (b9g_now V 8).toInt x2.toInt)) ∧ n = (300 - x3.toInt).toNat, ⟨_, rfl, hJ, ⟨rfl, rfl, rfl, rfl, rfl, rfl, rfl, rfl, rfl, rfl, rfl, rfl, rfl, rfl, rfl, rfl, rfl, rfl, rfl, rfl, rfl, rfl, rfl, rfl, rfl, rfl, rfl, rfl, rfl, rfl, rfl, rfl, rfl, rfl, rfl, rfl, rfl, rfl, rfl, rfl, rfl, rfl, rfl⟩, fun j hj => ⟨rfl, rfl⟩, fun i hi => rfl, ⟨0, Nat.zero_le _, rfl, by decide, by decide, fun _ => ⟨rfl, fun j hj => ⟨rfl, rfl⟩, rfl⟩⟩, rfl⟩, ?_⟩
  rintro n x1 x2 x3 V ⟨e1, hJV, hFV, h64, h8, ⟨i, hi, hx, w0, w1, hC⟩, hm⟩
  have tV : b9g_tape V = T := (hFV.2.2.2.1).trans hT
  have b1 := POS_le (T := T) hi
  have b2 := hp.1
  have b3 := pos1 i
  unfold wp_X9_comingFrom_4b
  rw [e1, tV]
  refine ⟨fun c => ?_, fun c => ?_⟩
  · simp only [pn] at c
    have hip : i = p := by
      apply Classical.byContradiction
      intro hh
      have := POS_lt (T := T) (show i < p by omega)
      omega
    refine hq _ _ hJV hFV (fun hs q hq2 => ?_) h64 h8 (h8 10 (by decide)) (h8 7 (by decide))
    rw [WFP_one hq2 hp, ← hip]
    exact hC hs
  simp only [pn] at c
  have hip : i < p := POS_in hp (by omega)
  have l := hp.2 i hip
  have b4 := POS_le (T := T) (show i + 1 ≤ p by omega)
  have ps := POS_s T i
  have c1 := pt_clamp (i := x3) (by omega)
  have s7 : x3.toNatClampNeg = POS T i := by omega
  have s3 : (x3 + 1).toInt = x3.toInt + 1 := by rw [pt_add (by rw [pl_1]; omega) (by rw [pl_1]; omega), pl_1]
  have c2 := pt_clamp (i := x3 + 1) (by omega)
  have s8 : (x3 + 1).toNatClampNeg = POS T i + 1 := by omega
  have s4 : (x3 + 1 + T (POS T i)).toInt = (POS T (i + 1) : Int) := by
    rw [pt_add (by omega) (by omega), s3]
    omega
  have x2' : (x2 + 1).toInt = x2.toInt + 1 := by rw [pt_add (by rw [pl_1]; omega) (by rw [pl_1]; omega), pl_1]
  have v3 : vp_in x3 160 := pt_in (by omega) (by omega)
  rw [s7]
  refine ⟨v3, sf_X9_tapedKey hJV.1 (by omega) (by omega) (by omega) (fun r1 k1 => ⟨v3, ?_⟩)⟩
  have q1 : r1 = TKY T i := by
    rw [k1 (by omega), tV, s8]
    rfl
  refine sf_X9_comes hJV (by omega) (by omega) (fun r3 u4 hJ4 hf4 hI hO hN g10 g7 => ?_)
  have hF4 : F_X9_comingFrom S u4 := ⟨(hf4.1).trans (hFV.1), (hf4.2.1).trans (hFV.2.1), (hf4.2.2.1).trans (hFV.2.2.1), (hf4.2.2.2.1).trans (hFV.2.2.2.1), (hf4.2.2.2.2.1).trans (hFV.2.2.2.2.1), (hf4.2.2.2.2.2.1).trans (hFV.2.2.2.2.2.1), (hf4.2.2.2.2.2.2.1).trans (hFV.2.2.2.2.2.2.1), (hf4.2.2.2.2.2.2.2.1).trans (hFV.2.2.2.2.2.2.2.1), (hf4.2.2.2.2.2.2.2.2.1).trans (hFV.2.2.2.2.2.2.2.2.1), (hf4.2.2.2.2.2.2.2.2.2.1).trans (hFV.2.2.2.2.2.2.2.2.2.1), (hf4.2.2.2.2.2.2.2.2.2.2.1).trans (hFV.2.2.2.2.2.2.2.2.2.2.1), (hf4.2.2.2.2.2.2.2.2.2.2.2.1).trans (hFV.2.2.2.2.2.2.2.2.2.2.2.1), (hf4.2.2.2.2.2.2.2.2.2.2.2.2.1).trans (hFV.2.2.2.2.2.2.2.2.2.2.2.2.1), (hf4.2.2.2.2.2.2.2.2.2.2.2.2.2.1).trans (hFV.2.2.2.2.2.2.2.2.2.2.2.2.2.1), (hf4.2.2.2.2.2.2.2.2.2.2.2.2.2.2.1).trans (hFV.2.2.2.2.2.2.2.2.2.2.2.2.2.2.1), (hf4.2.2.2.2.2.2.2.2.2.2.2.2.2.2.2.1).trans (hFV.2.2.2.2.2.2.2.2.2.2.2.2.2.2.2.1), (hf4.2.2.2.2.2.2.2.2.2.2.2.2.2.2.2.2.1).trans (hFV.2.2.2.2.2.2.2.2.2.2.2.2.2.2.2.2.1), (hf4.2.2.2.2.2.2.2.2.2.2.2.2.2.2.2.2.2.1).trans (hFV.2.2.2.2.2.2.2.2.2.2.2.2.2.2.2.2.2.1), (hf4.2.2.2.2.2.2.2.2.2.2.2.2.2.2.2.2.2.2.1).trans (hFV.2.2.2.2.2.2.2.2.2.2.2.2.2.2.2.2.2.2.1), (hf4.2.2.2.2.2.2.2.2.2.2.2.2.2.2.2.2.2.2.2.1).trans (hFV.2.2.2.2.2.2.2.2.2.2.2.2.2.2.2.2.2.2.2.1), (hf4.2.2.2.2.2.2.2.2.2.2.2.2.2.2.2.2.2.2.2.2.1).trans (hFV.2.2.2.2.2.2.2.2.2.2.2.2.2.2.2.2.2.2.2.2.1), (hf4.2.2.2.2.2.2.2.2.2.2.2.2.2.2.2.2.2.2.2.2.2.1).trans (hFV.2.2.2.2.2.2.2.2.2.2.2.2.2.2.2.2.2.2.2.2.2.1), (hf4.2.2.2.2.2.2.2.2.2.2.2.2.2.2.2.2.2.2.2.2.2.2.1).trans (hFV.2.2.2.2.2.2.2.2.2.2.2.2.2.2.2.2.2.2.2.2.2.2.1), (hf4.2.2.2.2.2.2.2.2.2.2.2.2.2.2.2.2.2.2.2.2.2.2.2.1).trans (hFV.2.2.2.2.2.2.2.2.2.2.2.2.2.2.2.2.2.2.2.2.2.2.2.1), (hf4.2.2.2.2.2.2.2.2.2.2.2.2.2.2.2.2.2.2.2.2.2.2.2.2.1).trans (hFV.2.2.2.2.2.2.2.2.2.2.2.2.2.2.2.2.2.2.2.2.2.2.2.2.1), (hf4.2.2.2.2.2.2.2.2.2.2.2.2.2.2.2.2.2.2.2.2.2.2.2.2.2.1).trans (hFV.2.2.2.2.2.2.2.2.2.2.2.2.2.2.2.2.2.2.2.2.2.2.2.2.2.1), (hf4.2.2.2.2.2.2.2.2.2.2.2.2.2.2.2.2.2.2.2.2.2.2.2.2.2.2.1).trans (hFV.2.2.2.2.2.2.2.2.2.2.2.2.2.2.2.2.2.2.2.2.2.2.2.2.2.2.1), (hf4.2.2.2.2.2.2.2.2.2.2.2.2.2.2.2.2.2.2.2.2.2.2.2.2.2.2.2.1).trans (hFV.2.2.2.2.2.2.2.2.2.2.2.2.2.2.2.2.2.2.2.2.2.2.2.2.2.2.2.1), (hf4.2.2.2.2.2.2.2.2.2.2.2.2.2.2.2.2.2.2.2.2.2.2.2.2.2.2.2.2.1).trans (hFV.2.2.2.2.2.2.2.2.2.2.2.2.2.2.2.2.2.2.2.2.2.2.2.2.2.2.2.2.1), (hf4.2.2.2.2.2.2.2.2.2.2.2.2.2.2.2.2.2.2.2.2.2.2.2.2.2.2.2.2.2.1).trans (hFV.2.2.2.2.2.2.2.2.2.2.2.2.2.2.2.2.2.2.2.2.2.2.2.2.2.2.2.2.2.1), (hf4.2.2.2.2.2.2.2.2.2.2.2.2.2.2.2.2.2.2.2.2.2.2.2.2.2.2.2.2.2.2.1).trans (hFV.2.2.2.2.2.2.2.2.2.2.2.2.2.2.2.2.2.2.2.2.2.2.2.2.2.2.2.2.2.2.1), (hf4.2.2.2.2.2.2.2.2.2.2.2.2.2.2.2.2.2.2.2.2.2.2.2.2.2.2.2.2.2.2.2.1).trans (hFV.2.2.2.2.2.2.2.2.2.2.2.2.2.2.2.2.2.2.2.2.2.2.2.2.2.2.2.2.2.2.2.1), (hf4.2.2.2.2.2.2.2.2.2.2.2.2.2.2.2.2.2.2.2.2.2.2.2.2.2.2.2.2.2.2.2.2.1).trans (hFV.2.2.2.2.2.2.2.2.2.2.2.2.2.2.2.2.2.2.2.2.2.2.2.2.2.2.2.2.2.2.2.2.1), (hf4.2.2.2.2.2.2.2.2.2.2.2.2.2.2.2.2.2.2.2.2.2.2.2.2.2.2.2.2.2.2.2.2.2.1).trans (hFV.2.2.2.2.2.2.2.2.2.2.2.2.2.2.2.2.2.2.2.2.2.2.2.2.2.2.2.2.2.2.2.2.2.1), (hf4.2.2.2.2.2.2.2.2.2.2.2.2.2.2.2.2.2.2.2.2.2.2.2.2.2.2.2.2.2.2.2.2.2.2.1).trans (hFV.2.2.2.2.2.2.2.2.2.2.2.2.2.2.2.2.2.2.2.2.2.2.2.2.2.2.2.2.2.2.2.2.2.2.1), (hf4.2.2.2.2.2.2.2.2.2.2.2.2.2.2.2.2.2.2.2.2.2.2.2.2.2.2.2.2.2.2.2.2.2.2.2.1).trans (hFV.2.2.2.2.2.2.2.2.2.2.2.2.2.2.2.2.2.2.2.2.2.2.2.2.2.2.2.2.2.2.2.2.2.2.2.1), (hf4.2.2.2.2.2.2.2.2.2.2.2.2.2.2.2.2.2.2.2.2.2.2.2.2.2.2.2.2.2.2.2.2.2.2.2.2.1).trans (hFV.2.2.2.2.2.2.2.2.2.2.2.2.2.2.2.2.2.2.2.2.2.2.2.2.2.2.2.2.2.2.2.2.2.2.2.2.1), (hf4.2.2.2.2.2.2.2.2.2.2.2.2.2.2.2.2.2.2.2.2.2.2.2.2.2.2.2.2.2.2.2.2.2.2.2.2.2.1).trans (hFV.2.2.2.2.2.2.2.2.2.2.2.2.2.2.2.2.2.2.2.2.2.2.2.2.2.2.2.2.2.2.2.2.2.2.2.2.2.1), (hf4.2.2.2.2.2.2.2.2.2.2.2.2.2.2.2.2.2.2.2.2.2.2.2.2.2.2.2.2.2.2.2.2.2.2.2.2.2.2.1).trans (hFV.2.2.2.2.2.2.2.2.2.2.2.2.2.2.2.2.2.2.2.2.2.2.2.2.2.2.2.2.2.2.2.2.2.2.2.2.2.2.1), (hf4.2.2.2.2.2.2.2.2.2.2.2.2.2.2.2.2.2.2.2.2.2.2.2.2.2.2.2.2.2.2.2.2.2.2.2.2.2.2.2.1).trans (hFV.2.2.2.2.2.2.2.2.2.2.2.2.2.2.2.2.2.2.2.2.2.2.2.2.2.2.2.2.2.2.2.2.2.2.2.2.2.2.2.1), (hf4.2.2.2.2.2.2.2.2.2.2.2.2.2.2.2.2.2.2.2.2.2.2.2.2.2.2.2.2.2.2.2.2.2.2.2.2.2.2.2.2.1).trans (hFV.2.2.2.2.2.2.2.2.2.2.2.2.2.2.2.2.2.2.2.2.2.2.2.2.2.2.2.2.2.2.2.2.2.2.2.2.2.2.2.2.1), (hf4.2.2.2.2.2.2.2.2.2.2.2.2.2.2.2.2.2.2.2.2.2.2.2.2.2.2.2.2.2.2.2.2.2.2.2.2.2.2.2.2.2.1).trans (hFV.2.2.2.2.2.2.2.2.2.2.2.2.2.2.2.2.2.2.2.2.2.2.2.2.2.2.2.2.2.2.2.2.2.2.2.2.2.2.2.2.2.1), (hf4.2.2.2.2.2.2.2.2.2.2.2.2.2.2.2.2.2.2.2.2.2.2.2.2.2.2.2.2.2.2.2.2.2.2.2.2.2.2.2.2.2.2).trans (hFV.2.2.2.2.2.2.2.2.2.2.2.2.2.2.2.2.2.2.2.2.2.2.2.2.2.2.2.2.2.2.2.2.2.2.2.2.2.2.2.2.2.2)⟩
  have next : ∀ y2 : Int32, y2.toInt = x2.toInt + (if r3.toInt = -1 then 0 else 1) → wp_X9_comingFrom_40 u4 a1 y2 x3 Q (fun x1 x2 x3 V => ∃ n2 : Nat, n2 < n ∧ x1 = a1 ∧ J9 V ∧ F_X9_comingFrom S V ∧ (∀ j : Nat, 64 ≤ j → b9g_keys V j = b9g_keys S j ∧ b9g_lengths V j = b9g_lengths S j) ∧ (∀ i : Nat, i ≠ 8 → b9g_now V i = b9g_now S i) ∧ (∃ i : Nat, i ≤ p ∧ x3.toInt = (POS T i : Int) ∧ 0 ≤ x2.toInt ∧ x2.toInt ≤ (i : Int) ∧ (SRT (b9g_keys S) (b9g_lengths S) (b9g_now S 8).toInt → CHN (TKY T) (TNY T) i (b9g_keys S) (b9g_lengths S) (b9g_now S 8).toInt (b9g_keys V) (b9g_lengths V) (b9g_now V 8).toInt x2.toInt)) ∧ n2 = (300 - x3.toInt).toNat) := by
    intro y2 hy
    have t4 : b9g_tape u4 = T := (hF4.2.2.2.1).trans hT
    unfold wp_X9_comingFrom_40
    rw [t4, s7]
    refine ⟨v3, _, ?_, rfl, hJ4, hF4, fun j hj => ?_, fun k hk => (hN k hk).trans (h8 k hk), ⟨i + 1, by omega, s4, by split at hy <;> omega, by split at hy <;> omega, fun hs => ?_⟩, rfl⟩
    · omega
    · exact ⟨(hO j hj).1.trans (h64 j hj).1, (hO j hj).2.trans (h64 j hj).2⟩
    · have hsV := CHN_srt hs i (fun q hq2 => hp.2 q (by omega)) (hC hs)
      have ins := hI hsV
      rw [q1] at ins
      exact ⟨_, _, _, r3.toInt, x2.toInt, hC hs, ins, hy⟩
  refine ⟨fun g => next x2 ?_, fun g => next (x2 + 1) ?_⟩
  · rw [if_pos (by rw [g]; rfl)]
    omega
  · rw [if_neg (fun h => g (Int32.toInt_inj.mp (h.trans pl_m1.symm)))]
    exact x2'
theorem sf_X9_newMany {S : bT9} (hJ : K9 S) {a1 : Int32} {Q : Int32 → Prop} (hp0 : WFQ (b9g_tape S) a1) (hq : ∀ r : Int32, (0 ≤ r.toInt) → (r.toInt ≤ 160) → (SRT (b9g_keys S) (b9g_lengths S) (b9g_now S 8).toInt → ∀ p : Nat, WFP (b9g_tape S) a1.toInt p → r.toInt = NWC (b9g_keys S) (b9g_lengths S) (b9g_now S 8).toInt (TKY (b9g_tape S)) (TNY (b9g_tape S)) p) → Q r) : wp_X9_newMany S a1 Q := by
  obtain ⟨hn160, p, hp⟩ := hp0
  have jn := (K9g_now hJ).2.2.1
  have c8 : ((8 : Int32)).toNatClampNeg = 8 := by decide
  obtain ⟨T, hT⟩ : ∃ T : Nat → Int32, b9g_tape S = T := ⟨_, rfl⟩
  rw [hT] at hp hq
  have p160 : ∀ i : Nat, i ≤ p → (POS T i : Int) ≤ a1.toInt ∧ (i : Int) ≤ (POS T i : Int) := by
    intro i hi
    have a := POS_le (T := T) hi
    have b := hp.1
    have c : ∀ k : Nat, k ≤ POS T k := by
      intro k
      induction k with
      | zero => exact Nat.zero_le _
      | succ k ih => rw [POS_s]; omega
    have := c i
    omega
  have pstep : ∀ (x : Int32) (i : Nat), x.toInt = (POS T i : Int) → i < p → 1 ≤ (T (POS T i)).toInt ∧ (T (POS T i)).toInt ≤ 8 ∧ (x + 1).toInt = x.toInt + 1 ∧ (x + 1 + T (POS T i)).toInt = (POS T (i + 1) : Int) ∧ (POS T (i + 1) : Int) = (POS T i : Int) + 1 + (T (POS T i)).toInt ∧ (POS T (i + 1) : Int) ≤ a1.toInt ∧ x.toNatClampNeg = POS T i ∧ (x + 1).toNatClampNeg = POS T i + 1 := by
    intro x i hx hi
    have l := hp.2 i hi
    have b := p160 i (by omega)
    have b2 := p160 (i + 1) (by omega)
    have ps := POS_s T i
    have e1 : (x + 1).toInt = x.toInt + 1 := by rw [pt_add (by rw [pl_1]; omega) (by rw [pl_1]; omega), pl_1]
    have e2 : (x + 1 + T (POS T i)).toInt = x.toInt + 1 + (T (POS T i)).toInt := by rw [pt_add (by omega) (by omega), e1]
    have c1 := pt_clamp (i := x) (by omega)
    have c2 := pt_clamp (i := x + 1) (by omega)
    refine ⟨l.1, l.2, e1, by omega, by omega, b2.1, by omega, by omega⟩
  unfold wp_X9_newMany wp_X9_newMany_4
  refine ⟨fun n x1 x2 x3 => x1 = a1 ∧ (∃ i : Nat, i ≤ p ∧ x3.toInt = (POS T i : Int) ∧ 0 ≤ x2.toInt ∧ x2.toInt ≤ (i : Int) ∧ (SRT (b9g_keys S) (b9g_lengths S) (b9g_now S 8).toInt → x2.toInt = NWC (b9g_keys S) (b9g_lengths S) (b9g_now S 8).toInt (TKY T) (TNY T) i)) ∧ n = (300 - x3.toInt).toNat, ⟨_, rfl, ⟨0, Nat.zero_le _, rfl, by decide, by decide, fun _ => rfl⟩, rfl⟩, ?_⟩
  rintro n x1 x2 x3 ⟨e1, ⟨i, hi, hx, w0, w1, hw⟩, hm⟩
  unfold wp_X9_newMany_4b
  have bi := p160 i hi
  rw [e1, hT, c8]
  refine ⟨fun c => ?_, fun c => ?_⟩
  · simp only [pn] at c
    have hip : i = p := by
      apply Classical.byContradiction
      intro hh
      have := POS_lt (T := T) (show i < p by omega)
      have := hp.1
      omega
    refine hq _ (by omega) (by omega) (fun hs q hq2 => ?_)
    rw [WFP_one hq2 hp, ← hip]
    exact hw hs
  simp only [pn] at c
  have hip : i < p := POS_in hp (by omega)
  obtain ⟨s1, s2, s3, s4, s5, s6, s7, s8⟩ := pstep x3 i hx hip
  have x2' : (x2 + 1).toInt = x2.toInt + 1 := by rw [pt_add (by rw [pl_1]; omega) (by rw [pl_1]; omega), pl_1]
  rw [s7]
  have rest : ∀ t0 : Int32, (SRT (b9g_keys S) (b9g_lengths S) (b9g_now S 8).toInt → (t0 = 0 ↔ ∃ j : Nat, (j : Int) < (b9g_now S 8).toInt ∧ b9g_keys S j = TKY T i ∧ b9g_lengths S j = TNY T i)) → wp_X9_newMany_49 S a1 x2 x3 t0 Q (fun x1 x2 x3 => ∃ n2 : Nat, n2 < n ∧ x1 = a1 ∧ (∃ i : Nat, i ≤ p ∧ x3.toInt = (POS T i : Int) ∧ 0 ≤ x2.toInt ∧ x2.toInt ≤ (i : Int) ∧ (SRT (b9g_keys S) (b9g_lengths S) (b9g_now S 8).toInt → x2.toInt = NWC (b9g_keys S) (b9g_lengths S) (b9g_now S 8).toInt (TKY T) (TNY T) i)) ∧ n2 = (300 - x3.toInt).toNat) := by
    intro t0 ht
    unfold wp_X9_newMany_49 wp_X9_newMany_54
    have fin : ∀ y2 : Int32, 0 ≤ y2.toInt → y2.toInt ≤ (i : Int) + 1 → (SRT (b9g_keys S) (b9g_lengths S) (b9g_now S 8).toInt → y2.toInt = NWC (b9g_keys S) (b9g_lengths S) (b9g_now S 8).toInt (TKY T) (TNY T) (i + 1)) → wp_X9_newMany_146 S a1 y2 x3 Q (fun x1 x2 x3 => ∃ n2 : Nat, n2 < n ∧ x1 = a1 ∧ (∃ i : Nat, i ≤ p ∧ x3.toInt = (POS T i : Int) ∧ 0 ≤ x2.toInt ∧ x2.toInt ≤ (i : Int) ∧ (SRT (b9g_keys S) (b9g_lengths S) (b9g_now S 8).toInt → x2.toInt = NWC (b9g_keys S) (b9g_lengths S) (b9g_now S 8).toInt (TKY T) (TNY T) i)) ∧ n2 = (300 - x3.toInt).toNat) := by
      intro y2 g0 g1 g2
      unfold wp_X9_newMany_146
      rw [hT, s7]
      refine ⟨pt_in (by omega) (by omega), _, ?_, rfl, ⟨i + 1, by omega, s4, g0, by omega, g2⟩, rfl⟩
      omega
    refine ⟨fun k y1 y2 y3 y4 y5 => y1 = a1 ∧ y2 = x2 ∧ y3 = x3 ∧ (∃ q : Nat, q ≤ i ∧ y5.toInt = (POS T q : Int) ∧ (SRT (b9g_keys S) (b9g_lengths S) (b9g_now S 8).toInt → (y4 = 0 ↔ OLD (b9g_keys S) (b9g_lengths S) (b9g_now S 8).toInt (TKY T) (TNY T) q (TKY T i) (TNY T i)))) ∧ k = (300 - y5.toInt).toNat, ⟨_, rfl, rfl, rfl, ⟨0, Nat.zero_le _, rfl, fun hs => ?_⟩, rfl⟩, ?_⟩
    · rw [ht hs]
      refine ⟨fun h => Or.inl h, fun h => ?_⟩
      rcases h with h | ⟨q, hq2, _⟩
      · exact h
      · omega
    rintro k y1 y2 y3 y4 y5 ⟨f1, f2, f3, ⟨q, hqi, hy, ho⟩, gm⟩
    unfold wp_X9_newMany_54b
    rw [f1, f2, f3]
    have bq := p160 q (by omega)
    refine ⟨fun c2 => ?_, fun c2 => ?_⟩
    · simp only [pn] at c2
      have hqe : q = i := by
        apply Classical.byContradiction
        intro hh
        have := POS_lt (T := T) (show q < i by omega)
        omega
      rw [hqe] at ho
      refine ⟨fun g => fin x2 w0 (by omega) (fun hs => ?_), fun g => fin (x2 + 1) (by omega) (by omega) (fun hs => ?_)⟩
      · rw [NWC_o ((ho hs).mp g)]
        exact hw hs
      · rw [NWC_n (fun h => g ((ho hs).mpr h)), x2', hw hs]
    simp only [pn] at c2
    have hq3 : q < i := by
      apply Classical.byContradiction
      intro hh
      have := POS_le (T := T) (show i ≤ q by omega)
      omega
    obtain ⟨u1, u2, u3, u4, u5, u6, u7, u8⟩ := pstep y5 q hy (by omega)
    have old : OLD (b9g_keys S) (b9g_lengths S) (b9g_now S 8).toInt (TKY T) (TNY T) (q + 1) (TKY T i) (TNY T i) ↔ OLD (b9g_keys S) (b9g_lengths S) (b9g_now S 8).toInt (TKY T) (TNY T) q (TKY T i) (TNY T i) ∨ (TKY T q = TKY T i ∧ TNY T q = TNY T i) := by
      unfold OLD
      refine ⟨fun h => ?_, fun h => ?_⟩
      · rcases h with h | ⟨z, hz, x⟩
        · exact Or.inl (Or.inl h)
        · by_cases e : z = q
          · rw [e] at x; exact Or.inr x
          · exact Or.inl (Or.inr ⟨z, by omega, x⟩)
      · rcases h with (h | ⟨z, hz, x⟩) | h
        · exact Or.inl h
        · exact Or.inr ⟨z, by omega, x⟩
        · exact Or.inr ⟨q, by omega, h⟩
    have next : ∀ t : Int32, (SRT (b9g_keys S) (b9g_lengths S) (b9g_now S 8).toInt → (t = 0 ↔ OLD (b9g_keys S) (b9g_lengths S) (b9g_now S 8).toInt (TKY T) (TNY T) (q + 1) (TKY T i) (TNY T i))) → wp_X9_newMany_118 S a1 x2 x3 y5 t Q (fun x1 x2 x3 => ∃ n2 : Nat, n2 < n ∧ x1 = a1 ∧ (∃ i : Nat, i ≤ p ∧ x3.toInt = (POS T i : Int) ∧ 0 ≤ x2.toInt ∧ x2.toInt ≤ (i : Int) ∧ (SRT (b9g_keys S) (b9g_lengths S) (b9g_now S 8).toInt → x2.toInt = NWC (b9g_keys S) (b9g_lengths S) (b9g_now S 8).toInt (TKY T) (TNY T) i)) ∧ n2 = (300 - x3.toInt).toNat) (fun y1 y2 y3 y4 y5 => ∃ n2 : Nat, n2 < k ∧ y1 = a1 ∧ y2 = x2 ∧ y3 = x3 ∧ (∃ q : Nat, q ≤ i ∧ y5.toInt = (POS T q : Int) ∧ (SRT (b9g_keys S) (b9g_lengths S) (b9g_now S 8).toInt → (y4 = 0 ↔ OLD (b9g_keys S) (b9g_lengths S) (b9g_now S 8).toInt (TKY T) (TNY T) q (TKY T i) (TNY T i)))) ∧ n2 = (300 - y5.toInt).toNat) := by
      intro t g
      unfold wp_X9_newMany_118
      rw [hT, u7]
      refine ⟨pt_in (by omega) (by omega), _, ?_, rfl, rfl, rfl, ⟨q + 1, by omega, u4, g⟩, rfl⟩
      omega
    have v5 : vp_in y5 160 := pt_in (by omega) (by omega)
    have v3 : vp_in x3 160 := pt_in (by omega) (by omega)
    rw [hT, u7, s7]
    refine ⟨fun g => ?_, fun g => ⟨v5, v3, fun g2 => ?_, fun g2 => ⟨v5, ?_⟩⟩⟩
    · unfold wp_X9_newMany_117
      refine next _ (fun hs => ?_)
      rw [old]
      exact ⟨fun _ => Or.inl ((ho hs).mp g), fun _ => rfl⟩
    · unfold wp_X9_newMany_113
      refine next _ (fun hs => ?_)
      rw [old]
      refine ⟨fun h => absurd h (by decide), fun h => ?_⟩
      rcases h with h | h
      · exact absurd ((ho hs).mpr h) g
      · exact absurd h.2 g2
    · refine sf_X9_tapedKey hJ (by omega) (by omega) (by omega) (fun r1 k1 => ⟨v3, sf_X9_tapedKey hJ (by omega) (by omega) (by omega) (fun r3 k3 => ?_)⟩)
      have q1 : r1 = TKY T q := by
        rw [k1 (by omega), hT, u8]
        rfl
      have q3 : r3 = TKY T i := by
        rw [k3 (by omega), hT, s8]
        rfl
      refine ⟨fun h => ?_, fun h => ?_⟩
      · unfold wp_X9_newMany_117
        refine next _ (fun hs => ?_)
        rw [old]
        exact ⟨fun _ => Or.inr ⟨by rw [← q1, ← q3]; exact (lg_cmp_eq _ _).mp h, g2⟩, fun _ => rfl⟩
      · unfold wp_X9_newMany_113
        refine next _ (fun hs => ?_)
        rw [old]
        refine ⟨fun h2 => absurd h2 (by decide), fun h2 => ?_⟩
        rcases h2 with h2 | h2
        · exact absurd ((ho hs).mpr h2) g
        · exact absurd ((lg_cmp_eq _ _).mpr (by rw [q1, q3]; exact h2.1)) h
  have v3 : vp_in x3 160 := pt_in (by omega) (by omega)
  refine ⟨pt_in (by decide) (by decide), v3, ?_⟩
  refine sf_X9_tapedKey hJ (by omega) (by omega) (by omega) (fun r5 k5 => ⟨v3, ?_⟩)
  have q5 : r5 = TKY T i := by
    rw [k5 (by omega), hT, s8]
    rfl
  refine sf_X9_find hJ (by decide) jn.1 (by rw [pl_0]; omega) (fun r7 h7 hN => ?_)
  rw [sh0, sh0', q5] at hN
  refine ⟨fun g => rest _ (fun hs => ?_), fun g => rest _ (fun hs => ?_)⟩
  · refine ⟨fun _ => ?_, fun _ => rfl⟩
    rcases hN hs with ⟨a, b, e⟩ | ⟨a, b⟩
    · exact ⟨r7.toInt.toNat, by omega, e _ (by omega)⟩
    · exact absurd (Int32.toInt_inj.mp (a.trans pl_m1.symm)) g
  · refine ⟨fun h => absurd h (by decide), fun ⟨j, x, y, z⟩ => ?_⟩
    rcases hN hs with ⟨a, b, e⟩ | ⟨a, b⟩
    · rw [g, pl_m1] at a
      omega
    · exact absurd ⟨y, z⟩ (b j x)
def F_X9_keys (S u : bT9) : Prop := (b9g_drawn u) = (b9g_drawn S) ∧ (b9g_drawnLength u) = (b9g_drawnLength S) ∧ (b9g_tape u) = (b9g_tape S) ∧ (b9g_names u) = (b9g_names S) ∧ (b9g_chosen u) = (b9g_chosen S) ∧ (b9g_common u) = (b9g_common S) ∧ (b9g_beginning u) = (b9g_beginning S) ∧ (b9g_isLaid u) = (b9g_isLaid S) ∧ (b9g_nodeLevel u) = (b9g_nodeLevel S) ∧ (b9g_nodeLeaf u) = (b9g_nodeLeaf S) ∧ (b9g_nodeLeaves u) = (b9g_nodeLeaves S) ∧ (b9g_nodeMany u) = (b9g_nodeMany S) ∧ (b9g_levelMany u) = (b9g_levelMany S) ∧ (b9g_upper u) = (b9g_upper S) ∧ (b9g_upperNodes u) = (b9g_upperNodes S) ∧ (b9g_areNodesLaid u) = (b9g_areNodesLaid S) ∧ (b9g_itemNode u) = (b9g_itemNode S) ∧ (b9g_itemByte u) = (b9g_itemByte S) ∧ (b9g_itemChild u) = (b9g_itemChild S) ∧ (b9g_itemMany u) = (b9g_itemMany S) ∧ (b9g_placeOf u) = (b9g_placeOf S) ∧ (b9g_leafOfPlace u) = (b9g_leafOfPlace S) ∧ (b9g_places u) = (b9g_places S) ∧ (b9g_lowKey u) = (b9g_lowKey S) ∧ (b9g_highKey u) = (b9g_highKey S) ∧ (b9g_lowLength u) = (b9g_lowLength S) ∧ (b9g_highLength u) = (b9g_highLength S) ∧ (b9g_fromKey u) = (b9g_fromKey S) ∧ (b9g_toKey u) = (b9g_toKey S) ∧ (b9g_fromLength u) = (b9g_fromLength S) ∧ (b9g_toLength u) = (b9g_toLength S) ∧ (b9g_ones u) = (b9g_ones S) ∧ (b9g_oneMany u) = (b9g_oneMany S) ∧ (b9g_rowLong u) = (b9g_rowLong S) ∧ (b9g_laidFor u) = (b9g_laidFor S) ∧ (b9g_signs u) = (b9g_signs S) ∧ (b9g_signMany u) = (b9g_signMany S) ∧ (b9g_hasImage u) = (b9g_hasImage S) ∧ (b9g_images u) = (b9g_images S) ∧ (b9g_keyImages u) = (b9g_keyImages S) ∧ (b9g_lengthImages u) = (b9g_lengthImages S)
theorem sf_X9_keys {S : bT9} (hJ : J9 S) {Q : Int32 → (bT9) → Prop} (hq : ∀ (r : Int32) (u : bT9), (J9 u) → F_X9_keys S u → ((b9g_taped u).toInt = 0) → (SRT (b9g_keys S) (b9g_lengths S) (b9g_now S 8).toInt → (∃ p : Nat, WFP (b9g_tape S) (b9g_taped S).toInt p ∧ (b9g_now S 8).toInt + NWC (b9g_keys S) (b9g_lengths S) (b9g_now S 8).toInt (TKY (b9g_tape S)) (TNY (b9g_tape S)) p ≤ 64 ∧ CHN (TKY (b9g_tape S)) (TNY (b9g_tape S)) p (b9g_keys S) (b9g_lengths S) (b9g_now S 8).toInt (b9g_keys u) (b9g_lengths u) (b9g_now u 8).toInt r.toInt) ∨ (r.toInt = -1 ∧ (∀ p : Nat, WFP (b9g_tape S) (b9g_taped S).toInt p → 64 < (b9g_now S 8).toInt + NWC (b9g_keys S) (b9g_lengths S) (b9g_now S 8).toInt (TKY (b9g_tape S)) (TNY (b9g_tape S)) p) ∧ b9g_keys u = b9g_keys S ∧ b9g_lengths u = b9g_lengths S ∧ b9g_now u = b9g_now S)) → (∀ j : Nat, 64 ≤ j → b9g_keys u j = b9g_keys S j ∧ b9g_lengths u j = b9g_lengths S j) → (∀ i : Nat, i ≠ 8 → b9g_now u i = b9g_now S i) → (b9g_now u 10 = b9g_now S 10) → (b9g_now u 7 = b9g_now S 7) → Q r u) : wp_X9_keys S Q := by
  have jt := J9g_taped hJ
  have jn := (J9g_now hJ).2.2.1
  have c8 : ((8 : Int32)).toNatClampNeg = 8 := by decide
  unfold wp_X9_keys
  intro S1 e1 S2 e2
  have hJ1 : J9 S1 := by rw [e1]; exact J9s_told hJ
  have et : b9g_taped S1 = b9g_taped S := by rw [e1]
  have hJ2 : J9 S2 := by rw [e2]; exact J9s_taped hJ1 ⟨by decide, by decide⟩
  have hF2 : F_X9_keys S S2 := by rw [e2, e1]; exact ⟨rfl, rfl, rfl, rfl, rfl, rfl, rfl, rfl, rfl, rfl, rfl, rfl, rfl, rfl, rfl, rfl, rfl, rfl, rfl, rfl, rfl, rfl, rfl, rfl, rfl, rfl, rfl, rfl, rfl, rfl, rfl, rfl, rfl, rfl, rfl, rfl, rfl, rfl, rfl, rfl, rfl⟩
  have t2 : (b9g_taped S2).toInt = 0 := by rw [e2]; first | done | rfl
  have en : b9g_now S2 = b9g_now S := by rw [e2, e1]
  have ek : b9g_keys S2 = b9g_keys S := by rw [e2, e1]
  have el : b9g_lengths S2 = b9g_lengths S := by rw [e2, e1]
  have ep : b9g_tape S2 = b9g_tape S := by rw [e2, e1]
  rw [et]
  have bad : (SRT (b9g_keys S) (b9g_lengths S) (b9g_now S 8).toInt → ∀ p : Nat, WFP (b9g_tape S) (b9g_taped S).toInt p → 64 < (b9g_now S 8).toInt + NWC (b9g_keys S) (b9g_lengths S) (b9g_now S 8).toInt (TKY (b9g_tape S)) (TNY (b9g_tape S)) p) → Q (-1) S2 := by
    intro h
    exact hq _ _ hJ2 hF2 t2 (fun hs => Or.inr ⟨rfl, h hs, ek, el, en⟩) (fun j hj => ⟨by rw [ek], by rw [el]⟩) (fun i hi => by rw [en]) (by rw [en]) (by rw [en])
  refine sf_X9_areKeys hJ2.1 jt.1 jt.2 (fun r3 hz hr => ⟨fun c => ?_, fun c => ?_⟩)
  · refine bad (fun _ p hp => ?_)
    rw [ep] at hr
    rcases hr with hr | hr
    · rw [c] at hr
      exact absurd hr.1 (by decide)
    · exact absurd hp (hr.2 p)
  rw [ep] at hr
  have hW : ∃ p : Nat, WFP (b9g_tape S) (b9g_taped S).toInt p := by
    rcases hr with hr | hr
    · exact hr.2
    · exact absurd (Int32.toInt_inj.mp hr.1) c
  have hQ : WFQ (b9g_tape S2) (b9g_taped S) := by rw [ep]; exact ⟨jt.2, hW⟩
  refine ⟨pt_in (by decide) (by decide), sf_X9_newMany hJ2.1 hQ (fun r5 g0 g1 hN => ?_)⟩
  rw [c8, en]
  rw [ek, el, en, ep] at hN
  have ea : (b9g_now S 8 + r5).toInt = (b9g_now S 8).toInt + r5.toInt := pt_add (by omega) (by omega)
  obtain ⟨p, hp⟩ := hW
  refine ⟨fun d => ?_, fun d => bad (fun hs q hq2 => ?_)⟩
  · simp only [pn, ea] at d
    refine sf_X9_comingFrom hJ2 hQ (fun r7 u8 hJu hf hC hO h8 h10 h7 => ?_)
    rw [ek, el, en, ep] at hC
    rw [ek, el] at hO
    rw [en] at h8 h10 h7
    refine hq _ _ hJu ⟨(hf.2.1).trans (hF2.1), (hf.2.2.1).trans (hF2.2.1), (hf.2.2.2.1).trans (hF2.2.2.1), (hf.2.2.2.2.2.1).trans (hF2.2.2.2.1), (hf.2.2.2.2.2.2.1).trans (hF2.2.2.2.2.1), (hf.2.2.2.2.2.2.2.1).trans (hF2.2.2.2.2.2.1), (hf.2.2.2.2.2.2.2.2.1).trans (hF2.2.2.2.2.2.2.1), (hf.2.2.2.2.2.2.2.2.2.1).trans (hF2.2.2.2.2.2.2.2.1), (hf.2.2.2.2.2.2.2.2.2.2.1).trans (hF2.2.2.2.2.2.2.2.2.1), (hf.2.2.2.2.2.2.2.2.2.2.2.1).trans (hF2.2.2.2.2.2.2.2.2.2.1), (hf.2.2.2.2.2.2.2.2.2.2.2.2.1).trans (hF2.2.2.2.2.2.2.2.2.2.2.1), (hf.2.2.2.2.2.2.2.2.2.2.2.2.2.1).trans (hF2.2.2.2.2.2.2.2.2.2.2.2.1), (hf.2.2.2.2.2.2.2.2.2.2.2.2.2.2.1).trans (hF2.2.2.2.2.2.2.2.2.2.2.2.2.1), (hf.2.2.2.2.2.2.2.2.2.2.2.2.2.2.2.1).trans (hF2.2.2.2.2.2.2.2.2.2.2.2.2.2.1), (hf.2.2.2.2.2.2.2.2.2.2.2.2.2.2.2.2.1).trans (hF2.2.2.2.2.2.2.2.2.2.2.2.2.2.2.1), (hf.2.2.2.2.2.2.2.2.2.2.2.2.2.2.2.2.2.1).trans (hF2.2.2.2.2.2.2.2.2.2.2.2.2.2.2.2.1), (hf.2.2.2.2.2.2.2.2.2.2.2.2.2.2.2.2.2.2.1).trans (hF2.2.2.2.2.2.2.2.2.2.2.2.2.2.2.2.2.1), (hf.2.2.2.2.2.2.2.2.2.2.2.2.2.2.2.2.2.2.2.1).trans (hF2.2.2.2.2.2.2.2.2.2.2.2.2.2.2.2.2.2.1), (hf.2.2.2.2.2.2.2.2.2.2.2.2.2.2.2.2.2.2.2.2.1).trans (hF2.2.2.2.2.2.2.2.2.2.2.2.2.2.2.2.2.2.2.1), (hf.2.2.2.2.2.2.2.2.2.2.2.2.2.2.2.2.2.2.2.2.2.1).trans (hF2.2.2.2.2.2.2.2.2.2.2.2.2.2.2.2.2.2.2.2.1), (hf.2.2.2.2.2.2.2.2.2.2.2.2.2.2.2.2.2.2.2.2.2.2.1).trans (hF2.2.2.2.2.2.2.2.2.2.2.2.2.2.2.2.2.2.2.2.2.1), (hf.2.2.2.2.2.2.2.2.2.2.2.2.2.2.2.2.2.2.2.2.2.2.2.1).trans (hF2.2.2.2.2.2.2.2.2.2.2.2.2.2.2.2.2.2.2.2.2.2.1), (hf.2.2.2.2.2.2.2.2.2.2.2.2.2.2.2.2.2.2.2.2.2.2.2.2.1).trans (hF2.2.2.2.2.2.2.2.2.2.2.2.2.2.2.2.2.2.2.2.2.2.2.1), (hf.2.2.2.2.2.2.2.2.2.2.2.2.2.2.2.2.2.2.2.2.2.2.2.2.2.1).trans (hF2.2.2.2.2.2.2.2.2.2.2.2.2.2.2.2.2.2.2.2.2.2.2.2.1), (hf.2.2.2.2.2.2.2.2.2.2.2.2.2.2.2.2.2.2.2.2.2.2.2.2.2.2.1).trans (hF2.2.2.2.2.2.2.2.2.2.2.2.2.2.2.2.2.2.2.2.2.2.2.2.2.1), (hf.2.2.2.2.2.2.2.2.2.2.2.2.2.2.2.2.2.2.2.2.2.2.2.2.2.2.2.1).trans (hF2.2.2.2.2.2.2.2.2.2.2.2.2.2.2.2.2.2.2.2.2.2.2.2.2.2.1), (hf.2.2.2.2.2.2.2.2.2.2.2.2.2.2.2.2.2.2.2.2.2.2.2.2.2.2.2.2.1).trans (hF2.2.2.2.2.2.2.2.2.2.2.2.2.2.2.2.2.2.2.2.2.2.2.2.2.2.2.1), (hf.2.2.2.2.2.2.2.2.2.2.2.2.2.2.2.2.2.2.2.2.2.2.2.2.2.2.2.2.2.1).trans (hF2.2.2.2.2.2.2.2.2.2.2.2.2.2.2.2.2.2.2.2.2.2.2.2.2.2.2.2.1), (hf.2.2.2.2.2.2.2.2.2.2.2.2.2.2.2.2.2.2.2.2.2.2.2.2.2.2.2.2.2.2.1).trans (hF2.2.2.2.2.2.2.2.2.2.2.2.2.2.2.2.2.2.2.2.2.2.2.2.2.2.2.2.2.1), (hf.2.2.2.2.2.2.2.2.2.2.2.2.2.2.2.2.2.2.2.2.2.2.2.2.2.2.2.2.2.2.2.1).trans (hF2.2.2.2.2.2.2.2.2.2.2.2.2.2.2.2.2.2.2.2.2.2.2.2.2.2.2.2.2.2.1), (hf.2.2.2.2.2.2.2.2.2.2.2.2.2.2.2.2.2.2.2.2.2.2.2.2.2.2.2.2.2.2.2.2.1).trans (hF2.2.2.2.2.2.2.2.2.2.2.2.2.2.2.2.2.2.2.2.2.2.2.2.2.2.2.2.2.2.2.1), (hf.2.2.2.2.2.2.2.2.2.2.2.2.2.2.2.2.2.2.2.2.2.2.2.2.2.2.2.2.2.2.2.2.2.1).trans (hF2.2.2.2.2.2.2.2.2.2.2.2.2.2.2.2.2.2.2.2.2.2.2.2.2.2.2.2.2.2.2.2.1), (hf.2.2.2.2.2.2.2.2.2.2.2.2.2.2.2.2.2.2.2.2.2.2.2.2.2.2.2.2.2.2.2.2.2.2.1).trans (hF2.2.2.2.2.2.2.2.2.2.2.2.2.2.2.2.2.2.2.2.2.2.2.2.2.2.2.2.2.2.2.2.2.1), (hf.2.2.2.2.2.2.2.2.2.2.2.2.2.2.2.2.2.2.2.2.2.2.2.2.2.2.2.2.2.2.2.2.2.2.2.1).trans (hF2.2.2.2.2.2.2.2.2.2.2.2.2.2.2.2.2.2.2.2.2.2.2.2.2.2.2.2.2.2.2.2.2.2.1), (hf.2.2.2.2.2.2.2.2.2.2.2.2.2.2.2.2.2.2.2.2.2.2.2.2.2.2.2.2.2.2.2.2.2.2.2.2.1).trans (hF2.2.2.2.2.2.2.2.2.2.2.2.2.2.2.2.2.2.2.2.2.2.2.2.2.2.2.2.2.2.2.2.2.2.2.1), (hf.2.2.2.2.2.2.2.2.2.2.2.2.2.2.2.2.2.2.2.2.2.2.2.2.2.2.2.2.2.2.2.2.2.2.2.2.2.1).trans (hF2.2.2.2.2.2.2.2.2.2.2.2.2.2.2.2.2.2.2.2.2.2.2.2.2.2.2.2.2.2.2.2.2.2.2.2.1), (hf.2.2.2.2.2.2.2.2.2.2.2.2.2.2.2.2.2.2.2.2.2.2.2.2.2.2.2.2.2.2.2.2.2.2.2.2.2.2.1).trans (hF2.2.2.2.2.2.2.2.2.2.2.2.2.2.2.2.2.2.2.2.2.2.2.2.2.2.2.2.2.2.2.2.2.2.2.2.2.1), (hf.2.2.2.2.2.2.2.2.2.2.2.2.2.2.2.2.2.2.2.2.2.2.2.2.2.2.2.2.2.2.2.2.2.2.2.2.2.2.2.1).trans (hF2.2.2.2.2.2.2.2.2.2.2.2.2.2.2.2.2.2.2.2.2.2.2.2.2.2.2.2.2.2.2.2.2.2.2.2.2.2.1), (hf.2.2.2.2.2.2.2.2.2.2.2.2.2.2.2.2.2.2.2.2.2.2.2.2.2.2.2.2.2.2.2.2.2.2.2.2.2.2.2.2.1).trans (hF2.2.2.2.2.2.2.2.2.2.2.2.2.2.2.2.2.2.2.2.2.2.2.2.2.2.2.2.2.2.2.2.2.2.2.2.2.2.2.1), (hf.2.2.2.2.2.2.2.2.2.2.2.2.2.2.2.2.2.2.2.2.2.2.2.2.2.2.2.2.2.2.2.2.2.2.2.2.2.2.2.2.2.1).trans (hF2.2.2.2.2.2.2.2.2.2.2.2.2.2.2.2.2.2.2.2.2.2.2.2.2.2.2.2.2.2.2.2.2.2.2.2.2.2.2.2.1), (hf.2.2.2.2.2.2.2.2.2.2.2.2.2.2.2.2.2.2.2.2.2.2.2.2.2.2.2.2.2.2.2.2.2.2.2.2.2.2.2.2.2.2).trans (hF2.2.2.2.2.2.2.2.2.2.2.2.2.2.2.2.2.2.2.2.2.2.2.2.2.2.2.2.2.2.2.2.2.2.2.2.2.2.2.2.2)⟩ ((congrArg Int32.toInt (hf.2.2.2.2.1)).trans t2) (fun hs => Or.inl ⟨p, hp, ?_, hC hs p hp⟩) hO h8 h10 h7
    have := hN hs p hp
    omega
  · simp only [pn, ea] at d
    have := hN hs q hq2
    omega
theorem sf_X9_key {S : bT9} (hJ : K9 S) {a1 : Int32} {Q : Int64 → Prop} (hp0 : 0 ≤ a1.toInt) (hp1 : a1.toInt ≤ 63) (hq : ∀ r : Int64, (r = b9g_keys S ((64 : Int32) + a1).toNatClampNeg) → Q r) : wp_X9_key S a1 Q := by
  unfold wp_X9_key
  exact ⟨pt_in (by (try simp (disch := first | ((try simp (disch := first | ((try simp only [pn]) <;> omega) | fail) only [pn, pq]) <;> omega) | fail) only [pn, pq]) <;> (intros; (try simp (disch := first | ((try simp (disch := first | ((try simp only [pn]) <;> omega) | fail) only [pn, pq]) <;> omega) | fail) only [pn, pq]) <;> omega)) (by (try simp (disch := first | ((try simp (disch := first | ((try simp only [pn]) <;> omega) | fail) only [pn, pq]) <;> omega) | fail) only [pn, pq]) <;> (intros; (try simp (disch := first | ((try simp (disch := first | ((try simp only [pn]) <;> omega) | fail) only [pn, pq]) <;> omega) | fail) only [pn, pq]) <;> omega)), hq _ rfl⟩
set_option maxRecDepth 20000 in
set_option maxHeartbeats 8000000 in
theorem sf_X9_lengthOf {S : bT9} (hJ : K9 S) {a1 : Int32} {Q : Int32 → Prop} (hp0 : 0 ≤ a1.toInt) (hp1 : a1.toInt ≤ 63) (hq : ∀ r : Int32, (r.toInt = (b9g_lengths S ((64 : Int32) + a1).toNatClampNeg).toInt) → (0 ≤ r.toInt) → (r.toInt ≤ 8) → Q r) : wp_X9_lengthOf S a1 Q := by
  unfold wp_X9_lengthOf
  have jf1 : (-4 ≤ ((b9g_now S) 1).toInt ∧ ((b9g_now S) 1).toInt ≤ 4) ∧ (-3 ≤ ((b9g_now S) 4).toInt ∧ ((b9g_now S) 4).toInt ≤ 252) ∧ (0 ≤ ((b9g_now S) 8).toInt ∧ ((b9g_now S) 8).toInt ≤ 64) ∧ (0 ≤ ((b9g_now S) 9).toInt ∧ ((b9g_now S) 9).toInt ≤ 64) ∧ (0 ≤ ((b9g_now S) 10).toInt ∧ ((b9g_now S) 10).toInt ≤ 16) ∧ (0 ≤ ((b9g_now S) 12).toInt ∧ ((b9g_now S) 12).toInt ≤ 8) := K9g_now hJ
  have rga1 := pt_rg a1
  refine ⟨pt_in (by (try simp (disch := first | ((try simp (disch := first | ((try simp only [pn]) <;> omega) | fail) only [pn, pq]) <;> omega) | fail) only [pn, pq]) <;> (intros; (try simp (disch := first | ((try simp (disch := first | ((try simp only [pn]) <;> omega) | fail) only [pn, pq]) <;> omega) | fail) only [pn, pq]) <;> omega)) (by (try simp (disch := first | ((try simp (disch := first | ((try simp only [pn]) <;> omega) | fail) only [pn, pq]) <;> omega) | fail) only [pn, pq]) <;> (intros; (try simp (disch := first | ((try simp (disch := first | ((try simp only [pn]) <;> omega) | fail) only [pn, pq]) <;> omega) | fail) only [pn, pq]) <;> omega)), ?_⟩
  have jr2 := K9g_lengths hJ (((64 : Int32) + a1)).toNatClampNeg
  try simp (disch := first | ((try simp (disch := first | ((try simp only [pn]) <;> omega) | fail) only [pn, pq]) <;> omega) | fail) only [pn, pq] at jr2
  exact hq _ (by (try simp (disch := first | ((try simp (disch := first | ((try simp only [pn]) <;> omega) | fail) only [pn, pq]) <;> omega) | fail) only [pn, pq]) <;> (intros; (try simp (disch := first | ((try simp (disch := first | ((try simp only [pn]) <;> omega) | fail) only [pn, pq]) <;> omega) | fail) only [pn, pq]) <;> omega)) (by (try simp (disch := first | ((try simp (disch := first | ((try simp only [pn]) <;> omega) | fail) only [pn, pq]) <;> omega) | fail) only [pn, pq]) <;> (intros; (try simp (disch := first | ((try simp (disch := first | ((try simp only [pn]) <;> omega) | fail) only [pn, pq]) <;> omega) | fail) only [pn, pq]) <;> omega)) (by (try simp (disch := first | ((try simp (disch := first | ((try simp only [pn]) <;> omega) | fail) only [pn, pq]) <;> omega) | fail) only [pn, pq]) <;> (intros; (try simp (disch := first | ((try simp (disch := first | ((try simp only [pn]) <;> omega) | fail) only [pn, pq]) <;> omega) | fail) only [pn, pq]) <;> omega))
set_option maxRecDepth 20000 in
set_option maxHeartbeats 8000000 in
theorem sf_X9_alike {S : bT9} (hJ : K9 S) {a1 : Int32} {a2 : Int32} {Q : Int32 → Prop} (hp0 : -1 ≤ a1.toInt) (hp1 : a1.toInt ≤ 63) (hp2 : a2.toInt = a1.toInt + 1) (hq : ∀ r : Int32, (0 ≤ r.toInt) → (r.toInt ≤ 8) → (r.toInt = 0 ∨ r.toInt ≤ (b9g_lengths S ((64 : Int32) + a1).toNatClampNeg).toInt) → (r.toInt = 0 ∨ r.toInt ≤ (b9g_lengths S ((64 : Int32) + a2).toNatClampNeg).toInt) → Q r) : wp_X9_alike S a1 a2 Q := by
  unfold wp_X9_alike
  have jf1 : (-4 ≤ ((b9g_now S) 1).toInt ∧ ((b9g_now S) 1).toInt ≤ 4) ∧ (-3 ≤ ((b9g_now S) 4).toInt ∧ ((b9g_now S) 4).toInt ≤ 252) ∧ (0 ≤ ((b9g_now S) 8).toInt ∧ ((b9g_now S) 8).toInt ≤ 64) ∧ (0 ≤ ((b9g_now S) 9).toInt ∧ ((b9g_now S) 9).toInt ≤ 64) ∧ (0 ≤ ((b9g_now S) 10).toInt ∧ ((b9g_now S) 10).toInt ≤ 16) ∧ (0 ≤ ((b9g_now S) 12).toInt ∧ ((b9g_now S) 12).toInt ≤ 8) := K9g_now hJ
  have rga1 := pt_rg a1
  have rga2 := pt_rg a2
  refine ⟨fun c1 => ?_, fun c1 => ?_⟩
  · try simp (disch := first | ((try simp (disch := first | ((try simp only [pn]) <;> omega) | fail) only [pn, pq]) <;> omega) | fail) only [pn, pq] at c1
    exact hq _ (by (try simp (disch := first | ((try simp (disch := first | ((try simp only [pn]) <;> omega) | fail) only [pn, pq]) <;> omega) | fail) only [pn, pq]) <;> (intros; (try simp (disch := first | ((try simp (disch := first | ((try simp only [pn]) <;> omega) | fail) only [pn, pq]) <;> omega) | fail) only [pn, pq]) <;> omega)) (by (try simp (disch := first | ((try simp (disch := first | ((try simp only [pn]) <;> omega) | fail) only [pn, pq]) <;> omega) | fail) only [pn, pq]) <;> (intros; (try simp (disch := first | ((try simp (disch := first | ((try simp only [pn]) <;> omega) | fail) only [pn, pq]) <;> omega) | fail) only [pn, pq]) <;> omega)) (by (try simp (disch := first | ((try simp (disch := first | ((try simp only [pn]) <;> omega) | fail) only [pn, pq]) <;> omega) | fail) only [pn, pq]) <;> (intros; (try simp (disch := first | ((try simp (disch := first | ((try simp only [pn]) <;> omega) | fail) only [pn, pq]) <;> omega) | fail) only [pn, pq]) <;> omega)) (by (try simp (disch := first | ((try simp (disch := first | ((try simp only [pn]) <;> omega) | fail) only [pn, pq]) <;> omega) | fail) only [pn, pq]) <;> (intros; (try simp (disch := first | ((try simp (disch := first | ((try simp only [pn]) <;> omega) | fail) only [pn, pq]) <;> omega) | fail) only [pn, pq]) <;> omega))
  · try simp (disch := first | ((try simp (disch := first | ((try simp only [pn]) <;> omega) | fail) only [pn, pq]) <;> omega) | fail) only [pn, pq] at c1
    refine ⟨pt_in (by (try simp (disch := first | ((try simp (disch := first | ((try simp only [pn]) <;> omega) | fail) only [pn, pq]) <;> omega) | fail) only [pn, pq]) <;> (intros; (try simp (disch := first | ((try simp (disch := first | ((try simp only [pn]) <;> omega) | fail) only [pn, pq]) <;> omega) | fail) only [pn, pq]) <;> omega)) (by (try simp (disch := first | ((try simp (disch := first | ((try simp only [pn]) <;> omega) | fail) only [pn, pq]) <;> omega) | fail) only [pn, pq]) <;> (intros; (try simp (disch := first | ((try simp (disch := first | ((try simp only [pn]) <;> omega) | fail) only [pn, pq]) <;> omega) | fail) only [pn, pq]) <;> omega)), ?_⟩
    refine ⟨fun c2 => ?_, fun c2 => ?_⟩
    · try simp (disch := first | ((try simp (disch := first | ((try simp only [pn]) <;> omega) | fail) only [pn, pq]) <;> omega) | fail) only [pn, pq] at c2
      refine ⟨fun n x1q3 x2q3 x3q3 => (x1q3 = a1) ∧ (x2q3 = a2) ∧ (0 ≤ (x3q3).toInt) ∧ ((x3q3).toInt ≤ 8) ∧ ((x3q3).toInt = 0 ∨ (x3q3).toInt ≤ (b9g_lengths S ((64 : Int32) + (x1q3)).toNatClampNeg).toInt) ∧ ((x3q3).toInt = 0 ∨ (x3q3).toInt ≤ (b9g_lengths S ((64 : Int32) + (x2q3)).toNatClampNeg).toInt) ∧ n = (8 - (x3q3).toInt).toNat, ⟨_, rfl, rfl, (by (try simp (disch := first | ((try simp (disch := first | ((try simp only [pn]) <;> omega) | fail) only [pn, pq]) <;> omega) | fail) only [pn, pq]) <;> (intros; (try simp (disch := first | ((try simp (disch := first | ((try simp only [pn]) <;> omega) | fail) only [pn, pq]) <;> omega) | fail) only [pn, pq]) <;> omega)), (by (try simp (disch := first | ((try simp (disch := first | ((try simp only [pn]) <;> omega) | fail) only [pn, pq]) <;> omega) | fail) only [pn, pq]) <;> (intros; (try simp (disch := first | ((try simp (disch := first | ((try simp only [pn]) <;> omega) | fail) only [pn, pq]) <;> omega) | fail) only [pn, pq]) <;> omega)), (by (try simp (disch := first | ((try simp (disch := first | ((try simp only [pn]) <;> omega) | fail) only [pn, pq]) <;> omega) | fail) only [pn, pq]) <;> (intros; (try simp (disch := first | ((try simp (disch := first | ((try simp only [pn]) <;> omega) | fail) only [pn, pq]) <;> omega) | fail) only [pn, pq]) <;> omega)), (by (try simp (disch := first | ((try simp (disch := first | ((try simp only [pn]) <;> omega) | fail) only [pn, pq]) <;> omega) | fail) only [pn, pq]) <;> (intros; (try simp (disch := first | ((try simp (disch := first | ((try simp only [pn]) <;> omega) | fail) only [pn, pq]) <;> omega) | fail) only [pn, pq]) <;> omega)), rfl⟩, ?_⟩
      rintro n4 x1q3 x2q3 x3q3 ⟨hkq3_0, hkq3_1, hiq3_0, hiq3_1, hiq3_2, hiq3_3, hn4⟩
      subst hkq3_0
      subst hkq3_1
      have rgx1q3 := pt_rg x1q3
      have rgx2q3 := pt_rg x2q3
      have rgx3q3 := pt_rg x3q3
      unfold wp_X9_alike_19b
      refine sf_X9_lengthOf hJ (by (try simp (disch := first | ((try simp (disch := first | ((try simp only [pn]) <;> omega) | fail) only [pn, pq]) <;> omega) | fail) only [pn, pq]) <;> (intros; (try simp (disch := first | ((try simp (disch := first | ((try simp only [pn]) <;> omega) | fail) only [pn, pq]) <;> omega) | fail) only [pn, pq]) <;> omega)) (by (try simp (disch := first | ((try simp (disch := first | ((try simp only [pn]) <;> omega) | fail) only [pn, pq]) <;> omega) | fail) only [pn, pq]) <;> (intros; (try simp (disch := first | ((try simp (disch := first | ((try simp only [pn]) <;> omega) | fail) only [pn, pq]) <;> omega) | fail) only [pn, pq]) <;> omega)) (fun r5 hr5_0 hr5_1 hr5_2 => ?_)
      have rgr5 := pt_rg r5
      try simp (disch := first | ((try simp (disch := first | ((try simp only [pn]) <;> omega) | fail) only [pn, pq]) <;> omega) | fail) only [pn, pq] at hr5_0
      try simp (disch := first | ((try simp (disch := first | ((try simp only [pn]) <;> omega) | fail) only [pn, pq]) <;> omega) | fail) only [pn, pq] at hr5_1
      try simp (disch := first | ((try simp (disch := first | ((try simp only [pn]) <;> omega) | fail) only [pn, pq]) <;> omega) | fail) only [pn, pq] at hr5_2
      refine ⟨fun c7 => ?_, fun c7 => ?_⟩
      · try simp (disch := first | ((try simp (disch := first | ((try simp only [pn]) <;> omega) | fail) only [pn, pq]) <;> omega) | fail) only [pn, pq] at c7
        exact hq _ (by (try simp (disch := first | ((try simp (disch := first | ((try simp only [pn]) <;> omega) | fail) only [pn, pq]) <;> omega) | fail) only [pn, pq]) <;> (intros; (try simp (disch := first | ((try simp (disch := first | ((try simp only [pn]) <;> omega) | fail) only [pn, pq]) <;> omega) | fail) only [pn, pq]) <;> omega)) (by (try simp (disch := first | ((try simp (disch := first | ((try simp only [pn]) <;> omega) | fail) only [pn, pq]) <;> omega) | fail) only [pn, pq]) <;> (intros; (try simp (disch := first | ((try simp (disch := first | ((try simp only [pn]) <;> omega) | fail) only [pn, pq]) <;> omega) | fail) only [pn, pq]) <;> omega)) (by (try simp (disch := first | ((try simp (disch := first | ((try simp only [pn]) <;> omega) | fail) only [pn, pq]) <;> omega) | fail) only [pn, pq]) <;> (intros; (try simp (disch := first | ((try simp (disch := first | ((try simp only [pn]) <;> omega) | fail) only [pn, pq]) <;> omega) | fail) only [pn, pq]) <;> omega)) (by (try simp (disch := first | ((try simp (disch := first | ((try simp only [pn]) <;> omega) | fail) only [pn, pq]) <;> omega) | fail) only [pn, pq]) <;> (intros; (try simp (disch := first | ((try simp (disch := first | ((try simp only [pn]) <;> omega) | fail) only [pn, pq]) <;> omega) | fail) only [pn, pq]) <;> omega))
      · try simp (disch := first | ((try simp (disch := first | ((try simp only [pn]) <;> omega) | fail) only [pn, pq]) <;> omega) | fail) only [pn, pq] at c7
        refine sf_X9_lengthOf hJ (by (try simp (disch := first | ((try simp (disch := first | ((try simp only [pn]) <;> omega) | fail) only [pn, pq]) <;> omega) | fail) only [pn, pq]) <;> (intros; (try simp (disch := first | ((try simp (disch := first | ((try simp only [pn]) <;> omega) | fail) only [pn, pq]) <;> omega) | fail) only [pn, pq]) <;> omega)) (by (try simp (disch := first | ((try simp (disch := first | ((try simp only [pn]) <;> omega) | fail) only [pn, pq]) <;> omega) | fail) only [pn, pq]) <;> (intros; (try simp (disch := first | ((try simp (disch := first | ((try simp only [pn]) <;> omega) | fail) only [pn, pq]) <;> omega) | fail) only [pn, pq]) <;> omega)) (fun r8 hr8_0 hr8_1 hr8_2 => ?_)
        have rgr8 := pt_rg r8
        try simp (disch := first | ((try simp (disch := first | ((try simp only [pn]) <;> omega) | fail) only [pn, pq]) <;> omega) | fail) only [pn, pq] at hr8_0
        try simp (disch := first | ((try simp (disch := first | ((try simp only [pn]) <;> omega) | fail) only [pn, pq]) <;> omega) | fail) only [pn, pq] at hr8_1
        try simp (disch := first | ((try simp (disch := first | ((try simp only [pn]) <;> omega) | fail) only [pn, pq]) <;> omega) | fail) only [pn, pq] at hr8_2
        refine ⟨fun c10 => ?_, fun c10 => ?_⟩
        · try simp (disch := first | ((try simp (disch := first | ((try simp only [pn]) <;> omega) | fail) only [pn, pq]) <;> omega) | fail) only [pn, pq] at c10
          exact hq _ (by (try simp (disch := first | ((try simp (disch := first | ((try simp only [pn]) <;> omega) | fail) only [pn, pq]) <;> omega) | fail) only [pn, pq]) <;> (intros; (try simp (disch := first | ((try simp (disch := first | ((try simp only [pn]) <;> omega) | fail) only [pn, pq]) <;> omega) | fail) only [pn, pq]) <;> omega)) (by (try simp (disch := first | ((try simp (disch := first | ((try simp only [pn]) <;> omega) | fail) only [pn, pq]) <;> omega) | fail) only [pn, pq]) <;> (intros; (try simp (disch := first | ((try simp (disch := first | ((try simp only [pn]) <;> omega) | fail) only [pn, pq]) <;> omega) | fail) only [pn, pq]) <;> omega)) (by (try simp (disch := first | ((try simp (disch := first | ((try simp only [pn]) <;> omega) | fail) only [pn, pq]) <;> omega) | fail) only [pn, pq]) <;> (intros; (try simp (disch := first | ((try simp (disch := first | ((try simp only [pn]) <;> omega) | fail) only [pn, pq]) <;> omega) | fail) only [pn, pq]) <;> omega)) (by (try simp (disch := first | ((try simp (disch := first | ((try simp only [pn]) <;> omega) | fail) only [pn, pq]) <;> omega) | fail) only [pn, pq]) <;> (intros; (try simp (disch := first | ((try simp (disch := first | ((try simp only [pn]) <;> omega) | fail) only [pn, pq]) <;> omega) | fail) only [pn, pq]) <;> omega))
        · try simp (disch := first | ((try simp (disch := first | ((try simp only [pn]) <;> omega) | fail) only [pn, pq]) <;> omega) | fail) only [pn, pq] at c10
          refine sf_X9_key hJ (by (try simp (disch := first | ((try simp (disch := first | ((try simp only [pn]) <;> omega) | fail) only [pn, pq]) <;> omega) | fail) only [pn, pq]) <;> (intros; (try simp (disch := first | ((try simp (disch := first | ((try simp only [pn]) <;> omega) | fail) only [pn, pq]) <;> omega) | fail) only [pn, pq]) <;> omega)) (by (try simp (disch := first | ((try simp (disch := first | ((try simp only [pn]) <;> omega) | fail) only [pn, pq]) <;> omega) | fail) only [pn, pq]) <;> (intros; (try simp (disch := first | ((try simp (disch := first | ((try simp only [pn]) <;> omega) | fail) only [pn, pq]) <;> omega) | fail) only [pn, pq]) <;> omega)) (fun r11 hr11_0 => ?_)
          try simp (disch := first | ((try simp (disch := first | ((try simp only [pn]) <;> omega) | fail) only [pn, pq]) <;> omega) | fail) only [pn, pq] at hr11_0
          refine sf_X9_byteOf hJ (fun r13  => ?_)
          have rgr13 := pt_rg r13
          refine sf_X9_key hJ (by (try simp (disch := first | ((try simp (disch := first | ((try simp only [pn]) <;> omega) | fail) only [pn, pq]) <;> omega) | fail) only [pn, pq]) <;> (intros; (try simp (disch := first | ((try simp (disch := first | ((try simp only [pn]) <;> omega) | fail) only [pn, pq]) <;> omega) | fail) only [pn, pq]) <;> omega)) (by (try simp (disch := first | ((try simp (disch := first | ((try simp only [pn]) <;> omega) | fail) only [pn, pq]) <;> omega) | fail) only [pn, pq]) <;> (intros; (try simp (disch := first | ((try simp (disch := first | ((try simp only [pn]) <;> omega) | fail) only [pn, pq]) <;> omega) | fail) only [pn, pq]) <;> omega)) (fun r15 hr15_0 => ?_)
          try simp (disch := first | ((try simp (disch := first | ((try simp only [pn]) <;> omega) | fail) only [pn, pq]) <;> omega) | fail) only [pn, pq] at hr15_0
          refine sf_X9_byteOf hJ (fun r17  => ?_)
          have rgr17 := pt_rg r17
          refine ⟨fun c19 => ?_, fun c19 => ?_⟩
          · try simp (disch := first | ((try simp (disch := first | ((try simp only [pn]) <;> omega) | fail) only [pn, pq]) <;> omega) | fail) only [pn, pq] at c19
            exact hq _ (by (try simp (disch := first | ((try simp (disch := first | ((try simp only [pn]) <;> omega) | fail) only [pn, pq]) <;> omega) | fail) only [pn, pq]) <;> (intros; (try simp (disch := first | ((try simp (disch := first | ((try simp only [pn]) <;> omega) | fail) only [pn, pq]) <;> omega) | fail) only [pn, pq]) <;> omega)) (by (try simp (disch := first | ((try simp (disch := first | ((try simp only [pn]) <;> omega) | fail) only [pn, pq]) <;> omega) | fail) only [pn, pq]) <;> (intros; (try simp (disch := first | ((try simp (disch := first | ((try simp only [pn]) <;> omega) | fail) only [pn, pq]) <;> omega) | fail) only [pn, pq]) <;> omega)) (by (try simp (disch := first | ((try simp (disch := first | ((try simp only [pn]) <;> omega) | fail) only [pn, pq]) <;> omega) | fail) only [pn, pq]) <;> (intros; (try simp (disch := first | ((try simp (disch := first | ((try simp only [pn]) <;> omega) | fail) only [pn, pq]) <;> omega) | fail) only [pn, pq]) <;> omega)) (by (try simp (disch := first | ((try simp (disch := first | ((try simp only [pn]) <;> omega) | fail) only [pn, pq]) <;> omega) | fail) only [pn, pq]) <;> (intros; (try simp (disch := first | ((try simp (disch := first | ((try simp only [pn]) <;> omega) | fail) only [pn, pq]) <;> omega) | fail) only [pn, pq]) <;> omega))
          · try simp (disch := first | ((try simp (disch := first | ((try simp only [pn]) <;> omega) | fail) only [pn, pq]) <;> omega) | fail) only [pn, pq] at c19
            refine ⟨_, ?_, ?_, ?_, ?_, ?_, ?_, ?_, rfl⟩
            · (try simp (disch := first | ((try simp (disch := first | ((try simp only [pn]) <;> omega) | fail) only [pn, pq]) <;> omega) | fail) only [pn, pq]) <;> (intros; (try simp (disch := first | ((try simp (disch := first | ((try simp only [pn]) <;> omega) | fail) only [pn, pq]) <;> omega) | fail) only [pn, pq]) <;> omega)
            · first | rfl | assumption
            · first | rfl | assumption
            · (try simp (disch := first | ((try simp (disch := first | ((try simp only [pn]) <;> omega) | fail) only [pn, pq]) <;> omega) | fail) only [pn, pq]) <;> (intros; (try simp (disch := first | ((try simp (disch := first | ((try simp only [pn]) <;> omega) | fail) only [pn, pq]) <;> omega) | fail) only [pn, pq]) <;> omega)
            · (try simp (disch := first | ((try simp (disch := first | ((try simp only [pn]) <;> omega) | fail) only [pn, pq]) <;> omega) | fail) only [pn, pq]) <;> (intros; (try simp (disch := first | ((try simp (disch := first | ((try simp only [pn]) <;> omega) | fail) only [pn, pq]) <;> omega) | fail) only [pn, pq]) <;> omega)
            · (try simp (disch := first | ((try simp (disch := first | ((try simp only [pn]) <;> omega) | fail) only [pn, pq]) <;> omega) | fail) only [pn, pq]) <;> (intros; (try simp (disch := first | ((try simp (disch := first | ((try simp only [pn]) <;> omega) | fail) only [pn, pq]) <;> omega) | fail) only [pn, pq]) <;> omega)
            · (try simp (disch := first | ((try simp (disch := first | ((try simp only [pn]) <;> omega) | fail) only [pn, pq]) <;> omega) | fail) only [pn, pq]) <;> (intros; (try simp (disch := first | ((try simp (disch := first | ((try simp only [pn]) <;> omega) | fail) only [pn, pq]) <;> omega) | fail) only [pn, pq]) <;> omega)
    · try simp (disch := first | ((try simp (disch := first | ((try simp only [pn]) <;> omega) | fail) only [pn, pq]) <;> omega) | fail) only [pn, pq] at c2
      exact hq _ (by (try simp (disch := first | ((try simp (disch := first | ((try simp only [pn]) <;> omega) | fail) only [pn, pq]) <;> omega) | fail) only [pn, pq]) <;> (intros; (try simp (disch := first | ((try simp (disch := first | ((try simp only [pn]) <;> omega) | fail) only [pn, pq]) <;> omega) | fail) only [pn, pq]) <;> omega)) (by (try simp (disch := first | ((try simp (disch := first | ((try simp only [pn]) <;> omega) | fail) only [pn, pq]) <;> omega) | fail) only [pn, pq]) <;> (intros; (try simp (disch := first | ((try simp (disch := first | ((try simp only [pn]) <;> omega) | fail) only [pn, pq]) <;> omega) | fail) only [pn, pq]) <;> omega)) (by (try simp (disch := first | ((try simp (disch := first | ((try simp only [pn]) <;> omega) | fail) only [pn, pq]) <;> omega) | fail) only [pn, pq]) <;> (intros; (try simp (disch := first | ((try simp (disch := first | ((try simp only [pn]) <;> omega) | fail) only [pn, pq]) <;> omega) | fail) only [pn, pq]) <;> omega)) (by (try simp (disch := first | ((try simp (disch := first | ((try simp only [pn]) <;> omega) | fail) only [pn, pq]) <;> omega) | fail) only [pn, pq]) <;> (intros; (try simp (disch := first | ((try simp (disch := first | ((try simp only [pn]) <;> omega) | fail) only [pn, pq]) <;> omega) | fail) only [pn, pq]) <;> omega))
def F_X9_laysBeginnings (S u : bT9) : Prop := (b9g_told u) = (b9g_told S) ∧ (b9g_now u) = (b9g_now S) ∧ (b9g_keys u) = (b9g_keys S) ∧ (b9g_lengths u) = (b9g_lengths S) ∧ (b9g_drawn u) = (b9g_drawn S) ∧ (b9g_drawnLength u) = (b9g_drawnLength S) ∧ (b9g_tape u) = (b9g_tape S) ∧ (b9g_taped u) = (b9g_taped S) ∧ (b9g_names u) = (b9g_names S) ∧ (b9g_chosen u) = (b9g_chosen S) ∧ (b9g_nodeLevel u) = (b9g_nodeLevel S) ∧ (b9g_nodeLeaf u) = (b9g_nodeLeaf S) ∧ (b9g_nodeLeaves u) = (b9g_nodeLeaves S) ∧ (b9g_nodeMany u) = (b9g_nodeMany S) ∧ (b9g_levelMany u) = (b9g_levelMany S) ∧ (b9g_upper u) = (b9g_upper S) ∧ (b9g_upperNodes u) = (b9g_upperNodes S) ∧ (b9g_areNodesLaid u) = (b9g_areNodesLaid S) ∧ (b9g_itemNode u) = (b9g_itemNode S) ∧ (b9g_itemByte u) = (b9g_itemByte S) ∧ (b9g_itemChild u) = (b9g_itemChild S) ∧ (b9g_itemMany u) = (b9g_itemMany S) ∧ (b9g_placeOf u) = (b9g_placeOf S) ∧ (b9g_leafOfPlace u) = (b9g_leafOfPlace S) ∧ (b9g_places u) = (b9g_places S) ∧ (b9g_lowKey u) = (b9g_lowKey S) ∧ (b9g_highKey u) = (b9g_highKey S) ∧ (b9g_lowLength u) = (b9g_lowLength S) ∧ (b9g_highLength u) = (b9g_highLength S) ∧ (b9g_fromKey u) = (b9g_fromKey S) ∧ (b9g_toKey u) = (b9g_toKey S) ∧ (b9g_fromLength u) = (b9g_fromLength S) ∧ (b9g_toLength u) = (b9g_toLength S) ∧ (b9g_ones u) = (b9g_ones S) ∧ (b9g_oneMany u) = (b9g_oneMany S) ∧ (b9g_rowLong u) = (b9g_rowLong S) ∧ (b9g_laidFor u) = (b9g_laidFor S) ∧ (b9g_signs u) = (b9g_signs S) ∧ (b9g_signMany u) = (b9g_signMany S) ∧ (b9g_hasImage u) = (b9g_hasImage S) ∧ (b9g_images u) = (b9g_images S) ∧ (b9g_keyImages u) = (b9g_keyImages S) ∧ (b9g_lengthImages u) = (b9g_lengthImages S)
theorem sf_X9_laysBeginnings {S : bT9} (hJ : J9 S) {Q : (bT9) → Prop} (hq : ∀ u : bT9, (J9 u) → F_X9_laysBeginnings S u → ((b9g_isLaid u).toInt ≠ 0) → Q u) : wp_X9_laysBeginnings S Q := by
  unfold wp_X9_laysBeginnings
  refine ⟨fun c => ?_, fun c => ?_⟩
  rotate_left
  · refine hq _ hJ ⟨rfl, rfl, rfl, rfl, rfl, rfl, rfl, rfl, rfl, rfl, rfl, rfl, rfl, rfl, rfl, rfl, rfl, rfl, rfl, rfl, rfl, rfl, rfl, rfl, rfl, rfl, rfl, rfl, rfl, rfl, rfl, rfl, rfl, rfl, rfl, rfl, rfl, rfl, rfl, rfl, rfl, rfl, rfl⟩ (fun h => c (Int32.toInt_inj.mp h))
  intro S9 e9
  have hK9 : K9 S9 := by rw [e9]; exact K9s_isLaid hJ.1
  have hF9 : F_X9_laysBeginnings S S9 := by rw [e9]; exact ⟨rfl, rfl, rfl, rfl, rfl, rfl, rfl, rfl, rfl, rfl, rfl, rfl, rfl, rfl, rfl, rfl, rfl, rfl, rfl, rfl, rfl, rfl, rfl, rfl, rfl, rfl, rfl, rfl, rfl, rfl, rfl, rfl, rfl, rfl, rfl, rfl, rfl, rfl, rfl, rfl, rfl, rfl, rfl⟩
  have u9 : (b9g_upperNodes S9).toInt ≤ (b9g_nodeMany S9).toInt := by rw [e9]; exact hJ.2.1
  have i9 : b9g_isLaid S9 = 1 := by rw [e9]
  have c9 : ((9 : Int32)).toNatClampNeg = 9 := by decide
  have n64 := (J9g_now hJ).2.2.2.1
  obtain ⟨F, hF⟩ : ∃ F : Nat → Int64, (fun j => b9g_keys S (64 + j)) = F := ⟨_, rfl⟩
  obtain ⟨G, hG⟩ : ∃ G : Nat → Int32, (fun j => b9g_lengths S (64 + j)) = G := ⟨_, rfl⟩
  unfold wp_X9_laysBeginnings_15
  refine ⟨fun n x1 V => 0 ≤ x1.toInt ∧ x1.toInt ≤ (b9g_now S 9).toInt ∧ K9 V ∧ F_X9_laysBeginnings S V ∧ (b9g_upperNodes V).toInt ≤ (b9g_nodeMany V).toInt ∧ b9g_isLaid V = 1 ∧ (∀ i : Nat, (i : Int) < x1.toInt → (b9g_common V i).toInt = (COM F G (b9g_now S 9).toInt i : Nat) ∧ (b9g_beginning V i).toInt = (BEG F G (b9g_now S 9).toInt i : Nat)) ∧ n = ((b9g_now S 9).toInt - x1.toInt).toNat, ⟨_, by decide, by rw [pl_0]; exact n64.1, hK9, hF9, u9, i9, fun i hi => by rw [pl_0] at hi; omega, rfl⟩, ?_⟩
  rintro n x1 V ⟨h0, h1, hKV, hFV, hu, hil, hL, hn⟩
  have kV : b9g_keys V = b9g_keys S := hFV.2.2.1
  have lV : b9g_lengths V = b9g_lengths S := hFV.2.2.2.1
  have nV : b9g_now V = b9g_now S := hFV.2.1
  unfold wp_X9_laysBeginnings_15b
  rw [c9, nV]
  refine ⟨pt_in (by decide) (by decide), fun c1 => ?_, fun c1 => ?_⟩
  · simp only [pn] at c1
    refine hq V ⟨hKV, hu, ?_⟩ hFV (by rw [hil]; decide)
    intro _ i hlt
    rw [kV, lV, nV, hF, hG]
    rw [nV] at hlt
    exact hL i (by omega)
  simp only [pn] at c1
  have cx := pt_clamp h0
  have em : (x1 - 1).toInt = x1.toInt - 1 := by rw [pt_sub (by rw [pl_1]; omega) (by rw [pl_1]; omega), pl_1]
  have ep : (x1 + 1).toInt = x1.toInt + 1 := by rw [pt_add (by rw [pl_1]; omega) (by rw [pl_1]; omega), pl_1]
  have vin : vp_in x1 64 := pt_in h0 (by omega)
  refine fx9_alike hKV (by rw [em]; omega) (by rw [em]; omega) (by rw [em]; omega) (fun r5 g5 z5 p5 q5 => fx9_alike hKV (by omega) (by omega) (by rw [ep]) (fun r7 g7 z7 p7 q7 => ?_))
  rw [kV, lV, nV, hF, hG] at g5 g7
  rw [nV] at z5 z7
  obtain ⟨i, hi⟩ : ∃ i : Nat, x1.toNatClampNeg = i := ⟨_, rfl⟩
  rw [hi] at cx g5 g7
  have v5 : r5.toInt = ((if i = 0 then 0 else ALR F G i (i - 1) : Nat) : Int) := by
    by_cases h : i = 0
    · rw [if_pos h, z5 (by rw [em]; omega)]
      rfl
    · rw [if_neg h, g5 (by rw [em]; omega) (by omega), ALR_comm, show (x1 - 1).toNatClampNeg = i - 1 by have := pt_clamp (i := x1 - 1) (by rw [em]; omega); omega]
  have v7 : r7.toInt = ((if ((i + 1 : Nat) : Int) < (b9g_now S 9).toInt then ALR F G i (i + 1) else 0 : Nat) : Int) := by
    by_cases h : ((i + 1 : Nat) : Int) < (b9g_now S 9).toInt
    · rw [if_pos h, g7 h0 (by rw [ep]; omega), show (x1 + 1).toNatClampNeg = i + 1 by have := pt_clamp (i := x1 + 1) (by rw [ep]; omega); omega]
    · rw [if_neg h, z7 (by rw [ep]; omega)]
      rfl
  have step : ∀ m : Int32, m.toInt = (COM F G (b9g_now S 9).toInt i : Nat) → wp_X9_laysBeginnings_59 V x1 x1 m Q (fun x1 S_1 => ∃ n2 : Nat, n2 < n ∧ 0 ≤ x1.toInt ∧ x1.toInt ≤ (b9g_now S 9).toInt ∧ K9 S_1 ∧ F_X9_laysBeginnings S S_1 ∧ (b9g_upperNodes S_1).toInt ≤ (b9g_nodeMany S_1).toInt ∧ b9g_isLaid S_1 = 1 ∧ (∀ i : Nat, (i : Int) < x1.toInt → (b9g_common S_1 i).toInt = (COM F G (b9g_now S 9).toInt i : Nat) ∧ (b9g_beginning S_1 i).toInt = (BEG F G (b9g_now S 9).toInt i : Nat)) ∧ n2 = ((b9g_now S 9).toInt - x1.toInt).toNat) := by
    intro m hm
    have gi : G i = b9g_lengths S (64 + i) := by rw [← hG]
    have gr := J9g_lengths hJ (64 + i)
    rw [← gi] at gr
    have cl := COM_le F G (b9g_now S 9).toInt i
    unfold wp_X9_laysBeginnings_59
    refine ⟨vin, fun S2 e2 => ⟨vin, fx9_lengthOf h0 (by omega) ?_⟩⟩
    have hK2 : K9 S2 := by rw [e2]; exact K9s_common hKV (pt_updr (K9g_common hKV) ⟨by omega, by omega⟩)
    have m2 : b9g_common S2 = upd (b9g_common V) i m := by rw [e2, hi]
    have b2 : b9g_beginning S2 = b9g_beginning V := by rw [e2]
    have l2 : b9g_lengths S2 = b9g_lengths S := by rw [e2]; exact lV
    rw [l2, hi, ← gi, m2, up_s]
    have t96 : ∀ t2 : Int32, t2.toInt = (BEG F G (b9g_now S 9).toInt i : Nat) → wp_X9_laysBeginnings_96 S2 x1 x1 t2 Q (fun x1 S_1 => ∃ n2 : Nat, n2 < n ∧ 0 ≤ x1.toInt ∧ x1.toInt ≤ (b9g_now S 9).toInt ∧ K9 S_1 ∧ F_X9_laysBeginnings S S_1 ∧ (b9g_upperNodes S_1).toInt ≤ (b9g_nodeMany S_1).toInt ∧ b9g_isLaid S_1 = 1 ∧ (∀ i : Nat, (i : Int) < x1.toInt → (b9g_common S_1 i).toInt = (COM F G (b9g_now S 9).toInt i : Nat) ∧ (b9g_beginning S_1 i).toInt = (BEG F G (b9g_now S 9).toInt i : Nat)) ∧ n2 = ((b9g_now S 9).toInt - x1.toInt).toNat) := by
      intro t2 ht
      have bl : BEG F G (b9g_now S 9).toInt i ≤ (G i).toInt.toNat := Nat.min_le_right _ _
      unfold wp_X9_laysBeginnings_96
      refine ⟨vin, fun S1 e1 => ⟨_, ?_, by omega, by omega, ?_, by rw [e1, e2]; exact hFV, by rw [e1, e2]; exact hu, by rw [e1, e2]; exact hil, fun j hj => ?_, rfl⟩⟩
      · omega
      · rw [e1]
        exact K9s_beginning hK2 (pt_updr (K9g_beginning hK2) ⟨by omega, by omega⟩)
      · have cc : b9g_common S1 = upd (b9g_common V) i m := by rw [e1]; exact m2
        have cb : b9g_beginning S1 = upd (b9g_beginning V) i t2 := by rw [e1, b2, hi]
        rw [cc, cb]
        by_cases e : j = i
        · rw [e, up_s, up_s]
          exact ⟨hm, ht⟩
        · rw [up_n e, up_n e]
          exact hL j (by omega)
    have mp : (m + 1).toInt = m.toInt + 1 := by rw [pt_add (by rw [pl_1]; omega) (by rw [pl_1]; omega), pl_1]
    refine ⟨fun d => ⟨vin, t96 _ ?_⟩, fun d => ⟨vin, t96 _ ?_⟩⟩
    · have d' : ¬ m.toInt = (G i).toInt := fun h => d (Int32.toInt_inj.mp h)
      rw [mp, hm]
      unfold BEG
      omega
    · have d' : m.toInt = (G i).toInt := by rw [d]
      rw [hm]
      unfold BEG
      omega
  have fin : ∀ A B : Nat, (if i = 0 then 0 else ALR F G i (i - 1)) = A → (if ((i + 1 : Nat) : Int) < (b9g_now S 9).toInt then ALR F G i (i + 1) else 0) = B → COM F G (b9g_now S 9).toInt i = max A B := by
    intro A B ha hb
    unfold COM
    rw [ha, hb]
  have cm := fin _ _ rfl rfl
  refine ⟨fun d => step r7 ?_, fun d => step r5 ?_⟩
  · simp only [pn] at d
    omega
  · simp only [pn] at d
    omega
def F_X9_leaves (S u : bT9) : Prop := (b9g_told u) = (b9g_told S) ∧ (b9g_now u) = (b9g_now S) ∧ (b9g_keys u) = (b9g_keys S) ∧ (b9g_lengths u) = (b9g_lengths S) ∧ (b9g_drawn u) = (b9g_drawn S) ∧ (b9g_drawnLength u) = (b9g_drawnLength S) ∧ (b9g_tape u) = (b9g_tape S) ∧ (b9g_taped u) = (b9g_taped S) ∧ (b9g_names u) = (b9g_names S) ∧ (b9g_chosen u) = (b9g_chosen S) ∧ (b9g_nodeLevel u) = (b9g_nodeLevel S) ∧ (b9g_nodeLeaf u) = (b9g_nodeLeaf S) ∧ (b9g_nodeLeaves u) = (b9g_nodeLeaves S) ∧ (b9g_nodeMany u) = (b9g_nodeMany S) ∧ (b9g_levelMany u) = (b9g_levelMany S) ∧ (b9g_upper u) = (b9g_upper S) ∧ (b9g_upperNodes u) = (b9g_upperNodes S) ∧ (b9g_areNodesLaid u) = (b9g_areNodesLaid S) ∧ (b9g_itemNode u) = (b9g_itemNode S) ∧ (b9g_itemByte u) = (b9g_itemByte S) ∧ (b9g_itemChild u) = (b9g_itemChild S) ∧ (b9g_itemMany u) = (b9g_itemMany S) ∧ (b9g_placeOf u) = (b9g_placeOf S) ∧ (b9g_leafOfPlace u) = (b9g_leafOfPlace S) ∧ (b9g_places u) = (b9g_places S) ∧ (b9g_lowKey u) = (b9g_lowKey S) ∧ (b9g_highKey u) = (b9g_highKey S) ∧ (b9g_lowLength u) = (b9g_lowLength S) ∧ (b9g_highLength u) = (b9g_highLength S) ∧ (b9g_fromKey u) = (b9g_fromKey S) ∧ (b9g_toKey u) = (b9g_toKey S) ∧ (b9g_fromLength u) = (b9g_fromLength S) ∧ (b9g_toLength u) = (b9g_toLength S) ∧ (b9g_ones u) = (b9g_ones S) ∧ (b9g_oneMany u) = (b9g_oneMany S) ∧ (b9g_rowLong u) = (b9g_rowLong S) ∧ (b9g_laidFor u) = (b9g_laidFor S) ∧ (b9g_signs u) = (b9g_signs S) ∧ (b9g_signMany u) = (b9g_signMany S) ∧ (b9g_hasImage u) = (b9g_hasImage S) ∧ (b9g_images u) = (b9g_images S) ∧ (b9g_keyImages u) = (b9g_keyImages S) ∧ (b9g_lengthImages u) = (b9g_lengthImages S)
set_option maxRecDepth 20000 in
set_option maxHeartbeats 8000000 in
theorem sf_X9_leaves {S : bT9} (hJ : J9 S) {Q : Int32 → (bT9) → Prop} (hq : ∀ (r : Int32) (u : bT9), (J9 u) → F_X9_leaves S u → (r.toInt = (b9g_now u 9).toInt) → ((b9g_isLaid u).toInt ≠ 0) → Q r u) : wp_X9_leaves S Q := by
  unfold wp_X9_leaves
  have hFS : F_X9_leaves S S := ⟨rfl, rfl, rfl, rfl, rfl, rfl, rfl, rfl, rfl, rfl, rfl, rfl, rfl, rfl, rfl, rfl, rfl, rfl, rfl, rfl, rfl, rfl, rfl, rfl, rfl, rfl, rfl, rfl, rfl, rfl, rfl, rfl, rfl, rfl, rfl, rfl, rfl, rfl, rfl, rfl, rfl, rfl, rfl⟩
  have jf1 : (-4 ≤ ((b9g_now S) 1).toInt ∧ ((b9g_now S) 1).toInt ≤ 4) ∧ (-3 ≤ ((b9g_now S) 4).toInt ∧ ((b9g_now S) 4).toInt ≤ 252) ∧ (0 ≤ ((b9g_now S) 8).toInt ∧ ((b9g_now S) 8).toInt ≤ 64) ∧ (0 ≤ ((b9g_now S) 9).toInt ∧ ((b9g_now S) 9).toInt ≤ 64) ∧ (0 ≤ ((b9g_now S) 10).toInt ∧ ((b9g_now S) 10).toInt ≤ 16) ∧ (0 ≤ ((b9g_now S) 12).toInt ∧ ((b9g_now S) 12).toInt ≤ 8) := J9g_now hJ
  have ju1_S := hJ.2.1
  refine sf_X9_laysBeginnings hJ (fun u2 hJu2 hfu2 hr1_0 => ?_)
  have hFu2 : F_X9_leaves S u2 := ⟨(congrArg (fun z => z) hfu2.1).trans hFS.1, (congrArg (fun z => z) hfu2.2.1).trans hFS.2.1, (congrArg (fun z => z) hfu2.2.2.1).trans hFS.2.2.1, (congrArg (fun z => z) hfu2.2.2.2.1).trans hFS.2.2.2.1, (congrArg (fun z => z) hfu2.2.2.2.2.1).trans hFS.2.2.2.2.1, (congrArg (fun z => z) hfu2.2.2.2.2.2.1).trans hFS.2.2.2.2.2.1, (congrArg (fun z => z) hfu2.2.2.2.2.2.2.1).trans hFS.2.2.2.2.2.2.1, (congrArg (fun z => z) hfu2.2.2.2.2.2.2.2.1).trans hFS.2.2.2.2.2.2.2.1, (congrArg (fun z => z) hfu2.2.2.2.2.2.2.2.2.1).trans hFS.2.2.2.2.2.2.2.2.1, (congrArg (fun z => z) hfu2.2.2.2.2.2.2.2.2.2.1).trans hFS.2.2.2.2.2.2.2.2.2.1, (congrArg (fun z => z) hfu2.2.2.2.2.2.2.2.2.2.2.1).trans hFS.2.2.2.2.2.2.2.2.2.2.1, (congrArg (fun z => z) hfu2.2.2.2.2.2.2.2.2.2.2.2.1).trans hFS.2.2.2.2.2.2.2.2.2.2.2.1, (congrArg (fun z => z) hfu2.2.2.2.2.2.2.2.2.2.2.2.2.1).trans hFS.2.2.2.2.2.2.2.2.2.2.2.2.1, (congrArg (fun z => z) hfu2.2.2.2.2.2.2.2.2.2.2.2.2.2.1).trans hFS.2.2.2.2.2.2.2.2.2.2.2.2.2.1, (congrArg (fun z => z) hfu2.2.2.2.2.2.2.2.2.2.2.2.2.2.2.1).trans hFS.2.2.2.2.2.2.2.2.2.2.2.2.2.2.1, (congrArg (fun z => z) hfu2.2.2.2.2.2.2.2.2.2.2.2.2.2.2.2.1).trans hFS.2.2.2.2.2.2.2.2.2.2.2.2.2.2.2.1, (congrArg (fun z => z) hfu2.2.2.2.2.2.2.2.2.2.2.2.2.2.2.2.2.1).trans hFS.2.2.2.2.2.2.2.2.2.2.2.2.2.2.2.2.1, (congrArg (fun z => z) hfu2.2.2.2.2.2.2.2.2.2.2.2.2.2.2.2.2.2.1).trans hFS.2.2.2.2.2.2.2.2.2.2.2.2.2.2.2.2.2.1, (congrArg (fun z => z) hfu2.2.2.2.2.2.2.2.2.2.2.2.2.2.2.2.2.2.2.1).trans hFS.2.2.2.2.2.2.2.2.2.2.2.2.2.2.2.2.2.2.1, (congrArg (fun z => z) hfu2.2.2.2.2.2.2.2.2.2.2.2.2.2.2.2.2.2.2.2.1).trans hFS.2.2.2.2.2.2.2.2.2.2.2.2.2.2.2.2.2.2.2.1, (congrArg (fun z => z) hfu2.2.2.2.2.2.2.2.2.2.2.2.2.2.2.2.2.2.2.2.2.1).trans hFS.2.2.2.2.2.2.2.2.2.2.2.2.2.2.2.2.2.2.2.2.1, (congrArg (fun z => z) hfu2.2.2.2.2.2.2.2.2.2.2.2.2.2.2.2.2.2.2.2.2.2.1).trans hFS.2.2.2.2.2.2.2.2.2.2.2.2.2.2.2.2.2.2.2.2.2.1, (congrArg (fun z => z) hfu2.2.2.2.2.2.2.2.2.2.2.2.2.2.2.2.2.2.2.2.2.2.2.1).trans hFS.2.2.2.2.2.2.2.2.2.2.2.2.2.2.2.2.2.2.2.2.2.2.1, (congrArg (fun z => z) hfu2.2.2.2.2.2.2.2.2.2.2.2.2.2.2.2.2.2.2.2.2.2.2.2.1).trans hFS.2.2.2.2.2.2.2.2.2.2.2.2.2.2.2.2.2.2.2.2.2.2.2.1, (congrArg (fun z => z) hfu2.2.2.2.2.2.2.2.2.2.2.2.2.2.2.2.2.2.2.2.2.2.2.2.2.1).trans hFS.2.2.2.2.2.2.2.2.2.2.2.2.2.2.2.2.2.2.2.2.2.2.2.2.1, (congrArg (fun z => z) hfu2.2.2.2.2.2.2.2.2.2.2.2.2.2.2.2.2.2.2.2.2.2.2.2.2.2.1).trans hFS.2.2.2.2.2.2.2.2.2.2.2.2.2.2.2.2.2.2.2.2.2.2.2.2.2.1, (congrArg (fun z => z) hfu2.2.2.2.2.2.2.2.2.2.2.2.2.2.2.2.2.2.2.2.2.2.2.2.2.2.2.1).trans hFS.2.2.2.2.2.2.2.2.2.2.2.2.2.2.2.2.2.2.2.2.2.2.2.2.2.2.1, (congrArg (fun z => z) hfu2.2.2.2.2.2.2.2.2.2.2.2.2.2.2.2.2.2.2.2.2.2.2.2.2.2.2.2.1).trans hFS.2.2.2.2.2.2.2.2.2.2.2.2.2.2.2.2.2.2.2.2.2.2.2.2.2.2.2.1, (congrArg (fun z => z) hfu2.2.2.2.2.2.2.2.2.2.2.2.2.2.2.2.2.2.2.2.2.2.2.2.2.2.2.2.2.1).trans hFS.2.2.2.2.2.2.2.2.2.2.2.2.2.2.2.2.2.2.2.2.2.2.2.2.2.2.2.2.1, (congrArg (fun z => z) hfu2.2.2.2.2.2.2.2.2.2.2.2.2.2.2.2.2.2.2.2.2.2.2.2.2.2.2.2.2.2.1).trans hFS.2.2.2.2.2.2.2.2.2.2.2.2.2.2.2.2.2.2.2.2.2.2.2.2.2.2.2.2.2.1, (congrArg (fun z => z) hfu2.2.2.2.2.2.2.2.2.2.2.2.2.2.2.2.2.2.2.2.2.2.2.2.2.2.2.2.2.2.2.1).trans hFS.2.2.2.2.2.2.2.2.2.2.2.2.2.2.2.2.2.2.2.2.2.2.2.2.2.2.2.2.2.2.1, (congrArg (fun z => z) hfu2.2.2.2.2.2.2.2.2.2.2.2.2.2.2.2.2.2.2.2.2.2.2.2.2.2.2.2.2.2.2.2.1).trans hFS.2.2.2.2.2.2.2.2.2.2.2.2.2.2.2.2.2.2.2.2.2.2.2.2.2.2.2.2.2.2.2.1, (congrArg (fun z => z) hfu2.2.2.2.2.2.2.2.2.2.2.2.2.2.2.2.2.2.2.2.2.2.2.2.2.2.2.2.2.2.2.2.2.1).trans hFS.2.2.2.2.2.2.2.2.2.2.2.2.2.2.2.2.2.2.2.2.2.2.2.2.2.2.2.2.2.2.2.2.1, (congrArg (fun z => z) hfu2.2.2.2.2.2.2.2.2.2.2.2.2.2.2.2.2.2.2.2.2.2.2.2.2.2.2.2.2.2.2.2.2.2.1).trans hFS.2.2.2.2.2.2.2.2.2.2.2.2.2.2.2.2.2.2.2.2.2.2.2.2.2.2.2.2.2.2.2.2.2.1, (congrArg (fun z => z) hfu2.2.2.2.2.2.2.2.2.2.2.2.2.2.2.2.2.2.2.2.2.2.2.2.2.2.2.2.2.2.2.2.2.2.2.1).trans hFS.2.2.2.2.2.2.2.2.2.2.2.2.2.2.2.2.2.2.2.2.2.2.2.2.2.2.2.2.2.2.2.2.2.2.1, (congrArg (fun z => z) hfu2.2.2.2.2.2.2.2.2.2.2.2.2.2.2.2.2.2.2.2.2.2.2.2.2.2.2.2.2.2.2.2.2.2.2.2.1).trans hFS.2.2.2.2.2.2.2.2.2.2.2.2.2.2.2.2.2.2.2.2.2.2.2.2.2.2.2.2.2.2.2.2.2.2.2.1, (congrArg (fun z => z) hfu2.2.2.2.2.2.2.2.2.2.2.2.2.2.2.2.2.2.2.2.2.2.2.2.2.2.2.2.2.2.2.2.2.2.2.2.2.1).trans hFS.2.2.2.2.2.2.2.2.2.2.2.2.2.2.2.2.2.2.2.2.2.2.2.2.2.2.2.2.2.2.2.2.2.2.2.2.1, (congrArg (fun z => z) hfu2.2.2.2.2.2.2.2.2.2.2.2.2.2.2.2.2.2.2.2.2.2.2.2.2.2.2.2.2.2.2.2.2.2.2.2.2.2.1).trans hFS.2.2.2.2.2.2.2.2.2.2.2.2.2.2.2.2.2.2.2.2.2.2.2.2.2.2.2.2.2.2.2.2.2.2.2.2.2.1, (congrArg (fun z => z) hfu2.2.2.2.2.2.2.2.2.2.2.2.2.2.2.2.2.2.2.2.2.2.2.2.2.2.2.2.2.2.2.2.2.2.2.2.2.2.2.1).trans hFS.2.2.2.2.2.2.2.2.2.2.2.2.2.2.2.2.2.2.2.2.2.2.2.2.2.2.2.2.2.2.2.2.2.2.2.2.2.2.1, (congrArg (fun z => z) hfu2.2.2.2.2.2.2.2.2.2.2.2.2.2.2.2.2.2.2.2.2.2.2.2.2.2.2.2.2.2.2.2.2.2.2.2.2.2.2.2.1).trans hFS.2.2.2.2.2.2.2.2.2.2.2.2.2.2.2.2.2.2.2.2.2.2.2.2.2.2.2.2.2.2.2.2.2.2.2.2.2.2.2.1, (congrArg (fun z => z) hfu2.2.2.2.2.2.2.2.2.2.2.2.2.2.2.2.2.2.2.2.2.2.2.2.2.2.2.2.2.2.2.2.2.2.2.2.2.2.2.2.2.1).trans hFS.2.2.2.2.2.2.2.2.2.2.2.2.2.2.2.2.2.2.2.2.2.2.2.2.2.2.2.2.2.2.2.2.2.2.2.2.2.2.2.2.1, (congrArg (fun z => z) hfu2.2.2.2.2.2.2.2.2.2.2.2.2.2.2.2.2.2.2.2.2.2.2.2.2.2.2.2.2.2.2.2.2.2.2.2.2.2.2.2.2.2.1).trans hFS.2.2.2.2.2.2.2.2.2.2.2.2.2.2.2.2.2.2.2.2.2.2.2.2.2.2.2.2.2.2.2.2.2.2.2.2.2.2.2.2.2.1, (congrArg (fun z => z) hfu2.2.2.2.2.2.2.2.2.2.2.2.2.2.2.2.2.2.2.2.2.2.2.2.2.2.2.2.2.2.2.2.2.2.2.2.2.2.2.2.2.2.2).trans hFS.2.2.2.2.2.2.2.2.2.2.2.2.2.2.2.2.2.2.2.2.2.2.2.2.2.2.2.2.2.2.2.2.2.2.2.2.2.2.2.2.2.2⟩
  have je3 : ((b9g_now u2) 1).toInt = ((b9g_now S) 1).toInt := congrArg (fun z => (z 1).toInt) hFu2.2.1
  have je5 : ((b9g_now u2) 4).toInt = ((b9g_now S) 4).toInt := congrArg (fun z => (z 4).toInt) hFu2.2.1
  have je7 : ((b9g_now u2) 7).toInt = ((b9g_now S) 7).toInt := congrArg (fun z => (z 7).toInt) hFu2.2.1
  have je9 : ((b9g_now u2) 8).toInt = ((b9g_now S) 8).toInt := congrArg (fun z => (z 8).toInt) hFu2.2.1
  have je11 : ((b9g_now u2) 9).toInt = ((b9g_now S) 9).toInt := congrArg (fun z => (z 9).toInt) hFu2.2.1
  have je13 : ((b9g_now u2) 10).toInt = ((b9g_now S) 10).toInt := congrArg (fun z => (z 10).toInt) hFu2.2.1
  have je15 : ((b9g_now u2) 12).toInt = ((b9g_now S) 12).toInt := congrArg (fun z => (z 12).toInt) hFu2.2.1
  have ju15_u2 := hJu2.2.1
  refine ⟨pt_in (by (try simp (disch := first | ((try simp (disch := first | ((try simp only [pn]) <;> omega) | fail) only [pn, pq]) <;> omega) | fail) only [pn, pq]) <;> (intros; (try simp (disch := first | ((try simp (disch := first | ((try simp only [pn]) <;> omega) | fail) only [pn, pq]) <;> omega) | fail) only [pn, pq]) <;> omega)) (by (try simp (disch := first | ((try simp (disch := first | ((try simp only [pn]) <;> omega) | fail) only [pn, pq]) <;> omega) | fail) only [pn, pq]) <;> (intros; (try simp (disch := first | ((try simp (disch := first | ((try simp only [pn]) <;> omega) | fail) only [pn, pq]) <;> omega) | fail) only [pn, pq]) <;> omega)), ?_⟩
  exact hq _ _ hJu2 hFu2 (by (try simp (disch := first | ((try simp (disch := first | ((try simp only [pn]) <;> omega) | fail) only [pn, pq]) <;> omega) | fail) only [pn, pq]) <;> (intros; (try simp (disch := first | ((try simp (disch := first | ((try simp only [pn]) <;> omega) | fail) only [pn, pq]) <;> omega) | fail) only [pn, pq]) <;> omega)) (by (assumption))
set_option maxRecDepth 20000 in
set_option maxHeartbeats 8000000 in
theorem sf_X9_isEnded {S : bT9} (hJ : K9 S) {a1 : Int32} {Q : Int32 → Prop} (hp0 : 0 ≤ a1.toInt) (hp1 : a1.toInt ≤ 63) (hq : ∀ r : Int32, bf_bool r → Q r) : wp_X9_isEnded S a1 Q := by
  unfold wp_X9_isEnded
  have jf1 : (-4 ≤ ((b9g_now S) 1).toInt ∧ ((b9g_now S) 1).toInt ≤ 4) ∧ (-3 ≤ ((b9g_now S) 4).toInt ∧ ((b9g_now S) 4).toInt ≤ 252) ∧ (0 ≤ ((b9g_now S) 8).toInt ∧ ((b9g_now S) 8).toInt ≤ 64) ∧ (0 ≤ ((b9g_now S) 9).toInt ∧ ((b9g_now S) 9).toInt ≤ 64) ∧ (0 ≤ ((b9g_now S) 10).toInt ∧ ((b9g_now S) 10).toInt ≤ 16) ∧ (0 ≤ ((b9g_now S) 12).toInt ∧ ((b9g_now S) 12).toInt ≤ 8) := K9g_now hJ
  have rga1 := pt_rg a1
  refine ⟨pt_in (by (try simp (disch := first | ((try simp (disch := first | ((try simp only [pn]) <;> omega) | fail) only [pn, pq]) <;> omega) | fail) only [pn, pq]) <;> (intros; (try simp (disch := first | ((try simp (disch := first | ((try simp only [pn]) <;> omega) | fail) only [pn, pq]) <;> omega) | fail) only [pn, pq]) <;> omega)) (by (try simp (disch := first | ((try simp (disch := first | ((try simp only [pn]) <;> omega) | fail) only [pn, pq]) <;> omega) | fail) only [pn, pq]) <;> (intros; (try simp (disch := first | ((try simp (disch := first | ((try simp only [pn]) <;> omega) | fail) only [pn, pq]) <;> omega) | fail) only [pn, pq]) <;> omega)), ?_⟩
  have jr2 := K9g_common hJ (a1).toNatClampNeg
  try simp (disch := first | ((try simp (disch := first | ((try simp only [pn]) <;> omega) | fail) only [pn, pq]) <;> omega) | fail) only [pn, pq] at jr2
  refine sf_X9_lengthOf hJ (by (try simp (disch := first | ((try simp (disch := first | ((try simp only [pn]) <;> omega) | fail) only [pn, pq]) <;> omega) | fail) only [pn, pq]) <;> (intros; (try simp (disch := first | ((try simp (disch := first | ((try simp only [pn]) <;> omega) | fail) only [pn, pq]) <;> omega) | fail) only [pn, pq]) <;> omega)) (by (try simp (disch := first | ((try simp (disch := first | ((try simp only [pn]) <;> omega) | fail) only [pn, pq]) <;> omega) | fail) only [pn, pq]) <;> (intros; (try simp (disch := first | ((try simp (disch := first | ((try simp only [pn]) <;> omega) | fail) only [pn, pq]) <;> omega) | fail) only [pn, pq]) <;> omega)) (fun r1 hr1_0 hr1_1 hr1_2 => ?_)
  have rgr1 := pt_rg r1
  try simp (disch := first | ((try simp (disch := first | ((try simp only [pn]) <;> omega) | fail) only [pn, pq]) <;> omega) | fail) only [pn, pq] at hr1_0
  try simp (disch := first | ((try simp (disch := first | ((try simp only [pn]) <;> omega) | fail) only [pn, pq]) <;> omega) | fail) only [pn, pq] at hr1_1
  try simp (disch := first | ((try simp (disch := first | ((try simp only [pn]) <;> omega) | fail) only [pn, pq]) <;> omega) | fail) only [pn, pq] at hr1_2
  refine ⟨fun c3 => ?_, fun c3 => ?_⟩
  · try simp (disch := first | ((try simp (disch := first | ((try simp only [pn]) <;> omega) | fail) only [pn, pq]) <;> omega) | fail) only [pn, pq] at c3
    exact ⟨by first | rfl | assumption, hq _ (by first | rfl | assumption) ⟩
  · try simp (disch := first | ((try simp (disch := first | ((try simp only [pn]) <;> omega) | fail) only [pn, pq]) <;> omega) | fail) only [pn, pq] at c3
    exact ⟨by first | rfl | assumption, hq _ (by first | rfl | assumption) ⟩
def F_X9_build (S u : bT9) : Prop := (b9g_drawn u) = (b9g_drawn S) ∧ (b9g_drawnLength u) = (b9g_drawnLength S) ∧ (b9g_tape u) = (b9g_tape S) ∧ (b9g_taped u) = (b9g_taped S) ∧ (b9g_names u) = (b9g_names S) ∧ (b9g_chosen u) = (b9g_chosen S) ∧ (b9g_common u) = (b9g_common S) ∧ (b9g_beginning u) = (b9g_beginning S) ∧ (b9g_nodeLevel u) = (b9g_nodeLevel S) ∧ (b9g_nodeLeaf u) = (b9g_nodeLeaf S) ∧ (b9g_nodeLeaves u) = (b9g_nodeLeaves S) ∧ (b9g_nodeMany u) = (b9g_nodeMany S) ∧ (b9g_levelMany u) = (b9g_levelMany S) ∧ (b9g_upper u) = (b9g_upper S) ∧ (b9g_upperNodes u) = (b9g_upperNodes S) ∧ (b9g_itemNode u) = (b9g_itemNode S) ∧ (b9g_itemByte u) = (b9g_itemByte S) ∧ (b9g_itemChild u) = (b9g_itemChild S) ∧ (b9g_itemMany u) = (b9g_itemMany S) ∧ (b9g_placeOf u) = (b9g_placeOf S) ∧ (b9g_leafOfPlace u) = (b9g_leafOfPlace S) ∧ (b9g_places u) = (b9g_places S) ∧ (b9g_lowKey u) = (b9g_lowKey S) ∧ (b9g_highKey u) = (b9g_highKey S) ∧ (b9g_lowLength u) = (b9g_lowLength S) ∧ (b9g_highLength u) = (b9g_highLength S) ∧ (b9g_fromKey u) = (b9g_fromKey S) ∧ (b9g_toKey u) = (b9g_toKey S) ∧ (b9g_fromLength u) = (b9g_fromLength S) ∧ (b9g_toLength u) = (b9g_toLength S) ∧ (b9g_ones u) = (b9g_ones S) ∧ (b9g_oneMany u) = (b9g_oneMany S) ∧ (b9g_rowLong u) = (b9g_rowLong S) ∧ (b9g_laidFor u) = (b9g_laidFor S) ∧ (b9g_signs u) = (b9g_signs S) ∧ (b9g_signMany u) = (b9g_signMany S) ∧ (b9g_hasImage u) = (b9g_hasImage S) ∧ (b9g_images u) = (b9g_images S) ∧ (b9g_keyImages u) = (b9g_keyImages S) ∧ (b9g_lengthImages u) = (b9g_lengthImages S)
theorem sf_X9_build {S : bT9} (hJ : J9 S) {Q : Int32 → (bT9) → Prop} (hq : ∀ (r : Int32) (u : bT9), (J9 u) → F_X9_build S u → (r.toInt = (b9g_now S 8).toInt) → (b9g_now u 8 = b9g_now S 8) → (b9g_now u 4 = b9g_now S 4) → (∀ j : Nat, j < 64 → b9g_keys u j = b9g_keys S j ∧ b9g_lengths u j = b9g_lengths S j) → (∀ j : Nat, (j : Int) < (b9g_now S 8).toInt → b9g_keys u (64 + j) = b9g_keys S j ∧ b9g_lengths u (64 + j) = b9g_lengths S j) → (b9g_now u 9 = b9g_now S 8) → (b9g_now u 11 = b9g_now S 0 + 4 ∧ b9g_now u 12 = b9g_now S 1 + 4 ∧ b9g_now u 13 = b9g_now S 2 + 9 + 1 ∧ b9g_now u 14 = b9g_now S 3 + 16 ∧ b9g_now u 15 = b9g_now S 6 ∧ b9g_now u 16 = b9g_now S 5) → (∀ i : Nat, i < 11 → i ≠ 9 → b9g_now u i = b9g_now S i) → (∀ i : Nat, 17 ≤ i → b9g_now u i = b9g_now S i) → ((b9g_areNodesLaid u).toInt = 0) → (b9g_now u 10 = b9g_now S 10) → (b9g_now u 7 = b9g_now S 7) → Q r u) : wp_X9_build S Q := by
  have jn := (J9g_now hJ).2.2.1
  have c8 : ((8 : Int32)).toNatClampNeg = 8 := by decide
  have v8 : vp_in (8 : Int32) 23 := pt_in (by decide) (by decide)
  unfold wp_X9_build
  intro S0 e0
  have hJ0 : M9 S0 := by rw [e0]; exact ⟨K9s_told hJ.1, hJ.2.1⟩
  have hF0 : F_X9_build S S0 := by rw [e0]; exact ⟨rfl, rfl, rfl, rfl, rfl, rfl, rfl, rfl, rfl, rfl, rfl, rfl, rfl, rfl, rfl, rfl, rfl, rfl, rfl, rfl, rfl, rfl, rfl, rfl, rfl, rfl, rfl, rfl, rfl, rfl, rfl, rfl, rfl, rfl, rfl, rfl, rfl, rfl, rfl, rfl⟩
  have k0 : b9g_keys S0 = b9g_keys S := by rw [e0]
  have l0 : b9g_lengths S0 = b9g_lengths S := by rw [e0]
  have n0 : b9g_now S0 = b9g_now S := by rw [e0]
  unfold wp_X9_build_7
  refine ⟨fun n x1 V => 0 ≤ x1.toInt ∧ x1.toInt ≤ (b9g_now S 8).toInt ∧ M9 V ∧ F_X9_build S V ∧ b9g_now V = b9g_now S ∧ (∀ j : Nat, j < 64 → b9g_keys V j = b9g_keys S j ∧ b9g_lengths V j = b9g_lengths S j) ∧ (∀ j : Nat, (j : Int) < x1.toInt → b9g_keys V (64 + j) = b9g_keys S j ∧ b9g_lengths V (64 + j) = b9g_lengths S j) ∧ n = ((b9g_now S 8).toInt - x1.toInt).toNat, ⟨_, by decide, by rw [pl_0]; exact jn.1, hJ0, hF0, n0, fun j hj => ⟨by rw [k0], by rw [l0]⟩, fun j hj => by rw [pl_0] at hj; omega, rfl⟩, ?_⟩
  rintro n x1 V ⟨h0, h1, hJV, hFV, nV, lo, hi, hn⟩
  unfold wp_X9_build_7b
  rw [c8, nV]
  refine ⟨v8, fun c => ?_, fun c => ?_⟩
  · simp only [pn] at c
    have ex : x1.toInt = (b9g_now S 8).toInt := by omega
    rw [ex] at hi
    refine ⟨v8, pt_in (by decide) (by decide), fun S1 e1 => ?_⟩
    have n1 : b9g_now S1 = upd (b9g_now S) 9 (b9g_now S 8) := by rw [e1]; rfl
    have hJ1 : M9 S1 := by rw [e1, ← nV]; exact ⟨K9s_now hJV.1 (NW_set (K9g_now hJV.1) (fun e => absurd e (by decide)) (fun e => absurd e (by decide)) (fun e => absurd e (by decide)) (fun _ => by rw [nV]; exact jn) (fun e => absurd e (by decide)) (fun e => absurd e (by decide))), hJV.2⟩
    refine sf_X9_settingOf hJ1.1 (by decide) (by decide) (fun r2 _ _ _ s2 => ⟨pt_in (by decide) (by decide), fun S4 e4 => ?_⟩)
    have n4 : b9g_now S4 = upd (b9g_now S1) 11 r2 := by rw [e4]; rfl
    have hJ4 : M9 S4 := by rw [e4]; exact ⟨K9s_now hJ1.1 (NW_set (K9g_now hJ1.1) (fun e => absurd e (by decide)) (fun e => absurd e (by decide)) (fun e => absurd e (by decide)) (fun e => absurd e (by decide)) (fun e => absurd e (by decide)) (fun e => absurd e (by decide))), hJ1.2⟩
    refine sf_X9_settingOf hJ4.1 (by decide) (by decide) (fun r5 _ q5 _ s5 => ⟨pt_in (by decide) (by decide), fun S7 e7 => ?_⟩)
    have n7 : b9g_now S7 = upd (b9g_now S4) 12 r5 := by rw [e7]; rfl
    have hJ7 : M9 S7 := by rw [e7]; exact ⟨K9s_now hJ4.1 (NW_set (K9g_now hJ4.1) (fun e => absurd e (by decide)) (fun e => absurd e (by decide)) (fun e => absurd e (by decide)) (fun e => absurd e (by decide)) (fun e => absurd e (by decide)) (fun _ => q5 (by decide))), hJ4.2⟩
    refine sf_X9_settingOf hJ7.1 (by decide) (by decide) (fun r8 _ _ _ s8 => ⟨pt_in (by decide) (by decide), fun S10 e10 => ?_⟩)
    have n10 : b9g_now S10 = upd (b9g_now S7) 13 (r8 + 1) := by rw [e10]; rfl
    have hJ10 : M9 S10 := by rw [e10]; exact ⟨K9s_now hJ7.1 (NW_set (K9g_now hJ7.1) (fun e => absurd e (by decide)) (fun e => absurd e (by decide)) (fun e => absurd e (by decide)) (fun e => absurd e (by decide)) (fun e => absurd e (by decide)) (fun e => absurd e (by decide))), hJ7.2⟩
    refine sf_X9_settingOf hJ10.1 (by decide) (by decide) (fun r11 _ _ _ s11 => ⟨pt_in (by decide) (by decide), fun S13 e13 => ?_⟩)
    have n13 : b9g_now S13 = upd (b9g_now S10) 14 r11 := by rw [e13]; rfl
    have hJ13 : M9 S13 := by rw [e13]; exact ⟨K9s_now hJ10.1 (NW_set (K9g_now hJ10.1) (fun e => absurd e (by decide)) (fun e => absurd e (by decide)) (fun e => absurd e (by decide)) (fun e => absurd e (by decide)) (fun e => absurd e (by decide)) (fun e => absurd e (by decide))), hJ10.2⟩
    refine ⟨pt_in (by decide) (by decide), pt_in (by decide) (by decide), fun S14 e14 => ?_⟩
    have n14 : b9g_now S14 = upd (b9g_now S13) 15 (b9g_now S13 6) := by rw [e14]; rfl
    have hJ14 : M9 S14 := by rw [e14]; exact ⟨K9s_now hJ13.1 (NW_set (K9g_now hJ13.1) (fun e => absurd e (by decide)) (fun e => absurd e (by decide)) (fun e => absurd e (by decide)) (fun e => absurd e (by decide)) (fun e => absurd e (by decide)) (fun e => absurd e (by decide))), hJ13.2⟩
    refine ⟨pt_in (by decide) (by decide), pt_in (by decide) (by decide), fun S15 e15 S16 e16 S17 e17 => ⟨pt_in (by decide) (by decide), ?_⟩⟩
    have n15 : b9g_now S15 = upd (b9g_now S14) 16 (b9g_now S14 5) := by rw [e15]; rfl
    have hJ15 : M9 S15 := by rw [e15]; exact ⟨K9s_now hJ14.1 (NW_set (K9g_now hJ14.1) (fun e => absurd e (by decide)) (fun e => absurd e (by decide)) (fun e => absurd e (by decide)) (fun e => absurd e (by decide)) (fun e => absurd e (by decide)) (fun e => absurd e (by decide))), hJ14.2⟩
    have hJ17 : J9 S17 := by rw [e17, e16]; exact ⟨K9s_areNodesLaid (K9s_isLaid hJ15.1), hJ15.2, LD_0 rfl⟩
    have n17 : b9g_now S17 = b9g_now S15 := by rw [e17, e16]
    have oth : ∀ i : Nat, i ≠ 9 → i < 11 → b9g_now S17 i = b9g_now S i := by
      intro i h9 h11
      rw [n17, n15, n14, n13, n10, n7, n4, n1]
      unfold upd
      rw [if_neg (by omega), if_neg (by omega), if_neg (by omega), if_neg (by omega), if_neg (by omega), if_neg (by omega), if_neg h9]
    have o9 : b9g_now S17 9 = b9g_now S 8 := by
      rw [n17, n15, n14, n13, n10, n7, n4, n1]
      unfold upd
      rw [if_neg (by decide), if_neg (by decide), if_neg (by decide), if_neg (by decide), if_neg (by decide), if_neg (by decide), if_pos rfl]
    have k17 : b9g_keys S17 = b9g_keys V := by rw [e17, e16, e15, e14, e13, e10, e7, e4, e1]
    have l17 : b9g_lengths S17 = b9g_lengths V := by rw [e17, e16, e15, e14, e13, e10, e7, e4, e1]
    have hF17 : F_X9_build S S17 := by rw [e17, e16, e15, e14, e13, e10, e7, e4, e1]; exact hFV
    have b11 : b9g_now S17 11 = b9g_now S 0 + 4 := by
      have q : b9g_now S1 0 = b9g_now S 0 := by rw [n1, up_n (by decide)]
      have z : r2 = b9g_now S1 0 + FST 0 := s2
      rw [n17, n15, n14, n13, n10, n7, n4, up_n (by decide), up_n (by decide), up_n (by decide), up_n (by decide), up_n (by decide), up_s, z, q]
      rfl
    have b12 : b9g_now S17 12 = b9g_now S 1 + 4 := by
      have q : b9g_now S4 1 = b9g_now S 1 := by rw [n4, n1, up_n (by decide), up_n (by decide)]
      have z : r5 = b9g_now S4 1 + FST 1 := s5
      rw [n17, n15, n14, n13, n10, n7, up_n (by decide), up_n (by decide), up_n (by decide), up_n (by decide), up_s, z, q]
      rfl
    have b13 : b9g_now S17 13 = b9g_now S 2 + 9 + 1 := by
      have q : b9g_now S7 2 = b9g_now S 2 := by rw [n7, n4, n1, up_n (by decide), up_n (by decide), up_n (by decide)]
      have z : r8 = b9g_now S7 2 + FST 2 := s8
      rw [n17, n15, n14, n13, n10, up_n (by decide), up_n (by decide), up_n (by decide), up_s, z, q]
      rfl
    have b14 : b9g_now S17 14 = b9g_now S 3 + 16 := by
      have q : b9g_now S10 3 = b9g_now S 3 := by rw [n10, n7, n4, n1, up_n (by decide), up_n (by decide), up_n (by decide), up_n (by decide)]
      have z : r11 = b9g_now S10 3 + FST 3 := s11
      rw [n17, n15, n14, n13, up_n (by decide), up_n (by decide), up_s, z, q]
      rfl
    have b15 : b9g_now S17 15 = b9g_now S 6 := by
      have q : b9g_now S13 6 = b9g_now S 6 := by rw [n13, n10, n7, n4, n1, up_n (by decide), up_n (by decide), up_n (by decide), up_n (by decide), up_n (by decide)]
      rw [n17, n15, n14, up_n (by decide), up_s, q]
    have b16 : b9g_now S17 16 = b9g_now S 5 := by
      have q : b9g_now S14 5 = b9g_now S 5 := by rw [n14, n13, n10, n7, n4, n1, up_n (by decide), up_n (by decide), up_n (by decide), up_n (by decide), up_n (by decide), up_n (by decide)]
      rw [n17, n15, up_s, q]
    have hi17 : ∀ i : Nat, 17 ≤ i → b9g_now S17 i = b9g_now S i := by
      intro i hi
      rw [n17, n15, n14, n13, n10, n7, n4, n1, up_n (by omega), up_n (by omega), up_n (by omega), up_n (by omega), up_n (by omega), up_n (by omega), up_n (by omega)]
    have c9 : ((9 : Int32)).toNatClampNeg = 9 := by decide
    rw [c9]
    exact hq _ _ hJ17 hF17 (by rw [o9]) (by rw [oth 8 (by decide) (by decide)]) (by rw [oth 4 (by decide) (by decide)]) (fun j hj => by rw [k17, l17]; exact lo j hj) (fun j hj => by rw [k17, l17]; exact hi j hj) o9 ⟨b11, b12, b13, b14, b15, b16⟩ (fun i h1 h2 => oth i h2 h1) hi17 (by rw [e17]; rfl) (oth 10 (by decide) (by decide)) (oth 7 (by decide) (by decide))
  · simp only [pn] at c
    have e64 : ((64 : Int32) + x1).toInt = 64 + x1.toInt := by rw [pt_add (by rw [pl_64]; omega) (by rw [pl_64]; omega), pl_64]
    have x1' : (x1 + 1).toInt = x1.toInt + 1 := by rw [pt_add (by rw [pl_1]; omega) (by rw [pl_1]; omega), pl_1]
    have cx := pt_clamp h0
    have c64 := pt_clamp (i := (64 : Int32) + x1) (by omega)
    have v1 : vp_in x1 144 := pt_in (by omega) (by omega)
    have v2 : vp_in ((64 : Int32) + x1) 144 := pt_in (by omega) (by omega)
    refine ⟨v1, v2, fun S4 d4 => ⟨v1, v2, fun S5 d5 => ?_⟩⟩
    have hJ4 : M9 S4 := by rw [d4]; exact ⟨K9s_keys hJV.1, hJV.2⟩
    have hJ5 : M9 S5 := by rw [d5]; exact ⟨K9s_lengths hJ4.1 (pt_updr (K9g_lengths hJ4.1) (K9g_lengths hJ4.1 _)), hJ4.2⟩
    have eb : b9g_keys S5 = vp_updL (b9g_keys V) ((64 : Int32) + x1).toNatClampNeg (b9g_keys V x1.toNatClampNeg) := by rw [d5, d4]
    have eg : b9g_lengths S5 = upd (b9g_lengths V) ((64 : Int32) + x1).toNatClampNeg (b9g_lengths V x1.toNatClampNeg) := by rw [d5, d4]
    refine ⟨_, ?_, by omega, by omega, hJ5, by rw [d5, d4]; exact hFV, by rw [d5, d4]; exact nV, fun j hj => ?_, fun j hj => ?_, rfl⟩
    · omega
    · rw [eb, eg]
      unfold vp_updL upd
      rw [if_neg (by omega), if_neg (by omega)]
      exact lo j hj
    · rw [eb, eg]
      unfold vp_updL upd
      by_cases h : 64 + j = ((64 : Int32) + x1).toNatClampNeg
      · rw [if_pos h, if_pos h, show x1.toNatClampNeg = j by omega]
        exact lo j (by omega)
      · rw [if_neg h, if_neg h]
        exact hi j (by omega)
theorem sf_X9_hashBits {S : bT9} (hJ : K9 S) {Q : Int32 → Prop} (hq : ∀ r : Int32, (r = HBT (b9g_now S)) → Q r) : wp_X9_hashBits S Q := by
  unfold wp_X9_hashBits
  refine ⟨pt_in (by decide) (by decide), by decide, fun c => ?_, fun c => ⟨pt_in (by decide) (by decide), ?_⟩⟩
  · have c' : ¬ b9g_now S 15 - b9g_now S 15 / (2 : Int32) * (2 : Int32) = (1 : Int32) := c
    exact hq _ (by unfold HBT; rw [if_neg c'])
  · have c' : b9g_now S 15 - b9g_now S 15 / (2 : Int32) * (2 : Int32) = (1 : Int32) := c
    exact hq _ (by unfold HBT; rw [if_pos c']; rfl)
theorem sf_X9_nextBits {S : bT9} (hJ : K9 S) {Q : Int32 → Prop} (hq : ∀ r : Int32, (0 ≤ r.toInt) → (r.toInt ≤ 8) → (r = NBT (b9g_now S)) → Q r) : wp_X9_nextBits S Q := by
  have n12 := (K9g_now hJ).2.2.2.2.2
  unfold wp_X9_nextBits
  refine ⟨pt_in (by decide) (by decide), fun c => ?_, fun c => ⟨pt_in (by decide) (by decide), ?_⟩⟩
  · have c' : b9g_now S 15 ≤ (1 : Int32) := c
    exact hq _ (by decide) (by decide) (by unfold NBT; rw [if_pos c'])
  · have c' : ¬ b9g_now S 15 ≤ (1 : Int32) := c
    exact hq _ n12.1 n12.2 (by unfold NBT; rw [if_neg c']; rfl)
theorem sf_X9_isAlike {S : bT9} (hJ : K9 S) {a1 : Int32} {a2 : Int32} {a3 : Int32} {Q : Int32 → Prop} (hp0 : 0 ≤ a1.toInt) (hp1 : a1.toInt ≤ 63) (hp2 : 0 ≤ a2.toInt) (hp3 : a2.toInt ≤ 63) (hq : ∀ r : Int32, bf_bool r → ((r.toInt = 1 ∧ AK (b9g_keys S) a3 a1.toNatClampNeg a2.toNatClampNeg) ∨ (r.toInt = 0 ∧ ¬ AK (b9g_keys S) a3 a1.toNatClampNeg a2.toNatClampNeg)) → Q r) : wp_X9_isAlike S a1 a2 a3 Q := by
  unfold wp_X9_isAlike
  refine sf_X9_key hJ hp0 hp1 (fun r1 e1 => sf_X9_cut hJ (fun r3 e3 => sf_X9_key hJ hp2 hp3 (fun r5 e5 => sf_X9_cut hJ (fun r7 e7 => ?_))))
  rw [ix64 hp0 hp1] at e1
  rw [ix64 hp2 hp3] at e5
  have hAK : AK (b9g_keys S) a3 a1.toNatClampNeg a2.toNatClampNeg ↔ r3 = r7 := by
    unfold AK
    rw [e3, e7, e1, e5]
  refine ⟨fun c => ⟨rfl, hq _ rfl (Or.inr ⟨rfl, ?_⟩)⟩, fun c => ⟨rfl, hq _ rfl (Or.inl ⟨rfl, ?_⟩)⟩⟩
  · intro h
    apply c
    rw [hAK.mp h]
    exact (lg_cmp_eq _ _).mpr rfl
  · rw [hAK]
    exact (lg_cmp_eq _ _).mp c
theorem sf_X9_firstLike {S : bT9} (hJ : K9 S) {a1 : Int32} {a2 : Int32} {Q : Int32 → Prop} (hp0 : 0 ≤ a1.toInt) (hp1 : a1.toInt ≤ 63) (hq : ∀ r : Int32, (0 ≤ r.toInt) → (r.toInt ≤ a1.toInt) → (∀ j : Nat, r.toInt ≤ j → (j : Int) < a1.toInt → a2.toInt ≤ (b9g_beginning S j).toInt ∧ AK (b9g_keys S) a2 j a1.toNatClampNeg) → (∀ j : Nat, (j : Int) + 1 = r.toInt → a2.toInt ≤ (b9g_beginning S j).toInt → ¬ AK (b9g_keys S) a2 j a1.toNatClampNeg) → Q r) : wp_X9_firstLike S a1 a2 Q := by
  unfold wp_X9_firstLike wp_X9_firstLike_2
  refine ⟨fun n x1 x2 x3 => x1 = a1 ∧ x2 = a2 ∧ 0 ≤ x3.toInt ∧ x3.toInt ≤ a1.toInt ∧ (∀ j : Nat, x3.toInt ≤ j → (j : Int) < a1.toInt → a2.toInt ≤ (b9g_beginning S j).toInt ∧ AK (b9g_keys S) a2 j a1.toNatClampNeg) ∧ n = x3.toInt.toNat, ⟨_, rfl, rfl, hp0, Int.le_refl _, fun j h1 h2 => by omega, rfl⟩, ?_⟩
  rintro n x1 x2 x3 ⟨rfl, rfl, h0, h1, h2, hn⟩
  unfold wp_X9_firstLike_2b
  refine ⟨fun c => ?_, fun c => ?_⟩
  · simp (disch := first | ((try simp (disch := first | ((try simp only [pn]) <;> omega) | fail) only [pn, pq]) <;> omega) | fail) only [pn, pq] at c
    exact hq _ h0 h1 h2 (fun j e => by omega)
  · simp (disch := first | ((try simp (disch := first | ((try simp only [pn]) <;> omega) | fail) only [pn, pq]) <;> omega) | fail) only [pn, pq] at c
    have e1 : (x3 - 1).toInt = x3.toInt - 1 := by rw [pt_sub (by rw [pl_1]; omega) (by rw [pl_1]; omega), pl_1]
    have e2 := pt_clamp (i := x3 - 1) (by omega)
    refine ⟨pt_in (by omega) (by omega), fun c2 => ?_, fun c2 => ?_⟩
    · simp (disch := first | ((try simp (disch := first | ((try simp only [pn]) <;> omega) | fail) only [pn, pq]) <;> omega) | fail) only [pn, pq] at c2
      refine hq _ h0 h1 h2 (fun j e h => ?_)
      have : j = (x3 - 1).toNatClampNeg := by omega
      subst this
      omega
    · simp (disch := first | ((try simp (disch := first | ((try simp only [pn]) <;> omega) | fail) only [pn, pq]) <;> omega) | fail) only [pn, pq] at c2
      refine sf_X9_isAlike hJ (by omega) (by omega) hp0 hp1 (fun r1 hz hr => ⟨fun c3 => ?_, fun c3 => ?_⟩)
      · simp (disch := first | ((try simp (disch := first | ((try simp only [pn]) <;> omega) | fail) only [pn, pq]) <;> omega) | fail) only [pn, pq] at c3
        refine hq _ h0 h1 h2 (fun j e h => ?_)
        have : j = (x3 - 1).toNatClampNeg := by omega
        subst this
        rcases hr with hr | hr
        · omega
        · exact hr.2
      · simp (disch := first | ((try simp (disch := first | ((try simp only [pn]) <;> omega) | fail) only [pn, pq]) <;> omega) | fail) only [pn, pq] at c3
        have hA : AK (b9g_keys S) x2 (x3 - 1).toNatClampNeg x1.toNatClampNeg := by
          rcases hr with hr | hr
          · exact hr.2
          · omega
        refine ⟨_, ?_, rfl, rfl, by omega, by omega, ?_, rfl⟩
        · omega
        · intro j h3 h4
          by_cases e : j = (x3 - 1).toNatClampNeg
          · subst e
            exact ⟨by omega, hA⟩
          · exact h2 j (by omega) h4
theorem sf_X9_manyLike {S : bT9} (hJ : K9 S) {a1 : Int32} {a2 : Int32} {Q : Int32 → Prop} (hp0 : 0 ≤ a1.toInt) (hp1 : a1.toInt ≤ (b9g_now S 9).toInt) (hp2 : a1.toInt ≤ 63) (hq : ∀ r : Int32, (0 ≤ r.toInt) → (a1.toInt + r.toInt ≤ (b9g_now S 9).toInt) → (∀ j : Nat, a1.toInt ≤ j → (j : Int) < a1.toInt + r.toInt → a2.toInt ≤ (b9g_beginning S j).toInt ∧ AK (b9g_keys S) a2 j a1.toNatClampNeg) → (∀ e : Nat, (e : Int) = a1.toInt + r.toInt → (e : Int) < (b9g_now S 9).toInt → a2.toInt ≤ (b9g_beginning S e).toInt → ¬ AK (b9g_keys S) a2 e a1.toNatClampNeg) → Q r) : wp_X9_manyLike S a1 a2 Q := by
  unfold wp_X9_manyLike wp_X9_manyLike_2
  have jn := (K9g_now hJ).2.2.2.1
  refine ⟨fun n x1 x2 x3 => x1 = a1 ∧ x2 = a2 ∧ a1.toInt ≤ x3.toInt ∧ x3.toInt ≤ (b9g_now S 9).toInt ∧ (∀ j : Nat, a1.toInt ≤ j → (j : Int) < x3.toInt → a2.toInt ≤ (b9g_beginning S j).toInt ∧ AK (b9g_keys S) a2 j a1.toNatClampNeg) ∧ n = (64 - x3.toInt).toNat, ⟨_, rfl, rfl, Int.le_refl _, hp1, fun j h1 h2 => by omega, rfl⟩, ?_⟩
  rintro n x1 x2 x3 ⟨rfl, rfl, h0, h1, h2, hn⟩
  unfold wp_X9_manyLike_2b
  have es : (x3 - x1).toInt = x3.toInt - x1.toInt := pt_sub (by omega) (by omega)
  have e9 : b9g_now S ((9 : Int32)).toNatClampNeg = b9g_now S 9 := rfl
  have e2 := pt_clamp (i := x3) (by omega)
  refine ⟨pt_in (by decide) (by decide), fun c => ?_, fun c => ?_⟩
  · simp (disch := first | ((try simp (disch := first | ((try simp only [pn]) <;> omega) | fail) only [pn, pq]) <;> omega) | fail) only [pn, pq] at c
    refine hq _ (by omega) (by omega) (fun j h3 h4 => h2 j h3 (by omega)) (fun e h3 h4 => by omega)
  · simp (disch := first | ((try simp (disch := first | ((try simp only [pn]) <;> omega) | fail) only [pn, pq]) <;> omega) | fail) only [pn, pq] at c
    refine ⟨pt_in (by omega) (by omega), fun c2 => ?_, fun c2 => ?_⟩
    · simp (disch := first | ((try simp (disch := first | ((try simp only [pn]) <;> omega) | fail) only [pn, pq]) <;> omega) | fail) only [pn, pq] at c2
      refine hq _ (by omega) (by omega) (fun j h3 h4 => h2 j h3 (by omega)) (fun e h3 h4 h5 => ?_)
      have : e = x3.toNatClampNeg := by omega
      subst this
      omega
    · simp (disch := first | ((try simp (disch := first | ((try simp only [pn]) <;> omega) | fail) only [pn, pq]) <;> omega) | fail) only [pn, pq] at c2
      refine sf_X9_isAlike hJ (by omega) (by omega) hp0 hp2 (fun r1 hz hr => ⟨fun c3 => ?_, fun c3 => ?_⟩)
      · simp (disch := first | ((try simp (disch := first | ((try simp only [pn]) <;> omega) | fail) only [pn, pq]) <;> omega) | fail) only [pn, pq] at c3
        refine hq _ (by omega) (by omega) (fun j h3 h4 => h2 j h3 (by omega)) (fun e h3 h4 h5 => ?_)
        have : e = x3.toNatClampNeg := by omega
        subst this
        rcases hr with hr | hr
        · omega
        · exact hr.2
      · simp (disch := first | ((try simp (disch := first | ((try simp only [pn]) <;> omega) | fail) only [pn, pq]) <;> omega) | fail) only [pn, pq] at c3
        have hA : AK (b9g_keys S) x2 x3.toNatClampNeg x1.toNatClampNeg := by
          rcases hr with hr | hr
          · exact hr.2
          · omega
        have e1 : (x3 + 1).toInt = x3.toInt + 1 := by rw [pt_add (by rw [pl_1]; omega) (by rw [pl_1]; omega), pl_1]
        refine ⟨_, ?_, rfl, rfl, by omega, by omega, ?_, rfl⟩
        · omega
        · intro j h3 h4
          by_cases e : j = x3.toNatClampNeg
          · subst e
            exact ⟨by omega, hA⟩
          · exact h2 j h3 (by omega)
theorem sf_X9_childAt {S : bT9} (hJ : K9 S) {a1 : Int32} {a2 : Int32} {Q : Int32 → Prop} (hp0 : 0 ≤ a1.toInt) (hp1 : a1.toInt < (b9g_nodeMany S).toInt) (hq : ∀ r : Int32, (r.toInt = -1 → ∀ y : Nat, a1.toNatClampNeg < y → (y : Int) < (b9g_nodeMany S).toInt → (b9g_nodeLevel S y).toInt = (b9g_nodeLevel S a1.toNatClampNeg).toInt + 1 → (b9g_nodeLeaf S y).toInt ≠ a2.toInt) → Q r) : wp_X9_childAt S a1 a2 Q := by
  have jx := ND_at (K9g_ND hJ) hp0 hp1
  have jm := K9g_nodeMany hJ
  have hN := K9g_ND hJ
  unfold wp_X9_childAt wp_X9_childAt_14
  have e1 : (a1 + 1).toInt = a1.toInt + 1 := by rw [pt_add (by rw [pl_1]; omega) (by rw [pl_1]; omega), pl_1]
  have el : (b9g_nodeLevel S a1.toNatClampNeg + 1).toInt = (b9g_nodeLevel S a1.toNatClampNeg).toInt + 1 := by rw [pt_add (by rw [pl_1]; omega) (by rw [pl_1]; omega), pl_1]
  have ea := pt_clamp hp0
  refine ⟨pt_in (by omega) (by omega), fun n x2 x3 x4 => x2 = a2 ∧ x3.toInt = (b9g_nodeLevel S a1.toNatClampNeg).toInt + 1 ∧ a1.toInt < x4.toInt ∧ (∀ y : Nat, a1.toNatClampNeg < y → (y : Int) < x4.toInt → (b9g_nodeLevel S y).toInt = (b9g_nodeLevel S a1.toNatClampNeg).toInt + 1 → (b9g_nodeLeaf S y).toInt ≠ a2.toInt) ∧ n = ((b9g_nodeMany S).toInt + 1 - x4.toInt).toNat, ⟨_, rfl, el, by omega, fun y h1 h2 => by omega, rfl⟩, ?_⟩
  rintro n x2 x3 x4 ⟨rfl, h3, h4, h5, hn⟩
  unfold wp_X9_childAt_14b
  refine ⟨fun c => ?_, fun c => ?_⟩
  · simp (disch := first | ((try simp (disch := first | ((try simp only [pn]) <;> omega) | fail) only [pn, pq]) <;> omega) | fail) only [pn, pq] at c
    exact hq _ (fun _ y h1 h2 => h5 y h1 (by omega))
  · simp (disch := first | ((try simp (disch := first | ((try simp only [pn]) <;> omega) | fail) only [pn, pq]) <;> omega) | fail) only [pn, pq] at c
    have jy := ND_at (K9g_ND hJ) (x := x4) (by omega) (by omega)
    have e4 := pt_clamp (i := x4) (by omega)
    refine ⟨pt_in (by omega) (by omega), fun c2 => ?_, fun c2 => ?_⟩
    · simp (disch := first | ((try simp (disch := first | ((try simp only [pn]) <;> omega) | fail) only [pn, pq]) <;> omega) | fail) only [pn, pq] at c2
      refine hq _ (fun _ y h1 h2 h6 => ?_)
      by_cases e : (y : Int) < x4.toInt
      · exact h5 y h1 e h6
      · exfalso
        by_cases e2 : y = x4.toNatClampNeg
        · subst e2
          omega
        · have p := ND_pos hN (show x4.toNatClampNeg < y by omega) h2
          have b := (hN y h2).1
          omega
    · simp (disch := first | ((try simp (disch := first | ((try simp only [pn]) <;> omega) | fail) only [pn, pq]) <;> omega) | fail) only [pn, pq] at c2
      have e5 : (x4 + 1).toInt = x4.toInt + 1 := by rw [pt_add (by rw [pl_1]; omega) (by rw [pl_1]; omega), pl_1]
      have next : ((b9g_nodeLevel S x4.toNatClampNeg).toInt = (b9g_nodeLevel S a1.toNatClampNeg).toInt + 1 → (b9g_nodeLeaf S x4.toNatClampNeg).toInt ≠ x2.toInt) → wp_X9_childAt_59 S x2 x3 x4 Q (fun x2_1 x3_1 x4_1 => ∃ n2 : Nat, n2 < n ∧ x2_1 = x2 ∧ x3_1.toInt = (b9g_nodeLevel S a1.toNatClampNeg).toInt + 1 ∧ a1.toInt < x4_1.toInt ∧ (∀ y : Nat, a1.toNatClampNeg < y → (y : Int) < x4_1.toInt → (b9g_nodeLevel S y).toInt = (b9g_nodeLevel S a1.toNatClampNeg).toInt + 1 → (b9g_nodeLeaf S y).toInt ≠ x2.toInt) ∧ n2 = ((b9g_nodeMany S).toInt + 1 - x4_1.toInt).toNat) := by
        intro hx
        unfold wp_X9_childAt_59
        refine ⟨_, ?_, rfl, h3, by omega, ?_, rfl⟩
        · omega
        · intro y h1 h2 h6
          by_cases e : y = x4.toNatClampNeg
          · subst e
            exact hx h6
          · exact h5 y h1 (by omega) h6
      refine ⟨pt_in (by omega) (by omega), fun c3 => next (fun h => ?_), fun c3 => ⟨pt_in (by omega) (by omega), fun c4 => next (fun _ => ?_), fun c4 => hq _ (fun h => by omega)⟩⟩
      · simp (disch := first | ((try simp (disch := first | ((try simp only [pn]) <;> omega) | fail) only [pn, pq]) <;> omega) | fail) only [pn, pq] at c3
        omega
      · simp (disch := first | ((try simp (disch := first | ((try simp only [pn]) <;> omega) | fail) only [pn, pq]) <;> omega) | fail) only [pn, pq] at c4
        exact c4
theorem sf_X9_isBranch {S : bT9} (hJ : K9 S) {a1 : Int32} {a2 : Int32} {Q : Int32 → Prop} (hp0 : 0 ≤ a1.toInt) (hp1 : a1.toInt < (b9g_nodeMany S).toInt) (hp2 : (b9g_nodeLeaf S a1.toNatClampNeg).toInt ≤ a2.toInt) (hp3 : a2.toInt ≤ 63) (hq : ∀ r : Int32, bf_bool r → (r.toInt = 0 ∨ BRd S a1 a2) → Q r) : wp_X9_isBranch S a1 a2 Q := by
  have jx := ND_at (K9g_ND hJ) hp0 hp1
  have jm := K9g_nodeMany hJ
  unfold wp_X9_isBranch
  have e2 := pt_clamp (i := a2) (by omega)
  refine ⟨pt_in (by omega) (by omega), pt_in (by omega) (by omega), fun c => ⟨rfl, hq _ rfl (Or.inl rfl)⟩, fun c => ?_⟩
  simp (disch := first | ((try simp (disch := first | ((try simp only [pn]) <;> omega) | fail) only [pn, pq]) <;> omega) | fail) only [pn, pq] at c
  refine ⟨pt_in (by omega) (by omega), fun c2 => ?_, fun c2 => ?_⟩
  · unfold wp_X9_isBranch_53
    exact ⟨rfl, hq _ rfl (Or.inr (show BRd S a1 a2 from ⟨by omega, Or.inl (by rw [c2])⟩))⟩
  · simp (disch := first | ((try simp (disch := first | ((try simp only [pn]) <;> omega) | fail) only [pn, pq]) <;> omega) | fail) only [pn, pq] at c2
    have e1 : (a2 - 1).toInt = a2.toInt - 1 := by rw [pt_sub (by rw [pl_1]; omega) (by rw [pl_1]; omega), pl_1]
    have e3 := pt_clamp (i := a2 - 1) (by omega)
    refine ⟨pt_in (by omega) (by omega), fun c3 => ?_, fun c3 => ?_⟩
    · simp (disch := first | ((try simp (disch := first | ((try simp only [pn]) <;> omega) | fail) only [pn, pq]) <;> omega) | fail) only [pn, pq] at c3
      unfold wp_X9_isBranch_53
      exact ⟨rfl, hq _ rfl (Or.inr (show BRd S a1 a2 from ⟨by omega, Or.inr ⟨(a2 - 1).toNatClampNeg, by omega, Or.inl c3⟩⟩))⟩
    · refine sf_X9_isAlike hJ (by omega) (by omega) (by omega) (by omega) (fun r1 hz hr => ⟨fun c4 => ⟨rfl, hq _ rfl (Or.inl rfl)⟩, fun c4 => ?_⟩)
      simp (disch := first | ((try simp (disch := first | ((try simp only [pn]) <;> omega) | fail) only [pn, pq]) <;> omega) | fail) only [pn, pq] at c4
      unfold wp_X9_isBranch_53
      refine ⟨rfl, hq _ rfl (Or.inr (show BRd S a1 a2 from ⟨by omega, Or.inr ⟨(a2 - 1).toNatClampNeg, by omega, Or.inr ?_⟩⟩))⟩
      rcases hr with hr | hr
      · omega
      · exact hr.2
set_option maxRecDepth 20000 in
set_option maxHeartbeats 8000000 in
theorem sf_X9_isNodeEnd {S : bT9} (hJ : K9 S) {a1 : Int32} {Q : Int32 → Prop} (hp0 : 0 ≤ a1.toInt) (hp1 : a1.toInt < (b9g_nodeMany S).toInt) (hq : ∀ r : Int32, bf_bool r → (r.toInt = 0 ∨ (b9g_beginning S (b9g_nodeLeaf S a1.toNatClampNeg).toNatClampNeg).toInt = (b9g_nodeLevel S a1.toNatClampNeg).toInt) → Q r) : wp_X9_isNodeEnd S a1 Q := by
  unfold wp_X9_isNodeEnd
  have jf1 := K9g_nodeMany hJ
  have jf2 : (-4 ≤ ((b9g_now S) 1).toInt ∧ ((b9g_now S) 1).toInt ≤ 4) ∧ (-3 ≤ ((b9g_now S) 4).toInt ∧ ((b9g_now S) 4).toInt ≤ 252) ∧ (0 ≤ ((b9g_now S) 8).toInt ∧ ((b9g_now S) 8).toInt ≤ 64) ∧ (0 ≤ ((b9g_now S) 9).toInt ∧ ((b9g_now S) 9).toInt ≤ 64) ∧ (0 ≤ ((b9g_now S) 10).toInt ∧ ((b9g_now S) 10).toInt ≤ 16) ∧ (0 ≤ ((b9g_now S) 12).toInt ∧ ((b9g_now S) 12).toInt ≤ 8) := K9g_now hJ
  have rga1 := pt_rg a1
  refine ⟨pt_in (by (try simp (disch := first | ((try simp (disch := first | ((try simp only [pn]) <;> omega) | fail) only [pn, pq]) <;> omega) | fail) only [pn, pq]) <;> (intros; (try simp (disch := first | ((try simp (disch := first | ((try simp only [pn]) <;> omega) | fail) only [pn, pq]) <;> omega) | fail) only [pn, pq]) <;> omega)) (by (try simp (disch := first | ((try simp (disch := first | ((try simp only [pn]) <;> omega) | fail) only [pn, pq]) <;> omega) | fail) only [pn, pq]) <;> (intros; (try simp (disch := first | ((try simp (disch := first | ((try simp only [pn]) <;> omega) | fail) only [pn, pq]) <;> omega) | fail) only [pn, pq]) <;> omega)), ?_⟩
  have jr3 := ND_at (K9g_ND hJ) (x := a1) (by (try simp (disch := first | ((try simp (disch := first | ((try simp only [pn]) <;> omega) | fail) only [pn, pq]) <;> omega) | fail) only [pn, pq]) <;> (intros; (try simp (disch := first | ((try simp (disch := first | ((try simp only [pn]) <;> omega) | fail) only [pn, pq]) <;> omega) | fail) only [pn, pq]) <;> omega)) (by (try simp (disch := first | ((try simp (disch := first | ((try simp only [pn]) <;> omega) | fail) only [pn, pq]) <;> omega) | fail) only [pn, pq]) <;> (intros; (try simp (disch := first | ((try simp (disch := first | ((try simp only [pn]) <;> omega) | fail) only [pn, pq]) <;> omega) | fail) only [pn, pq]) <;> omega))
  try simp (disch := first | ((try simp (disch := first | ((try simp only [pn]) <;> omega) | fail) only [pn, pq]) <;> omega) | fail) only [pn, pq] at jr3
  refine ⟨pt_in (by (try simp (disch := first | ((try simp (disch := first | ((try simp only [pn]) <;> omega) | fail) only [pn, pq]) <;> omega) | fail) only [pn, pq]) <;> (intros; (try simp (disch := first | ((try simp (disch := first | ((try simp only [pn]) <;> omega) | fail) only [pn, pq]) <;> omega) | fail) only [pn, pq]) <;> omega)) (by (try simp (disch := first | ((try simp (disch := first | ((try simp only [pn]) <;> omega) | fail) only [pn, pq]) <;> omega) | fail) only [pn, pq]) <;> (intros; (try simp (disch := first | ((try simp (disch := first | ((try simp only [pn]) <;> omega) | fail) only [pn, pq]) <;> omega) | fail) only [pn, pq]) <;> omega)), ?_⟩
  have jr4 := K9g_beginning hJ (((b9g_nodeLeaf S) (a1).toNatClampNeg)).toNatClampNeg
  try simp (disch := first | ((try simp (disch := first | ((try simp only [pn]) <;> omega) | fail) only [pn, pq]) <;> omega) | fail) only [pn, pq] at jr4
  refine ⟨pt_in (by (try simp (disch := first | ((try simp (disch := first | ((try simp only [pn]) <;> omega) | fail) only [pn, pq]) <;> omega) | fail) only [pn, pq]) <;> (intros; (try simp (disch := first | ((try simp (disch := first | ((try simp only [pn]) <;> omega) | fail) only [pn, pq]) <;> omega) | fail) only [pn, pq]) <;> omega)) (by (try simp (disch := first | ((try simp (disch := first | ((try simp only [pn]) <;> omega) | fail) only [pn, pq]) <;> omega) | fail) only [pn, pq]) <;> (intros; (try simp (disch := first | ((try simp (disch := first | ((try simp only [pn]) <;> omega) | fail) only [pn, pq]) <;> omega) | fail) only [pn, pq]) <;> omega)), ?_⟩
  have jr5 := ND_at (K9g_ND hJ) (x := a1) (by (try simp (disch := first | ((try simp (disch := first | ((try simp only [pn]) <;> omega) | fail) only [pn, pq]) <;> omega) | fail) only [pn, pq]) <;> (intros; (try simp (disch := first | ((try simp (disch := first | ((try simp only [pn]) <;> omega) | fail) only [pn, pq]) <;> omega) | fail) only [pn, pq]) <;> omega)) (by (try simp (disch := first | ((try simp (disch := first | ((try simp only [pn]) <;> omega) | fail) only [pn, pq]) <;> omega) | fail) only [pn, pq]) <;> (intros; (try simp (disch := first | ((try simp (disch := first | ((try simp only [pn]) <;> omega) | fail) only [pn, pq]) <;> omega) | fail) only [pn, pq]) <;> omega))
  try simp (disch := first | ((try simp (disch := first | ((try simp only [pn]) <;> omega) | fail) only [pn, pq]) <;> omega) | fail) only [pn, pq] at jr5
  refine ⟨fun c1 => ?_, fun c1 => ?_⟩
  · try simp (disch := first | ((try simp (disch := first | ((try simp only [pn]) <;> omega) | fail) only [pn, pq]) <;> omega) | fail) only [pn, pq] at c1
    exact ⟨by first | rfl | assumption, hq _ (by first | rfl | assumption) (by (try simp (disch := first | ((try simp (disch := first | ((try simp only [pn]) <;> omega) | fail) only [pn, pq]) <;> omega) | fail) only [pn, pq]) <;> (intros; (try simp (disch := first | ((try simp (disch := first | ((try simp only [pn]) <;> omega) | fail) only [pn, pq]) <;> omega) | fail) only [pn, pq]) <;> omega))⟩
  · try simp (disch := first | ((try simp (disch := first | ((try simp only [pn]) <;> omega) | fail) only [pn, pq]) <;> omega) | fail) only [pn, pq] at c1
    exact ⟨by first | rfl | assumption, hq _ (by first | rfl | assumption) (by (try simp (disch := first | ((try simp (disch := first | ((try simp only [pn]) <;> omega) | fail) only [pn, pq]) <;> omega) | fail) only [pn, pq]) <;> (intros; (try simp (disch := first | ((try simp (disch := first | ((try simp only [pn]) <;> omega) | fail) only [pn, pq]) <;> omega) | fail) only [pn, pq]) <;> omega))⟩
set_option maxRecDepth 20000 in
set_option maxHeartbeats 8000000 in
theorem sf_X9_lastOf {S : bT9} (hJ : K9 S) {a1 : Int32} {Q : Int32 → Prop} (hp0 : 0 ≤ a1.toInt) (hp1 : a1.toInt < (b9g_nodeMany S).toInt) (hq : ∀ r : Int32, (r.toInt = (b9g_nodeLeaf S a1.toNatClampNeg).toInt + (b9g_nodeLeaves S a1.toNatClampNeg).toInt - 1) → (r.toInt ≤ 63) → Q r) : wp_X9_lastOf S a1 Q := by
  unfold wp_X9_lastOf
  have jf1 := K9g_nodeMany hJ
  have jf2 : (-4 ≤ ((b9g_now S) 1).toInt ∧ ((b9g_now S) 1).toInt ≤ 4) ∧ (-3 ≤ ((b9g_now S) 4).toInt ∧ ((b9g_now S) 4).toInt ≤ 252) ∧ (0 ≤ ((b9g_now S) 8).toInt ∧ ((b9g_now S) 8).toInt ≤ 64) ∧ (0 ≤ ((b9g_now S) 9).toInt ∧ ((b9g_now S) 9).toInt ≤ 64) ∧ (0 ≤ ((b9g_now S) 10).toInt ∧ ((b9g_now S) 10).toInt ≤ 16) ∧ (0 ≤ ((b9g_now S) 12).toInt ∧ ((b9g_now S) 12).toInt ≤ 8) := K9g_now hJ
  have rga1 := pt_rg a1
  refine ⟨pt_in (by (try simp (disch := first | ((try simp (disch := first | ((try simp only [pn]) <;> omega) | fail) only [pn, pq]) <;> omega) | fail) only [pn, pq]) <;> (intros; (try simp (disch := first | ((try simp (disch := first | ((try simp only [pn]) <;> omega) | fail) only [pn, pq]) <;> omega) | fail) only [pn, pq]) <;> omega)) (by (try simp (disch := first | ((try simp (disch := first | ((try simp only [pn]) <;> omega) | fail) only [pn, pq]) <;> omega) | fail) only [pn, pq]) <;> (intros; (try simp (disch := first | ((try simp (disch := first | ((try simp only [pn]) <;> omega) | fail) only [pn, pq]) <;> omega) | fail) only [pn, pq]) <;> omega)), ?_⟩
  have jr3 := ND_at (K9g_ND hJ) (x := a1) (by (try simp (disch := first | ((try simp (disch := first | ((try simp only [pn]) <;> omega) | fail) only [pn, pq]) <;> omega) | fail) only [pn, pq]) <;> (intros; (try simp (disch := first | ((try simp (disch := first | ((try simp only [pn]) <;> omega) | fail) only [pn, pq]) <;> omega) | fail) only [pn, pq]) <;> omega)) (by (try simp (disch := first | ((try simp (disch := first | ((try simp only [pn]) <;> omega) | fail) only [pn, pq]) <;> omega) | fail) only [pn, pq]) <;> (intros; (try simp (disch := first | ((try simp (disch := first | ((try simp only [pn]) <;> omega) | fail) only [pn, pq]) <;> omega) | fail) only [pn, pq]) <;> omega))
  try simp (disch := first | ((try simp (disch := first | ((try simp only [pn]) <;> omega) | fail) only [pn, pq]) <;> omega) | fail) only [pn, pq] at jr3
  refine ⟨pt_in (by (try simp (disch := first | ((try simp (disch := first | ((try simp only [pn]) <;> omega) | fail) only [pn, pq]) <;> omega) | fail) only [pn, pq]) <;> (intros; (try simp (disch := first | ((try simp (disch := first | ((try simp only [pn]) <;> omega) | fail) only [pn, pq]) <;> omega) | fail) only [pn, pq]) <;> omega)) (by (try simp (disch := first | ((try simp (disch := first | ((try simp only [pn]) <;> omega) | fail) only [pn, pq]) <;> omega) | fail) only [pn, pq]) <;> (intros; (try simp (disch := first | ((try simp (disch := first | ((try simp only [pn]) <;> omega) | fail) only [pn, pq]) <;> omega) | fail) only [pn, pq]) <;> omega)), ?_⟩
  have jr4 := ND_at (K9g_ND hJ) (x := a1) (by (try simp (disch := first | ((try simp (disch := first | ((try simp only [pn]) <;> omega) | fail) only [pn, pq]) <;> omega) | fail) only [pn, pq]) <;> (intros; (try simp (disch := first | ((try simp (disch := first | ((try simp only [pn]) <;> omega) | fail) only [pn, pq]) <;> omega) | fail) only [pn, pq]) <;> omega)) (by (try simp (disch := first | ((try simp (disch := first | ((try simp only [pn]) <;> omega) | fail) only [pn, pq]) <;> omega) | fail) only [pn, pq]) <;> (intros; (try simp (disch := first | ((try simp (disch := first | ((try simp only [pn]) <;> omega) | fail) only [pn, pq]) <;> omega) | fail) only [pn, pq]) <;> omega))
  try simp (disch := first | ((try simp (disch := first | ((try simp only [pn]) <;> omega) | fail) only [pn, pq]) <;> omega) | fail) only [pn, pq] at jr4
  exact hq _ (by (try simp (disch := first | ((try simp (disch := first | ((try simp only [pn]) <;> omega) | fail) only [pn, pq]) <;> omega) | fail) only [pn, pq]) <;> (intros; (try simp (disch := first | ((try simp (disch := first | ((try simp only [pn]) <;> omega) | fail) only [pn, pq]) <;> omega) | fail) only [pn, pq]) <;> omega)) (by (try simp (disch := first | ((try simp (disch := first | ((try simp only [pn]) <;> omega) | fail) only [pn, pq]) <;> omega) | fail) only [pn, pq]) <;> (intros; (try simp (disch := first | ((try simp (disch := first | ((try simp only [pn]) <;> omega) | fail) only [pn, pq]) <;> omega) | fail) only [pn, pq]) <;> omega))
def F_X9_laysItem (S u : bT9) : Prop := (b9g_told u) = (b9g_told S) ∧ (b9g_now u) = (b9g_now S) ∧ (b9g_keys u) = (b9g_keys S) ∧ (b9g_lengths u) = (b9g_lengths S) ∧ (b9g_drawn u) = (b9g_drawn S) ∧ (b9g_drawnLength u) = (b9g_drawnLength S) ∧ (b9g_tape u) = (b9g_tape S) ∧ (b9g_taped u) = (b9g_taped S) ∧ (b9g_names u) = (b9g_names S) ∧ (b9g_chosen u) = (b9g_chosen S) ∧ (b9g_common u) = (b9g_common S) ∧ (b9g_beginning u) = (b9g_beginning S) ∧ (b9g_isLaid u) = (b9g_isLaid S) ∧ (b9g_nodeLevel u) = (b9g_nodeLevel S) ∧ (b9g_nodeLeaf u) = (b9g_nodeLeaf S) ∧ (b9g_nodeLeaves u) = (b9g_nodeLeaves S) ∧ (b9g_nodeMany u) = (b9g_nodeMany S) ∧ (b9g_levelMany u) = (b9g_levelMany S) ∧ (b9g_upper u) = (b9g_upper S) ∧ (b9g_upperNodes u) = (b9g_upperNodes S) ∧ (b9g_areNodesLaid u) = (b9g_areNodesLaid S) ∧ (b9g_placeOf u) = (b9g_placeOf S) ∧ (b9g_leafOfPlace u) = (b9g_leafOfPlace S) ∧ (b9g_places u) = (b9g_places S) ∧ (b9g_lowKey u) = (b9g_lowKey S) ∧ (b9g_highKey u) = (b9g_highKey S) ∧ (b9g_lowLength u) = (b9g_lowLength S) ∧ (b9g_highLength u) = (b9g_highLength S) ∧ (b9g_fromKey u) = (b9g_fromKey S) ∧ (b9g_toKey u) = (b9g_toKey S) ∧ (b9g_fromLength u) = (b9g_fromLength S) ∧ (b9g_toLength u) = (b9g_toLength S) ∧ (b9g_ones u) = (b9g_ones S) ∧ (b9g_oneMany u) = (b9g_oneMany S) ∧ (b9g_rowLong u) = (b9g_rowLong S) ∧ (b9g_laidFor u) = (b9g_laidFor S) ∧ (b9g_signs u) = (b9g_signs S) ∧ (b9g_signMany u) = (b9g_signMany S) ∧ (b9g_hasImage u) = (b9g_hasImage S) ∧ (b9g_images u) = (b9g_images S) ∧ (b9g_keyImages u) = (b9g_keyImages S) ∧ (b9g_lengthImages u) = (b9g_lengthImages S)
theorem sf_X9_laysItem {S : bT9} (hJ : J9 S) {a1 : Int32} {a2 : Int32} {a3 : Int32} {Q : (bT9) → Prop} (hp0 : (b9g_itemMany S).toInt ≤ 699) (hq : ∀ u : bT9, (J9 u) → F_X9_laysItem S u → ((b9g_itemMany u).toInt = (b9g_itemMany S).toInt + 1) → (b9g_itemNode u = upd (b9g_itemNode S) (b9g_itemMany S).toNatClampNeg a1) → (b9g_itemByte u = upd (b9g_itemByte S) (b9g_itemMany S).toNatClampNeg a2) → (b9g_itemChild u = upd (b9g_itemChild S) (b9g_itemMany S).toNatClampNeg a3) → Q u) : wp_X9_laysItem S a1 a2 a3 Q := by
  have jp := J9g_itemMany hJ
  unfold wp_X9_laysItem
  refine ⟨pt_in jp.1 (by omega), fun S1 e1 => ?_⟩
  have p1 : b9g_itemMany S1 = b9g_itemMany S := by rw [e1]
  rw [p1]
  refine ⟨pt_in jp.1 (by omega), fun S2 e2 => ?_⟩
  have p2 : b9g_itemMany S2 = b9g_itemMany S := by rw [e2]; exact p1
  rw [p2]
  refine ⟨pt_in jp.1 (by omega), fun S3 e3 S4 e4 => ?_⟩
  have v2 : (b9g_itemMany S + 1).toInt = (b9g_itemMany S).toInt + 1 := by rw [pt_add (by rw [pl_1]; omega) (by rw [pl_1]; omega), pl_1]
  refine hq S4 ?_ ?_ ?_ ?_ ?_ ?_
  · rw [e4, e3, e2, e1]
    exact J9s_itemMany (J9s_itemChild (J9s_itemByte (J9s_itemNode hJ))) ⟨by show 0 ≤ (b9g_itemMany S + 1).toInt; omega, by show (b9g_itemMany S + 1).toInt ≤ 700; omega⟩
  · rw [e4, e3, e2, e1]
    exact ⟨rfl, rfl, rfl, rfl, rfl, rfl, rfl, rfl, rfl, rfl, rfl, rfl, rfl, rfl, rfl, rfl, rfl, rfl, rfl, rfl, rfl, rfl, rfl, rfl, rfl, rfl, rfl, rfl, rfl, rfl, rfl, rfl, rfl, rfl, rfl, rfl, rfl, rfl, rfl, rfl, rfl, rfl⟩
  · rw [e4, e3, e2, e1]
    exact v2
  · rw [e4, e3, e2, e1]
  · rw [e4, e3, e2, e1]
  · rw [e4, e3, e2, e1]
def F_X9_places (S u : bT9) : Prop := (b9g_told u) = (b9g_told S) ∧ (b9g_now u) = (b9g_now S) ∧ (b9g_keys u) = (b9g_keys S) ∧ (b9g_lengths u) = (b9g_lengths S) ∧ (b9g_drawn u) = (b9g_drawn S) ∧ (b9g_drawnLength u) = (b9g_drawnLength S) ∧ (b9g_tape u) = (b9g_tape S) ∧ (b9g_taped u) = (b9g_taped S) ∧ (b9g_names u) = (b9g_names S) ∧ (b9g_chosen u) = (b9g_chosen S) ∧ (b9g_common u) = (b9g_common S) ∧ (b9g_beginning u) = (b9g_beginning S) ∧ (b9g_isLaid u) = (b9g_isLaid S) ∧ (b9g_nodeLevel u) = (b9g_nodeLevel S) ∧ (b9g_nodeLeaf u) = (b9g_nodeLeaf S) ∧ (b9g_nodeLeaves u) = (b9g_nodeLeaves S) ∧ (b9g_nodeMany u) = (b9g_nodeMany S) ∧ (b9g_levelMany u) = (b9g_levelMany S) ∧ (b9g_upper u) = (b9g_upper S) ∧ (b9g_upperNodes u) = (b9g_upperNodes S) ∧ (b9g_areNodesLaid u) = (b9g_areNodesLaid S) ∧ (b9g_itemNode u) = (b9g_itemNode S) ∧ (b9g_itemByte u) = (b9g_itemByte S) ∧ (b9g_itemChild u) = (b9g_itemChild S) ∧ (b9g_itemMany u) = (b9g_itemMany S) ∧ (b9g_lowKey u) = (b9g_lowKey S) ∧ (b9g_highKey u) = (b9g_highKey S) ∧ (b9g_lowLength u) = (b9g_lowLength S) ∧ (b9g_highLength u) = (b9g_highLength S) ∧ (b9g_fromKey u) = (b9g_fromKey S) ∧ (b9g_toKey u) = (b9g_toKey S) ∧ (b9g_fromLength u) = (b9g_fromLength S) ∧ (b9g_toLength u) = (b9g_toLength S) ∧ (b9g_ones u) = (b9g_ones S) ∧ (b9g_oneMany u) = (b9g_oneMany S) ∧ (b9g_rowLong u) = (b9g_rowLong S) ∧ (b9g_laidFor u) = (b9g_laidFor S) ∧ (b9g_signs u) = (b9g_signs S) ∧ (b9g_signMany u) = (b9g_signMany S) ∧ (b9g_hasImage u) = (b9g_hasImage S) ∧ (b9g_images u) = (b9g_images S) ∧ (b9g_keyImages u) = (b9g_keyImages S) ∧ (b9g_lengthImages u) = (b9g_lengthImages S)
theorem sf_X9_places {S : bT9} (hJ : J9 S) {a1 : Int32} {Q : (bT9) → Prop} (hp0 : 0 ≤ a1.toInt) (hp1 : a1.toInt ≤ 63) (hp2 : (b9g_places S).toInt ≤ 63) (hq : ∀ u : bT9, (J9 u) → F_X9_places S u → ((b9g_places u).toInt = (b9g_places S).toInt + 1) → (b9g_placeOf u = upd (b9g_placeOf S) a1.toNatClampNeg (b9g_places S)) → (b9g_leafOfPlace u = upd (b9g_leafOfPlace S) (b9g_places S).toNatClampNeg a1) → Q u) : wp_X9_places S a1 Q := by
  have jp := J9g_places hJ
  unfold wp_X9_places
  refine ⟨pt_in hp0 (by omega), fun S1 e1 => ?_⟩
  have p1 : b9g_places S1 = b9g_places S := by rw [e1]
  rw [p1]
  refine ⟨pt_in jp.1 (by omega), fun S2 e2 S3 e3 => ?_⟩
  have p2 : b9g_places S2 = b9g_places S := by rw [e2]; exact p1
  have v : (b9g_places S2 + 1).toInt = (b9g_places S).toInt + 1 := by rw [p2, pt_add (by rw [pl_1]; omega) (by rw [pl_1]; omega), pl_1]
  refine hq S3 ?_ ?_ ?_ ?_ ?_
  · rw [e3, e2, e1]
    have v2 : (b9g_places S + 1).toInt = (b9g_places S).toInt + 1 := by rw [pt_add (by rw [pl_1]; omega) (by rw [pl_1]; omega), pl_1]
    exact J9s_places (J9s_leafOfPlace (J9s_placeOf hJ)) ⟨by show 0 ≤ (b9g_places S + 1).toInt; omega, by show (b9g_places S + 1).toInt ≤ 64; omega⟩
  · rw [e3, e2, e1]
    exact ⟨rfl, rfl, rfl, rfl, rfl, rfl, rfl, rfl, rfl, rfl, rfl, rfl, rfl, rfl, rfl, rfl, rfl, rfl, rfl, rfl, rfl, rfl, rfl, rfl, rfl, rfl, rfl, rfl, rfl, rfl, rfl, rfl, rfl, rfl, rfl, rfl, rfl, rfl, rfl, rfl, rfl, rfl, rfl⟩
  · rw [e3]
    exact v
  · rw [e3, e2, e1]
  · rw [e3, e2, e1]
def F_X9_laysNode (S u : bT9) : Prop := (b9g_told u) = (b9g_told S) ∧ (b9g_now u) = (b9g_now S) ∧ (b9g_keys u) = (b9g_keys S) ∧ (b9g_lengths u) = (b9g_lengths S) ∧ (b9g_drawn u) = (b9g_drawn S) ∧ (b9g_drawnLength u) = (b9g_drawnLength S) ∧ (b9g_tape u) = (b9g_tape S) ∧ (b9g_taped u) = (b9g_taped S) ∧ (b9g_names u) = (b9g_names S) ∧ (b9g_chosen u) = (b9g_chosen S) ∧ (b9g_common u) = (b9g_common S) ∧ (b9g_beginning u) = (b9g_beginning S) ∧ (b9g_isLaid u) = (b9g_isLaid S) ∧ (b9g_nodeLevel u) = (b9g_nodeLevel S) ∧ (b9g_nodeLeaf u) = (b9g_nodeLeaf S) ∧ (b9g_nodeLeaves u) = (b9g_nodeLeaves S) ∧ (b9g_nodeMany u) = (b9g_nodeMany S) ∧ (b9g_levelMany u) = (b9g_levelMany S) ∧ (b9g_upper u) = (b9g_upper S) ∧ (b9g_upperNodes u) = (b9g_upperNodes S) ∧ (b9g_areNodesLaid u) = (b9g_areNodesLaid S) ∧ (b9g_lowKey u) = (b9g_lowKey S) ∧ (b9g_highKey u) = (b9g_highKey S) ∧ (b9g_lowLength u) = (b9g_lowLength S) ∧ (b9g_highLength u) = (b9g_highLength S) ∧ (b9g_fromKey u) = (b9g_fromKey S) ∧ (b9g_toKey u) = (b9g_toKey S) ∧ (b9g_fromLength u) = (b9g_fromLength S) ∧ (b9g_toLength u) = (b9g_toLength S) ∧ (b9g_ones u) = (b9g_ones S) ∧ (b9g_oneMany u) = (b9g_oneMany S) ∧ (b9g_rowLong u) = (b9g_rowLong S) ∧ (b9g_laidFor u) = (b9g_laidFor S) ∧ (b9g_signs u) = (b9g_signs S) ∧ (b9g_signMany u) = (b9g_signMany S) ∧ (b9g_hasImage u) = (b9g_hasImage S) ∧ (b9g_images u) = (b9g_images S) ∧ (b9g_keyImages u) = (b9g_keyImages S) ∧ (b9g_lengthImages u) = (b9g_lengthImages S)
theorem sf_X9_laysNode {S : bT9} (hJ : J9 S) {a1 : Int32} {Q : (bT9) → Prop} (hp0 : 0 ≤ a1.toInt) (hp1 : a1.toInt < (b9g_nodeMany S).toInt) (hp2 : TR S 8 0) (hp3 : (b9g_itemMany S).toInt ≤ 64 * (b9g_nodeLevel S a1.toNatClampNeg).toInt + (b9g_nodeLeaf S a1.toNatClampNeg).toInt) (hp4 : ∃ T : Nat → Bool, (∀ i : Nat, T i = true → ∃ y : Nat, y < a1.toNatClampNeg ∧ PLS S y i) ∧ (b9g_places S).toInt = cntB T 64) (hq : ∀ u : bT9, (J9 u) → F_X9_laysNode S u → ((b9g_itemMany u).toInt ≤ (b9g_itemMany S).toInt + (b9g_nodeLeaves S a1.toNatClampNeg).toInt) → (∃ T : Nat → Bool, (∀ i : Nat, T i = true → ∃ y : Nat, y < a1.toNatClampNeg + 1 ∧ PLS S y i) ∧ (b9g_places u).toInt = cntB T 64) → Q u) : wp_X9_laysNode S a1 Q := by
  have jx := ND_at (J9g_ND hJ) hp0 hp1
  have hN := J9g_ND hJ
  have jm := J9g_nodeMany hJ
  have jb := J9g_beginning hJ
  have ex := pt_clamp hp0
  have elf := pt_clamp (i := b9g_nodeLeaf S a1.toNatClampNeg) (by omega)
  have hTR := hp2
  obtain ⟨hM, hC, hE, _⟩ := hTR
  have hEx := hE a1.toNatClampNeg (by omega)
  obtain ⟨T0, t1, t2⟩ := hp4
  have loop : ∀ (x2 : Int32) (U : bT9), J9 U → F_X9_laysNode S U → (∃ T : Nat → Bool, (∀ i : Nat, T i = true → (∃ y : Nat, y < a1.toNatClampNeg ∧ PLS S y i) ∨ (PLS S a1.toNatClampNeg i ∧ ((i : Int) < (b9g_nodeLeaf S a1.toNatClampNeg).toInt ∨ (b9g_beginning S i).toInt = (b9g_nodeLevel S a1.toNatClampNeg).toInt))) ∧ (b9g_places U).toInt = cntB T 64) → ((b9g_itemMany U).toInt ≤ (b9g_itemMany S).toInt + ((b9g_nodeLeaf S a1.toNatClampNeg).toInt - (b9g_nodeLeaf S a1.toNatClampNeg).toInt) ∨ ((b9g_nodeLeaf S a1.toNatClampNeg).toInt = (b9g_nodeLeaf S a1.toNatClampNeg).toInt ∧ (b9g_beginning S (b9g_nodeLeaf S a1.toNatClampNeg).toNatClampNeg).toInt = (b9g_nodeLevel S a1.toNatClampNeg).toInt ∧ (b9g_itemMany U).toInt ≤ (b9g_itemMany S).toInt + 1)) → wp_X9_laysNode_43 U a1 x2 Q := by
    intro x2 U hJU hFU hpU hiU
    have eFU : b9g_nodeLeaf U = b9g_nodeLeaf S := hFU.2.2.2.2.2.2.2.2.2.2.2.2.2.2.1
    unfold wp_X9_laysNode_43 wp_X9_laysNode_50
    rw [eFU]
    refine ⟨pt_in (by omega) (by omega), fun n x1 y2 x3 V => a1 = x1 ∧ J9 V ∧ F_X9_laysNode S V ∧ (b9g_nodeLeaf S a1.toNatClampNeg).toInt ≤ x3.toInt ∧ x3.toInt ≤ (b9g_nodeLeaf S a1.toNatClampNeg).toInt + (b9g_nodeLeaves S a1.toNatClampNeg).toInt ∧ (∃ T : Nat → Bool, (∀ i : Nat, T i = true → (∃ y : Nat, y < a1.toNatClampNeg ∧ PLS S y i) ∨ (PLS S a1.toNatClampNeg i ∧ ((i : Int) < x3.toInt ∨ (b9g_beginning S i).toInt = (b9g_nodeLevel S a1.toNatClampNeg).toInt))) ∧ (b9g_places V).toInt = cntB T 64) ∧ ((b9g_itemMany V).toInt ≤ (b9g_itemMany S).toInt + (x3.toInt - (b9g_nodeLeaf S a1.toNatClampNeg).toInt) ∨ (x3.toInt = (b9g_nodeLeaf S a1.toNatClampNeg).toInt ∧ (b9g_beginning S (b9g_nodeLeaf S a1.toNatClampNeg).toNatClampNeg).toInt = (b9g_nodeLevel S a1.toNatClampNeg).toInt ∧ (b9g_itemMany V).toInt ≤ (b9g_itemMany S).toInt + 1)) ∧ n = ((b9g_nodeLeaf S a1.toNatClampNeg).toInt + (b9g_nodeLeaves S a1.toNatClampNeg).toInt - x3.toInt).toNat, ⟨_, rfl, hJU, hFU, by omega, by omega, hpU, hiU, rfl⟩, ?_⟩
    rintro n x1 y2 x3 V ⟨rfl, hJV, hF, h1, h2, hpV, hiV, hn⟩
    have eL : b9g_nodeLevel V = b9g_nodeLevel S := hF.2.2.2.2.2.2.2.2.2.2.2.2.2.1
    have eF : b9g_nodeLeaf V = b9g_nodeLeaf S := hF.2.2.2.2.2.2.2.2.2.2.2.2.2.2.1
    have eS : b9g_nodeLeaves V = b9g_nodeLeaves S := hF.2.2.2.2.2.2.2.2.2.2.2.2.2.2.2.1
    have eM : b9g_nodeMany V = b9g_nodeMany S := hF.2.2.2.2.2.2.2.2.2.2.2.2.2.2.2.2.1
    have eB : b9g_beginning V = b9g_beginning S := hF.2.2.2.2.2.2.2.2.2.2.2.1
    have eK : b9g_keys V = b9g_keys S := hF.2.2.1
    have hmV : a1.toInt < (b9g_nodeMany V).toInt := by rw [eM]; exact hp1
    have e3 := pt_clamp (i := x3) (by omega)
    unfold wp_X9_laysNode_50b
    refine sf_X9_lastOf hJV.1 hp0 hmV (fun r7 h71 h72 => ?_)
    rw [eF, eS] at h71
    refine ⟨fun c => ?_, fun c => ?_⟩
    · simp (disch := first | ((try simp (disch := first | ((try simp only [pn]) <;> omega) | fail) only [pn, pq]) <;> omega) | fail) only [pn, pq] at c
      refine hq V hJV hF (by omega) ?_
      obtain ⟨T, ta, tb⟩ := hpV
      refine ⟨T, fun i hi => ?_, tb⟩
      rcases ta i hi with ⟨y, y1, y2⟩ | ⟨y1, _⟩
      · exact ⟨y, by omega, y2⟩
      · exact ⟨a1.toNatClampNeg, by omega, y1⟩
    · simp (disch := first | ((try simp (disch := first | ((try simp only [pn]) <;> omega) | fail) only [pn, pq]) <;> omega) | fail) only [pn, pq] at c
      have e31 : (x3 + 1).toInt = x3.toInt + 1 := by rw [pt_add (by rw [pl_1]; omega) (by rw [pl_1]; omega), pl_1]
      have next : ∀ W : bT9, J9 W → F_X9_laysNode S W → (∃ T : Nat → Bool, (∀ i : Nat, T i = true → (∃ y : Nat, y < a1.toNatClampNeg ∧ PLS S y i) ∨ (PLS S a1.toNatClampNeg i ∧ ((i : Int) < (x3.toInt + 1) ∨ (b9g_beginning S i).toInt = (b9g_nodeLevel S a1.toNatClampNeg).toInt))) ∧ (b9g_places W).toInt = cntB T 64) → (b9g_itemMany W).toInt ≤ (b9g_itemMany S).toInt + (x3.toInt + 1 - (b9g_nodeLeaf S a1.toNatClampNeg).toInt) → wp_X9_laysNode_116 W a1 y2 x3 Q (fun z1 z2 z3 Z => ∃ n2 : Nat, n2 < n ∧ a1 = z1 ∧ J9 Z ∧ F_X9_laysNode S Z ∧ (b9g_nodeLeaf S a1.toNatClampNeg).toInt ≤ z3.toInt ∧ z3.toInt ≤ (b9g_nodeLeaf S a1.toNatClampNeg).toInt + (b9g_nodeLeaves S a1.toNatClampNeg).toInt ∧ (∃ T : Nat → Bool, (∀ i : Nat, T i = true → (∃ y : Nat, y < a1.toNatClampNeg ∧ PLS S y i) ∨ (PLS S a1.toNatClampNeg i ∧ ((i : Int) < z3.toInt ∨ (b9g_beginning S i).toInt = (b9g_nodeLevel S a1.toNatClampNeg).toInt))) ∧ (b9g_places Z).toInt = cntB T 64) ∧ ((b9g_itemMany Z).toInt ≤ (b9g_itemMany S).toInt + (z3.toInt - (b9g_nodeLeaf S a1.toNatClampNeg).toInt) ∨ (z3.toInt = (b9g_nodeLeaf S a1.toNatClampNeg).toInt ∧ (b9g_beginning S (b9g_nodeLeaf S a1.toNatClampNeg).toNatClampNeg).toInt = (b9g_nodeLevel S a1.toNatClampNeg).toInt ∧ (b9g_itemMany Z).toInt ≤ (b9g_itemMany S).toInt + 1)) ∧ n2 = ((b9g_nodeLeaf S a1.toNatClampNeg).toInt + (b9g_nodeLeaves S a1.toNatClampNeg).toInt - z3.toInt).toNat) := by
        intro W hW hFW hpW hiW
        unfold wp_X9_laysNode_116
        refine ⟨_, ?_, rfl, hW, hFW, by omega, by omega, ?_, ?_, rfl⟩
        · omega
        · rw [e31]; exact hpW
        · left; omega
      have weak : (∃ T : Nat → Bool, (∀ i : Nat, T i = true → (∃ y : Nat, y < a1.toNatClampNeg ∧ PLS S y i) ∨ (PLS S a1.toNatClampNeg i ∧ ((i : Int) < (x3.toInt + 1) ∨ (b9g_beginning S i).toInt = (b9g_nodeLevel S a1.toNatClampNeg).toInt))) ∧ (b9g_places V).toInt = cntB T 64) := by
        obtain ⟨T, ta, tb⟩ := hpV
        refine ⟨T, fun i hi => ?_, tb⟩
        rcases ta i hi with h | ⟨y1, y2⟩
        · exact Or.inl h
        · exact Or.inr ⟨y1, by omega⟩
      refine sf_X9_isBranch hJV.1 hp0 hmV (by rw [eF]; omega) (by omega) (fun r9 hz9 h9 => ⟨fun c2 => ?_, fun c2 => ?_⟩)
      · simp (disch := first | ((try simp (disch := first | ((try simp only [pn]) <;> omega) | fail) only [pn, pq]) <;> omega) | fail) only [pn, pq] at c2
        have hBR : BRd V a1 x3 := by
          rcases h9 with h9 | h9
          · omega
          · exact h9
        unfold BRd at hBR
        rw [eL, eB, eF, eK] at hBR
        obtain ⟨b1, b2⟩ := hBR
        have hi2 : (b9g_itemMany V).toInt ≤ (b9g_itemMany S).toInt + (x3.toInt - (b9g_nodeLeaf S a1.toNatClampNeg).toInt) := by
          rcases hiV with h | ⟨h, h', h''⟩
          · exact h
          · exfalso
            have : x3.toNatClampNeg = (b9g_nodeLeaf S a1.toNatClampNeg).toNatClampNeg := by omega
            rw [this] at b1
            omega
        have fin : ∀ (W : bT9) (r : Int32), J9 W → F_X9_laysNode S W → (∃ T : Nat → Bool, (∀ i : Nat, T i = true → (∃ y : Nat, y < a1.toNatClampNeg ∧ PLS S y i) ∨ (PLS S a1.toNatClampNeg i ∧ ((i : Int) < (x3.toInt + 1) ∨ (b9g_beginning S i).toInt = (b9g_nodeLevel S a1.toNatClampNeg).toInt))) ∧ (b9g_places W).toInt = cntB T 64) → (b9g_itemMany W).toInt ≤ (b9g_itemMany S).toInt + (x3.toInt - (b9g_nodeLeaf S a1.toNatClampNeg).toInt) → wp_X9_laysNode_90 W a1 y2 x3 r Q (fun z1 z2 z3 Z => ∃ n2 : Nat, n2 < n ∧ a1 = z1 ∧ J9 Z ∧ F_X9_laysNode S Z ∧ (b9g_nodeLeaf S a1.toNatClampNeg).toInt ≤ z3.toInt ∧ z3.toInt ≤ (b9g_nodeLeaf S a1.toNatClampNeg).toInt + (b9g_nodeLeaves S a1.toNatClampNeg).toInt ∧ (∃ T : Nat → Bool, (∀ i : Nat, T i = true → (∃ y : Nat, y < a1.toNatClampNeg ∧ PLS S y i) ∨ (PLS S a1.toNatClampNeg i ∧ ((i : Int) < z3.toInt ∨ (b9g_beginning S i).toInt = (b9g_nodeLevel S a1.toNatClampNeg).toInt))) ∧ (b9g_places Z).toInt = cntB T 64) ∧ ((b9g_itemMany Z).toInt ≤ (b9g_itemMany S).toInt + (z3.toInt - (b9g_nodeLeaf S a1.toNatClampNeg).toInt) ∨ (z3.toInt = (b9g_nodeLeaf S a1.toNatClampNeg).toInt ∧ (b9g_beginning S (b9g_nodeLeaf S a1.toNatClampNeg).toNatClampNeg).toInt = (b9g_nodeLevel S a1.toNatClampNeg).toInt ∧ (b9g_itemMany Z).toInt ≤ (b9g_itemMany S).toInt + 1)) ∧ n2 = ((b9g_nodeLeaf S a1.toNatClampNeg).toInt + (b9g_nodeLeaves S a1.toNatClampNeg).toInt - z3.toInt).toNat) := by
          intro W r hW hFW hpW hiW
          have eMW : b9g_nodeMany W = b9g_nodeMany S := hFW.2.2.2.2.2.2.2.2.2.2.2.2.2.2.2.2.1
          unfold wp_X9_laysNode_90
          refine ⟨fun _ => next W hW hFW hpW (by omega), fun _ => ?_⟩
          refine sf_X9_key hW.1 (by omega) (by omega) (fun r1 _ => ⟨pt_in (by omega) (by omega), sf_X9_byteOf hW.1 (fun r3 => ?_)⟩)
          refine sf_X9_laysItem hW (by omega) (fun u6 hJ6 hf6 h6 _ _ _ => ?_)
          have ep : b9g_places u6 = b9g_places W := hf6.2.2.2.2.2.2.2.2.2.2.2.2.2.2.2.2.2.2.2.2.2.2.2.1
          refine next u6 hJ6 ⟨(hf6.1).trans (hFW.1), (hf6.2.1).trans (hFW.2.1), (hf6.2.2.1).trans (hFW.2.2.1), (hf6.2.2.2.1).trans (hFW.2.2.2.1), (hf6.2.2.2.2.1).trans (hFW.2.2.2.2.1), (hf6.2.2.2.2.2.1).trans (hFW.2.2.2.2.2.1), (hf6.2.2.2.2.2.2.1).trans (hFW.2.2.2.2.2.2.1), (hf6.2.2.2.2.2.2.2.1).trans (hFW.2.2.2.2.2.2.2.1), (hf6.2.2.2.2.2.2.2.2.1).trans (hFW.2.2.2.2.2.2.2.2.1), (hf6.2.2.2.2.2.2.2.2.2.1).trans (hFW.2.2.2.2.2.2.2.2.2.1), (hf6.2.2.2.2.2.2.2.2.2.2.1).trans (hFW.2.2.2.2.2.2.2.2.2.2.1), (hf6.2.2.2.2.2.2.2.2.2.2.2.1).trans (hFW.2.2.2.2.2.2.2.2.2.2.2.1), (hf6.2.2.2.2.2.2.2.2.2.2.2.2.1).trans (hFW.2.2.2.2.2.2.2.2.2.2.2.2.1), (hf6.2.2.2.2.2.2.2.2.2.2.2.2.2.1).trans (hFW.2.2.2.2.2.2.2.2.2.2.2.2.2.1), (hf6.2.2.2.2.2.2.2.2.2.2.2.2.2.2.1).trans (hFW.2.2.2.2.2.2.2.2.2.2.2.2.2.2.1), (hf6.2.2.2.2.2.2.2.2.2.2.2.2.2.2.2.1).trans (hFW.2.2.2.2.2.2.2.2.2.2.2.2.2.2.2.1), (hf6.2.2.2.2.2.2.2.2.2.2.2.2.2.2.2.2.1).trans (hFW.2.2.2.2.2.2.2.2.2.2.2.2.2.2.2.2.1), (hf6.2.2.2.2.2.2.2.2.2.2.2.2.2.2.2.2.2.1).trans (hFW.2.2.2.2.2.2.2.2.2.2.2.2.2.2.2.2.2.1), (hf6.2.2.2.2.2.2.2.2.2.2.2.2.2.2.2.2.2.2.1).trans (hFW.2.2.2.2.2.2.2.2.2.2.2.2.2.2.2.2.2.2.1), (hf6.2.2.2.2.2.2.2.2.2.2.2.2.2.2.2.2.2.2.2.1).trans (hFW.2.2.2.2.2.2.2.2.2.2.2.2.2.2.2.2.2.2.2.1), (hf6.2.2.2.2.2.2.2.2.2.2.2.2.2.2.2.2.2.2.2.2.1).trans (hFW.2.2.2.2.2.2.2.2.2.2.2.2.2.2.2.2.2.2.2.2.1), (hf6.2.2.2.2.2.2.2.2.2.2.2.2.2.2.2.2.2.2.2.2.2.2.2.2.1).trans (hFW.2.2.2.2.2.2.2.2.2.2.2.2.2.2.2.2.2.2.2.2.2.1), (hf6.2.2.2.2.2.2.2.2.2.2.2.2.2.2.2.2.2.2.2.2.2.2.2.2.2.1).trans (hFW.2.2.2.2.2.2.2.2.2.2.2.2.2.2.2.2.2.2.2.2.2.2.1), (hf6.2.2.2.2.2.2.2.2.2.2.2.2.2.2.2.2.2.2.2.2.2.2.2.2.2.2.1).trans (hFW.2.2.2.2.2.2.2.2.2.2.2.2.2.2.2.2.2.2.2.2.2.2.2.1), (hf6.2.2.2.2.2.2.2.2.2.2.2.2.2.2.2.2.2.2.2.2.2.2.2.2.2.2.2.1).trans (hFW.2.2.2.2.2.2.2.2.2.2.2.2.2.2.2.2.2.2.2.2.2.2.2.2.1), (hf6.2.2.2.2.2.2.2.2.2.2.2.2.2.2.2.2.2.2.2.2.2.2.2.2.2.2.2.2.1).trans (hFW.2.2.2.2.2.2.2.2.2.2.2.2.2.2.2.2.2.2.2.2.2.2.2.2.2.1), (hf6.2.2.2.2.2.2.2.2.2.2.2.2.2.2.2.2.2.2.2.2.2.2.2.2.2.2.2.2.2.1).trans (hFW.2.2.2.2.2.2.2.2.2.2.2.2.2.2.2.2.2.2.2.2.2.2.2.2.2.2.1), (hf6.2.2.2.2.2.2.2.2.2.2.2.2.2.2.2.2.2.2.2.2.2.2.2.2.2.2.2.2.2.2.1).trans (hFW.2.2.2.2.2.2.2.2.2.2.2.2.2.2.2.2.2.2.2.2.2.2.2.2.2.2.2.1), (hf6.2.2.2.2.2.2.2.2.2.2.2.2.2.2.2.2.2.2.2.2.2.2.2.2.2.2.2.2.2.2.2.1).trans (hFW.2.2.2.2.2.2.2.2.2.2.2.2.2.2.2.2.2.2.2.2.2.2.2.2.2.2.2.2.1), (hf6.2.2.2.2.2.2.2.2.2.2.2.2.2.2.2.2.2.2.2.2.2.2.2.2.2.2.2.2.2.2.2.2.1).trans (hFW.2.2.2.2.2.2.2.2.2.2.2.2.2.2.2.2.2.2.2.2.2.2.2.2.2.2.2.2.2.1), (hf6.2.2.2.2.2.2.2.2.2.2.2.2.2.2.2.2.2.2.2.2.2.2.2.2.2.2.2.2.2.2.2.2.2.1).trans (hFW.2.2.2.2.2.2.2.2.2.2.2.2.2.2.2.2.2.2.2.2.2.2.2.2.2.2.2.2.2.2.1), (hf6.2.2.2.2.2.2.2.2.2.2.2.2.2.2.2.2.2.2.2.2.2.2.2.2.2.2.2.2.2.2.2.2.2.2.1).trans (hFW.2.2.2.2.2.2.2.2.2.2.2.2.2.2.2.2.2.2.2.2.2.2.2.2.2.2.2.2.2.2.2.1), (hf6.2.2.2.2.2.2.2.2.2.2.2.2.2.2.2.2.2.2.2.2.2.2.2.2.2.2.2.2.2.2.2.2.2.2.2.1).trans (hFW.2.2.2.2.2.2.2.2.2.2.2.2.2.2.2.2.2.2.2.2.2.2.2.2.2.2.2.2.2.2.2.2.1), (hf6.2.2.2.2.2.2.2.2.2.2.2.2.2.2.2.2.2.2.2.2.2.2.2.2.2.2.2.2.2.2.2.2.2.2.2.2.1).trans (hFW.2.2.2.2.2.2.2.2.2.2.2.2.2.2.2.2.2.2.2.2.2.2.2.2.2.2.2.2.2.2.2.2.2.1), (hf6.2.2.2.2.2.2.2.2.2.2.2.2.2.2.2.2.2.2.2.2.2.2.2.2.2.2.2.2.2.2.2.2.2.2.2.2.2.1).trans (hFW.2.2.2.2.2.2.2.2.2.2.2.2.2.2.2.2.2.2.2.2.2.2.2.2.2.2.2.2.2.2.2.2.2.2.1), (hf6.2.2.2.2.2.2.2.2.2.2.2.2.2.2.2.2.2.2.2.2.2.2.2.2.2.2.2.2.2.2.2.2.2.2.2.2.2.2.1).trans (hFW.2.2.2.2.2.2.2.2.2.2.2.2.2.2.2.2.2.2.2.2.2.2.2.2.2.2.2.2.2.2.2.2.2.2.2.1), (hf6.2.2.2.2.2.2.2.2.2.2.2.2.2.2.2.2.2.2.2.2.2.2.2.2.2.2.2.2.2.2.2.2.2.2.2.2.2.2.2.1).trans (hFW.2.2.2.2.2.2.2.2.2.2.2.2.2.2.2.2.2.2.2.2.2.2.2.2.2.2.2.2.2.2.2.2.2.2.2.2.1), (hf6.2.2.2.2.2.2.2.2.2.2.2.2.2.2.2.2.2.2.2.2.2.2.2.2.2.2.2.2.2.2.2.2.2.2.2.2.2.2.2.2.1).trans (hFW.2.2.2.2.2.2.2.2.2.2.2.2.2.2.2.2.2.2.2.2.2.2.2.2.2.2.2.2.2.2.2.2.2.2.2.2.2.1), (hf6.2.2.2.2.2.2.2.2.2.2.2.2.2.2.2.2.2.2.2.2.2.2.2.2.2.2.2.2.2.2.2.2.2.2.2.2.2.2.2.2.2).trans (hFW.2.2.2.2.2.2.2.2.2.2.2.2.2.2.2.2.2.2.2.2.2.2.2.2.2.2.2.2.2.2.2.2.2.2.2.2.2.2)⟩ ?_ (by omega)
          rw [ep]
          exact hpW
        refine sf_X9_childAt hJV.1 hp0 hmV (fun r11 h11 => ⟨fun c3 => fin V r11 hJV hF weak hi2, fun c3 => ?_⟩)
        simp (disch := first | ((try simp (disch := first | ((try simp only [pn]) <;> omega) | fail) only [pn, pq]) <;> omega) | fail) only [pn, pq] at c3
        have hnc := h11 c3
        rw [eM, eL, eF] at hnc
        have hPL : PLS S a1.toNatClampNeg x3.toNatClampNeg := by
          refine PL_branch hN hM hC jb (by omega) (by omega) (by omega) (by omega) b1 ?_ (fun y q1 q2 q3 => by have := hnc y q1 q2 q3; omega)
          rcases b2 with b2 | b2
          · left; omega
          · right; exact b2
        obtain ⟨T, ta, tb⟩ := hpV
        have hTf : T x3.toNatClampNeg = false := by
          cases hT : T x3.toNatClampNeg with
          | false => rfl
          | true =>
            exfalso
            have hbeg : (b9g_beginning S x3.toNatClampNeg).toInt = (b9g_nodeLevel S a1.toNatClampNeg).toInt + 1 := by
              unfold PLS at hPL
              rcases hPL with ⟨_, q⟩ | ⟨_, _, q, _⟩
              · omega
              · exact q
            rcases ta _ hT with ⟨y, y1, y2⟩ | ⟨y1, y2⟩
            · exact PL_once hN y1 (by omega) y2 hPL
            · omega
        have hlt := cntB_lt (n := 64) (show x3.toNatClampNeg < 64 by omega) hTf
        have hset := cntB_set (n := 64) (show x3.toNatClampNeg < 64 by omega) hTf
        refine sf_X9_places hJV (by omega) (by omega) (by omega) (fun u14 hJ14 hf14 h14 _ _ => ?_)
        have eI : b9g_itemMany u14 = b9g_itemMany V := hf14.2.2.2.2.2.2.2.2.2.2.2.2.2.2.2.2.2.2.2.2.2.2.2.2.1
        refine fin u14 r11 hJ14 ⟨(hf14.1).trans (hF.1), (hf14.2.1).trans (hF.2.1), (hf14.2.2.1).trans (hF.2.2.1), (hf14.2.2.2.1).trans (hF.2.2.2.1), (hf14.2.2.2.2.1).trans (hF.2.2.2.2.1), (hf14.2.2.2.2.2.1).trans (hF.2.2.2.2.2.1), (hf14.2.2.2.2.2.2.1).trans (hF.2.2.2.2.2.2.1), (hf14.2.2.2.2.2.2.2.1).trans (hF.2.2.2.2.2.2.2.1), (hf14.2.2.2.2.2.2.2.2.1).trans (hF.2.2.2.2.2.2.2.2.1), (hf14.2.2.2.2.2.2.2.2.2.1).trans (hF.2.2.2.2.2.2.2.2.2.1), (hf14.2.2.2.2.2.2.2.2.2.2.1).trans (hF.2.2.2.2.2.2.2.2.2.2.1), (hf14.2.2.2.2.2.2.2.2.2.2.2.1).trans (hF.2.2.2.2.2.2.2.2.2.2.2.1), (hf14.2.2.2.2.2.2.2.2.2.2.2.2.1).trans (hF.2.2.2.2.2.2.2.2.2.2.2.2.1), (hf14.2.2.2.2.2.2.2.2.2.2.2.2.2.1).trans (hF.2.2.2.2.2.2.2.2.2.2.2.2.2.1), (hf14.2.2.2.2.2.2.2.2.2.2.2.2.2.2.1).trans (hF.2.2.2.2.2.2.2.2.2.2.2.2.2.2.1), (hf14.2.2.2.2.2.2.2.2.2.2.2.2.2.2.2.1).trans (hF.2.2.2.2.2.2.2.2.2.2.2.2.2.2.2.1), (hf14.2.2.2.2.2.2.2.2.2.2.2.2.2.2.2.2.1).trans (hF.2.2.2.2.2.2.2.2.2.2.2.2.2.2.2.2.1), (hf14.2.2.2.2.2.2.2.2.2.2.2.2.2.2.2.2.2.1).trans (hF.2.2.2.2.2.2.2.2.2.2.2.2.2.2.2.2.2.1), (hf14.2.2.2.2.2.2.2.2.2.2.2.2.2.2.2.2.2.2.1).trans (hF.2.2.2.2.2.2.2.2.2.2.2.2.2.2.2.2.2.2.1), (hf14.2.2.2.2.2.2.2.2.2.2.2.2.2.2.2.2.2.2.2.1).trans (hF.2.2.2.2.2.2.2.2.2.2.2.2.2.2.2.2.2.2.2.1), (hf14.2.2.2.2.2.2.2.2.2.2.2.2.2.2.2.2.2.2.2.2.1).trans (hF.2.2.2.2.2.2.2.2.2.2.2.2.2.2.2.2.2.2.2.2.1), (hf14.2.2.2.2.2.2.2.2.2.2.2.2.2.2.2.2.2.2.2.2.2.2.2.2.2.1).trans (hF.2.2.2.2.2.2.2.2.2.2.2.2.2.2.2.2.2.2.2.2.2.1), (hf14.2.2.2.2.2.2.2.2.2.2.2.2.2.2.2.2.2.2.2.2.2.2.2.2.2.2.1).trans (hF.2.2.2.2.2.2.2.2.2.2.2.2.2.2.2.2.2.2.2.2.2.2.1), (hf14.2.2.2.2.2.2.2.2.2.2.2.2.2.2.2.2.2.2.2.2.2.2.2.2.2.2.2.1).trans (hF.2.2.2.2.2.2.2.2.2.2.2.2.2.2.2.2.2.2.2.2.2.2.2.1), (hf14.2.2.2.2.2.2.2.2.2.2.2.2.2.2.2.2.2.2.2.2.2.2.2.2.2.2.2.2.1).trans (hF.2.2.2.2.2.2.2.2.2.2.2.2.2.2.2.2.2.2.2.2.2.2.2.2.1), (hf14.2.2.2.2.2.2.2.2.2.2.2.2.2.2.2.2.2.2.2.2.2.2.2.2.2.2.2.2.2.1).trans (hF.2.2.2.2.2.2.2.2.2.2.2.2.2.2.2.2.2.2.2.2.2.2.2.2.2.1), (hf14.2.2.2.2.2.2.2.2.2.2.2.2.2.2.2.2.2.2.2.2.2.2.2.2.2.2.2.2.2.2.1).trans (hF.2.2.2.2.2.2.2.2.2.2.2.2.2.2.2.2.2.2.2.2.2.2.2.2.2.2.1), (hf14.2.2.2.2.2.2.2.2.2.2.2.2.2.2.2.2.2.2.2.2.2.2.2.2.2.2.2.2.2.2.2.1).trans (hF.2.2.2.2.2.2.2.2.2.2.2.2.2.2.2.2.2.2.2.2.2.2.2.2.2.2.2.1), (hf14.2.2.2.2.2.2.2.2.2.2.2.2.2.2.2.2.2.2.2.2.2.2.2.2.2.2.2.2.2.2.2.2.1).trans (hF.2.2.2.2.2.2.2.2.2.2.2.2.2.2.2.2.2.2.2.2.2.2.2.2.2.2.2.2.1), (hf14.2.2.2.2.2.2.2.2.2.2.2.2.2.2.2.2.2.2.2.2.2.2.2.2.2.2.2.2.2.2.2.2.2.1).trans (hF.2.2.2.2.2.2.2.2.2.2.2.2.2.2.2.2.2.2.2.2.2.2.2.2.2.2.2.2.2.1), (hf14.2.2.2.2.2.2.2.2.2.2.2.2.2.2.2.2.2.2.2.2.2.2.2.2.2.2.2.2.2.2.2.2.2.2.1).trans (hF.2.2.2.2.2.2.2.2.2.2.2.2.2.2.2.2.2.2.2.2.2.2.2.2.2.2.2.2.2.2.1), (hf14.2.2.2.2.2.2.2.2.2.2.2.2.2.2.2.2.2.2.2.2.2.2.2.2.2.2.2.2.2.2.2.2.2.2.2.1).trans (hF.2.2.2.2.2.2.2.2.2.2.2.2.2.2.2.2.2.2.2.2.2.2.2.2.2.2.2.2.2.2.2.1), (hf14.2.2.2.2.2.2.2.2.2.2.2.2.2.2.2.2.2.2.2.2.2.2.2.2.2.2.2.2.2.2.2.2.2.2.2.2.1).trans (hF.2.2.2.2.2.2.2.2.2.2.2.2.2.2.2.2.2.2.2.2.2.2.2.2.2.2.2.2.2.2.2.2.1), (hf14.2.2.2.2.2.2.2.2.2.2.2.2.2.2.2.2.2.2.2.2.2.2.2.2.2.2.2.2.2.2.2.2.2.2.2.2.2.1).trans (hF.2.2.2.2.2.2.2.2.2.2.2.2.2.2.2.2.2.2.2.2.2.2.2.2.2.2.2.2.2.2.2.2.2.1), (hf14.2.2.2.2.2.2.2.2.2.2.2.2.2.2.2.2.2.2.2.2.2.2.2.2.2.2.2.2.2.2.2.2.2.2.2.2.2.2.1).trans (hF.2.2.2.2.2.2.2.2.2.2.2.2.2.2.2.2.2.2.2.2.2.2.2.2.2.2.2.2.2.2.2.2.2.2.1), (hf14.2.2.2.2.2.2.2.2.2.2.2.2.2.2.2.2.2.2.2.2.2.2.2.2.2.2.2.2.2.2.2.2.2.2.2.2.2.2.2.1).trans (hF.2.2.2.2.2.2.2.2.2.2.2.2.2.2.2.2.2.2.2.2.2.2.2.2.2.2.2.2.2.2.2.2.2.2.2.1), (hf14.2.2.2.2.2.2.2.2.2.2.2.2.2.2.2.2.2.2.2.2.2.2.2.2.2.2.2.2.2.2.2.2.2.2.2.2.2.2.2.2.1).trans (hF.2.2.2.2.2.2.2.2.2.2.2.2.2.2.2.2.2.2.2.2.2.2.2.2.2.2.2.2.2.2.2.2.2.2.2.2.1), (hf14.2.2.2.2.2.2.2.2.2.2.2.2.2.2.2.2.2.2.2.2.2.2.2.2.2.2.2.2.2.2.2.2.2.2.2.2.2.2.2.2.2.1).trans (hF.2.2.2.2.2.2.2.2.2.2.2.2.2.2.2.2.2.2.2.2.2.2.2.2.2.2.2.2.2.2.2.2.2.2.2.2.2.1), (hf14.2.2.2.2.2.2.2.2.2.2.2.2.2.2.2.2.2.2.2.2.2.2.2.2.2.2.2.2.2.2.2.2.2.2.2.2.2.2.2.2.2.2).trans (hF.2.2.2.2.2.2.2.2.2.2.2.2.2.2.2.2.2.2.2.2.2.2.2.2.2.2.2.2.2.2.2.2.2.2.2.2.2.2)⟩ ⟨setB T x3.toNatClampNeg, fun i hi => ?_, by omega⟩ (by rw [eI]; exact hi2)
        rcases setB_true hi with h | h
        · subst h
          exact Or.inr ⟨hPL, Or.inl (by omega)⟩
        · rcases ta i h with h | ⟨q1, q2⟩
          · exact Or.inl h
          · exact Or.inr ⟨q1, by omega⟩
      · refine next V hJV hF weak ?_
        rcases hiV with h | ⟨h, h', h''⟩
        · omega
        · omega
  have start : ∀ t0 : Int32, wp_X9_laysNode_13 S a1 t0 Q := by
    intro t0
    have hF0 : F_X9_laysNode S S := ⟨rfl, rfl, rfl, rfl, rfl, rfl, rfl, rfl, rfl, rfl, rfl, rfl, rfl, rfl, rfl, rfl, rfl, rfl, rfl, rfl, rfl, rfl, rfl, rfl, rfl, rfl, rfl, rfl, rfl, rfl, rfl, rfl, rfl, rfl, rfl, rfl, rfl, rfl, rfl⟩
    unfold wp_X9_laysNode_13
    refine sf_X9_isNodeEnd hJ.1 hp0 hp1 (fun r15 hz hr => ⟨fun c => ?_, fun c => ?_⟩)
    · exact loop t0 S hJ hF0 ⟨T0, fun i hi => Or.inl (t1 i hi), t2⟩ (Or.inl (by omega))
    · simp (disch := first | ((try simp (disch := first | ((try simp only [pn]) <;> omega) | fail) only [pn, pq]) <;> omega) | fail) only [pn, pq] at c
      have hbe : (b9g_beginning S (b9g_nodeLeaf S a1.toNatClampNeg).toNatClampNeg).toInt = (b9g_nodeLevel S a1.toNatClampNeg).toInt := by omega
      have hPL : PLS S a1.toNatClampNeg (b9g_nodeLeaf S a1.toNatClampNeg).toNatClampNeg := Or.inl ⟨by omega, hbe⟩
      have hTf : T0 (b9g_nodeLeaf S a1.toNatClampNeg).toNatClampNeg = false := by
        cases hT : T0 (b9g_nodeLeaf S a1.toNatClampNeg).toNatClampNeg with
        | false => rfl
        | true =>
          exfalso
          obtain ⟨y, y1, y2⟩ := t1 _ hT
          exact PL_once hN y1 (by omega) y2 hPL
      have hlt := cntB_lt (n := 64) (show (b9g_nodeLeaf S a1.toNatClampNeg).toNatClampNeg < 64 by omega) hTf
      have hset := cntB_set (n := 64) (show (b9g_nodeLeaf S a1.toNatClampNeg).toNatClampNeg < 64 by omega) hTf
      refine ⟨pt_in (by omega) (by omega), sf_X9_places hJ (by omega) (by omega) (by omega) (fun u18 hJ18 hf18 h18 _ _ => ?_)⟩
      have eI : b9g_itemMany u18 = b9g_itemMany S := hf18.2.2.2.2.2.2.2.2.2.2.2.2.2.2.2.2.2.2.2.2.2.2.2.2.1
      have hF18 : F_X9_laysNode S u18 := ⟨(hf18.1).trans (hF0.1), (hf18.2.1).trans (hF0.2.1), (hf18.2.2.1).trans (hF0.2.2.1), (hf18.2.2.2.1).trans (hF0.2.2.2.1), (hf18.2.2.2.2.1).trans (hF0.2.2.2.2.1), (hf18.2.2.2.2.2.1).trans (hF0.2.2.2.2.2.1), (hf18.2.2.2.2.2.2.1).trans (hF0.2.2.2.2.2.2.1), (hf18.2.2.2.2.2.2.2.1).trans (hF0.2.2.2.2.2.2.2.1), (hf18.2.2.2.2.2.2.2.2.1).trans (hF0.2.2.2.2.2.2.2.2.1), (hf18.2.2.2.2.2.2.2.2.2.1).trans (hF0.2.2.2.2.2.2.2.2.2.1), (hf18.2.2.2.2.2.2.2.2.2.2.1).trans (hF0.2.2.2.2.2.2.2.2.2.2.1), (hf18.2.2.2.2.2.2.2.2.2.2.2.1).trans (hF0.2.2.2.2.2.2.2.2.2.2.2.1), (hf18.2.2.2.2.2.2.2.2.2.2.2.2.1).trans (hF0.2.2.2.2.2.2.2.2.2.2.2.2.1), (hf18.2.2.2.2.2.2.2.2.2.2.2.2.2.1).trans (hF0.2.2.2.2.2.2.2.2.2.2.2.2.2.1), (hf18.2.2.2.2.2.2.2.2.2.2.2.2.2.2.1).trans (hF0.2.2.2.2.2.2.2.2.2.2.2.2.2.2.1), (hf18.2.2.2.2.2.2.2.2.2.2.2.2.2.2.2.1).trans (hF0.2.2.2.2.2.2.2.2.2.2.2.2.2.2.2.1), (hf18.2.2.2.2.2.2.2.2.2.2.2.2.2.2.2.2.1).trans (hF0.2.2.2.2.2.2.2.2.2.2.2.2.2.2.2.2.1), (hf18.2.2.2.2.2.2.2.2.2.2.2.2.2.2.2.2.2.1).trans (hF0.2.2.2.2.2.2.2.2.2.2.2.2.2.2.2.2.2.1), (hf18.2.2.2.2.2.2.2.2.2.2.2.2.2.2.2.2.2.2.1).trans (hF0.2.2.2.2.2.2.2.2.2.2.2.2.2.2.2.2.2.2.1), (hf18.2.2.2.2.2.2.2.2.2.2.2.2.2.2.2.2.2.2.2.1).trans (hF0.2.2.2.2.2.2.2.2.2.2.2.2.2.2.2.2.2.2.2.1), (hf18.2.2.2.2.2.2.2.2.2.2.2.2.2.2.2.2.2.2.2.2.1).trans (hF0.2.2.2.2.2.2.2.2.2.2.2.2.2.2.2.2.2.2.2.2.1), (hf18.2.2.2.2.2.2.2.2.2.2.2.2.2.2.2.2.2.2.2.2.2.2.2.2.2.1).trans (hF0.2.2.2.2.2.2.2.2.2.2.2.2.2.2.2.2.2.2.2.2.2.1), (hf18.2.2.2.2.2.2.2.2.2.2.2.2.2.2.2.2.2.2.2.2.2.2.2.2.2.2.1).trans (hF0.2.2.2.2.2.2.2.2.2.2.2.2.2.2.2.2.2.2.2.2.2.2.1), (hf18.2.2.2.2.2.2.2.2.2.2.2.2.2.2.2.2.2.2.2.2.2.2.2.2.2.2.2.1).trans (hF0.2.2.2.2.2.2.2.2.2.2.2.2.2.2.2.2.2.2.2.2.2.2.2.1), (hf18.2.2.2.2.2.2.2.2.2.2.2.2.2.2.2.2.2.2.2.2.2.2.2.2.2.2.2.2.1).trans (hF0.2.2.2.2.2.2.2.2.2.2.2.2.2.2.2.2.2.2.2.2.2.2.2.2.1), (hf18.2.2.2.2.2.2.2.2.2.2.2.2.2.2.2.2.2.2.2.2.2.2.2.2.2.2.2.2.2.1).trans (hF0.2.2.2.2.2.2.2.2.2.2.2.2.2.2.2.2.2.2.2.2.2.2.2.2.2.1), (hf18.2.2.2.2.2.2.2.2.2.2.2.2.2.2.2.2.2.2.2.2.2.2.2.2.2.2.2.2.2.2.1).trans (hF0.2.2.2.2.2.2.2.2.2.2.2.2.2.2.2.2.2.2.2.2.2.2.2.2.2.2.1), (hf18.2.2.2.2.2.2.2.2.2.2.2.2.2.2.2.2.2.2.2.2.2.2.2.2.2.2.2.2.2.2.2.1).trans (hF0.2.2.2.2.2.2.2.2.2.2.2.2.2.2.2.2.2.2.2.2.2.2.2.2.2.2.2.1), (hf18.2.2.2.2.2.2.2.2.2.2.2.2.2.2.2.2.2.2.2.2.2.2.2.2.2.2.2.2.2.2.2.2.1).trans (hF0.2.2.2.2.2.2.2.2.2.2.2.2.2.2.2.2.2.2.2.2.2.2.2.2.2.2.2.2.1), (hf18.2.2.2.2.2.2.2.2.2.2.2.2.2.2.2.2.2.2.2.2.2.2.2.2.2.2.2.2.2.2.2.2.2.1).trans (hF0.2.2.2.2.2.2.2.2.2.2.2.2.2.2.2.2.2.2.2.2.2.2.2.2.2.2.2.2.2.1), (hf18.2.2.2.2.2.2.2.2.2.2.2.2.2.2.2.2.2.2.2.2.2.2.2.2.2.2.2.2.2.2.2.2.2.2.1).trans (hF0.2.2.2.2.2.2.2.2.2.2.2.2.2.2.2.2.2.2.2.2.2.2.2.2.2.2.2.2.2.2.1), (hf18.2.2.2.2.2.2.2.2.2.2.2.2.2.2.2.2.2.2.2.2.2.2.2.2.2.2.2.2.2.2.2.2.2.2.2.1).trans (hF0.2.2.2.2.2.2.2.2.2.2.2.2.2.2.2.2.2.2.2.2.2.2.2.2.2.2.2.2.2.2.2.1), (hf18.2.2.2.2.2.2.2.2.2.2.2.2.2.2.2.2.2.2.2.2.2.2.2.2.2.2.2.2.2.2.2.2.2.2.2.2.1).trans (hF0.2.2.2.2.2.2.2.2.2.2.2.2.2.2.2.2.2.2.2.2.2.2.2.2.2.2.2.2.2.2.2.2.1), (hf18.2.2.2.2.2.2.2.2.2.2.2.2.2.2.2.2.2.2.2.2.2.2.2.2.2.2.2.2.2.2.2.2.2.2.2.2.2.1).trans (hF0.2.2.2.2.2.2.2.2.2.2.2.2.2.2.2.2.2.2.2.2.2.2.2.2.2.2.2.2.2.2.2.2.2.1), (hf18.2.2.2.2.2.2.2.2.2.2.2.2.2.2.2.2.2.2.2.2.2.2.2.2.2.2.2.2.2.2.2.2.2.2.2.2.2.2.1).trans (hF0.2.2.2.2.2.2.2.2.2.2.2.2.2.2.2.2.2.2.2.2.2.2.2.2.2.2.2.2.2.2.2.2.2.2.1), (hf18.2.2.2.2.2.2.2.2.2.2.2.2.2.2.2.2.2.2.2.2.2.2.2.2.2.2.2.2.2.2.2.2.2.2.2.2.2.2.2.1).trans (hF0.2.2.2.2.2.2.2.2.2.2.2.2.2.2.2.2.2.2.2.2.2.2.2.2.2.2.2.2.2.2.2.2.2.2.2.1), (hf18.2.2.2.2.2.2.2.2.2.2.2.2.2.2.2.2.2.2.2.2.2.2.2.2.2.2.2.2.2.2.2.2.2.2.2.2.2.2.2.2.1).trans (hF0.2.2.2.2.2.2.2.2.2.2.2.2.2.2.2.2.2.2.2.2.2.2.2.2.2.2.2.2.2.2.2.2.2.2.2.2.1), (hf18.2.2.2.2.2.2.2.2.2.2.2.2.2.2.2.2.2.2.2.2.2.2.2.2.2.2.2.2.2.2.2.2.2.2.2.2.2.2.2.2.2.1).trans (hF0.2.2.2.2.2.2.2.2.2.2.2.2.2.2.2.2.2.2.2.2.2.2.2.2.2.2.2.2.2.2.2.2.2.2.2.2.2.1), (hf18.2.2.2.2.2.2.2.2.2.2.2.2.2.2.2.2.2.2.2.2.2.2.2.2.2.2.2.2.2.2.2.2.2.2.2.2.2.2.2.2.2.2).trans (hF0.2.2.2.2.2.2.2.2.2.2.2.2.2.2.2.2.2.2.2.2.2.2.2.2.2.2.2.2.2.2.2.2.2.2.2.2.2.2)⟩
      have hp18 : ∀ W : bT9, b9g_places W = b9g_places u18 → (∃ T : Nat → Bool, (∀ i : Nat, T i = true → (∃ y : Nat, y < a1.toNatClampNeg ∧ PLS S y i) ∨ (PLS S a1.toNatClampNeg i ∧ ((i : Int) < (b9g_nodeLeaf S a1.toNatClampNeg).toInt ∨ (b9g_beginning S i).toInt = (b9g_nodeLevel S a1.toNatClampNeg).toInt))) ∧ (b9g_places W).toInt = cntB T 64) := by
        intro W eW
        refine ⟨setB T0 (b9g_nodeLeaf S a1.toNatClampNeg).toNatClampNeg, fun i hi => ?_, by rw [eW]; omega⟩
        rcases setB_true hi with h | h
        · subst h
          exact Or.inr ⟨hPL, Or.inr hbe⟩
        · exact Or.inl (t1 i h)
      refine ⟨fun _ => ?_, fun _ => ?_⟩
      · exact loop t0 u18 hJ18 hF18 (hp18 u18 rfl) (Or.inl (by rw [eI]; omega))
      · refine sf_X9_laysItem hJ18 (by rw [eI]; omega) (fun u20 hJ20 hf20 h20 _ _ _ => ?_)
        have ep : b9g_places u20 = b9g_places u18 := hf20.2.2.2.2.2.2.2.2.2.2.2.2.2.2.2.2.2.2.2.2.2.2.2.1
        refine loop t0 u20 hJ20 ⟨(hf20.1).trans (hF18.1), (hf20.2.1).trans (hF18.2.1), (hf20.2.2.1).trans (hF18.2.2.1), (hf20.2.2.2.1).trans (hF18.2.2.2.1), (hf20.2.2.2.2.1).trans (hF18.2.2.2.2.1), (hf20.2.2.2.2.2.1).trans (hF18.2.2.2.2.2.1), (hf20.2.2.2.2.2.2.1).trans (hF18.2.2.2.2.2.2.1), (hf20.2.2.2.2.2.2.2.1).trans (hF18.2.2.2.2.2.2.2.1), (hf20.2.2.2.2.2.2.2.2.1).trans (hF18.2.2.2.2.2.2.2.2.1), (hf20.2.2.2.2.2.2.2.2.2.1).trans (hF18.2.2.2.2.2.2.2.2.2.1), (hf20.2.2.2.2.2.2.2.2.2.2.1).trans (hF18.2.2.2.2.2.2.2.2.2.2.1), (hf20.2.2.2.2.2.2.2.2.2.2.2.1).trans (hF18.2.2.2.2.2.2.2.2.2.2.2.1), (hf20.2.2.2.2.2.2.2.2.2.2.2.2.1).trans (hF18.2.2.2.2.2.2.2.2.2.2.2.2.1), (hf20.2.2.2.2.2.2.2.2.2.2.2.2.2.1).trans (hF18.2.2.2.2.2.2.2.2.2.2.2.2.2.1), (hf20.2.2.2.2.2.2.2.2.2.2.2.2.2.2.1).trans (hF18.2.2.2.2.2.2.2.2.2.2.2.2.2.2.1), (hf20.2.2.2.2.2.2.2.2.2.2.2.2.2.2.2.1).trans (hF18.2.2.2.2.2.2.2.2.2.2.2.2.2.2.2.1), (hf20.2.2.2.2.2.2.2.2.2.2.2.2.2.2.2.2.1).trans (hF18.2.2.2.2.2.2.2.2.2.2.2.2.2.2.2.2.1), (hf20.2.2.2.2.2.2.2.2.2.2.2.2.2.2.2.2.2.1).trans (hF18.2.2.2.2.2.2.2.2.2.2.2.2.2.2.2.2.2.1), (hf20.2.2.2.2.2.2.2.2.2.2.2.2.2.2.2.2.2.2.1).trans (hF18.2.2.2.2.2.2.2.2.2.2.2.2.2.2.2.2.2.2.1), (hf20.2.2.2.2.2.2.2.2.2.2.2.2.2.2.2.2.2.2.2.1).trans (hF18.2.2.2.2.2.2.2.2.2.2.2.2.2.2.2.2.2.2.2.1), (hf20.2.2.2.2.2.2.2.2.2.2.2.2.2.2.2.2.2.2.2.2.1).trans (hF18.2.2.2.2.2.2.2.2.2.2.2.2.2.2.2.2.2.2.2.2.1), (hf20.2.2.2.2.2.2.2.2.2.2.2.2.2.2.2.2.2.2.2.2.2.2.2.2.1).trans (hF18.2.2.2.2.2.2.2.2.2.2.2.2.2.2.2.2.2.2.2.2.2.1), (hf20.2.2.2.2.2.2.2.2.2.2.2.2.2.2.2.2.2.2.2.2.2.2.2.2.2.1).trans (hF18.2.2.2.2.2.2.2.2.2.2.2.2.2.2.2.2.2.2.2.2.2.2.1), (hf20.2.2.2.2.2.2.2.2.2.2.2.2.2.2.2.2.2.2.2.2.2.2.2.2.2.2.1).trans (hF18.2.2.2.2.2.2.2.2.2.2.2.2.2.2.2.2.2.2.2.2.2.2.2.1), (hf20.2.2.2.2.2.2.2.2.2.2.2.2.2.2.2.2.2.2.2.2.2.2.2.2.2.2.2.1).trans (hF18.2.2.2.2.2.2.2.2.2.2.2.2.2.2.2.2.2.2.2.2.2.2.2.2.1), (hf20.2.2.2.2.2.2.2.2.2.2.2.2.2.2.2.2.2.2.2.2.2.2.2.2.2.2.2.2.1).trans (hF18.2.2.2.2.2.2.2.2.2.2.2.2.2.2.2.2.2.2.2.2.2.2.2.2.2.1), (hf20.2.2.2.2.2.2.2.2.2.2.2.2.2.2.2.2.2.2.2.2.2.2.2.2.2.2.2.2.2.1).trans (hF18.2.2.2.2.2.2.2.2.2.2.2.2.2.2.2.2.2.2.2.2.2.2.2.2.2.2.1), (hf20.2.2.2.2.2.2.2.2.2.2.2.2.2.2.2.2.2.2.2.2.2.2.2.2.2.2.2.2.2.2.1).trans (hF18.2.2.2.2.2.2.2.2.2.2.2.2.2.2.2.2.2.2.2.2.2.2.2.2.2.2.2.1), (hf20.2.2.2.2.2.2.2.2.2.2.2.2.2.2.2.2.2.2.2.2.2.2.2.2.2.2.2.2.2.2.2.1).trans (hF18.2.2.2.2.2.2.2.2.2.2.2.2.2.2.2.2.2.2.2.2.2.2.2.2.2.2.2.2.1), (hf20.2.2.2.2.2.2.2.2.2.2.2.2.2.2.2.2.2.2.2.2.2.2.2.2.2.2.2.2.2.2.2.2.1).trans (hF18.2.2.2.2.2.2.2.2.2.2.2.2.2.2.2.2.2.2.2.2.2.2.2.2.2.2.2.2.2.1), (hf20.2.2.2.2.2.2.2.2.2.2.2.2.2.2.2.2.2.2.2.2.2.2.2.2.2.2.2.2.2.2.2.2.2.1).trans (hF18.2.2.2.2.2.2.2.2.2.2.2.2.2.2.2.2.2.2.2.2.2.2.2.2.2.2.2.2.2.2.1), (hf20.2.2.2.2.2.2.2.2.2.2.2.2.2.2.2.2.2.2.2.2.2.2.2.2.2.2.2.2.2.2.2.2.2.2.1).trans (hF18.2.2.2.2.2.2.2.2.2.2.2.2.2.2.2.2.2.2.2.2.2.2.2.2.2.2.2.2.2.2.2.1), (hf20.2.2.2.2.2.2.2.2.2.2.2.2.2.2.2.2.2.2.2.2.2.2.2.2.2.2.2.2.2.2.2.2.2.2.2.1).trans (hF18.2.2.2.2.2.2.2.2.2.2.2.2.2.2.2.2.2.2.2.2.2.2.2.2.2.2.2.2.2.2.2.2.1), (hf20.2.2.2.2.2.2.2.2.2.2.2.2.2.2.2.2.2.2.2.2.2.2.2.2.2.2.2.2.2.2.2.2.2.2.2.2.1).trans (hF18.2.2.2.2.2.2.2.2.2.2.2.2.2.2.2.2.2.2.2.2.2.2.2.2.2.2.2.2.2.2.2.2.2.1), (hf20.2.2.2.2.2.2.2.2.2.2.2.2.2.2.2.2.2.2.2.2.2.2.2.2.2.2.2.2.2.2.2.2.2.2.2.2.2.1).trans (hF18.2.2.2.2.2.2.2.2.2.2.2.2.2.2.2.2.2.2.2.2.2.2.2.2.2.2.2.2.2.2.2.2.2.2.1), (hf20.2.2.2.2.2.2.2.2.2.2.2.2.2.2.2.2.2.2.2.2.2.2.2.2.2.2.2.2.2.2.2.2.2.2.2.2.2.2.1).trans (hF18.2.2.2.2.2.2.2.2.2.2.2.2.2.2.2.2.2.2.2.2.2.2.2.2.2.2.2.2.2.2.2.2.2.2.2.1), (hf20.2.2.2.2.2.2.2.2.2.2.2.2.2.2.2.2.2.2.2.2.2.2.2.2.2.2.2.2.2.2.2.2.2.2.2.2.2.2.2.1).trans (hF18.2.2.2.2.2.2.2.2.2.2.2.2.2.2.2.2.2.2.2.2.2.2.2.2.2.2.2.2.2.2.2.2.2.2.2.2.1), (hf20.2.2.2.2.2.2.2.2.2.2.2.2.2.2.2.2.2.2.2.2.2.2.2.2.2.2.2.2.2.2.2.2.2.2.2.2.2.2.2.2.1).trans (hF18.2.2.2.2.2.2.2.2.2.2.2.2.2.2.2.2.2.2.2.2.2.2.2.2.2.2.2.2.2.2.2.2.2.2.2.2.2.1), (hf20.2.2.2.2.2.2.2.2.2.2.2.2.2.2.2.2.2.2.2.2.2.2.2.2.2.2.2.2.2.2.2.2.2.2.2.2.2.2.2.2.2).trans (hF18.2.2.2.2.2.2.2.2.2.2.2.2.2.2.2.2.2.2.2.2.2.2.2.2.2.2.2.2.2.2.2.2.2.2.2.2.2.2)⟩ (hp18 u20 ep) (Or.inr ⟨rfl, hbe, ?_⟩)
        rw [eI] at h20
        omega
  unfold wp_X9_laysNode
  exact ⟨fun _ => start _, fun _ => start _⟩
