set_option maxRecDepth 20000 in
set_option maxHeartbeats 8000000 in
theorem sf_X9_isOne {S : bT9} (hJ : K9 S) {a1 : Int32} {Q : Int32 → Prop} (hp0 : 0 ≤ a1.toInt) (hp1 : a1.toInt ≤ 699) (hq : ∀ r : Int32, bf_bool r → Q r) : wp_X9_isOne S a1 Q := by
  unfold wp_X9_isOne
  have jf1 : (-4 ≤ ((b9g_now S) 1).toInt ∧ ((b9g_now S) 1).toInt ≤ 4) ∧ (-3 ≤ ((b9g_now S) 4).toInt ∧ ((b9g_now S) 4).toInt ≤ 252) ∧ (0 ≤ ((b9g_now S) 8).toInt ∧ ((b9g_now S) 8).toInt ≤ 64) ∧ (0 ≤ ((b9g_now S) 9).toInt ∧ ((b9g_now S) 9).toInt ≤ 64) ∧ (0 ≤ ((b9g_now S) 10).toInt ∧ ((b9g_now S) 10).toInt ≤ 16) ∧ (0 ≤ ((b9g_now S) 12).toInt ∧ ((b9g_now S) 12).toInt ≤ 8) := K9g_now hJ
  have rga1 := pt_rg a1
  refine ⟨fun c1 => ?_, fun c1 => ?_⟩
  · try simp (disch := first | ((try simp (disch := first | ((try simp only [pn]) <;> omega) | fail) only [pn, pq]) <;> omega) | fail) only [pn, pq] at c1
    refine ⟨fun c2 => ?_, fun c2 => ?_⟩
    · try simp (disch := first | ((try simp (disch := first | ((try simp only [pn]) <;> omega) | fail) only [pn, pq]) <;> omega) | fail) only [pn, pq] at c2
      refine ⟨fun c3 => ?_, fun c3 => ?_⟩
      · try simp (disch := first | ((try simp (disch := first | ((try simp only [pn]) <;> omega) | fail) only [pn, pq]) <;> omega) | fail) only [pn, pq] at c3
        unfold wp_X9_isOne_69
        exact ⟨by first | rfl | assumption, hq _ (by first | rfl | assumption) ⟩
      · try simp (disch := first | ((try simp (disch := first | ((try simp only [pn]) <;> omega) | fail) only [pn, pq]) <;> omega) | fail) only [pn, pq] at c3
        refine ⟨pt_in (by (try simp (disch := first | ((try simp (disch := first | ((try simp only [pn]) <;> omega) | fail) only [pn, pq]) <;> omega) | fail) only [pn, pq]) <;> (intros; (try simp (disch := first | ((try simp (disch := first | ((try simp only [pn]) <;> omega) | fail) only [pn, pq]) <;> omega) | fail) only [pn, pq]) <;> omega)) (by (try simp (disch := first | ((try simp (disch := first | ((try simp only [pn]) <;> omega) | fail) only [pn, pq]) <;> omega) | fail) only [pn, pq]) <;> (intros; (try simp (disch := first | ((try simp (disch := first | ((try simp only [pn]) <;> omega) | fail) only [pn, pq]) <;> omega) | fail) only [pn, pq]) <;> omega)), ?_⟩
        refine ⟨pt_in (by (try simp (disch := first | ((try simp (disch := first | ((try simp only [pn]) <;> omega) | fail) only [pn, pq]) <;> omega) | fail) only [pn, pq]) <;> (intros; (try simp (disch := first | ((try simp (disch := first | ((try simp only [pn]) <;> omega) | fail) only [pn, pq]) <;> omega) | fail) only [pn, pq]) <;> omega)) (by (try simp (disch := first | ((try simp (disch := first | ((try simp only [pn]) <;> omega) | fail) only [pn, pq]) <;> omega) | fail) only [pn, pq]) <;> (intros; (try simp (disch := first | ((try simp (disch := first | ((try simp only [pn]) <;> omega) | fail) only [pn, pq]) <;> omega) | fail) only [pn, pq]) <;> omega)), ?_⟩
        refine ⟨fun c4 => ?_, fun c4 => ?_⟩
        · try simp (disch := first | ((try simp (disch := first | ((try simp only [pn]) <;> omega) | fail) only [pn, pq]) <;> omega) | fail) only [pn, pq] at c4
          exact ⟨by first | rfl | assumption, hq _ (by first | rfl | assumption) ⟩
        · try simp (disch := first | ((try simp (disch := first | ((try simp only [pn]) <;> omega) | fail) only [pn, pq]) <;> omega) | fail) only [pn, pq] at c4
          unfold wp_X9_isOne_69
          exact ⟨by first | rfl | assumption, hq _ (by first | rfl | assumption) ⟩
    · try simp (disch := first | ((try simp (disch := first | ((try simp only [pn]) <;> omega) | fail) only [pn, pq]) <;> omega) | fail) only [pn, pq] at c2
      refine ⟨pt_in (by (try simp (disch := first | ((try simp (disch := first | ((try simp only [pn]) <;> omega) | fail) only [pn, pq]) <;> omega) | fail) only [pn, pq]) <;> (intros; (try simp (disch := first | ((try simp (disch := first | ((try simp only [pn]) <;> omega) | fail) only [pn, pq]) <;> omega) | fail) only [pn, pq]) <;> omega)) (by (try simp (disch := first | ((try simp (disch := first | ((try simp only [pn]) <;> omega) | fail) only [pn, pq]) <;> omega) | fail) only [pn, pq]) <;> (intros; (try simp (disch := first | ((try simp (disch := first | ((try simp only [pn]) <;> omega) | fail) only [pn, pq]) <;> omega) | fail) only [pn, pq]) <;> omega)), ?_⟩
      refine ⟨fun c5 => ?_, fun c5 => ?_⟩
      · try simp (disch := first | ((try simp (disch := first | ((try simp only [pn]) <;> omega) | fail) only [pn, pq]) <;> omega) | fail) only [pn, pq] at c5
        exact ⟨by first | rfl | assumption, hq _ (by first | rfl | assumption) ⟩
      · try simp (disch := first | ((try simp (disch := first | ((try simp only [pn]) <;> omega) | fail) only [pn, pq]) <;> omega) | fail) only [pn, pq] at c5
        exact ⟨by first | rfl | assumption, hq _ (by first | rfl | assumption) ⟩
  · try simp (disch := first | ((try simp (disch := first | ((try simp only [pn]) <;> omega) | fail) only [pn, pq]) <;> omega) | fail) only [pn, pq] at c1
    refine ⟨pt_in (by (try simp (disch := first | ((try simp (disch := first | ((try simp only [pn]) <;> omega) | fail) only [pn, pq]) <;> omega) | fail) only [pn, pq]) <;> (intros; (try simp (disch := first | ((try simp (disch := first | ((try simp only [pn]) <;> omega) | fail) only [pn, pq]) <;> omega) | fail) only [pn, pq]) <;> omega)) (by (try simp (disch := first | ((try simp (disch := first | ((try simp only [pn]) <;> omega) | fail) only [pn, pq]) <;> omega) | fail) only [pn, pq]) <;> (intros; (try simp (disch := first | ((try simp (disch := first | ((try simp only [pn]) <;> omega) | fail) only [pn, pq]) <;> omega) | fail) only [pn, pq]) <;> omega)), ?_⟩
    refine ⟨fun c6 => ?_, fun c6 => ?_⟩
    · try simp (disch := first | ((try simp (disch := first | ((try simp only [pn]) <;> omega) | fail) only [pn, pq]) <;> omega) | fail) only [pn, pq] at c6
      exact ⟨by first | rfl | assumption, hq _ (by first | rfl | assumption) ⟩
    · try simp (disch := first | ((try simp (disch := first | ((try simp only [pn]) <;> omega) | fail) only [pn, pq]) <;> omega) | fail) only [pn, pq] at c6
      exact ⟨by first | rfl | assumption, hq _ (by first | rfl | assumption) ⟩
def F_X9_laysOnes (S u : bT9) : Prop := (b9g_told u) = (b9g_told S) ∧ (b9g_now u) = (b9g_now S) ∧ (b9g_keys u) = (b9g_keys S) ∧ (b9g_lengths u) = (b9g_lengths S) ∧ (b9g_drawn u) = (b9g_drawn S) ∧ (b9g_drawnLength u) = (b9g_drawnLength S) ∧ (b9g_tape u) = (b9g_tape S) ∧ (b9g_taped u) = (b9g_taped S) ∧ (b9g_names u) = (b9g_names S) ∧ (b9g_chosen u) = (b9g_chosen S) ∧ (b9g_lowKey u) = (b9g_lowKey S) ∧ (b9g_highKey u) = (b9g_highKey S) ∧ (b9g_lowLength u) = (b9g_lowLength S) ∧ (b9g_highLength u) = (b9g_highLength S) ∧ (b9g_fromKey u) = (b9g_fromKey S) ∧ (b9g_toKey u) = (b9g_toKey S) ∧ (b9g_fromLength u) = (b9g_fromLength S) ∧ (b9g_toLength u) = (b9g_toLength S) ∧ (b9g_signs u) = (b9g_signs S) ∧ (b9g_signMany u) = (b9g_signMany S) ∧ (b9g_hasImage u) = (b9g_hasImage S) ∧ (b9g_images u) = (b9g_images S) ∧ (b9g_keyImages u) = (b9g_keyImages S) ∧ (b9g_lengthImages u) = (b9g_lengthImages S)
theorem sg_X9_onesOfNode {S : bT9} (hJ : J9 S) {a1 : Int32} {Q : bT9 → Prop} {x l s e u ro : Nat} (h : R9 S) (hN : N9 S) (ha : AT9 S x l s e) (h1 : a1.toInt = (x : Int)) (hu8 : u ≤ 8) (hlu : l < u) (hc : (b9g_chosen S).toInt = (ro : Int)) (hro : ro ≤ 2) (ho : (OIV ro (n9 S) (C9 S) (L9 S) (P9 S) (fun j => b9g_keys S (64 + j)) u (b9g_oneMany S) (b9g_ones S) (64 * l + s))) (hq : ∀ V : bT9, J9 V → F_X9_onesOfNode S V → (OIV ro (n9 S) (C9 S) (L9 S) (P9 S) (fun j => b9g_keys S (64 + j)) u (b9g_oneMany V) (b9g_ones V) (64 * l + e)) → Q V) : wp_X9_onesOfNode S a1 Q := by
  have G := h.1
  have g64 := G.1
  have ha' := ha
  obtain ⟨x5, l7, hs, hg, hx, e1, e2, e3⟩ := ha'
  have sn := hs.1
  have ge := hg.1
  have gn := hg.2.1
  have em : a1.toNatClampNeg = x := by
    show a1.toInt.toNat = x
    omega
  have sm : ∀ V : bT9, F_X9_onesOfNode S V → SM9 V S := fun V hF => ⟨hF.2.2.1, hF.2.2.2.1, hF.2.1⟩
  have rV : ∀ V : bT9, F_X9_onesOfNode S V → R9 V := fun V hF => R9_same h (sm V hF) (hF.2.2.2.2.2.2.2.2.2.2.2.1) (hF.2.2.2.2.2.2.2.2.2.2.1)
  have nV : ∀ V : bT9, F_X9_onesOfNode S V → N9 V := fun V hF => N9_same hN (sm V hF) (hF.2.2.2.2.2.2.2.2.2.2.2.2.2.1) (hF.2.2.2.2.2.2.2.2.2.2.2.2.2.2.1) (hF.2.2.2.2.2.2.2.2.2.2.2.2.2.2.2.1) (hF.2.2.2.2.2.2.2.2.2.2.2.2.2.2.2.2.1)
  have aV : ∀ V : bT9, F_X9_onesOfNode S V → AT9 V x l s e := fun V hF => AT9_same ha (sm V hF) (hF.2.2.2.2.2.2.2.2.2.2.2.2.2.1) (hF.2.2.2.2.2.2.2.2.2.2.2.2.2.2.1) (hF.2.2.2.2.2.2.2.2.2.2.2.2.2.2.2.1)
  have grp : ∀ i, i < e → ∀ q, s ≤ q → q ≤ i → l ≤ (C9 S) q ∧ (P9 S) l q = (P9 S) l s := fun i hi q q1 q2 => hg.2.2.1 q q1 (by omega)
  have w1 : ∀ i, i < 64 → (64 * l + i) / 64 = l := fun i hi => gd1 l hi
  have w2 : ∀ i, i < 64 → (64 * l + i) % 64 = i := fun i hi => gd2 l hi
  have xb := NB_le G (l := l) (i := s) l7 (by omega)
  have nb : ∀ i, s ≤ i → i < e → NB (n9 S) (C9 S) (P9 S) (64 * l + i + 1) = (x : Int) + 1 := by
    intro i i1 i2
    have a : NB (n9 S) (C9 S) (P9 S) (64 * l + s + 1) = NB (n9 S) (C9 S) (P9 S) (64 * l + s) + 1 := CTP_y ((IsN_at (by omega)).mpr hs)
    have b := NB_grp g64 hs hg
    have c := NB_mono (n := (n9 S)) (C := (C9 S)) (P := (P9 S)) (show 64 * l + s + 1 ≤ 64 * l + i + 1 by omega)
    have d := NB_mono (n := (n9 S)) (C := (C9 S)) (P := (P9 S)) (show 64 * l + i + 1 ≤ 64 * l + e by omega)
    omega
  have hFS : F_X9_onesOfNode S S := ⟨rfl, rfl, rfl, rfl, rfl, rfl, rfl, rfl, rfl, rfl, rfl, rfl, rfl, rfl, rfl, rfl, rfl, rfl, rfl, rfl, rfl, rfl, rfl, rfl, rfl, rfl, rfl, rfl, rfl, rfl, rfl, rfl, rfl, rfl, rfl, rfl, rfl, rfl, rfl, rfl, rfl, rfl, rfl, rfl⟩
  have eone : ∀ (V : bT9) (i : Nat) (v : Int32) (R : bT9 → Prop), J9 V → F_X9_onesOfNode S V → s ≤ i → i < e → IsO ro (n9 S) (C9 S) (L9 S) (P9 S) u (64 * l + i) → v.toInt = VO ro (n9 S) (C9 S) (P9 S) (fun j => b9g_keys S (64 + j)) u (64 * l + i) → (OIV ro (n9 S) (C9 S) (L9 S) (P9 S) (fun j => b9g_keys S (64 + j)) u (b9g_oneMany V) (b9g_ones V) (64 * l + i)) → (∀ W : bT9, J9 W → F_X9_onesOfNode S W → (OIV ro (n9 S) (C9 S) (L9 S) (P9 S) (fun j => b9g_keys S (64 + j)) u (b9g_oneMany W) (b9g_ones W) (64 * l + i + 1)) → R W) → wp_X9_one V v R := by
    intro V i v R hJV hF i1 i2 hI hv hO hR
    have ob := CTP_rng (IsO ro (n9 S) (C9 S) (L9 S) (P9 S) u) (64 * l + i)
    have o1 : (b9g_oneMany V).toInt = CTP (IsO ro (n9 S) (C9 S) (L9 S) (P9 S) u) (64 * l + i) := hO.1
    exact sf_X9_one hJV (by omega) (fun W hJW hfW p1 p2 => hR W hJW ⟨(hfW.1).trans (hF.1), (hfW.2.1).trans (hF.2.1), (hfW.2.2.1).trans (hF.2.2.1), (hfW.2.2.2.1).trans (hF.2.2.2.1), (hfW.2.2.2.2.1).trans (hF.2.2.2.2.1), (hfW.2.2.2.2.2.1).trans (hF.2.2.2.2.2.1), (hfW.2.2.2.2.2.2.1).trans (hF.2.2.2.2.2.2.1), (hfW.2.2.2.2.2.2.2.1).trans (hF.2.2.2.2.2.2.2.1), (hfW.2.2.2.2.2.2.2.2.1).trans (hF.2.2.2.2.2.2.2.2.1), (hfW.2.2.2.2.2.2.2.2.2.1).trans (hF.2.2.2.2.2.2.2.2.2.1), (hfW.2.2.2.2.2.2.2.2.2.2.1).trans (hF.2.2.2.2.2.2.2.2.2.2.1), (hfW.2.2.2.2.2.2.2.2.2.2.2.1).trans (hF.2.2.2.2.2.2.2.2.2.2.2.1), (hfW.2.2.2.2.2.2.2.2.2.2.2.2.1).trans (hF.2.2.2.2.2.2.2.2.2.2.2.2.1), (hfW.2.2.2.2.2.2.2.2.2.2.2.2.2.1).trans (hF.2.2.2.2.2.2.2.2.2.2.2.2.2.1), (hfW.2.2.2.2.2.2.2.2.2.2.2.2.2.2.1).trans (hF.2.2.2.2.2.2.2.2.2.2.2.2.2.2.1), (hfW.2.2.2.2.2.2.2.2.2.2.2.2.2.2.2.1).trans (hF.2.2.2.2.2.2.2.2.2.2.2.2.2.2.2.1), (hfW.2.2.2.2.2.2.2.2.2.2.2.2.2.2.2.2.1).trans (hF.2.2.2.2.2.2.2.2.2.2.2.2.2.2.2.2.1), (hfW.2.2.2.2.2.2.2.2.2.2.2.2.2.2.2.2.2.1).trans (hF.2.2.2.2.2.2.2.2.2.2.2.2.2.2.2.2.2.1), (hfW.2.2.2.2.2.2.2.2.2.2.2.2.2.2.2.2.2.2.1).trans (hF.2.2.2.2.2.2.2.2.2.2.2.2.2.2.2.2.2.2.1), (hfW.2.2.2.2.2.2.2.2.2.2.2.2.2.2.2.2.2.2.2.1).trans (hF.2.2.2.2.2.2.2.2.2.2.2.2.2.2.2.2.2.2.2.1), (hfW.2.2.2.2.2.2.2.2.2.2.2.2.2.2.2.2.2.2.2.2.1).trans (hF.2.2.2.2.2.2.2.2.2.2.2.2.2.2.2.2.2.2.2.2.1), (hfW.2.2.2.2.2.2.2.2.2.2.2.2.2.2.2.2.2.2.2.2.2.1).trans (hF.2.2.2.2.2.2.2.2.2.2.2.2.2.2.2.2.2.2.2.2.2.1), (hfW.2.2.2.2.2.2.2.2.2.2.2.2.2.2.2.2.2.2.2.2.2.2.1).trans (hF.2.2.2.2.2.2.2.2.2.2.2.2.2.2.2.2.2.2.2.2.2.2.1), (hfW.2.2.2.2.2.2.2.2.2.2.2.2.2.2.2.2.2.2.2.2.2.2.2.1).trans (hF.2.2.2.2.2.2.2.2.2.2.2.2.2.2.2.2.2.2.2.2.2.2.2.1), (hfW.2.2.2.2.2.2.2.2.2.2.2.2.2.2.2.2.2.2.2.2.2.2.2.2.1).trans (hF.2.2.2.2.2.2.2.2.2.2.2.2.2.2.2.2.2.2.2.2.2.2.2.2.1), (hfW.2.2.2.2.2.2.2.2.2.2.2.2.2.2.2.2.2.2.2.2.2.2.2.2.2.1).trans (hF.2.2.2.2.2.2.2.2.2.2.2.2.2.2.2.2.2.2.2.2.2.2.2.2.2.1), (hfW.2.2.2.2.2.2.2.2.2.2.2.2.2.2.2.2.2.2.2.2.2.2.2.2.2.2.1).trans (hF.2.2.2.2.2.2.2.2.2.2.2.2.2.2.2.2.2.2.2.2.2.2.2.2.2.2.1), (hfW.2.2.2.2.2.2.2.2.2.2.2.2.2.2.2.2.2.2.2.2.2.2.2.2.2.2.2.1).trans (hF.2.2.2.2.2.2.2.2.2.2.2.2.2.2.2.2.2.2.2.2.2.2.2.2.2.2.2.1), (hfW.2.2.2.2.2.2.2.2.2.2.2.2.2.2.2.2.2.2.2.2.2.2.2.2.2.2.2.2.1).trans (hF.2.2.2.2.2.2.2.2.2.2.2.2.2.2.2.2.2.2.2.2.2.2.2.2.2.2.2.2.1), (hfW.2.2.2.2.2.2.2.2.2.2.2.2.2.2.2.2.2.2.2.2.2.2.2.2.2.2.2.2.2.1).trans (hF.2.2.2.2.2.2.2.2.2.2.2.2.2.2.2.2.2.2.2.2.2.2.2.2.2.2.2.2.2.1), (hfW.2.2.2.2.2.2.2.2.2.2.2.2.2.2.2.2.2.2.2.2.2.2.2.2.2.2.2.2.2.2.1).trans (hF.2.2.2.2.2.2.2.2.2.2.2.2.2.2.2.2.2.2.2.2.2.2.2.2.2.2.2.2.2.2.1), (hfW.2.2.2.2.2.2.2.2.2.2.2.2.2.2.2.2.2.2.2.2.2.2.2.2.2.2.2.2.2.2.2.1).trans (hF.2.2.2.2.2.2.2.2.2.2.2.2.2.2.2.2.2.2.2.2.2.2.2.2.2.2.2.2.2.2.2.1), (hfW.2.2.2.2.2.2.2.2.2.2.2.2.2.2.2.2.2.2.2.2.2.2.2.2.2.2.2.2.2.2.2.2.1).trans (hF.2.2.2.2.2.2.2.2.2.2.2.2.2.2.2.2.2.2.2.2.2.2.2.2.2.2.2.2.2.2.2.2.1), (hfW.2.2.2.2.2.2.2.2.2.2.2.2.2.2.2.2.2.2.2.2.2.2.2.2.2.2.2.2.2.2.2.2.2.1).trans (hF.2.2.2.2.2.2.2.2.2.2.2.2.2.2.2.2.2.2.2.2.2.2.2.2.2.2.2.2.2.2.2.2.2.1), (hfW.2.2.2.2.2.2.2.2.2.2.2.2.2.2.2.2.2.2.2.2.2.2.2.2.2.2.2.2.2.2.2.2.2.2.1).trans (hF.2.2.2.2.2.2.2.2.2.2.2.2.2.2.2.2.2.2.2.2.2.2.2.2.2.2.2.2.2.2.2.2.2.2.1), (hfW.2.2.2.2.2.2.2.2.2.2.2.2.2.2.2.2.2.2.2.2.2.2.2.2.2.2.2.2.2.2.2.2.2.2.2.1).trans (hF.2.2.2.2.2.2.2.2.2.2.2.2.2.2.2.2.2.2.2.2.2.2.2.2.2.2.2.2.2.2.2.2.2.2.2.1), (hfW.2.2.2.2.2.2.2.2.2.2.2.2.2.2.2.2.2.2.2.2.2.2.2.2.2.2.2.2.2.2.2.2.2.2.2.2.1).trans (hF.2.2.2.2.2.2.2.2.2.2.2.2.2.2.2.2.2.2.2.2.2.2.2.2.2.2.2.2.2.2.2.2.2.2.2.2.1), (hfW.2.2.2.2.2.2.2.2.2.2.2.2.2.2.2.2.2.2.2.2.2.2.2.2.2.2.2.2.2.2.2.2.2.2.2.2.2.1).trans (hF.2.2.2.2.2.2.2.2.2.2.2.2.2.2.2.2.2.2.2.2.2.2.2.2.2.2.2.2.2.2.2.2.2.2.2.2.2.1), (hfW.2.2.2.2.2.2.2.2.2.2.2.2.2.2.2.2.2.2.2.2.2.2.2.2.2.2.2.2.2.2.2.2.2.2.2.2.2.2.1).trans (hF.2.2.2.2.2.2.2.2.2.2.2.2.2.2.2.2.2.2.2.2.2.2.2.2.2.2.2.2.2.2.2.2.2.2.2.2.2.2.1), (hfW.2.2.2.2.2.2.2.2.2.2.2.2.2.2.2.2.2.2.2.2.2.2.2.2.2.2.2.2.2.2.2.2.2.2.2.2.2.2.2.1).trans (hF.2.2.2.2.2.2.2.2.2.2.2.2.2.2.2.2.2.2.2.2.2.2.2.2.2.2.2.2.2.2.2.2.2.2.2.2.2.2.2.1), (hfW.2.2.2.2.2.2.2.2.2.2.2.2.2.2.2.2.2.2.2.2.2.2.2.2.2.2.2.2.2.2.2.2.2.2.2.2.2.2.2.2.1).trans (hF.2.2.2.2.2.2.2.2.2.2.2.2.2.2.2.2.2.2.2.2.2.2.2.2.2.2.2.2.2.2.2.2.2.2.2.2.2.2.2.2.1), (hfW.2.2.2.2.2.2.2.2.2.2.2.2.2.2.2.2.2.2.2.2.2.2.2.2.2.2.2.2.2.2.2.2.2.2.2.2.2.2.2.2.2.1).trans (hF.2.2.2.2.2.2.2.2.2.2.2.2.2.2.2.2.2.2.2.2.2.2.2.2.2.2.2.2.2.2.2.2.2.2.2.2.2.2.2.2.2.1), (hfW.2.2.2.2.2.2.2.2.2.2.2.2.2.2.2.2.2.2.2.2.2.2.2.2.2.2.2.2.2.2.2.2.2.2.2.2.2.2.2.2.2.2.1).trans (hF.2.2.2.2.2.2.2.2.2.2.2.2.2.2.2.2.2.2.2.2.2.2.2.2.2.2.2.2.2.2.2.2.2.2.2.2.2.2.2.2.2.2.1), (hfW.2.2.2.2.2.2.2.2.2.2.2.2.2.2.2.2.2.2.2.2.2.2.2.2.2.2.2.2.2.2.2.2.2.2.2.2.2.2.2.2.2.2.2).trans (hF.2.2.2.2.2.2.2.2.2.2.2.2.2.2.2.2.2.2.2.2.2.2.2.2.2.2.2.2.2.2.2.2.2.2.2.2.2.2.2.2.2.2.2)⟩ (OIV_add hO hI hv p1 p2))
  have c2t : ((2 : Int32)).toInt = 2 := rfl
  unfold wp_X9_onesOfNode
  refine ⟨fun c => ?_, fun c => ?_⟩
  · have ro1 : ro ≤ 1 := by
      apply Classical.byContradiction
      intro z
      exact c (Int32.toInt_inj.mp (by omega))
    rw [em]
    unfold wp_X9_onesOfNode_29
    refine ⟨pt_in (by omega) (by omega), fun k y1 y2 V => ∃ i : Nat, a1 = y1 ∧ y2.toInt = (i : Int) ∧ s ≤ i ∧ i ≤ e ∧ J9 V ∧ F_X9_onesOfNode S V ∧ (OIV ro (n9 S) (C9 S) (L9 S) (P9 S) (fun j => b9g_keys S (64 + j)) u (b9g_oneMany V) (b9g_ones V) (64 * l + i)) ∧ k = e - i, ⟨_, s, rfl, e2, Nat.le_refl _, by omega, hJ, hFS, ho, rfl⟩, ?_⟩
    rintro k y1 y2 V ⟨i, rfl, ey, hsi, hie, hJV, hF, hO, hk⟩
    have rW := rV V hF
    have aW := aV V hF
    have nW := nV V hF
    obtain ⟨q1, q2, q3, q4⟩ := SM9_n (sm V hF)
    have eL : b9g_nodeLevel V = b9g_nodeLevel S := hF.2.2.2.2.2.2.2.2.2.2.2.2.2.1
    have eK : b9g_keys V = b9g_keys S := hF.2.2.1
    have eC : b9g_chosen V = b9g_chosen S := hF.2.2.2.2.2.2.2.2.2.1
    have y1' : (y2 + 1).toInt = ((i + 1 : Nat) : Int) := by
      rw [pt_add (by rw [pl_1]; omega) (by rw [pl_1]; omega), pl_1, ey]
      omega
    unfold wp_X9_onesOfNode_29b
    refine fx9_lastOf h1 x5 aW.2.2.2.2.2.2.1 aW.2.2.2.2.2.2.2 ge (by omega) (fun r7 hr7 => ⟨fun d => ?_, fun d => ?_⟩)
    · simp only [pn] at d
      have ei : i = e := by omega
      rw [ei] at hO
      exact hq V hJV hF hO
    simp only [pn] at d
    have hi : i < e := by omega
    have next : ∀ W : bT9, J9 W → F_X9_onesOfNode S W → (OIV ro (n9 S) (C9 S) (L9 S) (P9 S) (fun j => b9g_keys S (64 + j)) u (b9g_oneMany W) (b9g_ones W) (64 * l + i + 1)) → wp_X9_onesOfNode_89 W a1 y2 Q (fun x1 x2 S_1 => ∃ n2 : Nat, n2 < k ∧ ∃ i : Nat, a1 = x1 ∧ x2.toInt = (i : Int) ∧ s ≤ i ∧ i ≤ e ∧ J9 S_1 ∧ F_X9_onesOfNode S S_1 ∧ (OIV ro (n9 S) (C9 S) (L9 S) (P9 S) (fun j => b9g_keys S (64 + j)) u (b9g_oneMany S_1) (b9g_ones S_1) (64 * l + i)) ∧ n2 = e - i) := by
      intro W hJW hFW hOW
      unfold wp_X9_onesOfNode_89
      exact ⟨e - (i + 1), by omega, i + 1, rfl, y1', by omega, by omega, hJW, hFW, hOW, rfl⟩
    have skip : ¬ IsO ro (n9 S) (C9 S) (L9 S) (P9 S) u (64 * l + i) → (OIV ro (n9 S) (C9 S) (L9 S) (P9 S) (fun j => b9g_keys S (64 + j)) u (b9g_oneMany V) (b9g_ones V) (64 * l + i + 1)) := fun z => OIV_skip hO (by omega) (fun w a b => by rw [show w = 64 * l + i by omega]; exact z)
    have lay : IsO ro (n9 S) (C9 S) (L9 S) (P9 S) u (64 * l + i) → wp_X9_onesOfNode_64 V a1 y2 Q (fun x1 x2 S_1 => ∃ n2 : Nat, n2 < k ∧ ∃ i : Nat, a1 = x1 ∧ x2.toInt = (i : Int) ∧ s ≤ i ∧ i ≤ e ∧ J9 S_1 ∧ F_X9_onesOfNode S S_1 ∧ (OIV ro (n9 S) (C9 S) (L9 S) (P9 S) (fun j => b9g_keys S (64 + j)) u (b9g_oneMany S_1) (b9g_ones S_1) (64 * l + i)) ∧ n2 = e - i) := by
      intro z
      have ec : y2.toNatClampNeg = i := by
        show y2.toInt.toNat = i
        omega
      have lvn : b9g_nodeLevel S x = nI l := Int32.toInt_inj.mp (by rw [nI_toInt (by omega)]; exact e1)
      have oc := OCT_rng (b9g_keys S (64 + i)) (i := nI l) (by rw [nI_toInt (by omega)]; omega) (by rw [nI_toInt (by omega)]; omega)
      unfold wp_X9_onesOfNode_64
      refine fx9_key (by omega) (by omega) ?_
      rw [em, ec, eL, eK, lvn]
      refine ⟨pt_in (by omega) (by omega), fx9_byteOf (eone V i _ _ hJV hF hsi hi z ?_ hO next)⟩
      have c256 : ((256 : Int32)).toInt = 256 := rfl
      have m1 : ((256 : Int32) * a1).toInt = 256 * (x : Int) := by rw [pt_mul (by rw [c256]; omega) (by rw [c256]; omega), c256, h1]
      rw [pt_add (by omega) (by omega), m1]
      unfold VO
      rw [if_pos ro1, nb i hsi hi, w1 i (by omega), w2 i (by omega)]
      show 256 * (x : Int) + (OCT (b9g_keys S (64 + i)) (nI l)).toInt = 256 * ((x : Int) + 1 - 1) + (OCT (b9g_keys S (64 + i)) (nI l)).toInt
      omega
    refine fx9_isBranch rW aW h1 ey hsi hi (fun r9 hr9 => ⟨fun c2 => next V hJV hF (skip (fun z => ?_)), fun c2 => ?_⟩)
    · have b := IsO_L G ro1 z
      have n := hr9.mp c2
      rw [q1, q2, q3, q4] at n
      refine n ⟨(IsE_at (by omega)).mp b.1, fun y => b.2 ?_⟩
      rw [w1 i (by omega), w2 i (by omega)]
      exact y
    · have br : EST (n9 V) (C9 V) (P9 V) l i ∧ ¬ L9 V i = l := Classical.byContradiction (fun z => c2 (hr9.mpr z))
      have br2 := br
      rw [q1, q2, q3, q4] at br2
      have hE : IsE (n9 S) (C9 S) (P9 S) (64 * l + i) := (IsE_at (by omega)).mpr br2.1
      refine ⟨fun c3 => lay ?_, fun c3 => ?_⟩
      · have r0 : ro = 0 := by
          have : (b9g_chosen V).toInt = 0 := by rw [c3]; rfl
          rw [eC] at this
          omega
        refine Or.inl ⟨r0, by omega, hE, ?_⟩
        rw [w1 i (by omega), w2 i (by omega)]
        exact br2.2
      · have r1 : ro = 1 := by
          apply Classical.byContradiction
          intro z
          exact c3 (Int32.toInt_inj.mp (by rw [eC, hc, show ro = 0 by omega]; rfl))
        refine fx9_childAt rW nW aW h1 ey hsi hi br.1 (fun r11 hr11 => ?_)
        rw [q2] at hr11
        refine ⟨fun c4 => next V hJV hF (skip (fun z => ?_)), fun c4 => lay ?_⟩
        · have cc := hr11.mp c4
          rcases z with z | z | z | z | z | z
          · omega
          · have k := z.2.2.2
            rw [w1 i (by omega), w2 i (by omega)] at k
            exact k cc
          · omega
          · omega
          · omega
          · omega
        · refine Or.inr (Or.inl ⟨r1, by omega, hE, fun z => c4 (hr11.mpr ?_)⟩)
          rw [w1 i (by omega), w2 i (by omega)] at z
          exact z
  · have r2 : ro = 2 := by
      have : (b9g_chosen S).toInt = 2 := by rw [c]; rfl
      omega
    have only : ∀ i, s ≤ i → i < e → IsO ro (n9 S) (C9 S) (L9 S) (P9 S) u (64 * l + i) → (L9 S) i = l ∧ i = s := by
      intro i i1 i2 z
      have d : IsD (n9 S) (C9 S) (L9 S) (P9 S) (64 * l + i) := by
        rcases z with z | z | z | z | z | z
        · omega
        · omega
        · exact z.2.2
        · omega
        · omega
        · omega
      have k := d.2
      rw [w1 i (by omega), w2 i (by omega)] at k
      exact ⟨k, END_first G (grp i i2) i1 (by omega) k⟩
    refine fx9_isNodeEnd h ha h1 (fun r13 hr => ⟨fun d => hq S hJ hFS (OIV_skip ho (by omega) (fun w a b z => ?_)), fun d => ?_⟩)
    · have k := only (w - 64 * l) (by omega) (by omega) (by rw [show 64 * l + (w - 64 * l) = w by omega]; exact z)
      rw [k.2] at k
      exact hr.mp d k.1
    · have hL : (L9 S) s = l := Classical.byContradiction (fun z => d (hr.mpr z))
      have as := G.2.1 s sn
      have cs := hs.2.1
      have hC : (C9 S) s = l := by omega
      have hE : EST (n9 S) (C9 S) (P9 S) l s := ⟨sn, Or.inl hC⟩
      refine eone S s a1 _ hJ hFS (Nat.le_refl _) ge (Or.inr (Or.inr (Or.inl ⟨r2, by omega, (IsE_at (by omega)).mpr hE, ?_⟩))) ?_ ho (fun W hJW hFW hOW => hq W hJW hFW (OIV_skip hOW (by omega) (fun w a b z => ?_)))
      · rw [w1 s (by omega), w2 s (by omega)]
        exact hL
      · unfold VO
        rw [if_neg (by omega), if_pos r2, nb s (Nat.le_refl _) ge, h1]
        omega
      · have k := only (w - 64 * l) (by omega) (by omega) (by rw [show 64 * l + (w - 64 * l) = w by omega]; exact z)
        omega
theorem sj_X9_laysOnes {S : bT9} (hJ : J9 S) {Q : (bT9) → Prop} (hq : ∀ u : bT9, (J9 u) → F_X9_laysOnes S u → Q u) : wp_X9_laysOnes S Q := by
  unfold wp_X9_laysOnes
  refine sf_X9_laysNodes hJ (fun u9 hJ9 hf9 _ => ?_)
  have hF9 : F_X9_laysOnes S u9 := ⟨hf9.1, hf9.2.1, hf9.2.2.1, hf9.2.2.2.1, hf9.2.2.2.2.1, hf9.2.2.2.2.2.1, hf9.2.2.2.2.2.2.1, hf9.2.2.2.2.2.2.2.1, hf9.2.2.2.2.2.2.2.2.1, hf9.2.2.2.2.2.2.2.2.2.1, hf9.2.2.2.2.2.2.2.2.2.2.1, hf9.2.2.2.2.2.2.2.2.2.2.2.1, hf9.2.2.2.2.2.2.2.2.2.2.2.2.1, hf9.2.2.2.2.2.2.2.2.2.2.2.2.2.1, hf9.2.2.2.2.2.2.2.2.2.2.2.2.2.2.1, hf9.2.2.2.2.2.2.2.2.2.2.2.2.2.2.2.1, hf9.2.2.2.2.2.2.2.2.2.2.2.2.2.2.2.2.1, hf9.2.2.2.2.2.2.2.2.2.2.2.2.2.2.2.2.2.1, hf9.2.2.2.2.2.2.2.2.2.2.2.2.2.2.2.2.2.2.2.2.2.1, hf9.2.2.2.2.2.2.2.2.2.2.2.2.2.2.2.2.2.2.2.2.2.2.1, hf9.2.2.2.2.2.2.2.2.2.2.2.2.2.2.2.2.2.2.2.2.2.2.2.1, hf9.2.2.2.2.2.2.2.2.2.2.2.2.2.2.2.2.2.2.2.2.2.2.2.2.1, hf9.2.2.2.2.2.2.2.2.2.2.2.2.2.2.2.2.2.2.2.2.2.2.2.2.2.1, hf9.2.2.2.2.2.2.2.2.2.2.2.2.2.2.2.2.2.2.2.2.2.2.2.2.2.2⟩
  refine ⟨fun c => ?_, fun c => hq _ hJ9 hF9⟩
  intro S10 e10 S11 e11
  have hJ11 : J9 S11 := by rw [e11, e10]; exact J9s_oneMany (J9s_laidFor hJ9) ⟨by decide, by decide⟩
  have hF11 : F_X9_laysOnes S S11 := by rw [e11, e10]; exact hF9
  have ho11 : (b9g_oneMany S11).toInt = 0 := by rw [e11]; rfl
  have rest : ∀ t : Int32, wp_X9_laysOnes_68 S11 t Q := by
    intro t
    unfold wp_X9_laysOnes_68
    intro S7 e7
    have hJ7 : J9 S7 := by rw [e7]; exact J9s_rowLong hJ11
    have hF7 : F_X9_laysOnes S S7 := by rw [e7]; exact hF11
    have ho7 : (b9g_oneMany S7).toInt = 0 := by rw [e7]; exact ho11
    have hN := J9g_ND hJ7
    have jm := J9g_nodeMany hJ7
    refine ⟨fun _ => ?_, fun _ => ?_⟩
    · unfold wp_X9_laysOnes_105
      refine ⟨fun n x V => J9 V ∧ F_X9_laysOnes S V ∧ 0 ≤ x.toInt ∧ (b9g_oneMany V).toInt ≤ x.toInt ∧ n = ((b9g_itemMany V).toInt + 1 - x.toInt).toNat, ⟨_, hJ7, hF7, by decide, by rw [ho7]; decide, rfl⟩, ?_⟩
      rintro n x V ⟨hJV, hF, h0, h1, hn⟩
      have ji := J9g_itemMany hJV
      unfold wp_X9_laysOnes_105b
      refine ⟨fun _ => hq _ hJV hF, fun c1 => ?_⟩
      simp (disch := first | ((try simp (disch := first | ((try simp only [pn]) <;> omega) | fail) only [pn, pq]) <;> omega) | fail) only [pn, pq] at c1
      have e1 : (x + 1).toInt = x.toInt + 1 := by rw [pt_add (by rw [pl_1]; omega) (by rw [pl_1]; omega), pl_1]
      refine sf_X9_isOne hJV.1 h0 (by omega) (fun r1 _ => ⟨fun _ => ?_, fun _ => ?_⟩)
      · unfold wp_X9_laysOnes_126
        refine ⟨_, ?_, hJV, hF, by omega, by omega, rfl⟩
        omega
      · refine sf_X9_one hJV (by omega) (fun u4 hJ4 hf4 h4 _ => ?_)
        have ei : b9g_itemMany u4 = b9g_itemMany V := hf4.2.2.2.2.2.2.2.2.2.2.2.2.2.2.2.2.2.2.2.2.2.2.2.2.1
        unfold wp_X9_laysOnes_126
        refine ⟨_, ?_, hJ4, ⟨(hf4.1).trans (hF.1), (hf4.2.1).trans (hF.2.1), (hf4.2.2.1).trans (hF.2.2.1), (hf4.2.2.2.1).trans (hF.2.2.2.1), (hf4.2.2.2.2.1).trans (hF.2.2.2.2.1), (hf4.2.2.2.2.2.1).trans (hF.2.2.2.2.2.1), (hf4.2.2.2.2.2.2.1).trans (hF.2.2.2.2.2.2.1), (hf4.2.2.2.2.2.2.2.1).trans (hF.2.2.2.2.2.2.2.1), (hf4.2.2.2.2.2.2.2.2.1).trans (hF.2.2.2.2.2.2.2.2.1), (hf4.2.2.2.2.2.2.2.2.2.1).trans (hF.2.2.2.2.2.2.2.2.2.1), (hf4.2.2.2.2.2.2.2.2.2.2.2.2.2.2.2.2.2.2.2.2.2.2.2.2.2.2.2.2.1).trans (hF.2.2.2.2.2.2.2.2.2.2.1), (hf4.2.2.2.2.2.2.2.2.2.2.2.2.2.2.2.2.2.2.2.2.2.2.2.2.2.2.2.2.2.1).trans (hF.2.2.2.2.2.2.2.2.2.2.2.1), (hf4.2.2.2.2.2.2.2.2.2.2.2.2.2.2.2.2.2.2.2.2.2.2.2.2.2.2.2.2.2.2.1).trans (hF.2.2.2.2.2.2.2.2.2.2.2.2.1), (hf4.2.2.2.2.2.2.2.2.2.2.2.2.2.2.2.2.2.2.2.2.2.2.2.2.2.2.2.2.2.2.2.1).trans (hF.2.2.2.2.2.2.2.2.2.2.2.2.2.1), (hf4.2.2.2.2.2.2.2.2.2.2.2.2.2.2.2.2.2.2.2.2.2.2.2.2.2.2.2.2.2.2.2.2.1).trans (hF.2.2.2.2.2.2.2.2.2.2.2.2.2.2.1), (hf4.2.2.2.2.2.2.2.2.2.2.2.2.2.2.2.2.2.2.2.2.2.2.2.2.2.2.2.2.2.2.2.2.2.1).trans (hF.2.2.2.2.2.2.2.2.2.2.2.2.2.2.2.1), (hf4.2.2.2.2.2.2.2.2.2.2.2.2.2.2.2.2.2.2.2.2.2.2.2.2.2.2.2.2.2.2.2.2.2.2.1).trans (hF.2.2.2.2.2.2.2.2.2.2.2.2.2.2.2.2.1), (hf4.2.2.2.2.2.2.2.2.2.2.2.2.2.2.2.2.2.2.2.2.2.2.2.2.2.2.2.2.2.2.2.2.2.2.2.1).trans (hF.2.2.2.2.2.2.2.2.2.2.2.2.2.2.2.2.2.1), (hf4.2.2.2.2.2.2.2.2.2.2.2.2.2.2.2.2.2.2.2.2.2.2.2.2.2.2.2.2.2.2.2.2.2.2.2.2.2.2.1).trans (hF.2.2.2.2.2.2.2.2.2.2.2.2.2.2.2.2.2.2.1), (hf4.2.2.2.2.2.2.2.2.2.2.2.2.2.2.2.2.2.2.2.2.2.2.2.2.2.2.2.2.2.2.2.2.2.2.2.2.2.2.2.1).trans (hF.2.2.2.2.2.2.2.2.2.2.2.2.2.2.2.2.2.2.2.1), (hf4.2.2.2.2.2.2.2.2.2.2.2.2.2.2.2.2.2.2.2.2.2.2.2.2.2.2.2.2.2.2.2.2.2.2.2.2.2.2.2.2.1).trans (hF.2.2.2.2.2.2.2.2.2.2.2.2.2.2.2.2.2.2.2.2.1), (hf4.2.2.2.2.2.2.2.2.2.2.2.2.2.2.2.2.2.2.2.2.2.2.2.2.2.2.2.2.2.2.2.2.2.2.2.2.2.2.2.2.2.1).trans (hF.2.2.2.2.2.2.2.2.2.2.2.2.2.2.2.2.2.2.2.2.2.1), (hf4.2.2.2.2.2.2.2.2.2.2.2.2.2.2.2.2.2.2.2.2.2.2.2.2.2.2.2.2.2.2.2.2.2.2.2.2.2.2.2.2.2.2.1).trans (hF.2.2.2.2.2.2.2.2.2.2.2.2.2.2.2.2.2.2.2.2.2.2.1), (hf4.2.2.2.2.2.2.2.2.2.2.2.2.2.2.2.2.2.2.2.2.2.2.2.2.2.2.2.2.2.2.2.2.2.2.2.2.2.2.2.2.2.2.2).trans (hF.2.2.2.2.2.2.2.2.2.2.2.2.2.2.2.2.2.2.2.2.2.2.2)⟩, by omega, by omega, rfl⟩
        rw [ei]
        omega
    · unfold wp_X9_laysOnes_81
      refine ⟨fun n x V => J9 V ∧ F_X9_laysOnes S V ∧ (b9g_nodeLevel V = b9g_nodeLevel S7 ∧ b9g_nodeLeaf V = b9g_nodeLeaf S7 ∧ b9g_nodeLeaves V = b9g_nodeLeaves S7 ∧ b9g_nodeMany V = b9g_nodeMany S7 ∧ b9g_upperNodes V = b9g_upperNodes S7) ∧ 0 ≤ x.toInt ∧ (x.toInt < (b9g_nodeMany S7).toInt → (b9g_oneMany V).toInt ≤ 64 * (b9g_nodeLevel S7 x.toNatClampNeg).toInt + (b9g_nodeLeaf S7 x.toNatClampNeg).toInt) ∧ n = ((b9g_upperNodes S7).toInt + 1 - x.toInt).toNat, ⟨_, hJ7, hF7, ⟨rfl, rfl, rfl, rfl, rfl⟩, by decide, ?_, rfl⟩, ?_⟩
      · intro h0
        have := (hN 0 (by rw [pl_0] at h0; omega)).1
        show (b9g_oneMany S7).toInt ≤ 64 * (b9g_nodeLevel S7 0).toInt + (b9g_nodeLeaf S7 0).toInt
        omega
      rintro n x V ⟨hJV, hF, ⟨n1, n2, n3, n4, n5⟩, h0, h1, hn⟩
      have ju := hJ7.2.1
      unfold wp_X9_laysOnes_81b
      refine ⟨fun _ => hq _ hJV hF, fun c1 => ?_⟩
      simp (disch := first | ((try simp (disch := first | ((try simp only [pn]) <;> omega) | fail) only [pn, pq]) <;> omega) | fail) only [pn, pq] at c1
      rw [n5] at c1
      have hx : x.toInt < (b9g_nodeMany S7).toInt := by omega
      have a := h1 hx
      have ex := pt_clamp h0
      have b := hN x.toNatClampNeg (by omega)
      have e1 : (x + 1).toInt = x.toInt + 1 := by rw [pt_add (by rw [pl_1]; omega) (by rw [pl_1]; omega), pl_1]
      have e2 := pt_clamp (i := x + 1) (by omega)
      have e3 : (x + 1).toNatClampNeg = x.toNatClampNeg + 1 := by omega
      refine sf_X9_onesOfNode hJV h0 (by rw [n4]; exact hx) (by omega) (fun u6 hJ6 hf6 h6 => ?_)
      rw [n3] at h6
      refine ⟨_, ?_, hJ6, ⟨(hf6.1).trans (hF.1), (hf6.2.1).trans (hF.2.1), (hf6.2.2.1).trans (hF.2.2.1), (hf6.2.2.2.1).trans (hF.2.2.2.1), (hf6.2.2.2.2.1).trans (hF.2.2.2.2.1), (hf6.2.2.2.2.2.1).trans (hF.2.2.2.2.2.1), (hf6.2.2.2.2.2.2.1).trans (hF.2.2.2.2.2.2.1), (hf6.2.2.2.2.2.2.2.1).trans (hF.2.2.2.2.2.2.2.1), (hf6.2.2.2.2.2.2.2.2.1).trans (hF.2.2.2.2.2.2.2.2.1), (hf6.2.2.2.2.2.2.2.2.2.1).trans (hF.2.2.2.2.2.2.2.2.2.1), (hf6.2.2.2.2.2.2.2.2.2.2.2.2.2.2.2.2.2.2.2.2.2.2.2.2.2.2.2.2.1).trans (hF.2.2.2.2.2.2.2.2.2.2.1), (hf6.2.2.2.2.2.2.2.2.2.2.2.2.2.2.2.2.2.2.2.2.2.2.2.2.2.2.2.2.2.1).trans (hF.2.2.2.2.2.2.2.2.2.2.2.1), (hf6.2.2.2.2.2.2.2.2.2.2.2.2.2.2.2.2.2.2.2.2.2.2.2.2.2.2.2.2.2.2.1).trans (hF.2.2.2.2.2.2.2.2.2.2.2.2.1), (hf6.2.2.2.2.2.2.2.2.2.2.2.2.2.2.2.2.2.2.2.2.2.2.2.2.2.2.2.2.2.2.2.1).trans (hF.2.2.2.2.2.2.2.2.2.2.2.2.2.1), (hf6.2.2.2.2.2.2.2.2.2.2.2.2.2.2.2.2.2.2.2.2.2.2.2.2.2.2.2.2.2.2.2.2.1).trans (hF.2.2.2.2.2.2.2.2.2.2.2.2.2.2.1), (hf6.2.2.2.2.2.2.2.2.2.2.2.2.2.2.2.2.2.2.2.2.2.2.2.2.2.2.2.2.2.2.2.2.2.1).trans (hF.2.2.2.2.2.2.2.2.2.2.2.2.2.2.2.1), (hf6.2.2.2.2.2.2.2.2.2.2.2.2.2.2.2.2.2.2.2.2.2.2.2.2.2.2.2.2.2.2.2.2.2.2.1).trans (hF.2.2.2.2.2.2.2.2.2.2.2.2.2.2.2.2.1), (hf6.2.2.2.2.2.2.2.2.2.2.2.2.2.2.2.2.2.2.2.2.2.2.2.2.2.2.2.2.2.2.2.2.2.2.2.1).trans (hF.2.2.2.2.2.2.2.2.2.2.2.2.2.2.2.2.2.1), (hf6.2.2.2.2.2.2.2.2.2.2.2.2.2.2.2.2.2.2.2.2.2.2.2.2.2.2.2.2.2.2.2.2.2.2.2.2.2.2.1).trans (hF.2.2.2.2.2.2.2.2.2.2.2.2.2.2.2.2.2.2.1), (hf6.2.2.2.2.2.2.2.2.2.2.2.2.2.2.2.2.2.2.2.2.2.2.2.2.2.2.2.2.2.2.2.2.2.2.2.2.2.2.2.1).trans (hF.2.2.2.2.2.2.2.2.2.2.2.2.2.2.2.2.2.2.2.1), (hf6.2.2.2.2.2.2.2.2.2.2.2.2.2.2.2.2.2.2.2.2.2.2.2.2.2.2.2.2.2.2.2.2.2.2.2.2.2.2.2.2.1).trans (hF.2.2.2.2.2.2.2.2.2.2.2.2.2.2.2.2.2.2.2.2.1), (hf6.2.2.2.2.2.2.2.2.2.2.2.2.2.2.2.2.2.2.2.2.2.2.2.2.2.2.2.2.2.2.2.2.2.2.2.2.2.2.2.2.2.1).trans (hF.2.2.2.2.2.2.2.2.2.2.2.2.2.2.2.2.2.2.2.2.2.1), (hf6.2.2.2.2.2.2.2.2.2.2.2.2.2.2.2.2.2.2.2.2.2.2.2.2.2.2.2.2.2.2.2.2.2.2.2.2.2.2.2.2.2.2.1).trans (hF.2.2.2.2.2.2.2.2.2.2.2.2.2.2.2.2.2.2.2.2.2.2.1), (hf6.2.2.2.2.2.2.2.2.2.2.2.2.2.2.2.2.2.2.2.2.2.2.2.2.2.2.2.2.2.2.2.2.2.2.2.2.2.2.2.2.2.2.2).trans (hF.2.2.2.2.2.2.2.2.2.2.2.2.2.2.2.2.2.2.2.2.2.2.2)⟩, ⟨(hf6.2.2.2.2.2.2.2.2.2.2.2.2.2.1).trans n1, (hf6.2.2.2.2.2.2.2.2.2.2.2.2.2.2.1).trans n2, (hf6.2.2.2.2.2.2.2.2.2.2.2.2.2.2.2.1).trans n3, (hf6.2.2.2.2.2.2.2.2.2.2.2.2.2.2.2.2.1).trans n4, (hf6.2.2.2.2.2.2.2.2.2.2.2.2.2.2.2.2.2.2.2.1).trans n5⟩, by omega, ?_, rfl⟩
      · omega
      · intro h3
        have := b.2 (by omega)
        rw [e3]
        omega
  exact ⟨fun _ => ⟨fun _ => rest _, fun _ => rest _⟩, fun _ => rest _⟩
theorem sf_X9_laysOnes {S : bT9} (hJ : J9 S) {Q : (bT9) → Prop} (hq : ∀ u : bT9, (J9 u) → F_X9_laysOnes S u → (TWW S u) → (T9P S → TDW S → ∀ ro : Nat, (b9g_chosen S).toInt = (ro : Int) → ro ≤ 5 → ∃ k lv : Nat, UPD S k lv ∧ OAR ro (n9 S) (C9 S) (L9 S) (P9 S) (fun j => b9g_keys S (64 + j)) k (b9g_oneMany u) (b9g_rowLong u) (b9g_ones u) ∧ (b9g_upper u).toInt = (k : Int) ∧ (b9g_isLaid u).toInt ≠ 0) → Q u) : wp_X9_laysOnes S Q := by
  by_cases hyp : T9P S ∧ TDW S
  case neg => exact sj_X9_laysOnes hJ (fun u h1 h2 => hq u h1 h2 (fun a b => absurd ⟨a, b⟩ hyp) (fun a b => absurd ⟨a, b⟩ hyp))
  case pos =>
    obtain ⟨hP, hW⟩ := hyp
    unfold wp_X9_laysOnes
    refine sf_X9_laysNodes hJ (fun u9 hJ9 hf9 w9 => ?_)
    have hF9 : F_X9_laysOnes S u9 := ⟨hf9.1, hf9.2.1, hf9.2.2.1, hf9.2.2.2.1, hf9.2.2.2.2.1, hf9.2.2.2.2.2.1, hf9.2.2.2.2.2.2.1, hf9.2.2.2.2.2.2.2.1, hf9.2.2.2.2.2.2.2.2.1, hf9.2.2.2.2.2.2.2.2.2.1, hf9.2.2.2.2.2.2.2.2.2.2.1, hf9.2.2.2.2.2.2.2.2.2.2.2.1, hf9.2.2.2.2.2.2.2.2.2.2.2.2.1, hf9.2.2.2.2.2.2.2.2.2.2.2.2.2.1, hf9.2.2.2.2.2.2.2.2.2.2.2.2.2.2.1, hf9.2.2.2.2.2.2.2.2.2.2.2.2.2.2.2.1, hf9.2.2.2.2.2.2.2.2.2.2.2.2.2.2.2.2.1, hf9.2.2.2.2.2.2.2.2.2.2.2.2.2.2.2.2.2.1, hf9.2.2.2.2.2.2.2.2.2.2.2.2.2.2.2.2.2.2.2.2.2.1, hf9.2.2.2.2.2.2.2.2.2.2.2.2.2.2.2.2.2.2.2.2.2.2.1, hf9.2.2.2.2.2.2.2.2.2.2.2.2.2.2.2.2.2.2.2.2.2.2.2.1, hf9.2.2.2.2.2.2.2.2.2.2.2.2.2.2.2.2.2.2.2.2.2.2.2.2.1, hf9.2.2.2.2.2.2.2.2.2.2.2.2.2.2.2.2.2.2.2.2.2.2.2.2.2.1, hf9.2.2.2.2.2.2.2.2.2.2.2.2.2.2.2.2.2.2.2.2.2.2.2.2.2.2⟩
    have w9' := w9 hP hW
    have sm9 : SM9 u9 S := ⟨hf9.2.2.1, hf9.2.2.2.1, hf9.2.1⟩
    obtain ⟨R, hTD⟩ := TD_use hJ9 hP sm9 w9'
    have hTD' := hTD
    obtain ⟨nV, k, lv, t1, t2, t3, t4, t5, t6, t7, t8, t9, t10⟩ := hTD'
    obtain ⟨q1, q2, q3, q4⟩ := SM9_n sm9
    have eC9 : b9g_chosen u9 = b9g_chosen S := hf9.2.2.2.2.2.2.2.2.2.1
    have up : UPD S k lv := by
      unfold UPD
      rw [q1, q2, q4] at t3 t6
      rw [sm9.2.2] at t6
      exact ⟨t3, t2, t5, t6⟩
    have G := R.1
    rw [q1, q2, q3, q4] at G
    have g64 := G.1
    rw [q1, q2, q4] at t7 t8
    rw [q1, q2, q3, q4, sm9.1] at t9
    have hm := nV.1
    rw [q1, q2, q4] at hm
    refine ⟨fun c => ?_, fun c => hq _ hJ9 hF9 (TWW_lays w9) (fun _ _ ro h1 h2 => ⟨k, lv, up, ?_, t4, w9'.2.2⟩)⟩
    case refine_2 =>
      have a := (w9'.1 w9'.2.1).2 ro k (by rw [c, eC9]; exact h1) h2 t4
      rw [q1, q2, q3, q4, sm9.1] at a
      exact a
    intro S10 e10 S11 e11
    have hJ11 : J9 S11 := by rw [e11, e10]; exact J9s_oneMany (J9s_laidFor hJ9) ⟨by decide, by decide⟩
    have hF11 : F_X9_laysOnes S S11 := by rw [e11, e10]; exact hF9
    have eC11 : b9g_chosen S11 = b9g_chosen S := by rw [e11, e10]; exact eC9
    have n5 := NB_le G (l := 7) (i := 64) (by omega) (by omega)
    have nb5 : NB (n9 S) (C9 S) (P9 S) (64 * 7 + 64) = NB (n9 S) (C9 S) (P9 S) 512 := rfl
    have nk := NB_mono (n := (n9 S)) (C := (C9 S)) (P := (P9 S)) (show 64 * k ≤ 512 by omega)
    have nk0 := NB_nn (n := (n9 S)) (C := (C9 S)) (P := (P9 S)) (64 * k)
    have e5 := EB_le G (w := 512) (by omega)
    have ek := EB_le G (w := 64 * k) (by omega)
    have emn := EB_mono (n := (n9 S)) (C := (C9 S)) (P := (P9 S)) (show 64 * k ≤ 512 by omega)
    have rest : ∀ t : Int32, (∀ ro : Nat, (b9g_chosen S).toInt = (ro : Int) → ro ≤ 5 → t.toInt = RL ro (n9 S) (C9 S) (P9 S) k) → wp_X9_laysOnes_68 S11 t Q := by
      intro t ht
      unfold wp_X9_laysOnes_68
      intro S7 e7
      have hJ7 : J9 S7 := by rw [e7]; exact J9s_rowLong hJ11
      have hF7 : F_X9_laysOnes S S7 := by rw [e7]; exact hF11
      have s79 : SM9 S7 u9 := by rw [e7, e11, e10]; exact ⟨rfl, rfl, rfl⟩
      have sm7 : SM9 S7 S := by rw [e7, e11, e10]; exact sm9
      have R7 : R9 S7 := R9_same R s79 (by rw [e7, e11, e10]) (by rw [e7, e11, e10])
      have N7 : N9 S7 := N9_same nV s79 (by rw [e7, e11, e10]) (by rw [e7, e11, e10]) (by rw [e7, e11, e10]) (by rw [e7, e11, e10])
      have TD7 : TD9 S7 := TD9_same hTD s79 (by rw [e7, e11, e10]) (by rw [e7, e11, e10]) (by rw [e7, e11, e10]) (by rw [e7, e11, e10]) (by rw [e7, e11, e10]) (by rw [e7, e11, e10]) (by rw [e7, e11, e10]) (by rw [e7, e11, e10]) (by rw [e7, e11, e10]) (by rw [e7, e11, e10]) (by rw [e7, e11, e10]) (by rw [e7, e11, e10]) (by rw [e7, e11, e10])
      have i7 : b9g_isLaid S7 = b9g_isLaid u9 := by rw [e7, e11, e10]
      have a7 : b9g_areNodesLaid S7 = b9g_areNodesLaid u9 := by rw [e7, e11, e10]
      have u7 : b9g_upper S7 = b9g_upper u9 := by rw [e7, e11, e10]
      have l7 : b9g_laidFor S7 = b9g_chosen S := by rw [e7, e11, e10]; exact eC9
      have c7 : b9g_chosen S7 = b9g_chosen S := by rw [e7]; exact eC11
      have r7 : b9g_rowLong S7 = t := by rw [e7]
      have o7 : (b9g_oneMany S7).toInt = 0 := by rw [e7, e11]; rfl
      have v7 : (b9g_upperNodes S7).toInt = NB (n9 S) (C9 S) (P9 S) (64 * k) := by rw [e7, e11, e10]; exact t7
      have m7 : (b9g_nodeMany S7).toInt = NB (n9 S) (C9 S) (P9 S) 512 := by rw [e7, e11, e10]; exact hm
      have i8 : (b9g_itemMany S7).toInt = EB (n9 S) (C9 S) (P9 S) 512 - EB (n9 S) (C9 S) (P9 S) (64 * k) := by rw [e7, e11, e10]; exact t8
      have i9 : IAR (n9 S) (C9 S) (L9 S) (P9 S) (fun j => b9g_keys S (64 + j)) (b9g_itemNode S7) (b9g_itemByte S7) (b9g_itemChild S7) (64 * k) 512 := by rw [e7, e11, e10]; exact t9
      have hFS7 : F_X9_onesOfNode S7 S7 := ⟨rfl, rfl, rfl, rfl, rfl, rfl, rfl, rfl, rfl, rfl, rfl, rfl, rfl, rfl, rfl, rfl, rfl, rfl, rfl, rfl, rfl, rfl, rfl, rfl, rfl, rfl, rfl, rfl, rfl, rfl, rfl, rfl, rfl, rfl, rfl, rfl, rfl, rfl, rfl, rfl, rfl, rfl, rfl, rfl⟩
      have done : ∀ V : bT9, J9 V → F_X9_onesOfNode S7 V → (∀ ro : Nat, (b9g_chosen S).toInt = (ro : Int) → ro ≤ 5 → OIV ro (n9 S) (C9 S) (L9 S) (P9 S) (fun j => b9g_keys S (64 + j)) k (b9g_oneMany V) (b9g_ones V) (512)) → Q V := by
        intro V hJV hF hU
        have smV : SM9 V S7 := ⟨hF.2.2.1, hF.2.2.2.1, hF.2.1⟩
        have smS : SM9 V S := ⟨smV.1.trans sm7.1, smV.2.1.trans sm7.2.1, smV.2.2.trans sm7.2.2⟩
        obtain ⟨p1, p2, p3, p4⟩ := SM9_n smS
        have eU : b9g_upper V = b9g_upper S7 := hF.2.2.2.2.2.2.2.2.2.2.2.2.2.2.2.2.2.2.1
        have eR : b9g_rowLong V = b9g_rowLong S7 := hF.2.2.2.2.2.2.2.2.2.2.2.2.2.2.2.2.2.2.2.2.2.2.2.2.2.2.2.2.2.2.2.2.2.2.2.2.1
        have eI : b9g_isLaid V = b9g_isLaid S7 := hF.2.2.2.2.2.2.2.2.2.2.2.2.1
        have eA : b9g_areNodesLaid V = b9g_areNodesLaid S7 := hF.2.2.2.2.2.2.2.2.2.2.2.2.2.2.2.2.2.2.2.2.1
        have eF : b9g_laidFor V = b9g_laidFor S7 := hF.2.2.2.2.2.2.2.2.2.2.2.2.2.2.2.2.2.2.2.2.2.2.2.2.2.2.2.2.2.2.2.2.2.2.2.2.2.1
        have oar : ∀ ro : Nat, (b9g_chosen S).toInt = (ro : Int) → ro ≤ 5 → OAR ro (n9 S) (C9 S) (L9 S) (P9 S) (fun j => b9g_keys S (64 + j)) k (b9g_oneMany V) (b9g_rowLong V) (b9g_ones V) := fun ro h1 h2 => ⟨(hU ro h1 h2).1, by rw [eR, r7]; exact ht ro h1 h2, (hU ro h1 h2).2⟩
        have tdV : TD9 V := TD9_same TD7 smV (hF.2.2.2.2.2.2.2.2.2.2.2.2.2.1) (hF.2.2.2.2.2.2.2.2.2.2.2.2.2.2.1) (hF.2.2.2.2.2.2.2.2.2.2.2.2.2.2.2.1) (hF.2.2.2.2.2.2.2.2.2.2.2.2.2.2.2.2.1) (hF.2.2.2.2.2.2.2.2.2.2.2.2.2.2.2.2.2.1) (hF.2.2.2.2.2.2.2.2.2.2.2.2.2.2.2.2.2.2.1) (hF.2.2.2.2.2.2.2.2.2.2.2.2.2.2.2.2.2.2.2.1) (hF.2.2.2.2.2.2.2.2.2.2.2.2.2.2.2.2.2.2.2.2.2.1) (hF.2.2.2.2.2.2.2.2.2.2.2.2.2.2.2.2.2.2.2.2.2.2.1) (hF.2.2.2.2.2.2.2.2.2.2.2.2.2.2.2.2.2.2.2.2.2.2.2.1) (hF.2.2.2.2.2.2.2.2.2.2.2.2.2.2.2.2.2.2.2.2.2.2.2.2.1) (hF.2.2.2.2.2.2.2.2.2.2.2.2.2.2.2.2.2.2.2.2.2.2.2.2.2.1) (hF.2.2.2.2.2.2.2.2.2.2.2.2.2.2.2.2.2.2.2.2.2.2.2.2.2.2.1)
        have uV : (b9g_upper V).toInt = (k : Int) := by rw [eU, u7]; exact t4
        refine hq V hJV ⟨(hF.1).trans (hF7.1), (hF.2.1).trans (hF7.2.1), (hF.2.2.1).trans (hF7.2.2.1), (hF.2.2.2.1).trans (hF7.2.2.2.1), (hF.2.2.2.2.1).trans (hF7.2.2.2.2.1), (hF.2.2.2.2.2.1).trans (hF7.2.2.2.2.2.1), (hF.2.2.2.2.2.2.1).trans (hF7.2.2.2.2.2.2.1), (hF.2.2.2.2.2.2.2.1).trans (hF7.2.2.2.2.2.2.2.1), (hF.2.2.2.2.2.2.2.2.1).trans (hF7.2.2.2.2.2.2.2.2.1), (hF.2.2.2.2.2.2.2.2.2.1).trans (hF7.2.2.2.2.2.2.2.2.2.1), (hF.2.2.2.2.2.2.2.2.2.2.2.2.2.2.2.2.2.2.2.2.2.2.2.2.2.2.2.2.1).trans (hF7.2.2.2.2.2.2.2.2.2.2.1), (hF.2.2.2.2.2.2.2.2.2.2.2.2.2.2.2.2.2.2.2.2.2.2.2.2.2.2.2.2.2.1).trans (hF7.2.2.2.2.2.2.2.2.2.2.2.1), (hF.2.2.2.2.2.2.2.2.2.2.2.2.2.2.2.2.2.2.2.2.2.2.2.2.2.2.2.2.2.2.1).trans (hF7.2.2.2.2.2.2.2.2.2.2.2.2.1), (hF.2.2.2.2.2.2.2.2.2.2.2.2.2.2.2.2.2.2.2.2.2.2.2.2.2.2.2.2.2.2.2.1).trans (hF7.2.2.2.2.2.2.2.2.2.2.2.2.2.1), (hF.2.2.2.2.2.2.2.2.2.2.2.2.2.2.2.2.2.2.2.2.2.2.2.2.2.2.2.2.2.2.2.2.1).trans (hF7.2.2.2.2.2.2.2.2.2.2.2.2.2.2.1), (hF.2.2.2.2.2.2.2.2.2.2.2.2.2.2.2.2.2.2.2.2.2.2.2.2.2.2.2.2.2.2.2.2.2.1).trans (hF7.2.2.2.2.2.2.2.2.2.2.2.2.2.2.2.1), (hF.2.2.2.2.2.2.2.2.2.2.2.2.2.2.2.2.2.2.2.2.2.2.2.2.2.2.2.2.2.2.2.2.2.2.1).trans (hF7.2.2.2.2.2.2.2.2.2.2.2.2.2.2.2.2.1), (hF.2.2.2.2.2.2.2.2.2.2.2.2.2.2.2.2.2.2.2.2.2.2.2.2.2.2.2.2.2.2.2.2.2.2.2.1).trans (hF7.2.2.2.2.2.2.2.2.2.2.2.2.2.2.2.2.2.1), (hF.2.2.2.2.2.2.2.2.2.2.2.2.2.2.2.2.2.2.2.2.2.2.2.2.2.2.2.2.2.2.2.2.2.2.2.2.2.2.1).trans (hF7.2.2.2.2.2.2.2.2.2.2.2.2.2.2.2.2.2.2.1), (hF.2.2.2.2.2.2.2.2.2.2.2.2.2.2.2.2.2.2.2.2.2.2.2.2.2.2.2.2.2.2.2.2.2.2.2.2.2.2.2.1).trans (hF7.2.2.2.2.2.2.2.2.2.2.2.2.2.2.2.2.2.2.2.1), (hF.2.2.2.2.2.2.2.2.2.2.2.2.2.2.2.2.2.2.2.2.2.2.2.2.2.2.2.2.2.2.2.2.2.2.2.2.2.2.2.2.1).trans (hF7.2.2.2.2.2.2.2.2.2.2.2.2.2.2.2.2.2.2.2.2.1), (hF.2.2.2.2.2.2.2.2.2.2.2.2.2.2.2.2.2.2.2.2.2.2.2.2.2.2.2.2.2.2.2.2.2.2.2.2.2.2.2.2.2.1).trans (hF7.2.2.2.2.2.2.2.2.2.2.2.2.2.2.2.2.2.2.2.2.2.1), (hF.2.2.2.2.2.2.2.2.2.2.2.2.2.2.2.2.2.2.2.2.2.2.2.2.2.2.2.2.2.2.2.2.2.2.2.2.2.2.2.2.2.2.1).trans (hF7.2.2.2.2.2.2.2.2.2.2.2.2.2.2.2.2.2.2.2.2.2.2.1), (hF.2.2.2.2.2.2.2.2.2.2.2.2.2.2.2.2.2.2.2.2.2.2.2.2.2.2.2.2.2.2.2.2.2.2.2.2.2.2.2.2.2.2.2).trans (hF7.2.2.2.2.2.2.2.2.2.2.2.2.2.2.2.2.2.2.2.2.2.2.2)⟩ (fun _ _ => ⟨fun _ => ⟨tdV, fun ro u h1 h2 h3 => ?_⟩, by rw [eA, a7]; exact w9'.2.1⟩) (fun _ _ ro h1 h2 => ⟨k, lv, up, oar ro h1 h2, uV, by rw [eI, i7]; exact w9'.2.2⟩)
        have ku : u = k := by omega
        rw [p1, p2, p3, p4, smS.1, ku]
        exact oar ro (by rw [← l7, ← eF]; exact h1) h2
      refine ⟨fun c3 => ?_, fun c3 => ?_⟩
      · simp only [pn] at c3
        have c3' : 2 < (b9g_chosen S).toInt := by rw [← c7]; exact c3
        obtain ⟨p0, z1, z2, z3, z4, z5, z6⟩ := EB_pos (n := (n9 S)) (C := (C9 S)) (P := (P9 S)) (b := 64 * k) (x := (EB (n9 S) (C9 S) (P9 S) (64 * k)).toNat) (by omega) (by omega)
        unfold wp_X9_laysOnes_105
        refine ⟨fun n x1 V => ∃ x p : Nat, x1.toInt = (x : Int) ∧ 64 * k ≤ p ∧ p ≤ 512 ∧ (x : Int) = EB (n9 S) (C9 S) (P9 S) p - EB (n9 S) (C9 S) (P9 S) (64 * k) ∧ ((x : Int) < EB (n9 S) (C9 S) (P9 S) 512 - EB (n9 S) (C9 S) (P9 S) (64 * k) → p < 512 ∧ IsE (n9 S) (C9 S) (P9 S) p) ∧ (¬ (x : Int) < EB (n9 S) (C9 S) (P9 S) 512 - EB (n9 S) (C9 S) (P9 S) (64 * k) → p = 512) ∧ J9 V ∧ F_X9_onesOfNode S7 V ∧ (b9g_oneMany V).toInt ≤ (x : Int) ∧ (∀ ro : Nat, (b9g_chosen S).toInt = (ro : Int) → ro ≤ 5 → OIV ro (n9 S) (C9 S) (L9 S) (P9 S) (fun j => b9g_keys S (64 + j)) k (b9g_oneMany V) (b9g_ones V) (p)) ∧ n = 600 - x, ⟨_, 0, p0, rfl, z1, z2, by omega, fun t => z4 (by omega), fun t => z5 (by omega), hJ7, hFS7, by omega, ?_, rfl⟩, ?_⟩
        · intro ro h1 h2
          refine OIV_skip (p := 0) ⟨by rw [o7]; rfl, fun w hw => by omega⟩ (by omega) (fun w a b o => ?_)
          have rg := (IsO_rng o).2.2 (by omega)
          exact z6 w rg b (IsO_E G (by omega) o)
        rintro n x1 V ⟨x, p, ex, pk, p5, xp, pa, pb, hJV, hF, hle, hU, hn⟩
        have im : (b9g_itemMany V).toInt = EB (n9 S) (C9 S) (P9 S) 512 - EB (n9 S) (C9 S) (P9 S) (64 * k) := by rw [show b9g_itemMany V = b9g_itemMany S7 from hF.2.2.2.2.2.2.2.2.2.2.2.2.2.2.2.2.2.2.2.2.2.2.2.2.1]; exact i8
        unfold wp_X9_laysOnes_105b
        refine ⟨fun d => ?_, fun d => ?_⟩
        · simp only [pn] at d
          have pp := pb (by omega)
          rw [pp] at hU
          exact done V hJV hF hU
        simp only [pn] at d
        obtain ⟨pl, pE⟩ := pa (by omega)
        have tE : EB (n9 S) (C9 S) (P9 S) (p + 1) = EB (n9 S) (C9 S) (P9 S) p + 1 := CTP_y pE
        have b1 := EB_le G (w := p + 1) (by omega)
        obtain ⟨p', y1, y2, y3, y4, y5, y6⟩ := EB_pos (n := (n9 S)) (C := (C9 S)) (P := (P9 S)) (b := p + 1) (x := (EB (n9 S) (C9 S) (P9 S) (p + 1)).toNat) (by omega) (by omega)
        have key : ∀ W : bT9, J9 W → F_X9_onesOfNode S7 W → (b9g_oneMany W).toInt ≤ (x : Int) + 1 → (∀ ro : Nat, (b9g_chosen S).toInt = (ro : Int) → ro ≤ 5 → OIV ro (n9 S) (C9 S) (L9 S) (P9 S) (fun j => b9g_keys S (64 + j)) k (b9g_oneMany W) (b9g_ones W) (p + 1)) → ∃ n2 : Nat, n2 < n ∧ ∃ x' p' : Nat, (x1 + 1).toInt = (x' : Int) ∧ 64 * k ≤ p' ∧ p' ≤ 512 ∧ (x' : Int) = EB (n9 S) (C9 S) (P9 S) p' - EB (n9 S) (C9 S) (P9 S) (64 * k) ∧ ((x' : Int) < EB (n9 S) (C9 S) (P9 S) 512 - EB (n9 S) (C9 S) (P9 S) (64 * k) → p' < 512 ∧ IsE (n9 S) (C9 S) (P9 S) p') ∧ (¬ (x' : Int) < EB (n9 S) (C9 S) (P9 S) 512 - EB (n9 S) (C9 S) (P9 S) (64 * k) → p' = 512) ∧ J9 W ∧ F_X9_onesOfNode S7 W ∧ (b9g_oneMany W).toInt ≤ (x' : Int) ∧ (∀ ro : Nat, (b9g_chosen S).toInt = (ro : Int) → ro ≤ 5 → OIV ro (n9 S) (C9 S) (L9 S) (P9 S) (fun j => b9g_keys S (64 + j)) k (b9g_oneMany W) (b9g_ones W) (p')) ∧ n2 = 600 - x' := by
          intro W hJW hFW hl hU2
          exact ⟨600 - (x + 1), by omega, x + 1, p', by rw [pt_add (by rw [pl_1]; omega) (by rw [pl_1]; omega), pl_1, ex]; omega, by omega, y2, by omega, fun t => y4 (by omega), fun t => y5 (by omega), hJW, hFW, by omega, fun ro h1 h2 => OIV_skip (hU2 ro h1 h2) y1 (fun w a b o => y6 w a b (IsO_E G (by omega) o)), rfl⟩
        by_cases hro : ∃ ro : Nat, (b9g_chosen S).toInt = (ro : Int) ∧ ro ≤ 5
        · obtain ⟨ro, h1, h2⟩ := hro
          have hI : IAR (n9 S) (C9 S) (L9 S) (P9 S) (fun j => b9g_keys S (64 + j)) (b9g_itemNode V) (b9g_itemByte V) (b9g_itemChild V) (64 * k) 512 := by
            rw [show b9g_itemNode V = b9g_itemNode S7 from hF.2.2.2.2.2.2.2.2.2.2.2.2.2.2.2.2.2.2.2.2.2.1, show b9g_itemByte V = b9g_itemByte S7 from hF.2.2.2.2.2.2.2.2.2.2.2.2.2.2.2.2.2.2.2.2.2.2.1, show b9g_itemChild V = b9g_itemChild S7 from hF.2.2.2.2.2.2.2.2.2.2.2.2.2.2.2.2.2.2.2.2.2.2.2.1]
            exact i9
          refine fx9_isOne (u := k) (w := p) (y := x) G hI (by rw [show b9g_chosen V = b9g_chosen S7 from hF.2.2.2.2.2.2.2.2.2.1, c7]; exact h1) (by omega) h2 ex pl pk pE xp (fun r hr => ⟨fun d2 => ?_, fun d2 => ?_⟩)
          · unfold wp_X9_laysOnes_126
            refine key V hJV hF (by omega) (fun ro2 h3 h4 => ?_)
            rw [show ro2 = ro by omega]
            exact OIV_skip (hU ro h1 h2) (by omega) (fun w a b => by rw [show w = p by omega]; exact hr.mp d2)
          · have o : IsO ro (n9 S) (C9 S) (L9 S) (P9 S) k p := Classical.byContradiction (fun z => d2 (hr.mpr z))
            refine sf_X9_one hJV (by omega) (fun W hJW hfW m1 m2 => ?_)
            unfold wp_X9_laysOnes_126
            refine key W hJW ⟨(hfW.1).trans (hF.1), (hfW.2.1).trans (hF.2.1), (hfW.2.2.1).trans (hF.2.2.1), (hfW.2.2.2.1).trans (hF.2.2.2.1), (hfW.2.2.2.2.1).trans (hF.2.2.2.2.1), (hfW.2.2.2.2.2.1).trans (hF.2.2.2.2.2.1), (hfW.2.2.2.2.2.2.1).trans (hF.2.2.2.2.2.2.1), (hfW.2.2.2.2.2.2.2.1).trans (hF.2.2.2.2.2.2.2.1), (hfW.2.2.2.2.2.2.2.2.1).trans (hF.2.2.2.2.2.2.2.2.1), (hfW.2.2.2.2.2.2.2.2.2.1).trans (hF.2.2.2.2.2.2.2.2.2.1), (hfW.2.2.2.2.2.2.2.2.2.2.1).trans (hF.2.2.2.2.2.2.2.2.2.2.1), (hfW.2.2.2.2.2.2.2.2.2.2.2.1).trans (hF.2.2.2.2.2.2.2.2.2.2.2.1), (hfW.2.2.2.2.2.2.2.2.2.2.2.2.1).trans (hF.2.2.2.2.2.2.2.2.2.2.2.2.1), (hfW.2.2.2.2.2.2.2.2.2.2.2.2.2.1).trans (hF.2.2.2.2.2.2.2.2.2.2.2.2.2.1), (hfW.2.2.2.2.2.2.2.2.2.2.2.2.2.2.1).trans (hF.2.2.2.2.2.2.2.2.2.2.2.2.2.2.1), (hfW.2.2.2.2.2.2.2.2.2.2.2.2.2.2.2.1).trans (hF.2.2.2.2.2.2.2.2.2.2.2.2.2.2.2.1), (hfW.2.2.2.2.2.2.2.2.2.2.2.2.2.2.2.2.1).trans (hF.2.2.2.2.2.2.2.2.2.2.2.2.2.2.2.2.1), (hfW.2.2.2.2.2.2.2.2.2.2.2.2.2.2.2.2.2.1).trans (hF.2.2.2.2.2.2.2.2.2.2.2.2.2.2.2.2.2.1), (hfW.2.2.2.2.2.2.2.2.2.2.2.2.2.2.2.2.2.2.1).trans (hF.2.2.2.2.2.2.2.2.2.2.2.2.2.2.2.2.2.2.1), (hfW.2.2.2.2.2.2.2.2.2.2.2.2.2.2.2.2.2.2.2.1).trans (hF.2.2.2.2.2.2.2.2.2.2.2.2.2.2.2.2.2.2.2.1), (hfW.2.2.2.2.2.2.2.2.2.2.2.2.2.2.2.2.2.2.2.2.1).trans (hF.2.2.2.2.2.2.2.2.2.2.2.2.2.2.2.2.2.2.2.2.1), (hfW.2.2.2.2.2.2.2.2.2.2.2.2.2.2.2.2.2.2.2.2.2.1).trans (hF.2.2.2.2.2.2.2.2.2.2.2.2.2.2.2.2.2.2.2.2.2.1), (hfW.2.2.2.2.2.2.2.2.2.2.2.2.2.2.2.2.2.2.2.2.2.2.1).trans (hF.2.2.2.2.2.2.2.2.2.2.2.2.2.2.2.2.2.2.2.2.2.2.1), (hfW.2.2.2.2.2.2.2.2.2.2.2.2.2.2.2.2.2.2.2.2.2.2.2.1).trans (hF.2.2.2.2.2.2.2.2.2.2.2.2.2.2.2.2.2.2.2.2.2.2.2.1), (hfW.2.2.2.2.2.2.2.2.2.2.2.2.2.2.2.2.2.2.2.2.2.2.2.2.1).trans (hF.2.2.2.2.2.2.2.2.2.2.2.2.2.2.2.2.2.2.2.2.2.2.2.2.1), (hfW.2.2.2.2.2.2.2.2.2.2.2.2.2.2.2.2.2.2.2.2.2.2.2.2.2.1).trans (hF.2.2.2.2.2.2.2.2.2.2.2.2.2.2.2.2.2.2.2.2.2.2.2.2.2.1), (hfW.2.2.2.2.2.2.2.2.2.2.2.2.2.2.2.2.2.2.2.2.2.2.2.2.2.2.1).trans (hF.2.2.2.2.2.2.2.2.2.2.2.2.2.2.2.2.2.2.2.2.2.2.2.2.2.2.1), (hfW.2.2.2.2.2.2.2.2.2.2.2.2.2.2.2.2.2.2.2.2.2.2.2.2.2.2.2.1).trans (hF.2.2.2.2.2.2.2.2.2.2.2.2.2.2.2.2.2.2.2.2.2.2.2.2.2.2.2.1), (hfW.2.2.2.2.2.2.2.2.2.2.2.2.2.2.2.2.2.2.2.2.2.2.2.2.2.2.2.2.1).trans (hF.2.2.2.2.2.2.2.2.2.2.2.2.2.2.2.2.2.2.2.2.2.2.2.2.2.2.2.2.1), (hfW.2.2.2.2.2.2.2.2.2.2.2.2.2.2.2.2.2.2.2.2.2.2.2.2.2.2.2.2.2.1).trans (hF.2.2.2.2.2.2.2.2.2.2.2.2.2.2.2.2.2.2.2.2.2.2.2.2.2.2.2.2.2.1), (hfW.2.2.2.2.2.2.2.2.2.2.2.2.2.2.2.2.2.2.2.2.2.2.2.2.2.2.2.2.2.2.1).trans (hF.2.2.2.2.2.2.2.2.2.2.2.2.2.2.2.2.2.2.2.2.2.2.2.2.2.2.2.2.2.2.1), (hfW.2.2.2.2.2.2.2.2.2.2.2.2.2.2.2.2.2.2.2.2.2.2.2.2.2.2.2.2.2.2.2.1).trans (hF.2.2.2.2.2.2.2.2.2.2.2.2.2.2.2.2.2.2.2.2.2.2.2.2.2.2.2.2.2.2.2.1), (hfW.2.2.2.2.2.2.2.2.2.2.2.2.2.2.2.2.2.2.2.2.2.2.2.2.2.2.2.2.2.2.2.2.1).trans (hF.2.2.2.2.2.2.2.2.2.2.2.2.2.2.2.2.2.2.2.2.2.2.2.2.2.2.2.2.2.2.2.2.1), (hfW.2.2.2.2.2.2.2.2.2.2.2.2.2.2.2.2.2.2.2.2.2.2.2.2.2.2.2.2.2.2.2.2.2.1).trans (hF.2.2.2.2.2.2.2.2.2.2.2.2.2.2.2.2.2.2.2.2.2.2.2.2.2.2.2.2.2.2.2.2.2.1), (hfW.2.2.2.2.2.2.2.2.2.2.2.2.2.2.2.2.2.2.2.2.2.2.2.2.2.2.2.2.2.2.2.2.2.2.1).trans (hF.2.2.2.2.2.2.2.2.2.2.2.2.2.2.2.2.2.2.2.2.2.2.2.2.2.2.2.2.2.2.2.2.2.2.1), (hfW.2.2.2.2.2.2.2.2.2.2.2.2.2.2.2.2.2.2.2.2.2.2.2.2.2.2.2.2.2.2.2.2.2.2.2.1).trans (hF.2.2.2.2.2.2.2.2.2.2.2.2.2.2.2.2.2.2.2.2.2.2.2.2.2.2.2.2.2.2.2.2.2.2.2.1), (hfW.2.2.2.2.2.2.2.2.2.2.2.2.2.2.2.2.2.2.2.2.2.2.2.2.2.2.2.2.2.2.2.2.2.2.2.2.1).trans (hF.2.2.2.2.2.2.2.2.2.2.2.2.2.2.2.2.2.2.2.2.2.2.2.2.2.2.2.2.2.2.2.2.2.2.2.2.1), (hfW.2.2.2.2.2.2.2.2.2.2.2.2.2.2.2.2.2.2.2.2.2.2.2.2.2.2.2.2.2.2.2.2.2.2.2.2.2.1).trans (hF.2.2.2.2.2.2.2.2.2.2.2.2.2.2.2.2.2.2.2.2.2.2.2.2.2.2.2.2.2.2.2.2.2.2.2.2.2.1), (hfW.2.2.2.2.2.2.2.2.2.2.2.2.2.2.2.2.2.2.2.2.2.2.2.2.2.2.2.2.2.2.2.2.2.2.2.2.2.2.1).trans (hF.2.2.2.2.2.2.2.2.2.2.2.2.2.2.2.2.2.2.2.2.2.2.2.2.2.2.2.2.2.2.2.2.2.2.2.2.2.2.1), (hfW.2.2.2.2.2.2.2.2.2.2.2.2.2.2.2.2.2.2.2.2.2.2.2.2.2.2.2.2.2.2.2.2.2.2.2.2.2.2.2.1).trans (hF.2.2.2.2.2.2.2.2.2.2.2.2.2.2.2.2.2.2.2.2.2.2.2.2.2.2.2.2.2.2.2.2.2.2.2.2.2.2.2.1), (hfW.2.2.2.2.2.2.2.2.2.2.2.2.2.2.2.2.2.2.2.2.2.2.2.2.2.2.2.2.2.2.2.2.2.2.2.2.2.2.2.2.1).trans (hF.2.2.2.2.2.2.2.2.2.2.2.2.2.2.2.2.2.2.2.2.2.2.2.2.2.2.2.2.2.2.2.2.2.2.2.2.2.2.2.2.1), (hfW.2.2.2.2.2.2.2.2.2.2.2.2.2.2.2.2.2.2.2.2.2.2.2.2.2.2.2.2.2.2.2.2.2.2.2.2.2.2.2.2.2.1).trans (hF.2.2.2.2.2.2.2.2.2.2.2.2.2.2.2.2.2.2.2.2.2.2.2.2.2.2.2.2.2.2.2.2.2.2.2.2.2.2.2.2.2.1), (hfW.2.2.2.2.2.2.2.2.2.2.2.2.2.2.2.2.2.2.2.2.2.2.2.2.2.2.2.2.2.2.2.2.2.2.2.2.2.2.2.2.2.2.1).trans (hF.2.2.2.2.2.2.2.2.2.2.2.2.2.2.2.2.2.2.2.2.2.2.2.2.2.2.2.2.2.2.2.2.2.2.2.2.2.2.2.2.2.2.1), (hfW.2.2.2.2.2.2.2.2.2.2.2.2.2.2.2.2.2.2.2.2.2.2.2.2.2.2.2.2.2.2.2.2.2.2.2.2.2.2.2.2.2.2.2).trans (hF.2.2.2.2.2.2.2.2.2.2.2.2.2.2.2.2.2.2.2.2.2.2.2.2.2.2.2.2.2.2.2.2.2.2.2.2.2.2.2.2.2.2.2)⟩ (by omega) (fun ro2 h3 h4 => ?_)
            rw [show ro2 = ro by omega]
            refine OIV_add (hU ro h1 h2) o ?_ m1 m2
            unfold VO
            rw [if_neg (by omega), if_neg (by omega)]
            omega
        · refine sf_X9_isOne hJV.1 (by omega) (by omega) (fun r1 _ => ⟨fun _ => ?_, fun _ => ?_⟩)
          · unfold wp_X9_laysOnes_126
            exact key V hJV hF (by omega) (fun ro h1 h2 => absurd ⟨ro, h1, h2⟩ hro)
          · refine sf_X9_one hJV (by omega) (fun W hJW hfW m1 m2 => ?_)
            unfold wp_X9_laysOnes_126
            exact key W hJW ⟨(hfW.1).trans (hF.1), (hfW.2.1).trans (hF.2.1), (hfW.2.2.1).trans (hF.2.2.1), (hfW.2.2.2.1).trans (hF.2.2.2.1), (hfW.2.2.2.2.1).trans (hF.2.2.2.2.1), (hfW.2.2.2.2.2.1).trans (hF.2.2.2.2.2.1), (hfW.2.2.2.2.2.2.1).trans (hF.2.2.2.2.2.2.1), (hfW.2.2.2.2.2.2.2.1).trans (hF.2.2.2.2.2.2.2.1), (hfW.2.2.2.2.2.2.2.2.1).trans (hF.2.2.2.2.2.2.2.2.1), (hfW.2.2.2.2.2.2.2.2.2.1).trans (hF.2.2.2.2.2.2.2.2.2.1), (hfW.2.2.2.2.2.2.2.2.2.2.1).trans (hF.2.2.2.2.2.2.2.2.2.2.1), (hfW.2.2.2.2.2.2.2.2.2.2.2.1).trans (hF.2.2.2.2.2.2.2.2.2.2.2.1), (hfW.2.2.2.2.2.2.2.2.2.2.2.2.1).trans (hF.2.2.2.2.2.2.2.2.2.2.2.2.1), (hfW.2.2.2.2.2.2.2.2.2.2.2.2.2.1).trans (hF.2.2.2.2.2.2.2.2.2.2.2.2.2.1), (hfW.2.2.2.2.2.2.2.2.2.2.2.2.2.2.1).trans (hF.2.2.2.2.2.2.2.2.2.2.2.2.2.2.1), (hfW.2.2.2.2.2.2.2.2.2.2.2.2.2.2.2.1).trans (hF.2.2.2.2.2.2.2.2.2.2.2.2.2.2.2.1), (hfW.2.2.2.2.2.2.2.2.2.2.2.2.2.2.2.2.1).trans (hF.2.2.2.2.2.2.2.2.2.2.2.2.2.2.2.2.1), (hfW.2.2.2.2.2.2.2.2.2.2.2.2.2.2.2.2.2.1).trans (hF.2.2.2.2.2.2.2.2.2.2.2.2.2.2.2.2.2.1), (hfW.2.2.2.2.2.2.2.2.2.2.2.2.2.2.2.2.2.2.1).trans (hF.2.2.2.2.2.2.2.2.2.2.2.2.2.2.2.2.2.2.1), (hfW.2.2.2.2.2.2.2.2.2.2.2.2.2.2.2.2.2.2.2.1).trans (hF.2.2.2.2.2.2.2.2.2.2.2.2.2.2.2.2.2.2.2.1), (hfW.2.2.2.2.2.2.2.2.2.2.2.2.2.2.2.2.2.2.2.2.1).trans (hF.2.2.2.2.2.2.2.2.2.2.2.2.2.2.2.2.2.2.2.2.1), (hfW.2.2.2.2.2.2.2.2.2.2.2.2.2.2.2.2.2.2.2.2.2.1).trans (hF.2.2.2.2.2.2.2.2.2.2.2.2.2.2.2.2.2.2.2.2.2.1), (hfW.2.2.2.2.2.2.2.2.2.2.2.2.2.2.2.2.2.2.2.2.2.2.1).trans (hF.2.2.2.2.2.2.2.2.2.2.2.2.2.2.2.2.2.2.2.2.2.2.1), (hfW.2.2.2.2.2.2.2.2.2.2.2.2.2.2.2.2.2.2.2.2.2.2.2.1).trans (hF.2.2.2.2.2.2.2.2.2.2.2.2.2.2.2.2.2.2.2.2.2.2.2.1), (hfW.2.2.2.2.2.2.2.2.2.2.2.2.2.2.2.2.2.2.2.2.2.2.2.2.1).trans (hF.2.2.2.2.2.2.2.2.2.2.2.2.2.2.2.2.2.2.2.2.2.2.2.2.1), (hfW.2.2.2.2.2.2.2.2.2.2.2.2.2.2.2.2.2.2.2.2.2.2.2.2.2.1).trans (hF.2.2.2.2.2.2.2.2.2.2.2.2.2.2.2.2.2.2.2.2.2.2.2.2.2.1), (hfW.2.2.2.2.2.2.2.2.2.2.2.2.2.2.2.2.2.2.2.2.2.2.2.2.2.2.1).trans (hF.2.2.2.2.2.2.2.2.2.2.2.2.2.2.2.2.2.2.2.2.2.2.2.2.2.2.1), (hfW.2.2.2.2.2.2.2.2.2.2.2.2.2.2.2.2.2.2.2.2.2.2.2.2.2.2.2.1).trans (hF.2.2.2.2.2.2.2.2.2.2.2.2.2.2.2.2.2.2.2.2.2.2.2.2.2.2.2.1), (hfW.2.2.2.2.2.2.2.2.2.2.2.2.2.2.2.2.2.2.2.2.2.2.2.2.2.2.2.2.1).trans (hF.2.2.2.2.2.2.2.2.2.2.2.2.2.2.2.2.2.2.2.2.2.2.2.2.2.2.2.2.1), (hfW.2.2.2.2.2.2.2.2.2.2.2.2.2.2.2.2.2.2.2.2.2.2.2.2.2.2.2.2.2.1).trans (hF.2.2.2.2.2.2.2.2.2.2.2.2.2.2.2.2.2.2.2.2.2.2.2.2.2.2.2.2.2.1), (hfW.2.2.2.2.2.2.2.2.2.2.2.2.2.2.2.2.2.2.2.2.2.2.2.2.2.2.2.2.2.2.1).trans (hF.2.2.2.2.2.2.2.2.2.2.2.2.2.2.2.2.2.2.2.2.2.2.2.2.2.2.2.2.2.2.1), (hfW.2.2.2.2.2.2.2.2.2.2.2.2.2.2.2.2.2.2.2.2.2.2.2.2.2.2.2.2.2.2.2.1).trans (hF.2.2.2.2.2.2.2.2.2.2.2.2.2.2.2.2.2.2.2.2.2.2.2.2.2.2.2.2.2.2.2.1), (hfW.2.2.2.2.2.2.2.2.2.2.2.2.2.2.2.2.2.2.2.2.2.2.2.2.2.2.2.2.2.2.2.2.1).trans (hF.2.2.2.2.2.2.2.2.2.2.2.2.2.2.2.2.2.2.2.2.2.2.2.2.2.2.2.2.2.2.2.2.1), (hfW.2.2.2.2.2.2.2.2.2.2.2.2.2.2.2.2.2.2.2.2.2.2.2.2.2.2.2.2.2.2.2.2.2.1).trans (hF.2.2.2.2.2.2.2.2.2.2.2.2.2.2.2.2.2.2.2.2.2.2.2.2.2.2.2.2.2.2.2.2.2.1), (hfW.2.2.2.2.2.2.2.2.2.2.2.2.2.2.2.2.2.2.2.2.2.2.2.2.2.2.2.2.2.2.2.2.2.2.1).trans (hF.2.2.2.2.2.2.2.2.2.2.2.2.2.2.2.2.2.2.2.2.2.2.2.2.2.2.2.2.2.2.2.2.2.2.1), (hfW.2.2.2.2.2.2.2.2.2.2.2.2.2.2.2.2.2.2.2.2.2.2.2.2.2.2.2.2.2.2.2.2.2.2.2.1).trans (hF.2.2.2.2.2.2.2.2.2.2.2.2.2.2.2.2.2.2.2.2.2.2.2.2.2.2.2.2.2.2.2.2.2.2.2.1), (hfW.2.2.2.2.2.2.2.2.2.2.2.2.2.2.2.2.2.2.2.2.2.2.2.2.2.2.2.2.2.2.2.2.2.2.2.2.1).trans (hF.2.2.2.2.2.2.2.2.2.2.2.2.2.2.2.2.2.2.2.2.2.2.2.2.2.2.2.2.2.2.2.2.2.2.2.2.1), (hfW.2.2.2.2.2.2.2.2.2.2.2.2.2.2.2.2.2.2.2.2.2.2.2.2.2.2.2.2.2.2.2.2.2.2.2.2.2.1).trans (hF.2.2.2.2.2.2.2.2.2.2.2.2.2.2.2.2.2.2.2.2.2.2.2.2.2.2.2.2.2.2.2.2.2.2.2.2.2.1), (hfW.2.2.2.2.2.2.2.2.2.2.2.2.2.2.2.2.2.2.2.2.2.2.2.2.2.2.2.2.2.2.2.2.2.2.2.2.2.2.1).trans (hF.2.2.2.2.2.2.2.2.2.2.2.2.2.2.2.2.2.2.2.2.2.2.2.2.2.2.2.2.2.2.2.2.2.2.2.2.2.2.1), (hfW.2.2.2.2.2.2.2.2.2.2.2.2.2.2.2.2.2.2.2.2.2.2.2.2.2.2.2.2.2.2.2.2.2.2.2.2.2.2.2.1).trans (hF.2.2.2.2.2.2.2.2.2.2.2.2.2.2.2.2.2.2.2.2.2.2.2.2.2.2.2.2.2.2.2.2.2.2.2.2.2.2.2.1), (hfW.2.2.2.2.2.2.2.2.2.2.2.2.2.2.2.2.2.2.2.2.2.2.2.2.2.2.2.2.2.2.2.2.2.2.2.2.2.2.2.2.1).trans (hF.2.2.2.2.2.2.2.2.2.2.2.2.2.2.2.2.2.2.2.2.2.2.2.2.2.2.2.2.2.2.2.2.2.2.2.2.2.2.2.2.1), (hfW.2.2.2.2.2.2.2.2.2.2.2.2.2.2.2.2.2.2.2.2.2.2.2.2.2.2.2.2.2.2.2.2.2.2.2.2.2.2.2.2.2.1).trans (hF.2.2.2.2.2.2.2.2.2.2.2.2.2.2.2.2.2.2.2.2.2.2.2.2.2.2.2.2.2.2.2.2.2.2.2.2.2.2.2.2.2.1), (hfW.2.2.2.2.2.2.2.2.2.2.2.2.2.2.2.2.2.2.2.2.2.2.2.2.2.2.2.2.2.2.2.2.2.2.2.2.2.2.2.2.2.2.1).trans (hF.2.2.2.2.2.2.2.2.2.2.2.2.2.2.2.2.2.2.2.2.2.2.2.2.2.2.2.2.2.2.2.2.2.2.2.2.2.2.2.2.2.2.1), (hfW.2.2.2.2.2.2.2.2.2.2.2.2.2.2.2.2.2.2.2.2.2.2.2.2.2.2.2.2.2.2.2.2.2.2.2.2.2.2.2.2.2.2.2).trans (hF.2.2.2.2.2.2.2.2.2.2.2.2.2.2.2.2.2.2.2.2.2.2.2.2.2.2.2.2.2.2.2.2.2.2.2.2.2.2.2.2.2.2.2)⟩ (by omega) (fun ro h1 h2 => absurd ⟨ro, h1, h2⟩ hro)
      · simp only [pn] at c3
        have c3' : (b9g_chosen S).toInt ≤ 2 := by rw [← c7]; omega
        by_cases hro : ∃ ro : Nat, (b9g_chosen S).toInt = (ro : Int) ∧ ro ≤ 5
        · obtain ⟨ro, h1, h2⟩ := hro
          have r2 : ro ≤ 2 := by omega
          obtain ⟨p0, z1, z2, z3, z4, z5, z6⟩ := NB_pos (n := (n9 S)) (C := (C9 S)) (P := (P9 S)) (b := 0) (x := 0) (by omega) rfl
          unfold wp_X9_laysOnes_81
          refine ⟨fun n x1 V => ∃ x p : Nat, x1.toInt = (x : Int) ∧ p ≤ 512 ∧ (x : Int) = NB (n9 S) (C9 S) (P9 S) p ∧ ((x : Int) < NB (n9 S) (C9 S) (P9 S) 512 → p < 512 ∧ IsN (n9 S) (C9 S) (P9 S) p) ∧ (¬ (x : Int) < NB (n9 S) (C9 S) (P9 S) 512 → p = 512) ∧ J9 V ∧ F_X9_onesOfNode S7 V ∧ OIV ro (n9 S) (C9 S) (L9 S) (P9 S) (fun j => b9g_keys S (64 + j)) k (b9g_oneMany V) (b9g_ones V) p ∧ n = 600 - x, ⟨_, 0, p0, rfl, z2, z3, z4, z5, hJ7, hFS7, ?_, rfl⟩, ?_⟩
          · refine OIV_skip (p := 0) ⟨by rw [o7]; rfl, fun w hw => by omega⟩ (by omega) (fun w a b o => ?_)
            obtain ⟨s, s1, s2, _, _⟩ := EDG_st G (IsO_E G (by omega) o)
            exact z6 (64 * (w / 64) + s) (by omega) (by omega) ((IsN_at (by omega)).mpr s2)
          rintro n x1 V ⟨x, p, ex, p5, xp, pa, pb, hJV, hF, hO, hn⟩
          have sV7 : SM9 V S7 := ⟨hF.2.2.1, hF.2.2.2.1, hF.2.1⟩
          have sVS : SM9 V S := ⟨sV7.1.trans sm7.1, sV7.2.1.trans sm7.2.1, sV7.2.2.trans sm7.2.2⟩
          obtain ⟨s1, s2, s3, s4⟩ := SM9_n sVS
          have eu : (b9g_upperNodes V).toInt = NB (n9 S) (C9 S) (P9 S) (64 * k) := by rw [show b9g_upperNodes V = b9g_upperNodes S7 from hF.2.2.2.2.2.2.2.2.2.2.2.2.2.2.2.2.2.2.2.1]; exact v7
          have em : (b9g_nodeMany V).toInt = NB (n9 S) (C9 S) (P9 S) 512 := by rw [show b9g_nodeMany V = b9g_nodeMany S7 from hF.2.2.2.2.2.2.2.2.2.2.2.2.2.2.2.2.1]; exact m7
          unfold wp_X9_laysOnes_81b
          refine ⟨fun d => ?_, fun d => ?_⟩
          · simp only [pn] at d
            refine done V hJV hF (fun ro2 h3 h4 => ?_)
            rw [show ro2 = ro by omega]
            refine OIV_skip hO p5 (fun w a b o => ?_)
            have wu := (IsO_rng o).2.1 r2
            have hp : p < 512 → IsN (n9 S) (C9 S) (P9 S) p := by
              intro y
              by_cases q : (x : Int) < NB (n9 S) (C9 S) (P9 S) 512
              · exact (pa q).2
              · have := pb q
                omega
            obtain ⟨v, a1, a2, a3⟩ := E_node G (p := p) (w := w) hp a b (IsO_E G b o)
            have lt : NB (n9 S) (C9 S) (P9 S) v < NB (n9 S) (C9 S) (P9 S) (64 * k) := CTP_lt (by omega) a3
            have mn := NB_mono (n := (n9 S)) (C := (C9 S)) (P := (P9 S)) a1
            omega
          simp only [pn] at d
          obtain ⟨pl, pI⟩ := pa (by omega)
          have RV : R9 V := R9_same R7 sV7 (hF.2.2.2.2.2.2.2.2.2.2.2.1) (hF.2.2.2.2.2.2.2.2.2.2.1)
          have NV : N9 V := N9_same N7 sV7 (hF.2.2.2.2.2.2.2.2.2.2.2.2.2.1) (hF.2.2.2.2.2.2.2.2.2.2.2.2.2.2.1) (hF.2.2.2.2.2.2.2.2.2.2.2.2.2.2.2.1) (hF.2.2.2.2.2.2.2.2.2.2.2.2.2.2.2.2.1)
          obtain ⟨l, s, e, ha⟩ := AT9_of RV NV (x := x) (by omega)
          have ha' := ha
          obtain ⟨x5, l7', hs, hg, hx2, f1, f2, f3⟩ := ha'
          rw [s1, s2, s4] at hs hg hx2
          have sn := hs.1
          have gn := hg.2.1
          have ep : p = 64 * l + s := CTP_inj (P := IsN (n9 S) (C9 S) (P9 S)) pI ((IsN_at (by omega)).mpr hs) (by show NB _ _ _ p = NB _ _ _ (64 * l + s); omega)
          have lk : l < k := by
            apply Classical.byContradiction
            intro y
            have := NB_mono (n := (n9 S)) (C := (C9 S)) (P := (P9 S)) (show 64 * k ≤ 64 * l + s by omega)
            omega
          have ng := NB_grp g64 hs hg
          obtain ⟨p', y1, y2, y3, y4, y5, y6⟩ := NB_pos (n := (n9 S)) (C := (C9 S)) (P := (P9 S)) (b := 64 * l + e) (x := x + 1) (by omega) (by omega)
          have eg := EB_gap g64 (l := l) (e := e) (by omega) (GRQ_cl hg) y1 y6
          have noE : ∀ w, 64 * l + e ≤ w → w < p' → ¬ IsE (n9 S) (C9 S) (P9 S) w := by
            intro w b1 b2 b3
            have lt : EB (n9 S) (C9 S) (P9 S) w < EB (n9 S) (C9 S) (P9 S) p' := CTP_lt b2 b3
            have mn := EB_mono (n := (n9 S)) (C := (C9 S)) (P := (P9 S)) b1
            omega
          refine sg_X9_onesOfNode (x := x) (l := l) (s := s) (e := e) (u := k) (ro := ro) hJV RV NV ha ex (by omega) lk (by rw [show b9g_chosen V = b9g_chosen S7 from hF.2.2.2.2.2.2.2.2.2.1, c7]; exact h1) r2 ?_ (fun W hJW hfW hOW => ?_)
          · rw [s1, s2, s3, s4, sVS.1, ← ep]
            exact hO
          · rw [s1, s2, s3, s4, sVS.1] at hOW
            exact ⟨600 - (x + 1), by omega, x + 1, p', by rw [pt_add (by rw [pl_1]; omega) (by rw [pl_1]; omega), pl_1, ex]; omega, y2, y3, y4, y5, hJW, ⟨(hfW.1).trans (hF.1), (hfW.2.1).trans (hF.2.1), (hfW.2.2.1).trans (hF.2.2.1), (hfW.2.2.2.1).trans (hF.2.2.2.1), (hfW.2.2.2.2.1).trans (hF.2.2.2.2.1), (hfW.2.2.2.2.2.1).trans (hF.2.2.2.2.2.1), (hfW.2.2.2.2.2.2.1).trans (hF.2.2.2.2.2.2.1), (hfW.2.2.2.2.2.2.2.1).trans (hF.2.2.2.2.2.2.2.1), (hfW.2.2.2.2.2.2.2.2.1).trans (hF.2.2.2.2.2.2.2.2.1), (hfW.2.2.2.2.2.2.2.2.2.1).trans (hF.2.2.2.2.2.2.2.2.2.1), (hfW.2.2.2.2.2.2.2.2.2.2.1).trans (hF.2.2.2.2.2.2.2.2.2.2.1), (hfW.2.2.2.2.2.2.2.2.2.2.2.1).trans (hF.2.2.2.2.2.2.2.2.2.2.2.1), (hfW.2.2.2.2.2.2.2.2.2.2.2.2.1).trans (hF.2.2.2.2.2.2.2.2.2.2.2.2.1), (hfW.2.2.2.2.2.2.2.2.2.2.2.2.2.1).trans (hF.2.2.2.2.2.2.2.2.2.2.2.2.2.1), (hfW.2.2.2.2.2.2.2.2.2.2.2.2.2.2.1).trans (hF.2.2.2.2.2.2.2.2.2.2.2.2.2.2.1), (hfW.2.2.2.2.2.2.2.2.2.2.2.2.2.2.2.1).trans (hF.2.2.2.2.2.2.2.2.2.2.2.2.2.2.2.1), (hfW.2.2.2.2.2.2.2.2.2.2.2.2.2.2.2.2.1).trans (hF.2.2.2.2.2.2.2.2.2.2.2.2.2.2.2.2.1), (hfW.2.2.2.2.2.2.2.2.2.2.2.2.2.2.2.2.2.1).trans (hF.2.2.2.2.2.2.2.2.2.2.2.2.2.2.2.2.2.1), (hfW.2.2.2.2.2.2.2.2.2.2.2.2.2.2.2.2.2.2.1).trans (hF.2.2.2.2.2.2.2.2.2.2.2.2.2.2.2.2.2.2.1), (hfW.2.2.2.2.2.2.2.2.2.2.2.2.2.2.2.2.2.2.2.1).trans (hF.2.2.2.2.2.2.2.2.2.2.2.2.2.2.2.2.2.2.2.1), (hfW.2.2.2.2.2.2.2.2.2.2.2.2.2.2.2.2.2.2.2.2.1).trans (hF.2.2.2.2.2.2.2.2.2.2.2.2.2.2.2.2.2.2.2.2.1), (hfW.2.2.2.2.2.2.2.2.2.2.2.2.2.2.2.2.2.2.2.2.2.1).trans (hF.2.2.2.2.2.2.2.2.2.2.2.2.2.2.2.2.2.2.2.2.2.1), (hfW.2.2.2.2.2.2.2.2.2.2.2.2.2.2.2.2.2.2.2.2.2.2.1).trans (hF.2.2.2.2.2.2.2.2.2.2.2.2.2.2.2.2.2.2.2.2.2.2.1), (hfW.2.2.2.2.2.2.2.2.2.2.2.2.2.2.2.2.2.2.2.2.2.2.2.1).trans (hF.2.2.2.2.2.2.2.2.2.2.2.2.2.2.2.2.2.2.2.2.2.2.2.1), (hfW.2.2.2.2.2.2.2.2.2.2.2.2.2.2.2.2.2.2.2.2.2.2.2.2.1).trans (hF.2.2.2.2.2.2.2.2.2.2.2.2.2.2.2.2.2.2.2.2.2.2.2.2.1), (hfW.2.2.2.2.2.2.2.2.2.2.2.2.2.2.2.2.2.2.2.2.2.2.2.2.2.1).trans (hF.2.2.2.2.2.2.2.2.2.2.2.2.2.2.2.2.2.2.2.2.2.2.2.2.2.1), (hfW.2.2.2.2.2.2.2.2.2.2.2.2.2.2.2.2.2.2.2.2.2.2.2.2.2.2.1).trans (hF.2.2.2.2.2.2.2.2.2.2.2.2.2.2.2.2.2.2.2.2.2.2.2.2.2.2.1), (hfW.2.2.2.2.2.2.2.2.2.2.2.2.2.2.2.2.2.2.2.2.2.2.2.2.2.2.2.1).trans (hF.2.2.2.2.2.2.2.2.2.2.2.2.2.2.2.2.2.2.2.2.2.2.2.2.2.2.2.1), (hfW.2.2.2.2.2.2.2.2.2.2.2.2.2.2.2.2.2.2.2.2.2.2.2.2.2.2.2.2.1).trans (hF.2.2.2.2.2.2.2.2.2.2.2.2.2.2.2.2.2.2.2.2.2.2.2.2.2.2.2.2.1), (hfW.2.2.2.2.2.2.2.2.2.2.2.2.2.2.2.2.2.2.2.2.2.2.2.2.2.2.2.2.2.1).trans (hF.2.2.2.2.2.2.2.2.2.2.2.2.2.2.2.2.2.2.2.2.2.2.2.2.2.2.2.2.2.1), (hfW.2.2.2.2.2.2.2.2.2.2.2.2.2.2.2.2.2.2.2.2.2.2.2.2.2.2.2.2.2.2.1).trans (hF.2.2.2.2.2.2.2.2.2.2.2.2.2.2.2.2.2.2.2.2.2.2.2.2.2.2.2.2.2.2.1), (hfW.2.2.2.2.2.2.2.2.2.2.2.2.2.2.2.2.2.2.2.2.2.2.2.2.2.2.2.2.2.2.2.1).trans (hF.2.2.2.2.2.2.2.2.2.2.2.2.2.2.2.2.2.2.2.2.2.2.2.2.2.2.2.2.2.2.2.1), (hfW.2.2.2.2.2.2.2.2.2.2.2.2.2.2.2.2.2.2.2.2.2.2.2.2.2.2.2.2.2.2.2.2.1).trans (hF.2.2.2.2.2.2.2.2.2.2.2.2.2.2.2.2.2.2.2.2.2.2.2.2.2.2.2.2.2.2.2.2.1), (hfW.2.2.2.2.2.2.2.2.2.2.2.2.2.2.2.2.2.2.2.2.2.2.2.2.2.2.2.2.2.2.2.2.2.1).trans (hF.2.2.2.2.2.2.2.2.2.2.2.2.2.2.2.2.2.2.2.2.2.2.2.2.2.2.2.2.2.2.2.2.2.1), (hfW.2.2.2.2.2.2.2.2.2.2.2.2.2.2.2.2.2.2.2.2.2.2.2.2.2.2.2.2.2.2.2.2.2.2.1).trans (hF.2.2.2.2.2.2.2.2.2.2.2.2.2.2.2.2.2.2.2.2.2.2.2.2.2.2.2.2.2.2.2.2.2.2.1), (hfW.2.2.2.2.2.2.2.2.2.2.2.2.2.2.2.2.2.2.2.2.2.2.2.2.2.2.2.2.2.2.2.2.2.2.2.1).trans (hF.2.2.2.2.2.2.2.2.2.2.2.2.2.2.2.2.2.2.2.2.2.2.2.2.2.2.2.2.2.2.2.2.2.2.2.1), (hfW.2.2.2.2.2.2.2.2.2.2.2.2.2.2.2.2.2.2.2.2.2.2.2.2.2.2.2.2.2.2.2.2.2.2.2.2.1).trans (hF.2.2.2.2.2.2.2.2.2.2.2.2.2.2.2.2.2.2.2.2.2.2.2.2.2.2.2.2.2.2.2.2.2.2.2.2.1), (hfW.2.2.2.2.2.2.2.2.2.2.2.2.2.2.2.2.2.2.2.2.2.2.2.2.2.2.2.2.2.2.2.2.2.2.2.2.2.1).trans (hF.2.2.2.2.2.2.2.2.2.2.2.2.2.2.2.2.2.2.2.2.2.2.2.2.2.2.2.2.2.2.2.2.2.2.2.2.2.1), (hfW.2.2.2.2.2.2.2.2.2.2.2.2.2.2.2.2.2.2.2.2.2.2.2.2.2.2.2.2.2.2.2.2.2.2.2.2.2.2.1).trans (hF.2.2.2.2.2.2.2.2.2.2.2.2.2.2.2.2.2.2.2.2.2.2.2.2.2.2.2.2.2.2.2.2.2.2.2.2.2.2.1), (hfW.2.2.2.2.2.2.2.2.2.2.2.2.2.2.2.2.2.2.2.2.2.2.2.2.2.2.2.2.2.2.2.2.2.2.2.2.2.2.2.1).trans (hF.2.2.2.2.2.2.2.2.2.2.2.2.2.2.2.2.2.2.2.2.2.2.2.2.2.2.2.2.2.2.2.2.2.2.2.2.2.2.2.1), (hfW.2.2.2.2.2.2.2.2.2.2.2.2.2.2.2.2.2.2.2.2.2.2.2.2.2.2.2.2.2.2.2.2.2.2.2.2.2.2.2.2.1).trans (hF.2.2.2.2.2.2.2.2.2.2.2.2.2.2.2.2.2.2.2.2.2.2.2.2.2.2.2.2.2.2.2.2.2.2.2.2.2.2.2.2.1), (hfW.2.2.2.2.2.2.2.2.2.2.2.2.2.2.2.2.2.2.2.2.2.2.2.2.2.2.2.2.2.2.2.2.2.2.2.2.2.2.2.2.2.1).trans (hF.2.2.2.2.2.2.2.2.2.2.2.2.2.2.2.2.2.2.2.2.2.2.2.2.2.2.2.2.2.2.2.2.2.2.2.2.2.2.2.2.2.1), (hfW.2.2.2.2.2.2.2.2.2.2.2.2.2.2.2.2.2.2.2.2.2.2.2.2.2.2.2.2.2.2.2.2.2.2.2.2.2.2.2.2.2.2.1).trans (hF.2.2.2.2.2.2.2.2.2.2.2.2.2.2.2.2.2.2.2.2.2.2.2.2.2.2.2.2.2.2.2.2.2.2.2.2.2.2.2.2.2.2.1), (hfW.2.2.2.2.2.2.2.2.2.2.2.2.2.2.2.2.2.2.2.2.2.2.2.2.2.2.2.2.2.2.2.2.2.2.2.2.2.2.2.2.2.2.2).trans (hF.2.2.2.2.2.2.2.2.2.2.2.2.2.2.2.2.2.2.2.2.2.2.2.2.2.2.2.2.2.2.2.2.2.2.2.2.2.2.2.2.2.2.2)⟩, OIV_skip hOW y1 (fun w a b o => noE w a b (IsO_E G (by omega) o)), rfl⟩
        · have hN := J9g_ND hJ7
          have jm := J9g_nodeMany hJ7
          have ju := hJ7.2.1
          unfold wp_X9_laysOnes_81
          refine ⟨fun n x V => J9 V ∧ F_X9_onesOfNode S7 V ∧ 0 ≤ x.toInt ∧ (x.toInt < (b9g_nodeMany S7).toInt → (b9g_oneMany V).toInt ≤ 64 * (b9g_nodeLevel S7 x.toNatClampNeg).toInt + (b9g_nodeLeaf S7 x.toNatClampNeg).toInt) ∧ n = ((b9g_upperNodes S7).toInt + 1 - x.toInt).toNat, ⟨_, hJ7, hFS7, by decide, ?_, rfl⟩, ?_⟩
          · intro h0
            have := (hN 0 (by rw [pl_0] at h0; omega)).1
            show (b9g_oneMany S7).toInt ≤ 64 * (b9g_nodeLevel S7 0).toInt + (b9g_nodeLeaf S7 0).toInt
            omega
          rintro n x V ⟨hJV, hF, h0, h1, hn⟩
          have n3 : b9g_nodeLeaves V = b9g_nodeLeaves S7 := hF.2.2.2.2.2.2.2.2.2.2.2.2.2.2.2.1
          have n4 : b9g_nodeMany V = b9g_nodeMany S7 := hF.2.2.2.2.2.2.2.2.2.2.2.2.2.2.2.2.1
          have n5' : b9g_upperNodes V = b9g_upperNodes S7 := hF.2.2.2.2.2.2.2.2.2.2.2.2.2.2.2.2.2.2.2.1
          unfold wp_X9_laysOnes_81b
          refine ⟨fun _ => done V hJV hF (fun ro a b => absurd ⟨ro, a, b⟩ hro), fun d => ?_⟩
          simp only [pn] at d
          rw [n5'] at d
          have hx : x.toInt < (b9g_nodeMany S7).toInt := by omega
          have a := h1 hx
          have ex := pt_clamp h0
          have b := hN x.toNatClampNeg (by omega)
          have e1 : (x + 1).toInt = x.toInt + 1 := by rw [pt_add (by rw [pl_1]; omega) (by rw [pl_1]; omega), pl_1]
          have e2 := pt_clamp (i := x + 1) (by omega)
          have e3 : (x + 1).toNatClampNeg = x.toNatClampNeg + 1 := by omega
          refine sf_X9_onesOfNode hJV h0 (by rw [n4]; exact hx) (by omega) (fun u6 hJ6 hf6 h6 => ?_)
          rw [n3] at h6
          refine ⟨_, ?_, hJ6, ⟨(hf6.1).trans (hF.1), (hf6.2.1).trans (hF.2.1), (hf6.2.2.1).trans (hF.2.2.1), (hf6.2.2.2.1).trans (hF.2.2.2.1), (hf6.2.2.2.2.1).trans (hF.2.2.2.2.1), (hf6.2.2.2.2.2.1).trans (hF.2.2.2.2.2.1), (hf6.2.2.2.2.2.2.1).trans (hF.2.2.2.2.2.2.1), (hf6.2.2.2.2.2.2.2.1).trans (hF.2.2.2.2.2.2.2.1), (hf6.2.2.2.2.2.2.2.2.1).trans (hF.2.2.2.2.2.2.2.2.1), (hf6.2.2.2.2.2.2.2.2.2.1).trans (hF.2.2.2.2.2.2.2.2.2.1), (hf6.2.2.2.2.2.2.2.2.2.2.1).trans (hF.2.2.2.2.2.2.2.2.2.2.1), (hf6.2.2.2.2.2.2.2.2.2.2.2.1).trans (hF.2.2.2.2.2.2.2.2.2.2.2.1), (hf6.2.2.2.2.2.2.2.2.2.2.2.2.1).trans (hF.2.2.2.2.2.2.2.2.2.2.2.2.1), (hf6.2.2.2.2.2.2.2.2.2.2.2.2.2.1).trans (hF.2.2.2.2.2.2.2.2.2.2.2.2.2.1), (hf6.2.2.2.2.2.2.2.2.2.2.2.2.2.2.1).trans (hF.2.2.2.2.2.2.2.2.2.2.2.2.2.2.1), (hf6.2.2.2.2.2.2.2.2.2.2.2.2.2.2.2.1).trans (hF.2.2.2.2.2.2.2.2.2.2.2.2.2.2.2.1), (hf6.2.2.2.2.2.2.2.2.2.2.2.2.2.2.2.2.1).trans (hF.2.2.2.2.2.2.2.2.2.2.2.2.2.2.2.2.1), (hf6.2.2.2.2.2.2.2.2.2.2.2.2.2.2.2.2.2.1).trans (hF.2.2.2.2.2.2.2.2.2.2.2.2.2.2.2.2.2.1), (hf6.2.2.2.2.2.2.2.2.2.2.2.2.2.2.2.2.2.2.1).trans (hF.2.2.2.2.2.2.2.2.2.2.2.2.2.2.2.2.2.2.1), (hf6.2.2.2.2.2.2.2.2.2.2.2.2.2.2.2.2.2.2.2.1).trans (hF.2.2.2.2.2.2.2.2.2.2.2.2.2.2.2.2.2.2.2.1), (hf6.2.2.2.2.2.2.2.2.2.2.2.2.2.2.2.2.2.2.2.2.1).trans (hF.2.2.2.2.2.2.2.2.2.2.2.2.2.2.2.2.2.2.2.2.1), (hf6.2.2.2.2.2.2.2.2.2.2.2.2.2.2.2.2.2.2.2.2.2.1).trans (hF.2.2.2.2.2.2.2.2.2.2.2.2.2.2.2.2.2.2.2.2.2.1), (hf6.2.2.2.2.2.2.2.2.2.2.2.2.2.2.2.2.2.2.2.2.2.2.1).trans (hF.2.2.2.2.2.2.2.2.2.2.2.2.2.2.2.2.2.2.2.2.2.2.1), (hf6.2.2.2.2.2.2.2.2.2.2.2.2.2.2.2.2.2.2.2.2.2.2.2.1).trans (hF.2.2.2.2.2.2.2.2.2.2.2.2.2.2.2.2.2.2.2.2.2.2.2.1), (hf6.2.2.2.2.2.2.2.2.2.2.2.2.2.2.2.2.2.2.2.2.2.2.2.2.1).trans (hF.2.2.2.2.2.2.2.2.2.2.2.2.2.2.2.2.2.2.2.2.2.2.2.2.1), (hf6.2.2.2.2.2.2.2.2.2.2.2.2.2.2.2.2.2.2.2.2.2.2.2.2.2.1).trans (hF.2.2.2.2.2.2.2.2.2.2.2.2.2.2.2.2.2.2.2.2.2.2.2.2.2.1), (hf6.2.2.2.2.2.2.2.2.2.2.2.2.2.2.2.2.2.2.2.2.2.2.2.2.2.2.1).trans (hF.2.2.2.2.2.2.2.2.2.2.2.2.2.2.2.2.2.2.2.2.2.2.2.2.2.2.1), (hf6.2.2.2.2.2.2.2.2.2.2.2.2.2.2.2.2.2.2.2.2.2.2.2.2.2.2.2.1).trans (hF.2.2.2.2.2.2.2.2.2.2.2.2.2.2.2.2.2.2.2.2.2.2.2.2.2.2.2.1), (hf6.2.2.2.2.2.2.2.2.2.2.2.2.2.2.2.2.2.2.2.2.2.2.2.2.2.2.2.2.1).trans (hF.2.2.2.2.2.2.2.2.2.2.2.2.2.2.2.2.2.2.2.2.2.2.2.2.2.2.2.2.1), (hf6.2.2.2.2.2.2.2.2.2.2.2.2.2.2.2.2.2.2.2.2.2.2.2.2.2.2.2.2.2.1).trans (hF.2.2.2.2.2.2.2.2.2.2.2.2.2.2.2.2.2.2.2.2.2.2.2.2.2.2.2.2.2.1), (hf6.2.2.2.2.2.2.2.2.2.2.2.2.2.2.2.2.2.2.2.2.2.2.2.2.2.2.2.2.2.2.1).trans (hF.2.2.2.2.2.2.2.2.2.2.2.2.2.2.2.2.2.2.2.2.2.2.2.2.2.2.2.2.2.2.1), (hf6.2.2.2.2.2.2.2.2.2.2.2.2.2.2.2.2.2.2.2.2.2.2.2.2.2.2.2.2.2.2.2.1).trans (hF.2.2.2.2.2.2.2.2.2.2.2.2.2.2.2.2.2.2.2.2.2.2.2.2.2.2.2.2.2.2.2.1), (hf6.2.2.2.2.2.2.2.2.2.2.2.2.2.2.2.2.2.2.2.2.2.2.2.2.2.2.2.2.2.2.2.2.1).trans (hF.2.2.2.2.2.2.2.2.2.2.2.2.2.2.2.2.2.2.2.2.2.2.2.2.2.2.2.2.2.2.2.2.1), (hf6.2.2.2.2.2.2.2.2.2.2.2.2.2.2.2.2.2.2.2.2.2.2.2.2.2.2.2.2.2.2.2.2.2.1).trans (hF.2.2.2.2.2.2.2.2.2.2.2.2.2.2.2.2.2.2.2.2.2.2.2.2.2.2.2.2.2.2.2.2.2.1), (hf6.2.2.2.2.2.2.2.2.2.2.2.2.2.2.2.2.2.2.2.2.2.2.2.2.2.2.2.2.2.2.2.2.2.2.1).trans (hF.2.2.2.2.2.2.2.2.2.2.2.2.2.2.2.2.2.2.2.2.2.2.2.2.2.2.2.2.2.2.2.2.2.2.1), (hf6.2.2.2.2.2.2.2.2.2.2.2.2.2.2.2.2.2.2.2.2.2.2.2.2.2.2.2.2.2.2.2.2.2.2.2.1).trans (hF.2.2.2.2.2.2.2.2.2.2.2.2.2.2.2.2.2.2.2.2.2.2.2.2.2.2.2.2.2.2.2.2.2.2.2.1), (hf6.2.2.2.2.2.2.2.2.2.2.2.2.2.2.2.2.2.2.2.2.2.2.2.2.2.2.2.2.2.2.2.2.2.2.2.2.1).trans (hF.2.2.2.2.2.2.2.2.2.2.2.2.2.2.2.2.2.2.2.2.2.2.2.2.2.2.2.2.2.2.2.2.2.2.2.2.1), (hf6.2.2.2.2.2.2.2.2.2.2.2.2.2.2.2.2.2.2.2.2.2.2.2.2.2.2.2.2.2.2.2.2.2.2.2.2.2.1).trans (hF.2.2.2.2.2.2.2.2.2.2.2.2.2.2.2.2.2.2.2.2.2.2.2.2.2.2.2.2.2.2.2.2.2.2.2.2.2.1), (hf6.2.2.2.2.2.2.2.2.2.2.2.2.2.2.2.2.2.2.2.2.2.2.2.2.2.2.2.2.2.2.2.2.2.2.2.2.2.2.1).trans (hF.2.2.2.2.2.2.2.2.2.2.2.2.2.2.2.2.2.2.2.2.2.2.2.2.2.2.2.2.2.2.2.2.2.2.2.2.2.2.1), (hf6.2.2.2.2.2.2.2.2.2.2.2.2.2.2.2.2.2.2.2.2.2.2.2.2.2.2.2.2.2.2.2.2.2.2.2.2.2.2.2.1).trans (hF.2.2.2.2.2.2.2.2.2.2.2.2.2.2.2.2.2.2.2.2.2.2.2.2.2.2.2.2.2.2.2.2.2.2.2.2.2.2.2.1), (hf6.2.2.2.2.2.2.2.2.2.2.2.2.2.2.2.2.2.2.2.2.2.2.2.2.2.2.2.2.2.2.2.2.2.2.2.2.2.2.2.2.1).trans (hF.2.2.2.2.2.2.2.2.2.2.2.2.2.2.2.2.2.2.2.2.2.2.2.2.2.2.2.2.2.2.2.2.2.2.2.2.2.2.2.2.1), (hf6.2.2.2.2.2.2.2.2.2.2.2.2.2.2.2.2.2.2.2.2.2.2.2.2.2.2.2.2.2.2.2.2.2.2.2.2.2.2.2.2.2.1).trans (hF.2.2.2.2.2.2.2.2.2.2.2.2.2.2.2.2.2.2.2.2.2.2.2.2.2.2.2.2.2.2.2.2.2.2.2.2.2.2.2.2.2.1), (hf6.2.2.2.2.2.2.2.2.2.2.2.2.2.2.2.2.2.2.2.2.2.2.2.2.2.2.2.2.2.2.2.2.2.2.2.2.2.2.2.2.2.2.1).trans (hF.2.2.2.2.2.2.2.2.2.2.2.2.2.2.2.2.2.2.2.2.2.2.2.2.2.2.2.2.2.2.2.2.2.2.2.2.2.2.2.2.2.2.1), (hf6.2.2.2.2.2.2.2.2.2.2.2.2.2.2.2.2.2.2.2.2.2.2.2.2.2.2.2.2.2.2.2.2.2.2.2.2.2.2.2.2.2.2.2).trans (hF.2.2.2.2.2.2.2.2.2.2.2.2.2.2.2.2.2.2.2.2.2.2.2.2.2.2.2.2.2.2.2.2.2.2.2.2.2.2.2.2.2.2.2)⟩, by omega, ?_, rfl⟩
          · omega
          · intro h3
            have := b.2 (by omega)
            rw [e3]
            omega
    have c2t : ((2 : Int32)).toInt = 2 := rfl
    have un11 : (b9g_upperNodes S11).toInt = NB (n9 S) (C9 S) (P9 S) (64 * k) := by rw [e11, e10]; exact t7
    have im11 : (b9g_itemMany S11).toInt = EB (n9 S) (C9 S) (P9 S) 512 - EB (n9 S) (C9 S) (P9 S) (64 * k) := by rw [e11, e10]; exact t8
    refine ⟨fun d => ⟨fun d2 => rest _ (fun ro h1 h2 => ?_), fun d2 => rest _ (fun ro h1 h2 => ?_)⟩, fun d => rest _ (fun ro h1 h2 => ?_)⟩
    · simp only [pn] at d
      rw [eC11] at d d2
      have ne : ¬ ro = 2 := fun z => d2 (Int32.toInt_inj.mp (by omega))
      unfold RL
      rw [if_neg (by omega), if_neg ne]
      exact im11
    · have : (b9g_chosen S).toInt = 2 := by rw [← eC11, d2]; rfl
      unfold RL
      rw [if_neg (by omega), if_pos (by omega)]
      exact un11
    · simp only [pn] at d
      rw [eC11] at d
      unfold RL
      have c256 : ((256 : Int32)).toInt = 256 := rfl
      rw [if_pos (by omega), pt_mul (by rw [c256]; omega) (by rw [c256]; omega), c256, un11]
set_option maxRecDepth 20000 in
set_option maxHeartbeats 8000000 in
theorem sf_X9_onesAhead {S : bT9} (hJ : K9 S) {a1 : Int32} {Q : Int32 → Prop} (hq : ∀ r : Int32, (0 ≤ r.toInt) → Q r) : wp_X9_onesAhead S a1 Q := by
  unfold wp_X9_onesAhead
  have jf1 := K9g_oneMany hJ
  have jf2 : (-4 ≤ ((b9g_now S) 1).toInt ∧ ((b9g_now S) 1).toInt ≤ 4) ∧ (-3 ≤ ((b9g_now S) 4).toInt ∧ ((b9g_now S) 4).toInt ≤ 252) ∧ (0 ≤ ((b9g_now S) 8).toInt ∧ ((b9g_now S) 8).toInt ≤ 64) ∧ (0 ≤ ((b9g_now S) 9).toInt ∧ ((b9g_now S) 9).toInt ≤ 64) ∧ (0 ≤ ((b9g_now S) 10).toInt ∧ ((b9g_now S) 10).toInt ≤ 16) ∧ (0 ≤ ((b9g_now S) 12).toInt ∧ ((b9g_now S) 12).toInt ≤ 8) := K9g_now hJ
  have rga1 := pt_rg a1
  refine ⟨fun n x1q1 x2q1 => (x1q1 = a1) ∧ (0 ≤ (x2q1).toInt) ∧ n = (((b9g_oneMany S)).toInt + 1 - (x2q1).toInt).toNat, ⟨_, rfl, (by (try simp (disch := first | ((try simp (disch := first | ((try simp only [pn]) <;> omega) | fail) only [pn, pq]) <;> omega) | fail) only [pn, pq]) <;> (intros; (try simp (disch := first | ((try simp (disch := first | ((try simp only [pn]) <;> omega) | fail) only [pn, pq]) <;> omega) | fail) only [pn, pq]) <;> omega)), rfl⟩, ?_⟩
  rintro n2 x1q1 x2q1 ⟨hkq1_0, hiq1_0, hn2⟩
  subst hkq1_0
  have rgx1q1 := pt_rg x1q1
  have rgx2q1 := pt_rg x2q1
  unfold wp_X9_onesAhead_2b
  refine ⟨fun c3 => ?_, fun c3 => ?_⟩
  · try simp (disch := first | ((try simp (disch := first | ((try simp only [pn]) <;> omega) | fail) only [pn, pq]) <;> omega) | fail) only [pn, pq] at c3
    exact hq _ (by (try simp (disch := first | ((try simp (disch := first | ((try simp only [pn]) <;> omega) | fail) only [pn, pq]) <;> omega) | fail) only [pn, pq]) <;> (intros; (try simp (disch := first | ((try simp (disch := first | ((try simp only [pn]) <;> omega) | fail) only [pn, pq]) <;> omega) | fail) only [pn, pq]) <;> omega))
  · try simp (disch := first | ((try simp (disch := first | ((try simp only [pn]) <;> omega) | fail) only [pn, pq]) <;> omega) | fail) only [pn, pq] at c3
    refine ⟨pt_in (by (try simp (disch := first | ((try simp (disch := first | ((try simp only [pn]) <;> omega) | fail) only [pn, pq]) <;> omega) | fail) only [pn, pq]) <;> (intros; (try simp (disch := first | ((try simp (disch := first | ((try simp only [pn]) <;> omega) | fail) only [pn, pq]) <;> omega) | fail) only [pn, pq]) <;> omega)) (by (try simp (disch := first | ((try simp (disch := first | ((try simp only [pn]) <;> omega) | fail) only [pn, pq]) <;> omega) | fail) only [pn, pq]) <;> (intros; (try simp (disch := first | ((try simp (disch := first | ((try simp only [pn]) <;> omega) | fail) only [pn, pq]) <;> omega) | fail) only [pn, pq]) <;> omega)), ?_⟩
    refine ⟨fun c4 => ?_, fun c4 => ?_⟩
    · try simp (disch := first | ((try simp (disch := first | ((try simp only [pn]) <;> omega) | fail) only [pn, pq]) <;> omega) | fail) only [pn, pq] at c4
      exact hq _ (by (try simp (disch := first | ((try simp (disch := first | ((try simp only [pn]) <;> omega) | fail) only [pn, pq]) <;> omega) | fail) only [pn, pq]) <;> (intros; (try simp (disch := first | ((try simp (disch := first | ((try simp only [pn]) <;> omega) | fail) only [pn, pq]) <;> omega) | fail) only [pn, pq]) <;> omega))
    · try simp (disch := first | ((try simp (disch := first | ((try simp only [pn]) <;> omega) | fail) only [pn, pq]) <;> omega) | fail) only [pn, pq] at c4
      refine ⟨_, ?_, ?_, ?_, rfl⟩
      · (try simp (disch := first | ((try simp (disch := first | ((try simp only [pn]) <;> omega) | fail) only [pn, pq]) <;> omega) | fail) only [pn, pq]) <;> (intros; (try simp (disch := first | ((try simp (disch := first | ((try simp only [pn]) <;> omega) | fail) only [pn, pq]) <;> omega) | fail) only [pn, pq]) <;> omega)
      · first | rfl | assumption
      · (try simp (disch := first | ((try simp (disch := first | ((try simp only [pn]) <;> omega) | fail) only [pn, pq]) <;> omega) | fail) only [pn, pq]) <;> (intros; (try simp (disch := first | ((try simp (disch := first | ((try simp only [pn]) <;> omega) | fail) only [pn, pq]) <;> omega) | fail) only [pn, pq]) <;> omega)
def F_X9_bit (S u : bT9) : Prop := (b9g_now u) = (b9g_now S) ∧ (b9g_keys u) = (b9g_keys S) ∧ (b9g_lengths u) = (b9g_lengths S) ∧ (b9g_drawn u) = (b9g_drawn S) ∧ (b9g_drawnLength u) = (b9g_drawnLength S) ∧ (b9g_tape u) = (b9g_tape S) ∧ (b9g_taped u) = (b9g_taped S) ∧ (b9g_names u) = (b9g_names S) ∧ (b9g_chosen u) = (b9g_chosen S) ∧ (b9g_lowKey u) = (b9g_lowKey S) ∧ (b9g_highKey u) = (b9g_highKey S) ∧ (b9g_lowLength u) = (b9g_lowLength S) ∧ (b9g_highLength u) = (b9g_highLength S) ∧ (b9g_fromKey u) = (b9g_fromKey S) ∧ (b9g_toKey u) = (b9g_toKey S) ∧ (b9g_fromLength u) = (b9g_fromLength S) ∧ (b9g_toLength u) = (b9g_toLength S) ∧ (b9g_signs u) = (b9g_signs S) ∧ (b9g_signMany u) = (b9g_signMany S) ∧ (b9g_hasImage u) = (b9g_hasImage S) ∧ (b9g_images u) = (b9g_images S) ∧ (b9g_keyImages u) = (b9g_keyImages S) ∧ (b9g_lengthImages u) = (b9g_lengthImages S)
set_option maxRecDepth 20000 in
set_option maxHeartbeats 8000000 in
theorem sj_X9_bit {S : bT9} (hJ : J9 S) {a1 : Int32} {Q : Int32 → (bT9) → Prop} (hq : ∀ (r : Int32) (u : bT9), (J9 u) → F_X9_bit S u → Q r u) : wp_X9_bit S a1 Q := by
  unfold wp_X9_bit
  have hFS : F_X9_bit S S := ⟨rfl, rfl, rfl, rfl, rfl, rfl, rfl, rfl, rfl, rfl, rfl, rfl, rfl, rfl, rfl, rfl, rfl, rfl, rfl, rfl, rfl, rfl, rfl⟩
  have jf1 := J9g_oneMany hJ
  have jf2 : (-4 ≤ ((b9g_now S) 1).toInt ∧ ((b9g_now S) 1).toInt ≤ 4) ∧ (-3 ≤ ((b9g_now S) 4).toInt ∧ ((b9g_now S) 4).toInt ≤ 252) ∧ (0 ≤ ((b9g_now S) 8).toInt ∧ ((b9g_now S) 8).toInt ≤ 64) ∧ (0 ≤ ((b9g_now S) 9).toInt ∧ ((b9g_now S) 9).toInt ≤ 64) ∧ (0 ≤ ((b9g_now S) 10).toInt ∧ ((b9g_now S) 10).toInt ≤ 16) ∧ (0 ≤ ((b9g_now S) 12).toInt ∧ ((b9g_now S) 12).toInt ≤ 8) := J9g_now hJ
  have ju2_S := hJ.2.1
  have rga1 := pt_rg a1
  intro S1 eS1
  have hJS1 : J9 S1 := by rw [eS1]; exact (J9s_told hJ)
  have hFS1 : F_X9_bit S S1 := by rw [eS1]; exact hFS
  have je3 : ((b9g_oneMany S1)).toInt = ((b9g_oneMany S)).toInt := by rw [eS1]
  have jf4 := J9g_oneMany hJS1
  have je5 : ((b9g_rowLong S1)).toInt = ((b9g_rowLong S)).toInt := by rw [eS1]
  have je7 : ((b9g_now S1) 1).toInt = ((b9g_now S) 1).toInt := congrArg (fun z => (z 1).toInt) hFS1.1
  have je9 : ((b9g_now S1) 4).toInt = ((b9g_now S) 4).toInt := congrArg (fun z => (z 4).toInt) hFS1.1
  have je11 : ((b9g_now S1) 7).toInt = ((b9g_now S) 7).toInt := congrArg (fun z => (z 7).toInt) hFS1.1
  have je13 : ((b9g_now S1) 8).toInt = ((b9g_now S) 8).toInt := congrArg (fun z => (z 8).toInt) hFS1.1
  have je15 : ((b9g_now S1) 9).toInt = ((b9g_now S) 9).toInt := congrArg (fun z => (z 9).toInt) hFS1.1
  have je17 : ((b9g_now S1) 10).toInt = ((b9g_now S) 10).toInt := congrArg (fun z => (z 10).toInt) hFS1.1
  have je19 : ((b9g_now S1) 12).toInt = ((b9g_now S) 12).toInt := congrArg (fun z => (z 12).toInt) hFS1.1
  have ju19_S1 := hJS1.2.1
  refine sf_X9_laysOnes hJS1 (fun u3 hJu3 hfu3 hr2_0 hr2_1 => ?_)
  have hFu3 : F_X9_bit S u3 := ⟨(congrArg (fun z => z) hfu3.2.1).trans hFS1.1, (congrArg (fun z => z) hfu3.2.2.1).trans hFS1.2.1, (congrArg (fun z => z) hfu3.2.2.2.1).trans hFS1.2.2.1, (congrArg (fun z => z) hfu3.2.2.2.2.1).trans hFS1.2.2.2.1, (congrArg (fun z => z) hfu3.2.2.2.2.2.1).trans hFS1.2.2.2.2.1, (congrArg (fun z => z) hfu3.2.2.2.2.2.2.1).trans hFS1.2.2.2.2.2.1, (congrArg (fun z => z) hfu3.2.2.2.2.2.2.2.1).trans hFS1.2.2.2.2.2.2.1, (congrArg (fun z => z) hfu3.2.2.2.2.2.2.2.2.1).trans hFS1.2.2.2.2.2.2.2.1, (congrArg (fun z => z) hfu3.2.2.2.2.2.2.2.2.2.1).trans hFS1.2.2.2.2.2.2.2.2.1, (congrArg (fun z => z) hfu3.2.2.2.2.2.2.2.2.2.2.1).trans hFS1.2.2.2.2.2.2.2.2.2.1, (congrArg (fun z => z) hfu3.2.2.2.2.2.2.2.2.2.2.2.1).trans hFS1.2.2.2.2.2.2.2.2.2.2.1, (congrArg (fun z => z) hfu3.2.2.2.2.2.2.2.2.2.2.2.2.1).trans hFS1.2.2.2.2.2.2.2.2.2.2.2.1, (congrArg (fun z => z) hfu3.2.2.2.2.2.2.2.2.2.2.2.2.2.1).trans hFS1.2.2.2.2.2.2.2.2.2.2.2.2.1, (congrArg (fun z => z) hfu3.2.2.2.2.2.2.2.2.2.2.2.2.2.2.1).trans hFS1.2.2.2.2.2.2.2.2.2.2.2.2.2.1, (congrArg (fun z => z) hfu3.2.2.2.2.2.2.2.2.2.2.2.2.2.2.2.1).trans hFS1.2.2.2.2.2.2.2.2.2.2.2.2.2.2.1, (congrArg (fun z => z) hfu3.2.2.2.2.2.2.2.2.2.2.2.2.2.2.2.2.1).trans hFS1.2.2.2.2.2.2.2.2.2.2.2.2.2.2.2.1, (congrArg (fun z => z) hfu3.2.2.2.2.2.2.2.2.2.2.2.2.2.2.2.2.2.1).trans hFS1.2.2.2.2.2.2.2.2.2.2.2.2.2.2.2.2.1, (congrArg (fun z => z) hfu3.2.2.2.2.2.2.2.2.2.2.2.2.2.2.2.2.2.2.1).trans hFS1.2.2.2.2.2.2.2.2.2.2.2.2.2.2.2.2.2.1, (congrArg (fun z => z) hfu3.2.2.2.2.2.2.2.2.2.2.2.2.2.2.2.2.2.2.2.1).trans hFS1.2.2.2.2.2.2.2.2.2.2.2.2.2.2.2.2.2.2.1, (congrArg (fun z => z) hfu3.2.2.2.2.2.2.2.2.2.2.2.2.2.2.2.2.2.2.2.2.1).trans hFS1.2.2.2.2.2.2.2.2.2.2.2.2.2.2.2.2.2.2.2.1, (congrArg (fun z => z) hfu3.2.2.2.2.2.2.2.2.2.2.2.2.2.2.2.2.2.2.2.2.2.1).trans hFS1.2.2.2.2.2.2.2.2.2.2.2.2.2.2.2.2.2.2.2.2.1, (congrArg (fun z => z) hfu3.2.2.2.2.2.2.2.2.2.2.2.2.2.2.2.2.2.2.2.2.2.2.1).trans hFS1.2.2.2.2.2.2.2.2.2.2.2.2.2.2.2.2.2.2.2.2.2.1, (congrArg (fun z => z) hfu3.2.2.2.2.2.2.2.2.2.2.2.2.2.2.2.2.2.2.2.2.2.2.2).trans hFS1.2.2.2.2.2.2.2.2.2.2.2.2.2.2.2.2.2.2.2.2.2.2⟩
  have jf20 := J9g_oneMany hJu3
  have je22 : ((b9g_now u3) 1).toInt = ((b9g_now S) 1).toInt := congrArg (fun z => (z 1).toInt) hFu3.1
  have je24 : ((b9g_now u3) 4).toInt = ((b9g_now S) 4).toInt := congrArg (fun z => (z 4).toInt) hFu3.1
  have je26 : ((b9g_now u3) 7).toInt = ((b9g_now S) 7).toInt := congrArg (fun z => (z 7).toInt) hFu3.1
  have je28 : ((b9g_now u3) 8).toInt = ((b9g_now S) 8).toInt := congrArg (fun z => (z 8).toInt) hFu3.1
  have je30 : ((b9g_now u3) 9).toInt = ((b9g_now S) 9).toInt := congrArg (fun z => (z 9).toInt) hFu3.1
  have je32 : ((b9g_now u3) 10).toInt = ((b9g_now S) 10).toInt := congrArg (fun z => (z 10).toInt) hFu3.1
  have je34 : ((b9g_now u3) 12).toInt = ((b9g_now S) 12).toInt := congrArg (fun z => (z 12).toInt) hFu3.1
  have ju34_u3 := hJu3.2.1
  refine sf_X9_isIn hJu3.1 (fun r4 hzr4 hr4_0 => ?_)
  try simp (disch := first | ((try simp (disch := first | ((try simp only [pn]) <;> omega) | fail) only [pn, pq]) <;> omega) | fail) only [pn, pq] at hr4_0
  refine ⟨fun c6 => ?_, fun c6 => ?_⟩
  · try simp (disch := first | ((try simp (disch := first | ((try simp only [pn]) <;> omega) | fail) only [pn, pq]) <;> omega) | fail) only [pn, pq] at c6
    refine sf_X9_onesAhead hJu3.1 (fun r7 hr7_0 => ?_)
    have rgr7 := pt_rg r7
    try simp (disch := first | ((try simp (disch := first | ((try simp only [pn]) <;> omega) | fail) only [pn, pq]) <;> omega) | fail) only [pn, pq] at hr7_0
    refine ⟨fun c9 => ?_, fun c9 => ?_⟩
    · try simp (disch := first | ((try simp (disch := first | ((try simp only [pn]) <;> omega) | fail) only [pn, pq]) <;> omega) | fail) only [pn, pq] at c9
      exact hq _ _ hJu3 hFu3 
    · try simp (disch := first | ((try simp (disch := first | ((try simp only [pn]) <;> omega) | fail) only [pn, pq]) <;> omega) | fail) only [pn, pq] at c9
      refine ⟨pt_in (by (try simp (disch := first | ((try simp (disch := first | ((try simp only [pn]) <;> omega) | fail) only [pn, pq]) <;> omega) | fail) only [pn, pq]) <;> (intros; (try simp (disch := first | ((try simp (disch := first | ((try simp only [pn]) <;> omega) | fail) only [pn, pq]) <;> omega) | fail) only [pn, pq]) <;> omega)) (by (try simp (disch := first | ((try simp (disch := first | ((try simp only [pn]) <;> omega) | fail) only [pn, pq]) <;> omega) | fail) only [pn, pq]) <;> (intros; (try simp (disch := first | ((try simp (disch := first | ((try simp only [pn]) <;> omega) | fail) only [pn, pq]) <;> omega) | fail) only [pn, pq]) <;> omega)), ?_⟩
      refine ⟨fun c10 => ?_, fun c10 => ?_⟩
      · try simp (disch := first | ((try simp (disch := first | ((try simp only [pn]) <;> omega) | fail) only [pn, pq]) <;> omega) | fail) only [pn, pq] at c10
        exact hq _ _ hJu3 hFu3 
      · try simp (disch := first | ((try simp (disch := first | ((try simp only [pn]) <;> omega) | fail) only [pn, pq]) <;> omega) | fail) only [pn, pq] at c10
        exact hq _ _ hJu3 hFu3 
  · try simp (disch := first | ((try simp (disch := first | ((try simp only [pn]) <;> omega) | fail) only [pn, pq]) <;> omega) | fail) only [pn, pq] at c6
    exact hq _ _ hJu3 hFu3 
theorem sf_X9_bit {S : bT9} (hJ : J9 S) {a1 : Int32} {Q : Int32 → (bT9) → Prop} (hq : ∀ (r : Int32) (u : bT9), (J9 u) → F_X9_bit S u → (TWW S u) → (T9P S → TDW S → ∀ ro : Nat, (b9g_chosen S).toInt = (ro : Int) → ro ≤ 5 → ∃ k lv : Nat, UPD S k lv ∧ BTV ro (n9 S) (C9 S) (L9 S) (P9 S) (fun j => b9g_keys S (64 + j)) k a1.toInt r.toInt) → Q r u) : wp_X9_bit S a1 Q := by
  by_cases hyp : T9P S ∧ TDW S
  case neg => exact sj_X9_bit hJ (fun r u h1 h2 => hq r u h1 h2 (fun a b => absurd ⟨a, b⟩ hyp) (fun a b => absurd ⟨a, b⟩ hyp))
  case pos =>
    obtain ⟨hP, hW⟩ := hyp
    unfold wp_X9_bit
    intro S1 e1
    have hJ1 : J9 S1 := by rw [e1]; exact J9s_told hJ
    have hF1 : F_X9_bit S S1 := by rw [e1]; exact ⟨rfl, rfl, rfl, rfl, rfl, rfl, rfl, rfl, rfl, rfl, rfl, rfl, rfl, rfl, rfl, rfl, rfl, rfl, rfl, rfl, rfl, rfl, rfl⟩
    refine sf_X9_laysOnes hJ1 (fun u3 hJ3 hf3 tw1 w3 => ?_)
    have hF3 : F_X9_bit S u3 := ⟨(hf3.2.1).trans (hF1.1), (hf3.2.2.1).trans (hF1.2.1), (hf3.2.2.2.1).trans (hF1.2.2.1), (hf3.2.2.2.2.1).trans (hF1.2.2.2.1), (hf3.2.2.2.2.2.1).trans (hF1.2.2.2.2.1), (hf3.2.2.2.2.2.2.1).trans (hF1.2.2.2.2.2.1), (hf3.2.2.2.2.2.2.2.1).trans (hF1.2.2.2.2.2.2.1), (hf3.2.2.2.2.2.2.2.2.1).trans (hF1.2.2.2.2.2.2.2.1), (hf3.2.2.2.2.2.2.2.2.2.1).trans (hF1.2.2.2.2.2.2.2.2.1), (hf3.2.2.2.2.2.2.2.2.2.2.1).trans (hF1.2.2.2.2.2.2.2.2.2.1), (hf3.2.2.2.2.2.2.2.2.2.2.2.1).trans (hF1.2.2.2.2.2.2.2.2.2.2.1), (hf3.2.2.2.2.2.2.2.2.2.2.2.2.1).trans (hF1.2.2.2.2.2.2.2.2.2.2.2.1), (hf3.2.2.2.2.2.2.2.2.2.2.2.2.2.1).trans (hF1.2.2.2.2.2.2.2.2.2.2.2.2.1), (hf3.2.2.2.2.2.2.2.2.2.2.2.2.2.2.1).trans (hF1.2.2.2.2.2.2.2.2.2.2.2.2.2.1), (hf3.2.2.2.2.2.2.2.2.2.2.2.2.2.2.2.1).trans (hF1.2.2.2.2.2.2.2.2.2.2.2.2.2.2.1), (hf3.2.2.2.2.2.2.2.2.2.2.2.2.2.2.2.2.1).trans (hF1.2.2.2.2.2.2.2.2.2.2.2.2.2.2.2.1), (hf3.2.2.2.2.2.2.2.2.2.2.2.2.2.2.2.2.2.1).trans (hF1.2.2.2.2.2.2.2.2.2.2.2.2.2.2.2.2.1), (hf3.2.2.2.2.2.2.2.2.2.2.2.2.2.2.2.2.2.2.1).trans (hF1.2.2.2.2.2.2.2.2.2.2.2.2.2.2.2.2.2.1), (hf3.2.2.2.2.2.2.2.2.2.2.2.2.2.2.2.2.2.2.2.1).trans (hF1.2.2.2.2.2.2.2.2.2.2.2.2.2.2.2.2.2.2.1), (hf3.2.2.2.2.2.2.2.2.2.2.2.2.2.2.2.2.2.2.2.2.1).trans (hF1.2.2.2.2.2.2.2.2.2.2.2.2.2.2.2.2.2.2.2.1), (hf3.2.2.2.2.2.2.2.2.2.2.2.2.2.2.2.2.2.2.2.2.2.1).trans (hF1.2.2.2.2.2.2.2.2.2.2.2.2.2.2.2.2.2.2.2.2.1), (hf3.2.2.2.2.2.2.2.2.2.2.2.2.2.2.2.2.2.2.2.2.2.2.1).trans (hF1.2.2.2.2.2.2.2.2.2.2.2.2.2.2.2.2.2.2.2.2.2.1), (hf3.2.2.2.2.2.2.2.2.2.2.2.2.2.2.2.2.2.2.2.2.2.2.2).trans (hF1.2.2.2.2.2.2.2.2.2.2.2.2.2.2.2.2.2.2.2.2.2.2)⟩
    have tw : TWW S u3 := TWW_told e1 tw1
    have w3' := w3 (by rw [e1]; exact hP) (by rw [e1]; exact hW)
    have jo := J9g_oneMany hJ3
    by_cases hro : ∃ ro : Nat, (b9g_chosen S).toInt = (ro : Int) ∧ ro ≤ 5
    case neg =>
      have fin : ∀ r : Int32, Q r u3 := fun r => hq r u3 hJ3 hF3 tw (fun _ _ ro a b => absurd ⟨ro, a, b⟩ hro)
      exact sf_X9_isIn hJ3.1 (fun r4 _ _ => ⟨fun _ => sf_X9_onesAhead hJ3.1 (fun r6 h6 => ⟨fun _ => fin _, fun c => ⟨pt_in h6 (by simp only [pn] at c; omega), fun _ => fin _, fun _ => fin _⟩⟩), fun _ => fin _⟩)
    case pos =>
      obtain ⟨ro, hr, hr5⟩ := hro
      obtain ⟨k, lv, up1, A1, _, _⟩ := w3' ro (by rw [e1]; exact hr) hr5
      have up : UPD S k lv := by
        rw [e1] at up1
        exact up1
      have A : OAR ro (n9 S) (C9 S) (L9 S) (P9 S) (fun j => b9g_keys S (64 + j)) k (b9g_oneMany u3) (b9g_rowLong u3) (b9g_ones u3) := by
        rw [e1] at A1
        exact A1
      have G : GRD (n9 S) (C9 S) (L9 S) (P9 S) := GRD_of hP.1 hP.2.1 (J9g_now hJ).2.2.2.1.2
      have k8 : k ≤ 8 := Nat.le_trans up.2.2.1 up.2.1
      have fin : ∀ r : Int32, BTV ro (n9 S) (C9 S) (L9 S) (P9 S) (fun j => b9g_keys S (64 + j)) k a1.toInt (r).toInt → Q r u3 := fun r b => hq r u3 hJ3 hF3 tw (fun _ _ ro2 c d => by rw [show ro2 = ro by omega]; exact ⟨k, lv, up, b⟩)
      have rn := RL_nn (ro := ro) (n := (n9 S)) (C := (C9 S)) (P := (P9 S)) k8
      have ar := A.2.1
      have ao := A.1
      have m1 : (b9g_rowLong u3 - 1).toInt = (b9g_rowLong u3).toInt - 1 := by
        have := pt_rg (b9g_rowLong u3)
        rw [pt_sub (by rw [pl_1]; omega) (by rw [pl_1]; omega), pl_1]
      have m2 : (b9g_oneMany u3 - 1).toInt = (b9g_oneMany u3).toInt - 1 := by rw [pt_sub (by rw [pl_1]; omega) (by rw [pl_1]; omega), pl_1]
      refine sf_X9_isIn hJ3.1 (fun r4 _ h4 => ⟨fun c => ?_, fun c => fin _ ⟨fun z => ?_, fun _ => rfl⟩⟩)
      · have c0 : ¬ r4.toInt = 0 := fun z => c (Int32.toInt_inj.mp z)
        rw [pl_0, m1] at h4
        refine fx9_onesAhead G (fun _ _ => rfl) A (fun r6 m hm hrk h5 hA hB => ⟨fun d => fin _ ⟨fun z => ?_, fun z => absurd ⟨by omega, by omega⟩ z⟩, fun d => ?_⟩)
        · simp only [pn] at d
          have := hA (by omega)
          rw [pl_0]
          omega
        · simp only [pn] at d
          have em : r6.toNatClampNeg = m := by
            show r6.toInt.toNat = m
            omega
          have hB' := hB (by omega)
          rw [em]
          refine ⟨pt_in (by omega) (by omega), fun y => fin _ ⟨fun z => ?_, fun z => absurd ⟨by omega, by omega⟩ z⟩, fun y => fin _ ⟨fun z => ?_, fun z => absurd ⟨by omega, by omega⟩ z⟩⟩
          · have := hB'.2 y
            rw [pl_0]
            omega
          · have := hB'.1 y
            rw [pl_1]
            omega
      · have c0 : r4.toInt = 0 := by rw [c]; rfl
        rw [pl_0, m1] at h4
        omega
def F_X9_rank (S u : bT9) : Prop := (b9g_now u) = (b9g_now S) ∧ (b9g_keys u) = (b9g_keys S) ∧ (b9g_lengths u) = (b9g_lengths S) ∧ (b9g_drawn u) = (b9g_drawn S) ∧ (b9g_drawnLength u) = (b9g_drawnLength S) ∧ (b9g_tape u) = (b9g_tape S) ∧ (b9g_taped u) = (b9g_taped S) ∧ (b9g_names u) = (b9g_names S) ∧ (b9g_chosen u) = (b9g_chosen S) ∧ (b9g_lowKey u) = (b9g_lowKey S) ∧ (b9g_highKey u) = (b9g_highKey S) ∧ (b9g_lowLength u) = (b9g_lowLength S) ∧ (b9g_highLength u) = (b9g_highLength S) ∧ (b9g_fromKey u) = (b9g_fromKey S) ∧ (b9g_toKey u) = (b9g_toKey S) ∧ (b9g_fromLength u) = (b9g_fromLength S) ∧ (b9g_toLength u) = (b9g_toLength S) ∧ (b9g_signs u) = (b9g_signs S) ∧ (b9g_signMany u) = (b9g_signMany S) ∧ (b9g_hasImage u) = (b9g_hasImage S) ∧ (b9g_images u) = (b9g_images S) ∧ (b9g_keyImages u) = (b9g_keyImages S) ∧ (b9g_lengthImages u) = (b9g_lengthImages S)
set_option maxRecDepth 20000 in
set_option maxHeartbeats 8000000 in
theorem sj_X9_rank {S : bT9} (hJ : J9 S) {a1 : Int32} {Q : Int32 → (bT9) → Prop} (hq : ∀ (r : Int32) (u : bT9), (J9 u) → F_X9_rank S u → Q r u) : wp_X9_rank S a1 Q := by
  unfold wp_X9_rank
  have hFS : F_X9_rank S S := ⟨rfl, rfl, rfl, rfl, rfl, rfl, rfl, rfl, rfl, rfl, rfl, rfl, rfl, rfl, rfl, rfl, rfl, rfl, rfl, rfl, rfl, rfl, rfl⟩
  have jf1 : (-4 ≤ ((b9g_now S) 1).toInt ∧ ((b9g_now S) 1).toInt ≤ 4) ∧ (-3 ≤ ((b9g_now S) 4).toInt ∧ ((b9g_now S) 4).toInt ≤ 252) ∧ (0 ≤ ((b9g_now S) 8).toInt ∧ ((b9g_now S) 8).toInt ≤ 64) ∧ (0 ≤ ((b9g_now S) 9).toInt ∧ ((b9g_now S) 9).toInt ≤ 64) ∧ (0 ≤ ((b9g_now S) 10).toInt ∧ ((b9g_now S) 10).toInt ≤ 16) ∧ (0 ≤ ((b9g_now S) 12).toInt ∧ ((b9g_now S) 12).toInt ≤ 8) := J9g_now hJ
  have ju1_S := hJ.2.1
  have rga1 := pt_rg a1
  intro S1 eS1
  have hJS1 : J9 S1 := by rw [eS1]; exact (J9s_told hJ)
  have hFS1 : F_X9_rank S S1 := by rw [eS1]; exact hFS
  have je2 : ((b9g_rowLong S1)).toInt = ((b9g_rowLong S)).toInt := by rw [eS1]
  have je4 : ((b9g_now S1) 1).toInt = ((b9g_now S) 1).toInt := congrArg (fun z => (z 1).toInt) hFS1.1
  have je6 : ((b9g_now S1) 4).toInt = ((b9g_now S) 4).toInt := congrArg (fun z => (z 4).toInt) hFS1.1
  have je8 : ((b9g_now S1) 7).toInt = ((b9g_now S) 7).toInt := congrArg (fun z => (z 7).toInt) hFS1.1
  have je10 : ((b9g_now S1) 8).toInt = ((b9g_now S) 8).toInt := congrArg (fun z => (z 8).toInt) hFS1.1
  have je12 : ((b9g_now S1) 9).toInt = ((b9g_now S) 9).toInt := congrArg (fun z => (z 9).toInt) hFS1.1
  have je14 : ((b9g_now S1) 10).toInt = ((b9g_now S) 10).toInt := congrArg (fun z => (z 10).toInt) hFS1.1
  have je16 : ((b9g_now S1) 12).toInt = ((b9g_now S) 12).toInt := congrArg (fun z => (z 12).toInt) hFS1.1
  have ju16_S1 := hJS1.2.1
  refine sf_X9_laysOnes hJS1 (fun u3 hJu3 hfu3 hr2_0 hr2_1 => ?_)
  have hFu3 : F_X9_rank S u3 := ⟨(congrArg (fun z => z) hfu3.2.1).trans hFS1.1, (congrArg (fun z => z) hfu3.2.2.1).trans hFS1.2.1, (congrArg (fun z => z) hfu3.2.2.2.1).trans hFS1.2.2.1, (congrArg (fun z => z) hfu3.2.2.2.2.1).trans hFS1.2.2.2.1, (congrArg (fun z => z) hfu3.2.2.2.2.2.1).trans hFS1.2.2.2.2.1, (congrArg (fun z => z) hfu3.2.2.2.2.2.2.1).trans hFS1.2.2.2.2.2.1, (congrArg (fun z => z) hfu3.2.2.2.2.2.2.2.1).trans hFS1.2.2.2.2.2.2.1, (congrArg (fun z => z) hfu3.2.2.2.2.2.2.2.2.1).trans hFS1.2.2.2.2.2.2.2.1, (congrArg (fun z => z) hfu3.2.2.2.2.2.2.2.2.2.1).trans hFS1.2.2.2.2.2.2.2.2.1, (congrArg (fun z => z) hfu3.2.2.2.2.2.2.2.2.2.2.1).trans hFS1.2.2.2.2.2.2.2.2.2.1, (congrArg (fun z => z) hfu3.2.2.2.2.2.2.2.2.2.2.2.1).trans hFS1.2.2.2.2.2.2.2.2.2.2.1, (congrArg (fun z => z) hfu3.2.2.2.2.2.2.2.2.2.2.2.2.1).trans hFS1.2.2.2.2.2.2.2.2.2.2.2.1, (congrArg (fun z => z) hfu3.2.2.2.2.2.2.2.2.2.2.2.2.2.1).trans hFS1.2.2.2.2.2.2.2.2.2.2.2.2.1, (congrArg (fun z => z) hfu3.2.2.2.2.2.2.2.2.2.2.2.2.2.2.1).trans hFS1.2.2.2.2.2.2.2.2.2.2.2.2.2.1, (congrArg (fun z => z) hfu3.2.2.2.2.2.2.2.2.2.2.2.2.2.2.2.1).trans hFS1.2.2.2.2.2.2.2.2.2.2.2.2.2.2.1, (congrArg (fun z => z) hfu3.2.2.2.2.2.2.2.2.2.2.2.2.2.2.2.2.1).trans hFS1.2.2.2.2.2.2.2.2.2.2.2.2.2.2.2.1, (congrArg (fun z => z) hfu3.2.2.2.2.2.2.2.2.2.2.2.2.2.2.2.2.2.1).trans hFS1.2.2.2.2.2.2.2.2.2.2.2.2.2.2.2.2.1, (congrArg (fun z => z) hfu3.2.2.2.2.2.2.2.2.2.2.2.2.2.2.2.2.2.2.1).trans hFS1.2.2.2.2.2.2.2.2.2.2.2.2.2.2.2.2.2.1, (congrArg (fun z => z) hfu3.2.2.2.2.2.2.2.2.2.2.2.2.2.2.2.2.2.2.2.1).trans hFS1.2.2.2.2.2.2.2.2.2.2.2.2.2.2.2.2.2.2.1, (congrArg (fun z => z) hfu3.2.2.2.2.2.2.2.2.2.2.2.2.2.2.2.2.2.2.2.2.1).trans hFS1.2.2.2.2.2.2.2.2.2.2.2.2.2.2.2.2.2.2.2.1, (congrArg (fun z => z) hfu3.2.2.2.2.2.2.2.2.2.2.2.2.2.2.2.2.2.2.2.2.2.1).trans hFS1.2.2.2.2.2.2.2.2.2.2.2.2.2.2.2.2.2.2.2.2.1, (congrArg (fun z => z) hfu3.2.2.2.2.2.2.2.2.2.2.2.2.2.2.2.2.2.2.2.2.2.2.1).trans hFS1.2.2.2.2.2.2.2.2.2.2.2.2.2.2.2.2.2.2.2.2.2.1, (congrArg (fun z => z) hfu3.2.2.2.2.2.2.2.2.2.2.2.2.2.2.2.2.2.2.2.2.2.2.2).trans hFS1.2.2.2.2.2.2.2.2.2.2.2.2.2.2.2.2.2.2.2.2.2.2⟩
  have je18 : ((b9g_now u3) 1).toInt = ((b9g_now S) 1).toInt := congrArg (fun z => (z 1).toInt) hFu3.1
  have je20 : ((b9g_now u3) 4).toInt = ((b9g_now S) 4).toInt := congrArg (fun z => (z 4).toInt) hFu3.1
  have je22 : ((b9g_now u3) 7).toInt = ((b9g_now S) 7).toInt := congrArg (fun z => (z 7).toInt) hFu3.1
  have je24 : ((b9g_now u3) 8).toInt = ((b9g_now S) 8).toInt := congrArg (fun z => (z 8).toInt) hFu3.1
  have je26 : ((b9g_now u3) 9).toInt = ((b9g_now S) 9).toInt := congrArg (fun z => (z 9).toInt) hFu3.1
  have je28 : ((b9g_now u3) 10).toInt = ((b9g_now S) 10).toInt := congrArg (fun z => (z 10).toInt) hFu3.1
  have je30 : ((b9g_now u3) 12).toInt = ((b9g_now S) 12).toInt := congrArg (fun z => (z 12).toInt) hFu3.1
  have ju30_u3 := hJu3.2.1
  refine sf_X9_isIn hJu3.1 (fun r4 hzr4 hr4_0 => ?_)
  try simp (disch := first | ((try simp (disch := first | ((try simp only [pn]) <;> omega) | fail) only [pn, pq]) <;> omega) | fail) only [pn, pq] at hr4_0
  refine ⟨fun c6 => ?_, fun c6 => ?_⟩
  · try simp (disch := first | ((try simp (disch := first | ((try simp only [pn]) <;> omega) | fail) only [pn, pq]) <;> omega) | fail) only [pn, pq] at c6
    exact hq _ _ hJu3 hFu3 
  · try simp (disch := first | ((try simp (disch := first | ((try simp only [pn]) <;> omega) | fail) only [pn, pq]) <;> omega) | fail) only [pn, pq] at c6
    refine sf_X9_onesAhead hJu3.1 (fun r7 hr7_0 => ?_)
    have rgr7 := pt_rg r7
    try simp (disch := first | ((try simp (disch := first | ((try simp only [pn]) <;> omega) | fail) only [pn, pq]) <;> omega) | fail) only [pn, pq] at hr7_0
    exact hq _ _ hJu3 hFu3 
theorem sf_X9_rank {S : bT9} (hJ : J9 S) {a1 : Int32} {Q : Int32 → (bT9) → Prop} (hq : ∀ (r : Int32) (u : bT9), (J9 u) → F_X9_rank S u → (TWW S u) → (T9P S → TDW S → ∀ ro : Nat, (b9g_chosen S).toInt = (ro : Int) → ro ≤ 5 → ∃ k lv : Nat, UPD S k lv ∧ RKV ro (n9 S) (C9 S) (L9 S) (P9 S) (fun j => b9g_keys S (64 + j)) k a1.toInt r.toInt) → Q r u) : wp_X9_rank S a1 Q := by
  by_cases hyp : T9P S ∧ TDW S
  case neg => exact sj_X9_rank hJ (fun r u h1 h2 => hq r u h1 h2 (fun a b => absurd ⟨a, b⟩ hyp) (fun a b => absurd ⟨a, b⟩ hyp))
  case pos =>
    obtain ⟨hP, hW⟩ := hyp
    unfold wp_X9_rank
    intro S1 e1
    have hJ1 : J9 S1 := by rw [e1]; exact J9s_told hJ
    have hF1 : F_X9_rank S S1 := by rw [e1]; exact ⟨rfl, rfl, rfl, rfl, rfl, rfl, rfl, rfl, rfl, rfl, rfl, rfl, rfl, rfl, rfl, rfl, rfl, rfl, rfl, rfl, rfl, rfl, rfl⟩
    refine sf_X9_laysOnes hJ1 (fun u3 hJ3 hf3 tw1 w3 => ?_)
    have hF3 : F_X9_rank S u3 := ⟨(hf3.2.1).trans (hF1.1), (hf3.2.2.1).trans (hF1.2.1), (hf3.2.2.2.1).trans (hF1.2.2.1), (hf3.2.2.2.2.1).trans (hF1.2.2.2.1), (hf3.2.2.2.2.2.1).trans (hF1.2.2.2.2.1), (hf3.2.2.2.2.2.2.1).trans (hF1.2.2.2.2.2.1), (hf3.2.2.2.2.2.2.2.1).trans (hF1.2.2.2.2.2.2.1), (hf3.2.2.2.2.2.2.2.2.1).trans (hF1.2.2.2.2.2.2.2.1), (hf3.2.2.2.2.2.2.2.2.2.1).trans (hF1.2.2.2.2.2.2.2.2.1), (hf3.2.2.2.2.2.2.2.2.2.2.1).trans (hF1.2.2.2.2.2.2.2.2.2.1), (hf3.2.2.2.2.2.2.2.2.2.2.2.1).trans (hF1.2.2.2.2.2.2.2.2.2.2.1), (hf3.2.2.2.2.2.2.2.2.2.2.2.2.1).trans (hF1.2.2.2.2.2.2.2.2.2.2.2.1), (hf3.2.2.2.2.2.2.2.2.2.2.2.2.2.1).trans (hF1.2.2.2.2.2.2.2.2.2.2.2.2.1), (hf3.2.2.2.2.2.2.2.2.2.2.2.2.2.2.1).trans (hF1.2.2.2.2.2.2.2.2.2.2.2.2.2.1), (hf3.2.2.2.2.2.2.2.2.2.2.2.2.2.2.2.1).trans (hF1.2.2.2.2.2.2.2.2.2.2.2.2.2.2.1), (hf3.2.2.2.2.2.2.2.2.2.2.2.2.2.2.2.2.1).trans (hF1.2.2.2.2.2.2.2.2.2.2.2.2.2.2.2.1), (hf3.2.2.2.2.2.2.2.2.2.2.2.2.2.2.2.2.2.1).trans (hF1.2.2.2.2.2.2.2.2.2.2.2.2.2.2.2.2.1), (hf3.2.2.2.2.2.2.2.2.2.2.2.2.2.2.2.2.2.2.1).trans (hF1.2.2.2.2.2.2.2.2.2.2.2.2.2.2.2.2.2.1), (hf3.2.2.2.2.2.2.2.2.2.2.2.2.2.2.2.2.2.2.2.1).trans (hF1.2.2.2.2.2.2.2.2.2.2.2.2.2.2.2.2.2.2.1), (hf3.2.2.2.2.2.2.2.2.2.2.2.2.2.2.2.2.2.2.2.2.1).trans (hF1.2.2.2.2.2.2.2.2.2.2.2.2.2.2.2.2.2.2.2.1), (hf3.2.2.2.2.2.2.2.2.2.2.2.2.2.2.2.2.2.2.2.2.2.1).trans (hF1.2.2.2.2.2.2.2.2.2.2.2.2.2.2.2.2.2.2.2.2.1), (hf3.2.2.2.2.2.2.2.2.2.2.2.2.2.2.2.2.2.2.2.2.2.2.1).trans (hF1.2.2.2.2.2.2.2.2.2.2.2.2.2.2.2.2.2.2.2.2.2.1), (hf3.2.2.2.2.2.2.2.2.2.2.2.2.2.2.2.2.2.2.2.2.2.2.2).trans (hF1.2.2.2.2.2.2.2.2.2.2.2.2.2.2.2.2.2.2.2.2.2.2)⟩
    have tw : TWW S u3 := TWW_told e1 tw1
    have w3' := w3 (by rw [e1]; exact hP) (by rw [e1]; exact hW)
    have jo := J9g_oneMany hJ3
    by_cases hro : ∃ ro : Nat, (b9g_chosen S).toInt = (ro : Int) ∧ ro ≤ 5
    case neg =>
      have fin : ∀ r : Int32, Q r u3 := fun r => hq r u3 hJ3 hF3 tw (fun _ _ ro a b => absurd ⟨ro, a, b⟩ hro)
      exact sf_X9_isIn hJ3.1 (fun r4 _ _ => ⟨fun _ => fin _, fun _ => sf_X9_onesAhead hJ3.1 (fun r6 h6 => fin _)⟩)
    case pos =>
      obtain ⟨ro, hr, hr5⟩ := hro
      obtain ⟨k, lv, up1, A1, _, _⟩ := w3' ro (by rw [e1]; exact hr) hr5
      have up : UPD S k lv := by
        rw [e1] at up1
        exact up1
      have A : OAR ro (n9 S) (C9 S) (L9 S) (P9 S) (fun j => b9g_keys S (64 + j)) k (b9g_oneMany u3) (b9g_rowLong u3) (b9g_ones u3) := by
        rw [e1] at A1
        exact A1
      have G : GRD (n9 S) (C9 S) (L9 S) (P9 S) := GRD_of hP.1 hP.2.1 (J9g_now hJ).2.2.2.1.2
      have k8 : k ≤ 8 := Nat.le_trans up.2.2.1 up.2.1
      have fin : ∀ r : Int32, RKV ro (n9 S) (C9 S) (L9 S) (P9 S) (fun j => b9g_keys S (64 + j)) k a1.toInt (r).toInt → Q r u3 := fun r b => hq r u3 hJ3 hF3 tw (fun _ _ ro2 c d => by rw [show ro2 = ro by omega]; exact ⟨k, lv, up, b⟩)
      have rn := RL_nn (ro := ro) (n := (n9 S)) (C := (C9 S)) (P := (P9 S)) k8
      have ar := A.2.1
      have ao := A.1
      have m1 : (b9g_rowLong u3 - 1).toInt = (b9g_rowLong u3).toInt - 1 := by
        have := pt_rg (b9g_rowLong u3)
        rw [pt_sub (by rw [pl_1]; omega) (by rw [pl_1]; omega), pl_1]
      have m2 : (b9g_oneMany u3 - 1).toInt = (b9g_oneMany u3).toInt - 1 := by rw [pt_sub (by rw [pl_1]; omega) (by rw [pl_1]; omega), pl_1]
      refine sf_X9_isIn hJ3.1 (fun r4 _ h4 => ⟨fun c => fin _ ⟨fun z => ?_, fun _ => rfl⟩, fun c => ?_⟩)
      · have c0 : r4.toInt = 0 := by rw [c]; rfl
        rw [pl_0] at h4
        omega
      · have c0 : ¬ r4.toInt = 0 := fun z => c (Int32.toInt_inj.mp z)
        rw [pl_0] at h4
        exact fx9_onesAhead G (fun _ _ => rfl) A (fun r6 m hm hrk _ _ _ => fin _ ⟨fun _ => hrk, fun z => absurd ⟨by omega, by omega⟩ z⟩)
def F_X9_select (S u : bT9) : Prop := (b9g_now u) = (b9g_now S) ∧ (b9g_keys u) = (b9g_keys S) ∧ (b9g_lengths u) = (b9g_lengths S) ∧ (b9g_drawn u) = (b9g_drawn S) ∧ (b9g_drawnLength u) = (b9g_drawnLength S) ∧ (b9g_tape u) = (b9g_tape S) ∧ (b9g_taped u) = (b9g_taped S) ∧ (b9g_names u) = (b9g_names S) ∧ (b9g_chosen u) = (b9g_chosen S) ∧ (b9g_lowKey u) = (b9g_lowKey S) ∧ (b9g_highKey u) = (b9g_highKey S) ∧ (b9g_lowLength u) = (b9g_lowLength S) ∧ (b9g_highLength u) = (b9g_highLength S) ∧ (b9g_fromKey u) = (b9g_fromKey S) ∧ (b9g_toKey u) = (b9g_toKey S) ∧ (b9g_fromLength u) = (b9g_fromLength S) ∧ (b9g_toLength u) = (b9g_toLength S) ∧ (b9g_signs u) = (b9g_signs S) ∧ (b9g_signMany u) = (b9g_signMany S) ∧ (b9g_hasImage u) = (b9g_hasImage S) ∧ (b9g_images u) = (b9g_images S) ∧ (b9g_keyImages u) = (b9g_keyImages S) ∧ (b9g_lengthImages u) = (b9g_lengthImages S)
set_option maxRecDepth 20000 in
set_option maxHeartbeats 8000000 in
theorem sj_X9_select {S : bT9} (hJ : J9 S) {a1 : Int32} {Q : Int32 → (bT9) → Prop} (hq : ∀ (r : Int32) (u : bT9), (J9 u) → F_X9_select S u → Q r u) : wp_X9_select S a1 Q := by
  unfold wp_X9_select
  have hFS : F_X9_select S S := ⟨rfl, rfl, rfl, rfl, rfl, rfl, rfl, rfl, rfl, rfl, rfl, rfl, rfl, rfl, rfl, rfl, rfl, rfl, rfl, rfl, rfl, rfl, rfl⟩
  have jf1 := J9g_oneMany hJ
  have jf2 : (-4 ≤ ((b9g_now S) 1).toInt ∧ ((b9g_now S) 1).toInt ≤ 4) ∧ (-3 ≤ ((b9g_now S) 4).toInt ∧ ((b9g_now S) 4).toInt ≤ 252) ∧ (0 ≤ ((b9g_now S) 8).toInt ∧ ((b9g_now S) 8).toInt ≤ 64) ∧ (0 ≤ ((b9g_now S) 9).toInt ∧ ((b9g_now S) 9).toInt ≤ 64) ∧ (0 ≤ ((b9g_now S) 10).toInt ∧ ((b9g_now S) 10).toInt ≤ 16) ∧ (0 ≤ ((b9g_now S) 12).toInt ∧ ((b9g_now S) 12).toInt ≤ 8) := J9g_now hJ
  have ju2_S := hJ.2.1
  have rga1 := pt_rg a1
  intro S1 eS1
  have hJS1 : J9 S1 := by rw [eS1]; exact (J9s_told hJ)
  have hFS1 : F_X9_select S S1 := by rw [eS1]; exact hFS
  have je3 : ((b9g_oneMany S1)).toInt = ((b9g_oneMany S)).toInt := by rw [eS1]
  have jf4 := J9g_oneMany hJS1
  have je6 : ((b9g_now S1) 1).toInt = ((b9g_now S) 1).toInt := congrArg (fun z => (z 1).toInt) hFS1.1
  have je8 : ((b9g_now S1) 4).toInt = ((b9g_now S) 4).toInt := congrArg (fun z => (z 4).toInt) hFS1.1
  have je10 : ((b9g_now S1) 7).toInt = ((b9g_now S) 7).toInt := congrArg (fun z => (z 7).toInt) hFS1.1
  have je12 : ((b9g_now S1) 8).toInt = ((b9g_now S) 8).toInt := congrArg (fun z => (z 8).toInt) hFS1.1
  have je14 : ((b9g_now S1) 9).toInt = ((b9g_now S) 9).toInt := congrArg (fun z => (z 9).toInt) hFS1.1
  have je16 : ((b9g_now S1) 10).toInt = ((b9g_now S) 10).toInt := congrArg (fun z => (z 10).toInt) hFS1.1
  have je18 : ((b9g_now S1) 12).toInt = ((b9g_now S) 12).toInt := congrArg (fun z => (z 12).toInt) hFS1.1
  have ju18_S1 := hJS1.2.1
  refine sf_X9_laysOnes hJS1 (fun u3 hJu3 hfu3 hr2_0 hr2_1 => ?_)
  have hFu3 : F_X9_select S u3 := ⟨(congrArg (fun z => z) hfu3.2.1).trans hFS1.1, (congrArg (fun z => z) hfu3.2.2.1).trans hFS1.2.1, (congrArg (fun z => z) hfu3.2.2.2.1).trans hFS1.2.2.1, (congrArg (fun z => z) hfu3.2.2.2.2.1).trans hFS1.2.2.2.1, (congrArg (fun z => z) hfu3.2.2.2.2.2.1).trans hFS1.2.2.2.2.1, (congrArg (fun z => z) hfu3.2.2.2.2.2.2.1).trans hFS1.2.2.2.2.2.1, (congrArg (fun z => z) hfu3.2.2.2.2.2.2.2.1).trans hFS1.2.2.2.2.2.2.1, (congrArg (fun z => z) hfu3.2.2.2.2.2.2.2.2.1).trans hFS1.2.2.2.2.2.2.2.1, (congrArg (fun z => z) hfu3.2.2.2.2.2.2.2.2.2.1).trans hFS1.2.2.2.2.2.2.2.2.1, (congrArg (fun z => z) hfu3.2.2.2.2.2.2.2.2.2.2.1).trans hFS1.2.2.2.2.2.2.2.2.2.1, (congrArg (fun z => z) hfu3.2.2.2.2.2.2.2.2.2.2.2.1).trans hFS1.2.2.2.2.2.2.2.2.2.2.1, (congrArg (fun z => z) hfu3.2.2.2.2.2.2.2.2.2.2.2.2.1).trans hFS1.2.2.2.2.2.2.2.2.2.2.2.1, (congrArg (fun z => z) hfu3.2.2.2.2.2.2.2.2.2.2.2.2.2.1).trans hFS1.2.2.2.2.2.2.2.2.2.2.2.2.1, (congrArg (fun z => z) hfu3.2.2.2.2.2.2.2.2.2.2.2.2.2.2.1).trans hFS1.2.2.2.2.2.2.2.2.2.2.2.2.2.1, (congrArg (fun z => z) hfu3.2.2.2.2.2.2.2.2.2.2.2.2.2.2.2.1).trans hFS1.2.2.2.2.2.2.2.2.2.2.2.2.2.2.1, (congrArg (fun z => z) hfu3.2.2.2.2.2.2.2.2.2.2.2.2.2.2.2.2.1).trans hFS1.2.2.2.2.2.2.2.2.2.2.2.2.2.2.2.1, (congrArg (fun z => z) hfu3.2.2.2.2.2.2.2.2.2.2.2.2.2.2.2.2.2.1).trans hFS1.2.2.2.2.2.2.2.2.2.2.2.2.2.2.2.2.1, (congrArg (fun z => z) hfu3.2.2.2.2.2.2.2.2.2.2.2.2.2.2.2.2.2.2.1).trans hFS1.2.2.2.2.2.2.2.2.2.2.2.2.2.2.2.2.2.1, (congrArg (fun z => z) hfu3.2.2.2.2.2.2.2.2.2.2.2.2.2.2.2.2.2.2.2.1).trans hFS1.2.2.2.2.2.2.2.2.2.2.2.2.2.2.2.2.2.2.1, (congrArg (fun z => z) hfu3.2.2.2.2.2.2.2.2.2.2.2.2.2.2.2.2.2.2.2.2.1).trans hFS1.2.2.2.2.2.2.2.2.2.2.2.2.2.2.2.2.2.2.2.1, (congrArg (fun z => z) hfu3.2.2.2.2.2.2.2.2.2.2.2.2.2.2.2.2.2.2.2.2.2.1).trans hFS1.2.2.2.2.2.2.2.2.2.2.2.2.2.2.2.2.2.2.2.2.1, (congrArg (fun z => z) hfu3.2.2.2.2.2.2.2.2.2.2.2.2.2.2.2.2.2.2.2.2.2.2.1).trans hFS1.2.2.2.2.2.2.2.2.2.2.2.2.2.2.2.2.2.2.2.2.2.1, (congrArg (fun z => z) hfu3.2.2.2.2.2.2.2.2.2.2.2.2.2.2.2.2.2.2.2.2.2.2.2).trans hFS1.2.2.2.2.2.2.2.2.2.2.2.2.2.2.2.2.2.2.2.2.2.2⟩
  have jf19 := J9g_oneMany hJu3
  have je21 : ((b9g_now u3) 1).toInt = ((b9g_now S) 1).toInt := congrArg (fun z => (z 1).toInt) hFu3.1
  have je23 : ((b9g_now u3) 4).toInt = ((b9g_now S) 4).toInt := congrArg (fun z => (z 4).toInt) hFu3.1
  have je25 : ((b9g_now u3) 7).toInt = ((b9g_now S) 7).toInt := congrArg (fun z => (z 7).toInt) hFu3.1
  have je27 : ((b9g_now u3) 8).toInt = ((b9g_now S) 8).toInt := congrArg (fun z => (z 8).toInt) hFu3.1
  have je29 : ((b9g_now u3) 9).toInt = ((b9g_now S) 9).toInt := congrArg (fun z => (z 9).toInt) hFu3.1
  have je31 : ((b9g_now u3) 10).toInt = ((b9g_now S) 10).toInt := congrArg (fun z => (z 10).toInt) hFu3.1
  have je33 : ((b9g_now u3) 12).toInt = ((b9g_now S) 12).toInt := congrArg (fun z => (z 12).toInt) hFu3.1
  have ju33_u3 := hJu3.2.1
  refine sf_X9_isIn hJu3.1 (fun r4 hzr4 hr4_0 => ?_)
  try simp (disch := first | ((try simp (disch := first | ((try simp only [pn]) <;> omega) | fail) only [pn, pq]) <;> omega) | fail) only [pn, pq] at hr4_0
  refine ⟨fun c6 => ?_, fun c6 => ?_⟩
  · try simp (disch := first | ((try simp (disch := first | ((try simp only [pn]) <;> omega) | fail) only [pn, pq]) <;> omega) | fail) only [pn, pq] at c6
    exact hq _ _ hJu3 hFu3 
  · try simp (disch := first | ((try simp (disch := first | ((try simp only [pn]) <;> omega) | fail) only [pn, pq]) <;> omega) | fail) only [pn, pq] at c6
    refine ⟨pt_in (by (try simp (disch := first | ((try simp (disch := first | ((try simp only [pn]) <;> omega) | fail) only [pn, pq]) <;> omega) | fail) only [pn, pq]) <;> (intros; (try simp (disch := first | ((try simp (disch := first | ((try simp only [pn]) <;> omega) | fail) only [pn, pq]) <;> omega) | fail) only [pn, pq]) <;> omega)) (by (try simp (disch := first | ((try simp (disch := first | ((try simp only [pn]) <;> omega) | fail) only [pn, pq]) <;> omega) | fail) only [pn, pq]) <;> (intros; (try simp (disch := first | ((try simp (disch := first | ((try simp only [pn]) <;> omega) | fail) only [pn, pq]) <;> omega) | fail) only [pn, pq]) <;> omega)), ?_⟩
    exact hq _ _ hJu3 hFu3 
theorem sf_X9_select {S : bT9} (hJ : J9 S) {a1 : Int32} {Q : Int32 → (bT9) → Prop} (hq : ∀ (r : Int32) (u : bT9), (J9 u) → F_X9_select S u → (TWW S u) → (T9P S → TDW S → ∀ ro : Nat, (b9g_chosen S).toInt = (ro : Int) → ro ≤ 5 → ∃ k lv : Nat, UPD S k lv ∧ SEL ro (n9 S) (C9 S) (L9 S) (P9 S) (fun j => b9g_keys S (64 + j)) k a1.toInt r.toInt) → Q r u) : wp_X9_select S a1 Q := by
  by_cases hyp : T9P S ∧ TDW S
  case neg => exact sj_X9_select hJ (fun r u h1 h2 => hq r u h1 h2 (fun a b => absurd ⟨a, b⟩ hyp) (fun a b => absurd ⟨a, b⟩ hyp))
  case pos =>
    obtain ⟨hP, hW⟩ := hyp
    unfold wp_X9_select
    intro S1 e1
    have hJ1 : J9 S1 := by rw [e1]; exact J9s_told hJ
    have hF1 : F_X9_select S S1 := by rw [e1]; exact ⟨rfl, rfl, rfl, rfl, rfl, rfl, rfl, rfl, rfl, rfl, rfl, rfl, rfl, rfl, rfl, rfl, rfl, rfl, rfl, rfl, rfl, rfl, rfl⟩
    refine sf_X9_laysOnes hJ1 (fun u3 hJ3 hf3 tw1 w3 => ?_)
    have hF3 : F_X9_select S u3 := ⟨(hf3.2.1).trans (hF1.1), (hf3.2.2.1).trans (hF1.2.1), (hf3.2.2.2.1).trans (hF1.2.2.1), (hf3.2.2.2.2.1).trans (hF1.2.2.2.1), (hf3.2.2.2.2.2.1).trans (hF1.2.2.2.2.1), (hf3.2.2.2.2.2.2.1).trans (hF1.2.2.2.2.2.1), (hf3.2.2.2.2.2.2.2.1).trans (hF1.2.2.2.2.2.2.1), (hf3.2.2.2.2.2.2.2.2.1).trans (hF1.2.2.2.2.2.2.2.1), (hf3.2.2.2.2.2.2.2.2.2.1).trans (hF1.2.2.2.2.2.2.2.2.1), (hf3.2.2.2.2.2.2.2.2.2.2.1).trans (hF1.2.2.2.2.2.2.2.2.2.1), (hf3.2.2.2.2.2.2.2.2.2.2.2.1).trans (hF1.2.2.2.2.2.2.2.2.2.2.1), (hf3.2.2.2.2.2.2.2.2.2.2.2.2.1).trans (hF1.2.2.2.2.2.2.2.2.2.2.2.1), (hf3.2.2.2.2.2.2.2.2.2.2.2.2.2.1).trans (hF1.2.2.2.2.2.2.2.2.2.2.2.2.1), (hf3.2.2.2.2.2.2.2.2.2.2.2.2.2.2.1).trans (hF1.2.2.2.2.2.2.2.2.2.2.2.2.2.1), (hf3.2.2.2.2.2.2.2.2.2.2.2.2.2.2.2.1).trans (hF1.2.2.2.2.2.2.2.2.2.2.2.2.2.2.1), (hf3.2.2.2.2.2.2.2.2.2.2.2.2.2.2.2.2.1).trans (hF1.2.2.2.2.2.2.2.2.2.2.2.2.2.2.2.1), (hf3.2.2.2.2.2.2.2.2.2.2.2.2.2.2.2.2.2.1).trans (hF1.2.2.2.2.2.2.2.2.2.2.2.2.2.2.2.2.1), (hf3.2.2.2.2.2.2.2.2.2.2.2.2.2.2.2.2.2.2.1).trans (hF1.2.2.2.2.2.2.2.2.2.2.2.2.2.2.2.2.2.1), (hf3.2.2.2.2.2.2.2.2.2.2.2.2.2.2.2.2.2.2.2.1).trans (hF1.2.2.2.2.2.2.2.2.2.2.2.2.2.2.2.2.2.2.1), (hf3.2.2.2.2.2.2.2.2.2.2.2.2.2.2.2.2.2.2.2.2.1).trans (hF1.2.2.2.2.2.2.2.2.2.2.2.2.2.2.2.2.2.2.2.1), (hf3.2.2.2.2.2.2.2.2.2.2.2.2.2.2.2.2.2.2.2.2.2.1).trans (hF1.2.2.2.2.2.2.2.2.2.2.2.2.2.2.2.2.2.2.2.2.1), (hf3.2.2.2.2.2.2.2.2.2.2.2.2.2.2.2.2.2.2.2.2.2.2.1).trans (hF1.2.2.2.2.2.2.2.2.2.2.2.2.2.2.2.2.2.2.2.2.2.1), (hf3.2.2.2.2.2.2.2.2.2.2.2.2.2.2.2.2.2.2.2.2.2.2.2).trans (hF1.2.2.2.2.2.2.2.2.2.2.2.2.2.2.2.2.2.2.2.2.2.2)⟩
    have tw : TWW S u3 := TWW_told e1 tw1
    have w3' := w3 (by rw [e1]; exact hP) (by rw [e1]; exact hW)
    have jo := J9g_oneMany hJ3
    by_cases hro : ∃ ro : Nat, (b9g_chosen S).toInt = (ro : Int) ∧ ro ≤ 5
    case neg =>
      have fin : ∀ r : Int32, Q r u3 := fun r => hq r u3 hJ3 hF3 tw (fun _ _ ro a b => absurd ⟨ro, a, b⟩ hro)
      exact sf_X9_isIn hJ3.1 (fun r4 _ h4 => ⟨fun _ => fin _, fun c => ⟨pt_in (by have c0 : ¬ r4.toInt = 0 := fun z => c (Int32.toInt_inj.mp z); rw [pl_0] at h4; omega) (by have c0 : ¬ r4.toInt = 0 := fun z => c (Int32.toInt_inj.mp z); rw [pl_0, pt_sub (by rw [pl_1]; omega) (by rw [pl_1]; omega), pl_1] at h4; omega), fin _⟩⟩)
    case pos =>
      obtain ⟨ro, hr, hr5⟩ := hro
      obtain ⟨k, lv, up1, A1, _, _⟩ := w3' ro (by rw [e1]; exact hr) hr5
      have up : UPD S k lv := by
        rw [e1] at up1
        exact up1
      have A : OAR ro (n9 S) (C9 S) (L9 S) (P9 S) (fun j => b9g_keys S (64 + j)) k (b9g_oneMany u3) (b9g_rowLong u3) (b9g_ones u3) := by
        rw [e1] at A1
        exact A1
      have G : GRD (n9 S) (C9 S) (L9 S) (P9 S) := GRD_of hP.1 hP.2.1 (J9g_now hJ).2.2.2.1.2
      have k8 : k ≤ 8 := Nat.le_trans up.2.2.1 up.2.1
      have fin : ∀ r : Int32, SEL ro (n9 S) (C9 S) (L9 S) (P9 S) (fun j => b9g_keys S (64 + j)) k a1.toInt (r).toInt → Q r u3 := fun r b => hq r u3 hJ3 hF3 tw (fun _ _ ro2 c d => by rw [show ro2 = ro by omega]; exact ⟨k, lv, up, b⟩)
      have rn := RL_nn (ro := ro) (n := (n9 S)) (C := (C9 S)) (P := (P9 S)) k8
      have ar := A.2.1
      have ao := A.1
      have m1 : (b9g_rowLong u3 - 1).toInt = (b9g_rowLong u3).toInt - 1 := by
        have := pt_rg (b9g_rowLong u3)
        rw [pt_sub (by rw [pl_1]; omega) (by rw [pl_1]; omega), pl_1]
      have m2 : (b9g_oneMany u3 - 1).toInt = (b9g_oneMany u3).toInt - 1 := by rw [pt_sub (by rw [pl_1]; omega) (by rw [pl_1]; omega), pl_1]
      refine sf_X9_isIn hJ3.1 (fun r4 _ h4 => ⟨fun c => fin _ (Or.inr ⟨rfl, ?_⟩), fun c => ?_⟩)
      · have c0 : r4.toInt = 0 := by rw [c]; rfl
        rw [pl_0, m2] at h4
        omega
      · have c0 : ¬ r4.toInt = 0 := fun z => c (Int32.toInt_inj.mp z)
        rw [pl_0, m2] at h4
        obtain ⟨m, em⟩ : ∃ m : Nat, a1.toInt = (m : Int) := ⟨a1.toInt.toNat, by omega⟩
        have ec : a1.toNatClampNeg = m := by
          show a1.toInt.toNat = m
          omega
        obtain ⟨w, w1, w2, w3⟩ := CTP_inv (P := IsO ro (n9 S) (C9 S) (L9 S) (P9 S) k) (e := (m : Int)) (by omega) 512 (by show _ < OB ro (n9 S) (C9 S) (L9 S) (P9 S) k 512; omega)
        have w3' : OB ro (n9 S) (C9 S) (L9 S) (P9 S) k w = (m : Int) := w3
        have q := A.2.2 w w1 w2
        rw [w3', show ((m : Int)).toNat = m by omega] at q
        rw [ec]
        exact ⟨pt_in (by omega) (by omega), fin _ (Or.inl ⟨w, w1, w2, by omega, q⟩)⟩
set_option maxRecDepth 20000 in
set_option maxHeartbeats 8000000 in
theorem sf_X9_tailBits {S : bT9} (hJ : K9 S) {Q : Int32 → Prop} (hq : ∀ r : Int32, Q r) : wp_X9_tailBits S Q := by
  unfold wp_X9_tailBits
  have jf1 : (-4 ≤ ((b9g_now S) 1).toInt ∧ ((b9g_now S) 1).toInt ≤ 4) ∧ (-3 ≤ ((b9g_now S) 4).toInt ∧ ((b9g_now S) 4).toInt ≤ 252) ∧ (0 ≤ ((b9g_now S) 8).toInt ∧ ((b9g_now S) 8).toInt ≤ 64) ∧ (0 ≤ ((b9g_now S) 9).toInt ∧ ((b9g_now S) 9).toInt ≤ 64) ∧ (0 ≤ ((b9g_now S) 10).toInt ∧ ((b9g_now S) 10).toInt ≤ 16) ∧ (0 ≤ ((b9g_now S) 12).toInt ∧ ((b9g_now S) 12).toInt ≤ 8) := K9g_now hJ
  refine ⟨pt_in (by (try simp (disch := first | ((try simp (disch := first | ((try simp only [pn]) <;> omega) | fail) only [pn, pq]) <;> omega) | fail) only [pn, pq]) <;> (intros; (try simp (disch := first | ((try simp (disch := first | ((try simp only [pn]) <;> omega) | fail) only [pn, pq]) <;> omega) | fail) only [pn, pq]) <;> omega)) (by (try simp (disch := first | ((try simp (disch := first | ((try simp only [pn]) <;> omega) | fail) only [pn, pq]) <;> omega) | fail) only [pn, pq]) <;> (intros; (try simp (disch := first | ((try simp (disch := first | ((try simp only [pn]) <;> omega) | fail) only [pn, pq]) <;> omega) | fail) only [pn, pq]) <;> omega)), ?_⟩
  refine sf_X9_hashBits hJ (fun r1 hr1_0 => ?_)
  have rgr1 := pt_rg r1
  refine sf_X9_nextBits hJ (fun r3 hr3_0 hr3_1 hr3_2 => ?_)
  have rgr3 := pt_rg r3
  try simp (disch := first | ((try simp (disch := first | ((try simp only [pn]) <;> omega) | fail) only [pn, pq]) <;> omega) | fail) only [pn, pq] at hr3_0
  try simp (disch := first | ((try simp (disch := first | ((try simp only [pn]) <;> omega) | fail) only [pn, pq]) <;> omega) | fail) only [pn, pq] at hr3_1
  exact hq _ 
set_option maxRecDepth 20000 in
set_option maxHeartbeats 8000000 in
theorem sf_X9_keyBits {S : bT9} (hJ : K9 S) {Q : Int32 → Prop} (hq : ∀ r : Int32, Q r) : wp_X9_keyBits S Q := by
  unfold wp_X9_keyBits
  have jf1 : (-4 ≤ ((b9g_now S) 1).toInt ∧ ((b9g_now S) 1).toInt ≤ 4) ∧ (-3 ≤ ((b9g_now S) 4).toInt ∧ ((b9g_now S) 4).toInt ≤ 252) ∧ (0 ≤ ((b9g_now S) 8).toInt ∧ ((b9g_now S) 8).toInt ≤ 64) ∧ (0 ≤ ((b9g_now S) 9).toInt ∧ ((b9g_now S) 9).toInt ≤ 64) ∧ (0 ≤ ((b9g_now S) 10).toInt ∧ ((b9g_now S) 10).toInt ≤ 16) ∧ (0 ≤ ((b9g_now S) 12).toInt ∧ ((b9g_now S) 12).toInt ≤ 8) := K9g_now hJ
  refine ⟨fun n x1q1 x2q1 => (0 ≤ (x2q1).toInt) ∧ n = ((((b9g_now S) 9)).toInt + 1 - (x2q1).toInt).toNat, ⟨_, (by (try simp (disch := first | ((try simp (disch := first | ((try simp only [pn]) <;> omega) | fail) only [pn, pq]) <;> omega) | fail) only [pn, pq]) <;> (intros; (try simp (disch := first | ((try simp (disch := first | ((try simp only [pn]) <;> omega) | fail) only [pn, pq]) <;> omega) | fail) only [pn, pq]) <;> omega)), rfl⟩, ?_⟩
  rintro n2 x1q1 x2q1 ⟨hiq1_0, hn2⟩
  have rgx1q1 := pt_rg x1q1
  have rgx2q1 := pt_rg x2q1
  unfold wp_X9_keyBits_4b
  refine ⟨pt_in (by (try simp (disch := first | ((try simp (disch := first | ((try simp only [pn]) <;> omega) | fail) only [pn, pq]) <;> omega) | fail) only [pn, pq]) <;> (intros; (try simp (disch := first | ((try simp (disch := first | ((try simp only [pn]) <;> omega) | fail) only [pn, pq]) <;> omega) | fail) only [pn, pq]) <;> omega)) (by (try simp (disch := first | ((try simp (disch := first | ((try simp only [pn]) <;> omega) | fail) only [pn, pq]) <;> omega) | fail) only [pn, pq]) <;> (intros; (try simp (disch := first | ((try simp (disch := first | ((try simp only [pn]) <;> omega) | fail) only [pn, pq]) <;> omega) | fail) only [pn, pq]) <;> omega)), ?_⟩
  refine ⟨fun c3 => ?_, fun c3 => ?_⟩
  · try simp (disch := first | ((try simp (disch := first | ((try simp only [pn]) <;> omega) | fail) only [pn, pq]) <;> omega) | fail) only [pn, pq] at c3
    exact hq _ 
  · try simp (disch := first | ((try simp (disch := first | ((try simp only [pn]) <;> omega) | fail) only [pn, pq]) <;> omega) | fail) only [pn, pq] at c3
    refine sf_X9_lengthOf hJ (by (try simp (disch := first | ((try simp (disch := first | ((try simp only [pn]) <;> omega) | fail) only [pn, pq]) <;> omega) | fail) only [pn, pq]) <;> (intros; (try simp (disch := first | ((try simp (disch := first | ((try simp only [pn]) <;> omega) | fail) only [pn, pq]) <;> omega) | fail) only [pn, pq]) <;> omega)) (by (try simp (disch := first | ((try simp (disch := first | ((try simp only [pn]) <;> omega) | fail) only [pn, pq]) <;> omega) | fail) only [pn, pq]) <;> (intros; (try simp (disch := first | ((try simp (disch := first | ((try simp only [pn]) <;> omega) | fail) only [pn, pq]) <;> omega) | fail) only [pn, pq]) <;> omega)) (fun r4 hr4_0 hr4_1 hr4_2 => ?_)
    have rgr4 := pt_rg r4
    try simp (disch := first | ((try simp (disch := first | ((try simp only [pn]) <;> omega) | fail) only [pn, pq]) <;> omega) | fail) only [pn, pq] at hr4_0
    try simp (disch := first | ((try simp (disch := first | ((try simp only [pn]) <;> omega) | fail) only [pn, pq]) <;> omega) | fail) only [pn, pq] at hr4_1
    try simp (disch := first | ((try simp (disch := first | ((try simp only [pn]) <;> omega) | fail) only [pn, pq]) <;> omega) | fail) only [pn, pq] at hr4_2
    refine ⟨_, ?_, ?_, rfl⟩
    · (try simp (disch := first | ((try simp (disch := first | ((try simp only [pn]) <;> omega) | fail) only [pn, pq]) <;> omega) | fail) only [pn, pq]) <;> (intros; (try simp (disch := first | ((try simp (disch := first | ((try simp only [pn]) <;> omega) | fail) only [pn, pq]) <;> omega) | fail) only [pn, pq]) <;> omega)
    · (try simp (disch := first | ((try simp (disch := first | ((try simp only [pn]) <;> omega) | fail) only [pn, pq]) <;> omega) | fail) only [pn, pq]) <;> (intros; (try simp (disch := first | ((try simp (disch := first | ((try simp only [pn]) <;> omega) | fail) only [pn, pq]) <;> omega) | fail) only [pn, pq]) <;> omega)
def F_X9_bits (S u : bT9) : Prop := (b9g_now u) = (b9g_now S) ∧ (b9g_keys u) = (b9g_keys S) ∧ (b9g_lengths u) = (b9g_lengths S) ∧ (b9g_drawn u) = (b9g_drawn S) ∧ (b9g_drawnLength u) = (b9g_drawnLength S) ∧ (b9g_tape u) = (b9g_tape S) ∧ (b9g_taped u) = (b9g_taped S) ∧ (b9g_names u) = (b9g_names S) ∧ (b9g_chosen u) = (b9g_chosen S) ∧ (b9g_lowKey u) = (b9g_lowKey S) ∧ (b9g_highKey u) = (b9g_highKey S) ∧ (b9g_lowLength u) = (b9g_lowLength S) ∧ (b9g_highLength u) = (b9g_highLength S) ∧ (b9g_fromKey u) = (b9g_fromKey S) ∧ (b9g_toKey u) = (b9g_toKey S) ∧ (b9g_fromLength u) = (b9g_fromLength S) ∧ (b9g_toLength u) = (b9g_toLength S) ∧ (b9g_signs u) = (b9g_signs S) ∧ (b9g_signMany u) = (b9g_signMany S) ∧ (b9g_hasImage u) = (b9g_hasImage S) ∧ (b9g_images u) = (b9g_images S) ∧ (b9g_keyImages u) = (b9g_keyImages S) ∧ (b9g_lengthImages u) = (b9g_lengthImages S)
set_option maxRecDepth 20000 in
set_option maxHeartbeats 8000000 in
theorem sj_X9_bits {S : bT9} (hJ : J9 S) {a1 : Int32} {Q : Int32 → (bT9) → Prop} (hq : ∀ (r : Int32) (u : bT9), (J9 u) → F_X9_bits S u → Q r u) : wp_X9_bits S a1 Q := by
  unfold wp_X9_bits
  have hFS : F_X9_bits S S := ⟨rfl, rfl, rfl, rfl, rfl, rfl, rfl, rfl, rfl, rfl, rfl, rfl, rfl, rfl, rfl, rfl, rfl, rfl, rfl, rfl, rfl, rfl, rfl⟩
  have jf1 := J9g_oneMany hJ
  have jf2 : (-4 ≤ ((b9g_now S) 1).toInt ∧ ((b9g_now S) 1).toInt ≤ 4) ∧ (-3 ≤ ((b9g_now S) 4).toInt ∧ ((b9g_now S) 4).toInt ≤ 252) ∧ (0 ≤ ((b9g_now S) 8).toInt ∧ ((b9g_now S) 8).toInt ≤ 64) ∧ (0 ≤ ((b9g_now S) 9).toInt ∧ ((b9g_now S) 9).toInt ≤ 64) ∧ (0 ≤ ((b9g_now S) 10).toInt ∧ ((b9g_now S) 10).toInt ≤ 16) ∧ (0 ≤ ((b9g_now S) 12).toInt ∧ ((b9g_now S) 12).toInt ≤ 8) := J9g_now hJ
  have ju2_S := hJ.2.1
  have rga1 := pt_rg a1
  intro S1 eS1
  have hJS1 : J9 S1 := by rw [eS1]; exact (J9s_told hJ)
  have hFS1 : F_X9_bits S S1 := by rw [eS1]; exact hFS
  have je3 : ((b9g_oneMany S1)).toInt = ((b9g_oneMany S)).toInt := by rw [eS1]
  have jf4 := J9g_oneMany hJS1
  have je5 : ((b9g_rowLong S1)).toInt = ((b9g_rowLong S)).toInt := by rw [eS1]
  have je6 : ((b9g_upper S1)).toInt = ((b9g_upper S)).toInt := by rw [eS1]
  have je8 : ((b9g_now S1) 1).toInt = ((b9g_now S) 1).toInt := congrArg (fun z => (z 1).toInt) hFS1.1
  have je10 : ((b9g_now S1) 4).toInt = ((b9g_now S) 4).toInt := congrArg (fun z => (z 4).toInt) hFS1.1
  have je12 : ((b9g_now S1) 7).toInt = ((b9g_now S) 7).toInt := congrArg (fun z => (z 7).toInt) hFS1.1
  have je14 : ((b9g_now S1) 8).toInt = ((b9g_now S) 8).toInt := congrArg (fun z => (z 8).toInt) hFS1.1
  have je16 : ((b9g_now S1) 9).toInt = ((b9g_now S) 9).toInt := congrArg (fun z => (z 9).toInt) hFS1.1
  have je18 : ((b9g_now S1) 10).toInt = ((b9g_now S) 10).toInt := congrArg (fun z => (z 10).toInt) hFS1.1
  have je20 : ((b9g_now S1) 12).toInt = ((b9g_now S) 12).toInt := congrArg (fun z => (z 12).toInt) hFS1.1
  have ju20_S1 := hJS1.2.1
  refine sf_X9_laysOnes hJS1 (fun u3 hJu3 hfu3 hr2_0 hr2_1 => ?_)
  have hFu3 : F_X9_bits S u3 := ⟨(congrArg (fun z => z) hfu3.2.1).trans hFS1.1, (congrArg (fun z => z) hfu3.2.2.1).trans hFS1.2.1, (congrArg (fun z => z) hfu3.2.2.2.1).trans hFS1.2.2.1, (congrArg (fun z => z) hfu3.2.2.2.2.1).trans hFS1.2.2.2.1, (congrArg (fun z => z) hfu3.2.2.2.2.2.1).trans hFS1.2.2.2.2.1, (congrArg (fun z => z) hfu3.2.2.2.2.2.2.1).trans hFS1.2.2.2.2.2.1, (congrArg (fun z => z) hfu3.2.2.2.2.2.2.2.1).trans hFS1.2.2.2.2.2.2.1, (congrArg (fun z => z) hfu3.2.2.2.2.2.2.2.2.1).trans hFS1.2.2.2.2.2.2.2.1, (congrArg (fun z => z) hfu3.2.2.2.2.2.2.2.2.2.1).trans hFS1.2.2.2.2.2.2.2.2.1, (congrArg (fun z => z) hfu3.2.2.2.2.2.2.2.2.2.2.1).trans hFS1.2.2.2.2.2.2.2.2.2.1, (congrArg (fun z => z) hfu3.2.2.2.2.2.2.2.2.2.2.2.1).trans hFS1.2.2.2.2.2.2.2.2.2.2.1, (congrArg (fun z => z) hfu3.2.2.2.2.2.2.2.2.2.2.2.2.1).trans hFS1.2.2.2.2.2.2.2.2.2.2.2.1, (congrArg (fun z => z) hfu3.2.2.2.2.2.2.2.2.2.2.2.2.2.1).trans hFS1.2.2.2.2.2.2.2.2.2.2.2.2.1, (congrArg (fun z => z) hfu3.2.2.2.2.2.2.2.2.2.2.2.2.2.2.1).trans hFS1.2.2.2.2.2.2.2.2.2.2.2.2.2.1, (congrArg (fun z => z) hfu3.2.2.2.2.2.2.2.2.2.2.2.2.2.2.2.1).trans hFS1.2.2.2.2.2.2.2.2.2.2.2.2.2.2.1, (congrArg (fun z => z) hfu3.2.2.2.2.2.2.2.2.2.2.2.2.2.2.2.2.1).trans hFS1.2.2.2.2.2.2.2.2.2.2.2.2.2.2.2.1, (congrArg (fun z => z) hfu3.2.2.2.2.2.2.2.2.2.2.2.2.2.2.2.2.2.1).trans hFS1.2.2.2.2.2.2.2.2.2.2.2.2.2.2.2.2.1, (congrArg (fun z => z) hfu3.2.2.2.2.2.2.2.2.2.2.2.2.2.2.2.2.2.2.1).trans hFS1.2.2.2.2.2.2.2.2.2.2.2.2.2.2.2.2.2.1, (congrArg (fun z => z) hfu3.2.2.2.2.2.2.2.2.2.2.2.2.2.2.2.2.2.2.2.1).trans hFS1.2.2.2.2.2.2.2.2.2.2.2.2.2.2.2.2.2.2.1, (congrArg (fun z => z) hfu3.2.2.2.2.2.2.2.2.2.2.2.2.2.2.2.2.2.2.2.2.1).trans hFS1.2.2.2.2.2.2.2.2.2.2.2.2.2.2.2.2.2.2.2.1, (congrArg (fun z => z) hfu3.2.2.2.2.2.2.2.2.2.2.2.2.2.2.2.2.2.2.2.2.2.1).trans hFS1.2.2.2.2.2.2.2.2.2.2.2.2.2.2.2.2.2.2.2.2.1, (congrArg (fun z => z) hfu3.2.2.2.2.2.2.2.2.2.2.2.2.2.2.2.2.2.2.2.2.2.2.1).trans hFS1.2.2.2.2.2.2.2.2.2.2.2.2.2.2.2.2.2.2.2.2.2.1, (congrArg (fun z => z) hfu3.2.2.2.2.2.2.2.2.2.2.2.2.2.2.2.2.2.2.2.2.2.2.2).trans hFS1.2.2.2.2.2.2.2.2.2.2.2.2.2.2.2.2.2.2.2.2.2.2⟩
  have jf21 := J9g_oneMany hJu3
  have je23 : ((b9g_now u3) 1).toInt = ((b9g_now S) 1).toInt := congrArg (fun z => (z 1).toInt) hFu3.1
  have je25 : ((b9g_now u3) 4).toInt = ((b9g_now S) 4).toInt := congrArg (fun z => (z 4).toInt) hFu3.1
  have je27 : ((b9g_now u3) 7).toInt = ((b9g_now S) 7).toInt := congrArg (fun z => (z 7).toInt) hFu3.1
  have je29 : ((b9g_now u3) 8).toInt = ((b9g_now S) 8).toInt := congrArg (fun z => (z 8).toInt) hFu3.1
  have je31 : ((b9g_now u3) 9).toInt = ((b9g_now S) 9).toInt := congrArg (fun z => (z 9).toInt) hFu3.1
  have je33 : ((b9g_now u3) 10).toInt = ((b9g_now S) 10).toInt := congrArg (fun z => (z 10).toInt) hFu3.1
  have je35 : ((b9g_now u3) 12).toInt = ((b9g_now S) 12).toInt := congrArg (fun z => (z 12).toInt) hFu3.1
  have ju35_u3 := hJu3.2.1
  refine ⟨fun c4 => ?_, fun c4 => ?_⟩
  · try simp (disch := first | ((try simp (disch := first | ((try simp only [pn]) <;> omega) | fail) only [pn, pq]) <;> omega) | fail) only [pn, pq] at c4
    refine ⟨fun c5 => ?_, fun c5 => ?_⟩
    · try simp (disch := first | ((try simp (disch := first | ((try simp only [pn]) <;> omega) | fail) only [pn, pq]) <;> omega) | fail) only [pn, pq] at c5
      refine ⟨fun c6 => ?_, fun c6 => ?_⟩
      · try simp (disch := first | ((try simp (disch := first | ((try simp only [pn]) <;> omega) | fail) only [pn, pq]) <;> omega) | fail) only [pn, pq] at c6
        refine ⟨fun c7 => ?_, fun c7 => ?_⟩
        · try simp (disch := first | ((try simp (disch := first | ((try simp only [pn]) <;> omega) | fail) only [pn, pq]) <;> omega) | fail) only [pn, pq] at c7
          refine ⟨fun c8 => ?_, fun c8 => ?_⟩
          · try simp (disch := first | ((try simp (disch := first | ((try simp only [pn]) <;> omega) | fail) only [pn, pq]) <;> omega) | fail) only [pn, pq] at c8
            refine ⟨fun c9 => ?_, fun c9 => ?_⟩
            · try simp (disch := first | ((try simp (disch := first | ((try simp only [pn]) <;> omega) | fail) only [pn, pq]) <;> omega) | fail) only [pn, pq] at c9
              refine ⟨fun c10 => ?_, fun c10 => ?_⟩
              · try simp (disch := first | ((try simp (disch := first | ((try simp only [pn]) <;> omega) | fail) only [pn, pq]) <;> omega) | fail) only [pn, pq] at c10
                exact hq _ _ hJu3 hFu3 
              · try simp (disch := first | ((try simp (disch := first | ((try simp only [pn]) <;> omega) | fail) only [pn, pq]) <;> omega) | fail) only [pn, pq] at c10
                exact hq _ _ hJu3 hFu3 
            · try simp (disch := first | ((try simp (disch := first | ((try simp only [pn]) <;> omega) | fail) only [pn, pq]) <;> omega) | fail) only [pn, pq] at c9
              exact hq _ _ hJu3 hFu3 
          · try simp (disch := first | ((try simp (disch := first | ((try simp only [pn]) <;> omega) | fail) only [pn, pq]) <;> omega) | fail) only [pn, pq] at c8
            refine sf_X9_keyBits hJu3.1 (fun r11  => ?_)
            have rgr11 := pt_rg r11
            exact hq _ _ hJu3 hFu3 
        · try simp (disch := first | ((try simp (disch := first | ((try simp only [pn]) <;> omega) | fail) only [pn, pq]) <;> omega) | fail) only [pn, pq] at c7
          refine sf_X9_bitsAbove hJu3.1 (fun r13 hr13_0 hr13_1 hr13_2 => ?_)
          have rgr13 := pt_rg r13
          try simp (disch := first | ((try simp (disch := first | ((try simp only [pn]) <;> omega) | fail) only [pn, pq]) <;> omega) | fail) only [pn, pq] at hr13_0
          try simp (disch := first | ((try simp (disch := first | ((try simp only [pn]) <;> omega) | fail) only [pn, pq]) <;> omega) | fail) only [pn, pq] at hr13_1
          try simp (disch := first | ((try simp (disch := first | ((try simp only [pn]) <;> omega) | fail) only [pn, pq]) <;> omega) | fail) only [pn, pq] at hr13_2
          refine sf_X9_bitsBelow hJu3.1 (fun r15 hr15_0 hr15_1 => ?_)
          have rgr15 := pt_rg r15
          try simp (disch := first | ((try simp (disch := first | ((try simp only [pn]) <;> omega) | fail) only [pn, pq]) <;> omega) | fail) only [pn, pq] at hr15_0
          try simp (disch := first | ((try simp (disch := first | ((try simp only [pn]) <;> omega) | fail) only [pn, pq]) <;> omega) | fail) only [pn, pq] at hr15_1
          refine sf_X9_tailBits hJu3.1 (fun r17  => ?_)
          have rgr17 := pt_rg r17
          exact hq _ _ hJu3 hFu3 
      · try simp (disch := first | ((try simp (disch := first | ((try simp only [pn]) <;> omega) | fail) only [pn, pq]) <;> omega) | fail) only [pn, pq] at c6
        refine sf_X9_tailBits hJu3.1 (fun r19  => ?_)
        have rgr19 := pt_rg r19
        exact hq _ _ hJu3 hFu3 
    · try simp (disch := first | ((try simp (disch := first | ((try simp only [pn]) <;> omega) | fail) only [pn, pq]) <;> omega) | fail) only [pn, pq] at c5
      refine sf_X9_bitsBelow hJu3.1 (fun r21 hr21_0 hr21_1 => ?_)
      have rgr21 := pt_rg r21
      try simp (disch := first | ((try simp (disch := first | ((try simp only [pn]) <;> omega) | fail) only [pn, pq]) <;> omega) | fail) only [pn, pq] at hr21_0
      try simp (disch := first | ((try simp (disch := first | ((try simp only [pn]) <;> omega) | fail) only [pn, pq]) <;> omega) | fail) only [pn, pq] at hr21_1
      exact hq _ _ hJu3 hFu3 
  · try simp (disch := first | ((try simp (disch := first | ((try simp only [pn]) <;> omega) | fail) only [pn, pq]) <;> omega) | fail) only [pn, pq] at c4
    refine sf_X9_bitsAbove hJu3.1 (fun r23 hr23_0 hr23_1 hr23_2 => ?_)
    have rgr23 := pt_rg r23
    try simp (disch := first | ((try simp (disch := first | ((try simp only [pn]) <;> omega) | fail) only [pn, pq]) <;> omega) | fail) only [pn, pq] at hr23_0
    try simp (disch := first | ((try simp (disch := first | ((try simp only [pn]) <;> omega) | fail) only [pn, pq]) <;> omega) | fail) only [pn, pq] at hr23_1
    try simp (disch := first | ((try simp (disch := first | ((try simp only [pn]) <;> omega) | fail) only [pn, pq]) <;> omega) | fail) only [pn, pq] at hr23_2
    exact hq _ _ hJu3 hFu3 
theorem sf_X9_bits {S : bT9} (hJ : J9 S) {a1 : Int32} {Q : Int32 → (bT9) → Prop} (hq : ∀ (r : Int32) (u : bT9), (J9 u) → F_X9_bits S u → (TWW S u) → (T9P S → TDW S → ∀ ro : Nat, (b9g_chosen S).toInt = (ro : Int) → ro ≤ 5 → ∃ k lv : Nat, UPD S k lv ∧ BIV ro (n9 S) (C9 S) (L9 S) (P9 S) k (TLB (b9g_now S 9) (HBT (b9g_now S)) (NBT (b9g_now S))) a1 r) → Q r u) : wp_X9_bits S a1 Q := by
  by_cases hyp : T9P S ∧ TDW S
  case neg => exact sj_X9_bits hJ (fun r u h1 h2 => hq r u h1 h2 (fun a b => absurd ⟨a, b⟩ hyp) (fun a b => absurd ⟨a, b⟩ hyp))
  case pos =>
    obtain ⟨hP, hW⟩ := hyp
    unfold wp_X9_bits
    intro S1 e1
    have hJ1 : J9 S1 := by rw [e1]; exact J9s_told hJ
    have hF1 : F_X9_bits S S1 := by rw [e1]; exact ⟨rfl, rfl, rfl, rfl, rfl, rfl, rfl, rfl, rfl, rfl, rfl, rfl, rfl, rfl, rfl, rfl, rfl, rfl, rfl, rfl, rfl, rfl, rfl⟩
    refine sf_X9_laysOnes hJ1 (fun u3 hJ3 hf3 tw1 w3 => ?_)
    have hF3 : F_X9_bits S u3 := ⟨(hf3.2.1).trans (hF1.1), (hf3.2.2.1).trans (hF1.2.1), (hf3.2.2.2.1).trans (hF1.2.2.1), (hf3.2.2.2.2.1).trans (hF1.2.2.2.1), (hf3.2.2.2.2.2.1).trans (hF1.2.2.2.2.1), (hf3.2.2.2.2.2.2.1).trans (hF1.2.2.2.2.2.1), (hf3.2.2.2.2.2.2.2.1).trans (hF1.2.2.2.2.2.2.1), (hf3.2.2.2.2.2.2.2.2.1).trans (hF1.2.2.2.2.2.2.2.1), (hf3.2.2.2.2.2.2.2.2.2.1).trans (hF1.2.2.2.2.2.2.2.2.1), (hf3.2.2.2.2.2.2.2.2.2.2.1).trans (hF1.2.2.2.2.2.2.2.2.2.1), (hf3.2.2.2.2.2.2.2.2.2.2.2.1).trans (hF1.2.2.2.2.2.2.2.2.2.2.1), (hf3.2.2.2.2.2.2.2.2.2.2.2.2.1).trans (hF1.2.2.2.2.2.2.2.2.2.2.2.1), (hf3.2.2.2.2.2.2.2.2.2.2.2.2.2.1).trans (hF1.2.2.2.2.2.2.2.2.2.2.2.2.1), (hf3.2.2.2.2.2.2.2.2.2.2.2.2.2.2.1).trans (hF1.2.2.2.2.2.2.2.2.2.2.2.2.2.1), (hf3.2.2.2.2.2.2.2.2.2.2.2.2.2.2.2.1).trans (hF1.2.2.2.2.2.2.2.2.2.2.2.2.2.2.1), (hf3.2.2.2.2.2.2.2.2.2.2.2.2.2.2.2.2.1).trans (hF1.2.2.2.2.2.2.2.2.2.2.2.2.2.2.2.1), (hf3.2.2.2.2.2.2.2.2.2.2.2.2.2.2.2.2.2.1).trans (hF1.2.2.2.2.2.2.2.2.2.2.2.2.2.2.2.2.1), (hf3.2.2.2.2.2.2.2.2.2.2.2.2.2.2.2.2.2.2.1).trans (hF1.2.2.2.2.2.2.2.2.2.2.2.2.2.2.2.2.2.1), (hf3.2.2.2.2.2.2.2.2.2.2.2.2.2.2.2.2.2.2.2.1).trans (hF1.2.2.2.2.2.2.2.2.2.2.2.2.2.2.2.2.2.2.1), (hf3.2.2.2.2.2.2.2.2.2.2.2.2.2.2.2.2.2.2.2.2.1).trans (hF1.2.2.2.2.2.2.2.2.2.2.2.2.2.2.2.2.2.2.2.1), (hf3.2.2.2.2.2.2.2.2.2.2.2.2.2.2.2.2.2.2.2.2.2.1).trans (hF1.2.2.2.2.2.2.2.2.2.2.2.2.2.2.2.2.2.2.2.2.1), (hf3.2.2.2.2.2.2.2.2.2.2.2.2.2.2.2.2.2.2.2.2.2.2.1).trans (hF1.2.2.2.2.2.2.2.2.2.2.2.2.2.2.2.2.2.2.2.2.2.1), (hf3.2.2.2.2.2.2.2.2.2.2.2.2.2.2.2.2.2.2.2.2.2.2.2).trans (hF1.2.2.2.2.2.2.2.2.2.2.2.2.2.2.2.2.2.2.2.2.2.2)⟩
    have tw : TWW S u3 := TWW_told e1 tw1
    have w3' := w3 (by rw [e1]; exact hP) (by rw [e1]; exact hW)
    by_cases hro : ∃ ro : Nat, (b9g_chosen S).toInt = (ro : Int) ∧ ro ≤ 5
    case neg =>
      have fin : ∀ r : Int32, Q r u3 := fun r => hq r u3 hJ3 hF3 tw (fun _ _ ro a b => absurd ⟨ro, a, b⟩ hro)
      exact ⟨fun _ => ⟨fun _ => ⟨fun _ => ⟨fun _ => ⟨fun _ => ⟨fun _ => ⟨fun _ => fin _, fun _ => fin _⟩, fun _ => fin _⟩, fun _ => sf_X9_keyBits hJ3.1 (fun r => fin _)⟩, fun _ => sf_X9_bitsAbove hJ3.1 (fun r6 _ _ _ => sf_X9_bitsBelow hJ3.1 (fun r8 _ _ => sf_X9_tailBits hJ3.1 (fun r10 => fin _)))⟩, fun _ => sf_X9_tailBits hJ3.1 (fun r10 => fin _)⟩, fun _ => sf_X9_bitsBelow hJ3.1 (fun r8 _ _ => fin _)⟩, fun _ => sf_X9_bitsAbove hJ3.1 (fun r6 _ _ _ => fin _)⟩
    case pos =>
      obtain ⟨ro, hr, hr5⟩ := hro
      obtain ⟨k, lv, up1, A1, uk, il⟩ := w3' ro (by rw [e1]; exact hr) hr5
      have up : UPD S k lv := by
        rw [e1] at up1
        exact up1
      have A : OAR ro (n9 S) (C9 S) (L9 S) (P9 S) (fun j => b9g_keys S (64 + j)) k (b9g_oneMany u3) (b9g_rowLong u3) (b9g_ones u3) := by
        rw [e1] at A1
        exact A1
      have k8 : k ≤ 8 := Nat.le_trans up.2.2.1 up.2.1
      have n3 : b9g_now u3 = b9g_now S := hF3.1
      have sm : SM9 u3 S := ⟨hF3.2.1, hF3.2.2.1, n3⟩
      have twu := tw hP hW
      obtain ⟨R, hTD⟩ := TD_use hJ3 hP sm ⟨twu.1, twu.2, il⟩
      have nV := hTD.1
      obtain ⟨q1, q2, q3, q4⟩ := SM9_n sm
      have fin : ∀ r : Int32, BIV ro (n9 S) (C9 S) (L9 S) (P9 S) k (TLB (b9g_now S 9) (HBT (b9g_now S)) (NBT (b9g_now S))) a1 (r) → Q r u3 := fun r b => hq r u3 hJ3 hF3 tw (fun _ _ ro2 c d => by rw [show ro2 = ro by omega]; exact ⟨k, lv, up, b⟩)
      have G := R.1
      rw [q1, q2, q3, q4] at G
      have n5 := NB_le G (l := 7) (i := 64) (by omega) (by omega)
      have nb5 : NB (n9 S) (C9 S) (P9 S) (64 * 7 + 64) = NB (n9 S) (C9 S) (P9 S) 512 := rfl
      have nk := NB_mono (n := (n9 S)) (C := (C9 S)) (P := (P9 S)) (show 64 * k ≤ 512 by omega)
      have nk0 := NB_nn (n := (n9 S)) (C := (C9 S)) (P := (P9 S)) (64 * k)
      have e5 := EB_le G (w := 512) (by omega)
      have ek := EB_le G (w := 64 * k) (by omega)
      have emn := EB_mono (n := (n9 S)) (C := (C9 S)) (P := (P9 S)) (show 64 * k ≤ 512 by omega)
      have b1 : BTN (n9 S) (C9 S) (P9 S) k = 513 * NB (n9 S) (C9 S) (P9 S) (64 * k) := rfl
      have b2 : BTE (n9 S) (C9 S) (P9 S) k = 11 * (EB (n9 S) (C9 S) (P9 S) 512 - EB (n9 S) (C9 S) (P9 S) (64 * k)) := rfl
      have ne : ∀ {m : Int32}, ¬ a1 = m → ¬ a1.toInt = m.toInt := fun h z => h (Int32.toInt_inj.mp z)
      have abv : ∀ R' : Int32 → Prop, (∀ r : Int32, r.toInt = BTN (n9 S) (C9 S) (P9 S) k → R' r) → wp_X9_bitsAbove u3 (b9g_upper u3) R' := fun R' hR => fx9_bitsAbove R nV uk k8 (fun r h => hR r (by rw [q1, q2, q4] at h; exact h))
      have blw : ∀ R' : Int32 → Prop, (∀ r : Int32, r.toInt = BTE (n9 S) (C9 S) (P9 S) k → R' r) → wp_X9_bitsBelow u3 (b9g_upper u3) R' := fun R' hR => fx9_bitsBelow R nV uk k8 (fun r h => hR r (by rw [q1, q2, q4] at h; exact h))
      have tlb : ∀ R' : Int32 → Prop, R' (TLB (b9g_now S 9) (HBT (b9g_now S)) (NBT (b9g_now S))) → wp_X9_tailBits u3 R' := fun R' hR => fx9_tailBits (by rw [n3]; exact hR)
      have p0 : ((0 : Int32)).toInt = 0 := rfl
      have p1 : ((1 : Int32)).toInt = 1 := rfl
      have p2 : ((2 : Int32)).toInt = 2 := rfl
      have p3 : ((3 : Int32)).toInt = 3 := rfl
      have p4 : ((4 : Int32)).toInt = 4 := rfl
      have p5 : ((5 : Int32)).toInt = 5 := rfl
      have p6 : ((6 : Int32)).toInt = 6 := rfl
      refine ⟨fun c0 => ⟨fun c1 => ⟨fun c2 => ⟨fun c3 => ⟨fun c4 => ⟨fun c5 => ⟨fun c6 => ?_, fun c => ?_⟩, fun c => ?_⟩, fun c => ?_⟩, fun c => ?_⟩, fun c => ?_⟩, fun c => ?_⟩, fun c => ?_⟩
      · have d0 := ne c0
        have d1 := ne c1
        have d2 := ne c2
        have d3 := ne c3
        have d4 := ne c4
        have d5 := ne c5
        have d6 := ne c6
        exact fin _ ⟨fun z => by omega, fun z => by omega, fun z => by omega, fun z => by omega, fun z => by omega, fun z => by omega, fun z => by omega, fun _ => rfl⟩
      · have ca : a1.toInt = 6 := by rw [c]; rfl
        exact fin _ ⟨fun z => by omega, fun z => by omega, fun z => by omega, fun z => by omega, fun z => by omega, fun z => by omega, fun _ => A.1, fun z => absurd ⟨by omega, by omega⟩ z⟩
      · have ca : a1.toInt = 5 := by rw [c]; rfl
        exact fin _ ⟨fun z => by omega, fun z => by omega, fun z => by omega, fun z => by omega, fun z => by omega, fun _ => A.2.1, fun z => by omega, fun z => absurd ⟨by omega, by omega⟩ z⟩
      · have ca : a1.toInt = 4 := by rw [c]; rfl
        exact fx9_keyBits hJ3.1 (fun r4 h4 => fin _ ⟨fun z => by omega, fun z => by omega, fun z => by omega, fun z => by omega, fun _ => by rw [q1, q3] at h4; exact h4, fun z => by omega, fun z => by omega, fun z => absurd ⟨by omega, by omega⟩ z⟩)
      · have ca : a1.toInt = 3 := by rw [c]; rfl
        refine abv _ (fun r6 h6 => blw _ (fun r8 h8 => tlb _ (fin _ ⟨fun z => by omega, fun z => by omega, fun z => by omega, fun _ => ⟨r6 + r8, ?_, rfl⟩, fun z => by omega, fun z => by omega, fun z => by omega, fun z => absurd ⟨by omega, by omega⟩ z⟩)))
        unfold BTS
        rw [pt_add (by omega) (by omega), h6, h8]
      · have ca : a1.toInt = 2 := by rw [c]; rfl
        exact tlb _ (fin _ ⟨fun z => by omega, fun z => by omega, fun _ => rfl, fun z => by omega, fun z => by omega, fun z => by omega, fun z => by omega, fun z => absurd ⟨by omega, by omega⟩ z⟩)
      · have ca : a1.toInt = 1 := by rw [c]; rfl
        exact blw _ (fun r14 h14 => fin _ ⟨fun z => by omega, fun _ => h14, fun z => by omega, fun z => by omega, fun z => by omega, fun z => by omega, fun z => by omega, fun z => absurd ⟨by omega, by omega⟩ z⟩)
      · have ca : a1.toInt = 0 := by rw [c]; rfl
        exact abv _ (fun r16 h16 => fin _ ⟨fun _ => h16, fun z => by omega, fun z => by omega, fun z => by omega, fun z => by omega, fun z => by omega, fun z => by omega, fun z => absurd ⟨by omega, by omega⟩ z⟩)
def F_X9_least (S u : bT9) : Prop := (b9g_now u) = (b9g_now S) ∧ (b9g_keys u) = (b9g_keys S) ∧ (b9g_lengths u) = (b9g_lengths S) ∧ (b9g_drawn u) = (b9g_drawn S) ∧ (b9g_drawnLength u) = (b9g_drawnLength S) ∧ (b9g_tape u) = (b9g_tape S) ∧ (b9g_taped u) = (b9g_taped S) ∧ (b9g_names u) = (b9g_names S) ∧ (b9g_chosen u) = (b9g_chosen S) ∧ (b9g_lowKey u) = (b9g_lowKey S) ∧ (b9g_highKey u) = (b9g_highKey S) ∧ (b9g_lowLength u) = (b9g_lowLength S) ∧ (b9g_highLength u) = (b9g_highLength S) ∧ (b9g_fromKey u) = (b9g_fromKey S) ∧ (b9g_toKey u) = (b9g_toKey S) ∧ (b9g_fromLength u) = (b9g_fromLength S) ∧ (b9g_toLength u) = (b9g_toLength S) ∧ (b9g_ones u) = (b9g_ones S) ∧ (b9g_oneMany u) = (b9g_oneMany S) ∧ (b9g_rowLong u) = (b9g_rowLong S) ∧ (b9g_signs u) = (b9g_signs S) ∧ (b9g_signMany u) = (b9g_signMany S) ∧ (b9g_hasImage u) = (b9g_hasImage S) ∧ (b9g_images u) = (b9g_images S) ∧ (b9g_keyImages u) = (b9g_keyImages S) ∧ (b9g_lengthImages u) = (b9g_lengthImages S)
set_option maxRecDepth 20000 in
set_option maxHeartbeats 8000000 in
theorem sj_X9_least {S : bT9} (hJ : J9 S) {a1 : Int32} {Q : Int32 → (bT9) → Prop} (hq : ∀ (r : Int32) (u : bT9), (J9 u) → F_X9_least S u → Q r u) : wp_X9_least S a1 Q := by
  unfold wp_X9_least
  have hFS : F_X9_least S S := ⟨rfl, rfl, rfl, rfl, rfl, rfl, rfl, rfl, rfl, rfl, rfl, rfl, rfl, rfl, rfl, rfl, rfl, rfl, rfl, rfl, rfl, rfl, rfl, rfl, rfl, rfl⟩
  have jf1 := J9g_levelMany hJ
  have jf2 : (-4 ≤ ((b9g_now S) 1).toInt ∧ ((b9g_now S) 1).toInt ≤ 4) ∧ (-3 ≤ ((b9g_now S) 4).toInt ∧ ((b9g_now S) 4).toInt ≤ 252) ∧ (0 ≤ ((b9g_now S) 8).toInt ∧ ((b9g_now S) 8).toInt ≤ 64) ∧ (0 ≤ ((b9g_now S) 9).toInt ∧ ((b9g_now S) 9).toInt ≤ 64) ∧ (0 ≤ ((b9g_now S) 10).toInt ∧ ((b9g_now S) 10).toInt ≤ 16) ∧ (0 ≤ ((b9g_now S) 12).toInt ∧ ((b9g_now S) 12).toInt ≤ 8) := J9g_now hJ
  have ju2_S := hJ.2.1
  have rga1 := pt_rg a1
  intro S1 eS1
  have hJS1 : J9 S1 := by rw [eS1]; exact (J9s_told hJ)
  have hFS1 : F_X9_least S S1 := by rw [eS1]; exact hFS
  have je3 : ((b9g_levelMany S1)).toInt = ((b9g_levelMany S)).toInt := by rw [eS1]
  have jf4 := J9g_levelMany hJS1
  have je6 : ((b9g_now S1) 1).toInt = ((b9g_now S) 1).toInt := congrArg (fun z => (z 1).toInt) hFS1.1
  have je8 : ((b9g_now S1) 4).toInt = ((b9g_now S) 4).toInt := congrArg (fun z => (z 4).toInt) hFS1.1
  have je10 : ((b9g_now S1) 7).toInt = ((b9g_now S) 7).toInt := congrArg (fun z => (z 7).toInt) hFS1.1
  have je12 : ((b9g_now S1) 8).toInt = ((b9g_now S) 8).toInt := congrArg (fun z => (z 8).toInt) hFS1.1
  have je14 : ((b9g_now S1) 9).toInt = ((b9g_now S) 9).toInt := congrArg (fun z => (z 9).toInt) hFS1.1
  have je16 : ((b9g_now S1) 10).toInt = ((b9g_now S) 10).toInt := congrArg (fun z => (z 10).toInt) hFS1.1
  have je18 : ((b9g_now S1) 12).toInt = ((b9g_now S) 12).toInt := congrArg (fun z => (z 12).toInt) hFS1.1
  have ju18_S1 := hJS1.2.1
  refine sf_X9_laysNodes hJS1 (fun u3 hJu3 hfu3 hr2_0 => ?_)
  have hFu3 : F_X9_least S u3 := ⟨(congrArg (fun z => z) hfu3.2.1).trans hFS1.1, (congrArg (fun z => z) hfu3.2.2.1).trans hFS1.2.1, (congrArg (fun z => z) hfu3.2.2.2.1).trans hFS1.2.2.1, (congrArg (fun z => z) hfu3.2.2.2.2.1).trans hFS1.2.2.2.1, (congrArg (fun z => z) hfu3.2.2.2.2.2.1).trans hFS1.2.2.2.2.1, (congrArg (fun z => z) hfu3.2.2.2.2.2.2.1).trans hFS1.2.2.2.2.2.1, (congrArg (fun z => z) hfu3.2.2.2.2.2.2.2.1).trans hFS1.2.2.2.2.2.2.1, (congrArg (fun z => z) hfu3.2.2.2.2.2.2.2.2.1).trans hFS1.2.2.2.2.2.2.2.1, (congrArg (fun z => z) hfu3.2.2.2.2.2.2.2.2.2.1).trans hFS1.2.2.2.2.2.2.2.2.1, (congrArg (fun z => z) hfu3.2.2.2.2.2.2.2.2.2.2.1).trans hFS1.2.2.2.2.2.2.2.2.2.1, (congrArg (fun z => z) hfu3.2.2.2.2.2.2.2.2.2.2.2.1).trans hFS1.2.2.2.2.2.2.2.2.2.2.1, (congrArg (fun z => z) hfu3.2.2.2.2.2.2.2.2.2.2.2.2.1).trans hFS1.2.2.2.2.2.2.2.2.2.2.2.1, (congrArg (fun z => z) hfu3.2.2.2.2.2.2.2.2.2.2.2.2.2.1).trans hFS1.2.2.2.2.2.2.2.2.2.2.2.2.1, (congrArg (fun z => z) hfu3.2.2.2.2.2.2.2.2.2.2.2.2.2.2.1).trans hFS1.2.2.2.2.2.2.2.2.2.2.2.2.2.1, (congrArg (fun z => z) hfu3.2.2.2.2.2.2.2.2.2.2.2.2.2.2.2.1).trans hFS1.2.2.2.2.2.2.2.2.2.2.2.2.2.2.1, (congrArg (fun z => z) hfu3.2.2.2.2.2.2.2.2.2.2.2.2.2.2.2.2.1).trans hFS1.2.2.2.2.2.2.2.2.2.2.2.2.2.2.2.1, (congrArg (fun z => z) hfu3.2.2.2.2.2.2.2.2.2.2.2.2.2.2.2.2.2.1).trans hFS1.2.2.2.2.2.2.2.2.2.2.2.2.2.2.2.2.1, (congrArg (fun z => z) hfu3.2.2.2.2.2.2.2.2.2.2.2.2.2.2.2.2.2.2.1).trans hFS1.2.2.2.2.2.2.2.2.2.2.2.2.2.2.2.2.2.1, (congrArg (fun z => z) hfu3.2.2.2.2.2.2.2.2.2.2.2.2.2.2.2.2.2.2.2.1).trans hFS1.2.2.2.2.2.2.2.2.2.2.2.2.2.2.2.2.2.2.1, (congrArg (fun z => z) hfu3.2.2.2.2.2.2.2.2.2.2.2.2.2.2.2.2.2.2.2.2.1).trans hFS1.2.2.2.2.2.2.2.2.2.2.2.2.2.2.2.2.2.2.2.1, (congrArg (fun z => z) hfu3.2.2.2.2.2.2.2.2.2.2.2.2.2.2.2.2.2.2.2.2.2.1).trans hFS1.2.2.2.2.2.2.2.2.2.2.2.2.2.2.2.2.2.2.2.2.1, (congrArg (fun z => z) hfu3.2.2.2.2.2.2.2.2.2.2.2.2.2.2.2.2.2.2.2.2.2.2.1).trans hFS1.2.2.2.2.2.2.2.2.2.2.2.2.2.2.2.2.2.2.2.2.2.1, (congrArg (fun z => z) hfu3.2.2.2.2.2.2.2.2.2.2.2.2.2.2.2.2.2.2.2.2.2.2.2.1).trans hFS1.2.2.2.2.2.2.2.2.2.2.2.2.2.2.2.2.2.2.2.2.2.2.1, (congrArg (fun z => z) hfu3.2.2.2.2.2.2.2.2.2.2.2.2.2.2.2.2.2.2.2.2.2.2.2.2.1).trans hFS1.2.2.2.2.2.2.2.2.2.2.2.2.2.2.2.2.2.2.2.2.2.2.2.1, (congrArg (fun z => z) hfu3.2.2.2.2.2.2.2.2.2.2.2.2.2.2.2.2.2.2.2.2.2.2.2.2.2.1).trans hFS1.2.2.2.2.2.2.2.2.2.2.2.2.2.2.2.2.2.2.2.2.2.2.2.2.1, (congrArg (fun z => z) hfu3.2.2.2.2.2.2.2.2.2.2.2.2.2.2.2.2.2.2.2.2.2.2.2.2.2.2).trans hFS1.2.2.2.2.2.2.2.2.2.2.2.2.2.2.2.2.2.2.2.2.2.2.2.2.2⟩
  have jf19 := J9g_levelMany hJu3
  have je21 : ((b9g_now u3) 1).toInt = ((b9g_now S) 1).toInt := congrArg (fun z => (z 1).toInt) hFu3.1
  have je23 : ((b9g_now u3) 4).toInt = ((b9g_now S) 4).toInt := congrArg (fun z => (z 4).toInt) hFu3.1
  have je25 : ((b9g_now u3) 7).toInt = ((b9g_now S) 7).toInt := congrArg (fun z => (z 7).toInt) hFu3.1
  have je27 : ((b9g_now u3) 8).toInt = ((b9g_now S) 8).toInt := congrArg (fun z => (z 8).toInt) hFu3.1
  have je29 : ((b9g_now u3) 9).toInt = ((b9g_now S) 9).toInt := congrArg (fun z => (z 9).toInt) hFu3.1
  have je31 : ((b9g_now u3) 10).toInt = ((b9g_now S) 10).toInt := congrArg (fun z => (z 10).toInt) hFu3.1
  have je33 : ((b9g_now u3) 12).toInt = ((b9g_now S) 12).toInt := congrArg (fun z => (z 12).toInt) hFu3.1
  have ju33_u3 := hJu3.2.1
  refine sf_X9_isIn hJu3.1 (fun r4 hzr4 hr4_0 => ?_)
  try simp (disch := first | ((try simp (disch := first | ((try simp only [pn]) <;> omega) | fail) only [pn, pq]) <;> omega) | fail) only [pn, pq] at hr4_0
  refine ⟨fun c6 => ?_, fun c6 => ?_⟩
  · try simp (disch := first | ((try simp (disch := first | ((try simp only [pn]) <;> omega) | fail) only [pn, pq]) <;> omega) | fail) only [pn, pq] at c6
    refine ⟨fun n x1q7 x2q7 x3q7 Sq7 => (J9 Sq7) ∧ (F_X9_least S Sq7) ∧ (x1q7 = a1) ∧ (0 ≤ (x3q7).toInt) ∧ n = (((b9g_levelMany Sq7)).toInt + 1 - (x3q7).toInt).toNat, ⟨_, hJu3, hFu3, rfl, (by (try simp (disch := first | ((try simp (disch := first | ((try simp only [pn]) <;> omega) | fail) only [pn, pq]) <;> omega) | fail) only [pn, pq]) <;> (intros; (try simp (disch := first | ((try simp (disch := first | ((try simp only [pn]) <;> omega) | fail) only [pn, pq]) <;> omega) | fail) only [pn, pq]) <;> omega)), rfl⟩, ?_⟩
    rintro n8 x1q7 x2q7 x3q7 Sq7 ⟨hJSq7, hFSq7, hkq7_0, hiq7_0, hn8⟩
    subst hkq7_0
    have rgx1q7 := pt_rg x1q7
    have rgx2q7 := pt_rg x2q7
    have rgx3q7 := pt_rg x3q7
    unfold wp_X9_least_25b
    have jf34 := J9g_levelMany hJSq7
    have je36 : ((b9g_now Sq7) 1).toInt = ((b9g_now S) 1).toInt := congrArg (fun z => (z 1).toInt) hFSq7.1
    have je38 : ((b9g_now Sq7) 4).toInt = ((b9g_now S) 4).toInt := congrArg (fun z => (z 4).toInt) hFSq7.1
    have je40 : ((b9g_now Sq7) 7).toInt = ((b9g_now S) 7).toInt := congrArg (fun z => (z 7).toInt) hFSq7.1
    have je42 : ((b9g_now Sq7) 8).toInt = ((b9g_now S) 8).toInt := congrArg (fun z => (z 8).toInt) hFSq7.1
    have je44 : ((b9g_now Sq7) 9).toInt = ((b9g_now S) 9).toInt := congrArg (fun z => (z 9).toInt) hFSq7.1
    have je46 : ((b9g_now Sq7) 10).toInt = ((b9g_now S) 10).toInt := congrArg (fun z => (z 10).toInt) hFSq7.1
    have je48 : ((b9g_now Sq7) 12).toInt = ((b9g_now S) 12).toInt := congrArg (fun z => (z 12).toInt) hFSq7.1
    have ju48_Sq7 := hJSq7.2.1
    refine ⟨fun c9 => ?_, fun c9 => ?_⟩
    · try simp (disch := first | ((try simp (disch := first | ((try simp only [pn]) <;> omega) | fail) only [pn, pq]) <;> omega) | fail) only [pn, pq] at c9
      refine ⟨fun c10 => ?_, fun c10 => ?_⟩
      · try simp (disch := first | ((try simp (disch := first | ((try simp only [pn]) <;> omega) | fail) only [pn, pq]) <;> omega) | fail) only [pn, pq] at c10
        refine sf_X9_bitsAbove hJSq7.1 (fun r11 hr11_0 hr11_1 hr11_2 => ?_)
        have rgr11 := pt_rg r11
        try simp (disch := first | ((try simp (disch := first | ((try simp only [pn]) <;> omega) | fail) only [pn, pq]) <;> omega) | fail) only [pn, pq] at hr11_0
        try simp (disch := first | ((try simp (disch := first | ((try simp only [pn]) <;> omega) | fail) only [pn, pq]) <;> omega) | fail) only [pn, pq] at hr11_1
        try simp (disch := first | ((try simp (disch := first | ((try simp only [pn]) <;> omega) | fail) only [pn, pq]) <;> omega) | fail) only [pn, pq] at hr11_2
        refine sf_X9_bitsBelow hJSq7.1 (fun r13 hr13_0 hr13_1 => ?_)
        have rgr13 := pt_rg r13
        try simp (disch := first | ((try simp (disch := first | ((try simp only [pn]) <;> omega) | fail) only [pn, pq]) <;> omega) | fail) only [pn, pq] at hr13_0
        try simp (disch := first | ((try simp (disch := first | ((try simp only [pn]) <;> omega) | fail) only [pn, pq]) <;> omega) | fail) only [pn, pq] at hr13_1
        refine sf_X9_tailBits hJSq7.1 (fun r15  => ?_)
        have rgr15 := pt_rg r15
        exact hq _ _ hJSq7 hFSq7 
      · try simp (disch := first | ((try simp (disch := first | ((try simp only [pn]) <;> omega) | fail) only [pn, pq]) <;> omega) | fail) only [pn, pq] at c10
        exact hq _ _ hJSq7 hFSq7 
    · try simp (disch := first | ((try simp (disch := first | ((try simp only [pn]) <;> omega) | fail) only [pn, pq]) <;> omega) | fail) only [pn, pq] at c9
      refine sf_X9_bitsAbove hJSq7.1 (fun r17 hr17_0 hr17_1 hr17_2 => ?_)
      have rgr17 := pt_rg r17
      try simp (disch := first | ((try simp (disch := first | ((try simp only [pn]) <;> omega) | fail) only [pn, pq]) <;> omega) | fail) only [pn, pq] at hr17_0
      try simp (disch := first | ((try simp (disch := first | ((try simp only [pn]) <;> omega) | fail) only [pn, pq]) <;> omega) | fail) only [pn, pq] at hr17_1
      try simp (disch := first | ((try simp (disch := first | ((try simp only [pn]) <;> omega) | fail) only [pn, pq]) <;> omega) | fail) only [pn, pq] at hr17_2
      refine sf_X9_bitsBelow hJSq7.1 (fun r19 hr19_0 hr19_1 => ?_)
      have rgr19 := pt_rg r19
      try simp (disch := first | ((try simp (disch := first | ((try simp only [pn]) <;> omega) | fail) only [pn, pq]) <;> omega) | fail) only [pn, pq] at hr19_0
      try simp (disch := first | ((try simp (disch := first | ((try simp only [pn]) <;> omega) | fail) only [pn, pq]) <;> omega) | fail) only [pn, pq] at hr19_1
      refine sf_X9_bitsAbove hJSq7.1 (fun r21 hr21_0 hr21_1 hr21_2 => ?_)
      have rgr21 := pt_rg r21
      try simp (disch := first | ((try simp (disch := first | ((try simp only [pn]) <;> omega) | fail) only [pn, pq]) <;> omega) | fail) only [pn, pq] at hr21_0
      try simp (disch := first | ((try simp (disch := first | ((try simp only [pn]) <;> omega) | fail) only [pn, pq]) <;> omega) | fail) only [pn, pq] at hr21_1
      try simp (disch := first | ((try simp (disch := first | ((try simp only [pn]) <;> omega) | fail) only [pn, pq]) <;> omega) | fail) only [pn, pq] at hr21_2
      refine sf_X9_bitsBelow hJSq7.1 (fun r23 hr23_0 hr23_1 => ?_)
      have rgr23 := pt_rg r23
      try simp (disch := first | ((try simp (disch := first | ((try simp only [pn]) <;> omega) | fail) only [pn, pq]) <;> omega) | fail) only [pn, pq] at hr23_0
      try simp (disch := first | ((try simp (disch := first | ((try simp only [pn]) <;> omega) | fail) only [pn, pq]) <;> omega) | fail) only [pn, pq] at hr23_1
      refine ⟨fun c25 => ?_, fun c25 => ?_⟩
      · try simp (disch := first | ((try simp (disch := first | ((try simp only [pn]) <;> omega) | fail) only [pn, pq]) <;> omega) | fail) only [pn, pq] at c25
        unfold wp_X9_least_60
        refine ⟨_, ?_, ?_, ?_, ?_, ?_, rfl⟩
        · (try simp (disch := first | ((try simp (disch := first | ((try simp only [pn]) <;> omega) | fail) only [pn, pq]) <;> omega) | fail) only [pn, pq]) <;> (intros; (try simp (disch := first | ((try simp (disch := first | ((try simp only [pn]) <;> omega) | fail) only [pn, pq]) <;> omega) | fail) only [pn, pq]) <;> omega)
        · exact hJSq7
        · exact hFSq7
        · first | rfl | assumption
        · (try simp (disch := first | ((try simp (disch := first | ((try simp only [pn]) <;> omega) | fail) only [pn, pq]) <;> omega) | fail) only [pn, pq]) <;> (intros; (try simp (disch := first | ((try simp (disch := first | ((try simp only [pn]) <;> omega) | fail) only [pn, pq]) <;> omega) | fail) only [pn, pq]) <;> omega)
      · try simp (disch := first | ((try simp (disch := first | ((try simp only [pn]) <;> omega) | fail) only [pn, pq]) <;> omega) | fail) only [pn, pq] at c25
        unfold wp_X9_least_60
        refine ⟨_, ?_, ?_, ?_, ?_, ?_, rfl⟩
        · (try simp (disch := first | ((try simp (disch := first | ((try simp only [pn]) <;> omega) | fail) only [pn, pq]) <;> omega) | fail) only [pn, pq]) <;> (intros; (try simp (disch := first | ((try simp (disch := first | ((try simp only [pn]) <;> omega) | fail) only [pn, pq]) <;> omega) | fail) only [pn, pq]) <;> omega)
        · exact hJSq7
        · exact hFSq7
        · first | rfl | assumption
        · (try simp (disch := first | ((try simp (disch := first | ((try simp only [pn]) <;> omega) | fail) only [pn, pq]) <;> omega) | fail) only [pn, pq]) <;> (intros; (try simp (disch := first | ((try simp (disch := first | ((try simp only [pn]) <;> omega) | fail) only [pn, pq]) <;> omega) | fail) only [pn, pq]) <;> omega)
  · try simp (disch := first | ((try simp (disch := first | ((try simp only [pn]) <;> omega) | fail) only [pn, pq]) <;> omega) | fail) only [pn, pq] at c6
    exact hq _ _ hJu3 hFu3 
theorem sf_X9_least {S : bT9} (hJ : J9 S) {a1 : Int32} {Q : Int32 → (bT9) → Prop} (hq : ∀ (r : Int32) (u : bT9), (J9 u) → F_X9_least S u → (TWW S u) → (T9P S → TDW S → ∃ k lv : Nat, UPD S k lv ∧ LSV (n9 S) (C9 S) (P9 S) (TLB (b9g_now S 9) (HBT (b9g_now S)) (NBT (b9g_now S))) lv a1 r) → Q r u) : wp_X9_least S a1 Q := by
  by_cases hyp : T9P S ∧ TDW S
  case neg => exact sj_X9_least hJ (fun r u h1 h2 => hq r u h1 h2 (fun a b => absurd ⟨a, b⟩ hyp) (fun a b => absurd ⟨a, b⟩ hyp))
  case pos =>
    obtain ⟨hP, hW⟩ := hyp
    unfold wp_X9_least
    intro S1 e1
    have hJ1 : J9 S1 := by rw [e1]; exact J9s_told hJ
    have hF1 : F_X9_least S S1 := by rw [e1]; exact ⟨rfl, rfl, rfl, rfl, rfl, rfl, rfl, rfl, rfl, rfl, rfl, rfl, rfl, rfl, rfl, rfl, rfl, rfl, rfl, rfl, rfl, rfl, rfl, rfl, rfl, rfl⟩
    refine sf_X9_laysNodes hJ1 (fun u3 hJ3 hf3 w3 => ?_)
    have hF3 : F_X9_least S u3 := ⟨(hf3.2.1).trans (hF1.1), (hf3.2.2.1).trans (hF1.2.1), (hf3.2.2.2.1).trans (hF1.2.2.1), (hf3.2.2.2.2.1).trans (hF1.2.2.2.1), (hf3.2.2.2.2.2.1).trans (hF1.2.2.2.2.1), (hf3.2.2.2.2.2.2.1).trans (hF1.2.2.2.2.2.1), (hf3.2.2.2.2.2.2.2.1).trans (hF1.2.2.2.2.2.2.1), (hf3.2.2.2.2.2.2.2.2.1).trans (hF1.2.2.2.2.2.2.2.1), (hf3.2.2.2.2.2.2.2.2.2.1).trans (hF1.2.2.2.2.2.2.2.2.1), (hf3.2.2.2.2.2.2.2.2.2.2.1).trans (hF1.2.2.2.2.2.2.2.2.2.1), (hf3.2.2.2.2.2.2.2.2.2.2.2.1).trans (hF1.2.2.2.2.2.2.2.2.2.2.1), (hf3.2.2.2.2.2.2.2.2.2.2.2.2.1).trans (hF1.2.2.2.2.2.2.2.2.2.2.2.1), (hf3.2.2.2.2.2.2.2.2.2.2.2.2.2.1).trans (hF1.2.2.2.2.2.2.2.2.2.2.2.2.1), (hf3.2.2.2.2.2.2.2.2.2.2.2.2.2.2.1).trans (hF1.2.2.2.2.2.2.2.2.2.2.2.2.2.1), (hf3.2.2.2.2.2.2.2.2.2.2.2.2.2.2.2.1).trans (hF1.2.2.2.2.2.2.2.2.2.2.2.2.2.2.1), (hf3.2.2.2.2.2.2.2.2.2.2.2.2.2.2.2.2.1).trans (hF1.2.2.2.2.2.2.2.2.2.2.2.2.2.2.2.1), (hf3.2.2.2.2.2.2.2.2.2.2.2.2.2.2.2.2.2.1).trans (hF1.2.2.2.2.2.2.2.2.2.2.2.2.2.2.2.2.1), (hf3.2.2.2.2.2.2.2.2.2.2.2.2.2.2.2.2.2.2.1).trans (hF1.2.2.2.2.2.2.2.2.2.2.2.2.2.2.2.2.2.1), (hf3.2.2.2.2.2.2.2.2.2.2.2.2.2.2.2.2.2.2.2.1).trans (hF1.2.2.2.2.2.2.2.2.2.2.2.2.2.2.2.2.2.2.1), (hf3.2.2.2.2.2.2.2.2.2.2.2.2.2.2.2.2.2.2.2.2.1).trans (hF1.2.2.2.2.2.2.2.2.2.2.2.2.2.2.2.2.2.2.2.1), (hf3.2.2.2.2.2.2.2.2.2.2.2.2.2.2.2.2.2.2.2.2.2.1).trans (hF1.2.2.2.2.2.2.2.2.2.2.2.2.2.2.2.2.2.2.2.2.1), (hf3.2.2.2.2.2.2.2.2.2.2.2.2.2.2.2.2.2.2.2.2.2.2.1).trans (hF1.2.2.2.2.2.2.2.2.2.2.2.2.2.2.2.2.2.2.2.2.2.1), (hf3.2.2.2.2.2.2.2.2.2.2.2.2.2.2.2.2.2.2.2.2.2.2.2.1).trans (hF1.2.2.2.2.2.2.2.2.2.2.2.2.2.2.2.2.2.2.2.2.2.2.1), (hf3.2.2.2.2.2.2.2.2.2.2.2.2.2.2.2.2.2.2.2.2.2.2.2.2.1).trans (hF1.2.2.2.2.2.2.2.2.2.2.2.2.2.2.2.2.2.2.2.2.2.2.2.1), (hf3.2.2.2.2.2.2.2.2.2.2.2.2.2.2.2.2.2.2.2.2.2.2.2.2.2.1).trans (hF1.2.2.2.2.2.2.2.2.2.2.2.2.2.2.2.2.2.2.2.2.2.2.2.2.1), (hf3.2.2.2.2.2.2.2.2.2.2.2.2.2.2.2.2.2.2.2.2.2.2.2.2.2.2).trans (hF1.2.2.2.2.2.2.2.2.2.2.2.2.2.2.2.2.2.2.2.2.2.2.2.2.2)⟩
    have n3 : b9g_now u3 = b9g_now S := hF3.1
    have sm : SM9 u3 S := ⟨hF3.2.1, hF3.2.2.1, n3⟩
    have w3' := w3 (by rw [e1]; exact hP) (by rw [e1]; exact hW)
    obtain ⟨R, nV, k, lv, t1, t2, t3, t4, t5, t6, t7, t8, t9, t10⟩ := TD_use hJ3 hP sm w3'
    obtain ⟨q1, q2, q3, q4⟩ := SM9_n sm
    have tw : TWW S u3 := fun _ _ => ⟨w3'.1, w3'.2.1⟩
    have up : UPD S k lv := by
      unfold UPD
      rw [q1, q2, q4] at t3 t6
      rw [n3] at t6
      exact ⟨t3, t2, t5, t6⟩
    have G := R.1
    have hm := nV.1
    rw [q1, q2, q3, q4] at G
    rw [q1, q2, q4] at hm t7 t8
    rw [q1, q2, q3, q4, sm.1] at t9
    rw [q1, q2] at t10
    have e5 := EB_le G (w := 512) (by omega)
    have ek := EB_le G (w := 64 * k) (by omega)
    have L9e : ∀ {r1 r3 : Int32} {u : Nat}, u ≤ 8 → r1.toInt = BTN (n9 u3) (C9 u3) (P9 u3) u → r3.toInt = BTE (n9 u3) (C9 u3) (P9 u3) u → (r1 + r3).toInt = BTS (n9 S) (C9 S) (P9 S) u := by
      intro r1 r3 u hu a b
      rw [q1, q2, q4] at a b
      have n5 := NB_le G (l := 7) (i := 64) (by omega) (by omega)
      have nb5 : NB (n9 S) (C9 S) (P9 S) (64 * 7 + 64) = NB (n9 S) (C9 S) (P9 S) 512 := rfl
      have nm := NB_mono (n := n9 S) (C := C9 S) (P := P9 S) (show 64 * u ≤ 512 by omega)
      have nn := NB_nn (n := n9 S) (C := C9 S) (P := P9 S) (64 * u)
      have eu := EB_le G (w := 64 * u) (by omega)
      unfold BTS
      unfold BTN at a ⊢
      unfold BTE at b ⊢
      rw [pt_add (by omega) (by omega), a, b]
    have fin : ∀ (r : Int32) (u : Nat), LSU (n9 S) (C9 S) (P9 S) lv u → (a1.toInt = 0 → r.toInt = (u : Int)) → (a1.toInt = 1 → ∃ x : Int32, x.toInt = BTS (n9 S) (C9 S) (P9 S) u ∧ r = x + TLB (b9g_now S 9) (HBT (b9g_now S)) (NBT (b9g_now S))) → (¬ (0 ≤ a1.toInt ∧ a1.toInt ≤ 1) → r.toInt = -1) → Q r u3 := fun r u b0 b1 b2 b3 => hq r u3 hJ3 hF3 tw (fun _ _ => ⟨k, lv, up, u, b0, b1, b2, b3⟩)
    have ext : ∃ u : Nat, LSU (n9 S) (C9 S) (P9 S) lv u := LSU_ex _
    refine sf_X9_isIn hJ3.1 (fun r4 _ h4 => ⟨fun c => ?_, fun c => ?_⟩)
    · have c0 : ¬ r4.toInt = 0 := fun z => c (Int32.toInt_inj.mp z)
      rw [pl_0, pl_1] at h4
      unfold wp_X9_least_25
      refine ⟨fun q x1 x2 x3 V => ∃ u i : Nat, u3 = V ∧ a1 = x1 ∧ x2.toInt = (u : Int) ∧ x3.toInt = (i : Int) ∧ 1 ≤ i ∧ i ≤ lv + 1 ∧ u < i ∧ (∀ j, j < u → BTS (n9 S) (C9 S) (P9 S) u < BTS (n9 S) (C9 S) (P9 S) j) ∧ (∀ j, j < i → BTS (n9 S) (C9 S) (P9 S) u ≤ BTS (n9 S) (C9 S) (P9 S) j) ∧ q = 10 - i, ⟨_, 0, 1, rfl, rfl, rfl, rfl, by omega, by omega, by omega, fun j hj => by omega, fun j hj => by rw [show j = 0 by omega]; exact Int.le_refl _, rfl⟩, ?_⟩
      rintro q x1 x2 x3 V ⟨u, i, rfl, rfl, e2, e3, i1, i2, hui, hmin, hall, hq'⟩
      suffices H : ∀ B : Int32 → Int32 → Int32 → bT9 → Prop, (∀ (v : Int32) (u' : Nat), v.toInt = (u' : Int) → u' < i + 1 → (∀ j, j < u' → BTS (n9 S) (C9 S) (P9 S) u' < BTS (n9 S) (C9 S) (P9 S) j) → (∀ j, j < i + 1 → BTS (n9 S) (C9 S) (P9 S) u' ≤ BTS (n9 S) (C9 S) (P9 S) j) → i ≤ lv → B a1 v (x3 + 1) u3) → wp_X9_least_25b u3 a1 x2 x3 Q B from H _ (fun v u' t1 t2 t3 t4 t5 => ⟨10 - (i + 1), by omega, u', i + 1, rfl, rfl, t1, by rw [pt_add (by rw [pl_1]; omega) (by rw [pl_1]; omega), pl_1, e3]; omega, by omega, by omega, t2, t3, t4, rfl⟩)
      intro B hB
      have nz : ∀ {m : Int32}, ¬ a1 = m → ¬ a1.toInt = m.toInt := fun h z => h (Int32.toInt_inj.mp z)
      unfold wp_X9_least_25b
      refine ⟨fun c => ?_, fun c => ?_⟩
      · simp only [pn] at c
        have L : LSU (n9 S) (C9 S) (P9 S) lv u := ⟨by omega, hmin, fun j hj => hall j (by omega)⟩
        refine ⟨fun c0 => ?_, fun c0 => fin x2 u L (fun _ => e2) (fun z => ?_) (fun z => absurd ?_ z)⟩
        · refine fx9_bitsAbove R nV e2 (by omega) (fun r1 h1 => fx9_bitsBelow R nV e2 (by omega) (fun r3 h3 => fx9_tailBits ?_))
          rw [n3]
          exact fin _ u L (fun z => absurd z (nz c0)) (fun _ => ⟨r1 + r3, L9e (by omega) h1 h3, rfl⟩) (fun z => by omega)
        · rw [c0] at z
          exact absurd z (by decide)
        · rw [c0]
          decide
      · simp only [pn] at c
        refine fx9_bitsAbove R nV e3 (by omega) (fun r7 h7 => fx9_bitsBelow R nV e3 (by omega) (fun r9 h9 => fx9_bitsAbove R nV e2 (by omega) (fun r11 h11 => fx9_bitsBelow R nV e2 (by omega) (fun r13 h13 => ?_))))
        have h5' := L9e (by omega) h7 h9
        have h7' := L9e (by omega) h11 h13
        unfold wp_X9_least_60
        refine ⟨fun d => hB x2 u e2 (by omega) hmin (fun j hj => ?_) (by omega), fun d => hB x3 i e3 (by omega) (fun j hj => ?_) (fun j hj => ?_) (by omega)⟩
        · simp only [pn] at d
          by_cases z : j = i
          · rw [z]; omega
          · exact hall j (by omega)
        · simp only [pn] at d
          have := hall j hj
          omega
        · simp only [pn] at d
          by_cases z : j = i
          · rw [z]; exact Int.le_refl _
          · have := hall j (by omega)
            omega
    · have c0 : r4.toInt = 0 := by rw [c]; rfl
      rw [pl_0, pl_1] at h4
      obtain ⟨u, hu⟩ := ext
      exact fin _ u hu (fun z => by omega) (fun z => by omega) (fun _ => rfl)
