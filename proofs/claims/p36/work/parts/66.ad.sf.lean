def F_X8_stormRange (S u : bT8) : Prop := (b2g_told (b8g_now u)) = (b2g_told (b8g_now S)) ∧ (b2g_built (b8g_now u)) = (b2g_built (b8g_now S)) ∧ (b2g_questions (b8g_now u)) = (b2g_questions (b8g_now S)) ∧ (b8g_kept u) = (b8g_kept S) ∧ (b8g_isKept u) = (b8g_isKept S) ∧ (b8g_leaves u) = (b8g_leaves S) ∧ (b8g_tree u) = (b8g_tree S) ∧ (b8g_tuning u) = (b8g_tuning S) ∧ (b8g_trial u) = (b8g_trial S) ∧ (b8g_tape u) = (b8g_tape S) ∧ (b8g_text u) = (b8g_text S) ∧ (b8g_chosenRow u) = (b8g_chosenRow S)
theorem sf_X8_stormRange {S : bT8} (hJ : J8 S) {a1 : Int32} {a2 : Int32} {a3 : Int32} {Q : Int32 → (bT8) → Prop} (hq : ∀ (r : Int32) (u : bT8), (J8 u) → F_X8_stormRange S u → (b2g_draws (b8g_now u) = filR a1 a2 a3 (b2g_draws (b8g_now S))) → (LVO (b8g_leaves S) → (1 ≤ a1.toInt ∧ a1.toInt ≤ 200 ∧ 1 ≤ a2.toInt ∧ a2.toInt ≤ 8 ∧ 0 ≤ a3.toInt ∧ a3.toInt ≤ 255 → STR (fun j v => STQ (b0g_bytes (b1g_owners (b8g_leaves S))) (b0g_lengths (b1g_owners (b8g_leaves S))) (b0g_count (b1g_owners (b8g_leaves S))).toInt (b1g_realBits (b8g_leaves S)) (KN (b3g_values (b2g_told (b8g_now S)) 4) a2 (b2g_draws (b8g_now S)) j) (NN a2 (b2g_draws (b8g_now S)) j) a3 v) 3 a1.toInt.toNat (b2g_answers (b8g_now S)) (b2g_answers (b8g_now u)) r) ∧ (¬ (1 ≤ a1.toInt ∧ a1.toInt ≤ 200 ∧ 1 ≤ a2.toInt ∧ a2.toInt ≤ 8 ∧ 0 ≤ a3.toInt ∧ a3.toInt ≤ 255) → r.toInt = -1 ∧ u = S)) → Q r u) : wp_X8_stormRange S a1 a2 a3 Q := by
  unfold wp_X8_stormRange
  have bad : ¬ (1 ≤ a1.toInt ∧ a1.toInt ≤ 200 ∧ 1 ≤ a2.toInt ∧ a2.toInt ≤ 8 ∧ 0 ≤ a3.toInt ∧ a3.toInt ≤ 255) → Q (-1) S := by
    intro h
    exact hq _ _ hJ ⟨rfl, rfl, rfl, rfl, rfl, rfl, rfl, rfl, rfl, rfl, rfl, rfl⟩ (filR_0 h).symm (fun _ => ⟨fun g => absurd g h, fun _ => ⟨rfl, rfl⟩⟩)
  refine ⟨fun c => bad ?_, fun c => ⟨fun d => bad ?_, fun d => sf_X8_isLength (fun r1 hz h1 => ⟨fun g => bad ?_, fun g => ⟨fun k => bad ?_, fun k => ⟨fun l => ?_, fun l => bad ?_⟩⟩⟩)⟩⟩
  · simp only [pn] at c; omega
  · simp only [pn] at d; omega
  · simp only [pn] at g; omega
  · simp only [pn] at k; omega
  rotate_left
  · simp only [pn] at l; omega
  simp only [pn] at c d g k l
  have hok : 1 ≤ a1.toInt ∧ a1.toInt ≤ 200 ∧ 1 ≤ a2.toInt ∧ a2.toInt ≤ 8 ∧ 0 ≤ a3.toInt ∧ a3.toInt ≤ 255 := by omega
  unfold wp_X8_stormRange_38
  refine ⟨fun n x1 x2 x3 x4 x5 V => x1 = a1 ∧ x2 = a2 ∧ x3 = a3 ∧ 0 ≤ x5.toInt ∧ x5.toInt ≤ a1.toInt ∧ J8 V ∧ F_X8_stormRange S V ∧ b2g_draws (b8g_now V) = stpN a2 x5.toInt.toNat (b2g_draws (b8g_now S)) ∧ (LVO (b8g_leaves S) → STR (fun j v => STQ (b0g_bytes (b1g_owners (b8g_leaves S))) (b0g_lengths (b1g_owners (b8g_leaves S))) (b0g_count (b1g_owners (b8g_leaves S))).toInt (b1g_realBits (b8g_leaves S)) (KN (b3g_values (b2g_told (b8g_now S)) 4) a2 (b2g_draws (b8g_now S)) j) (NN a2 (b2g_draws (b8g_now S)) j) a3 v) 3 x5.toInt.toNat (b2g_answers (b8g_now S)) (b2g_answers (b8g_now V)) x4) ∧ n = (a1.toInt - x5.toInt).toNat, ⟨_, rfl, rfl, rfl, by decide, by rw [pl_0]; omega, hJ, ⟨rfl, rfl, rfl, rfl, rfl, rfl, rfl, rfl, rfl, rfl, rfl, rfl⟩, by rw [z0, stpN0], fun _ => by rw [z0]; exact ⟨rfl, rfl⟩, rfl⟩, ?_⟩
  rintro n x1 x2 x3 x4 x5 V ⟨e1, e2, e2', h0, h1', hJV, hFV, hd, hC, hn⟩
  unfold wp_X8_stormRange_38b
  rw [e1, e2, e2']
  refine ⟨fun c2 => ?_, fun c2 => ?_⟩
  · simp only [pn] at c2
    have ex : x5.toInt = a1.toInt := by omega
    rw [ex] at hd hC
    exact hq _ _ hJV hFV (hd.trans (filR_1 hok).symm) (fun o => ⟨fun _ => hC o, fun h => absurd hok h⟩)
  simp only [pn] at c2
  have x5' : (x5 + 1).toInt = x5.toInt + 1 := by rw [pt_add (by rw [pl_1]; omega) (by rw [pl_1]; omega), pl_1]
  have ht : b2g_told (b8g_now V) = b2g_told (b8g_now S) := hFV.1
  have hl : b8g_leaves V = b8g_leaves S := hFV.2.2.2.2.2.1
  refine sf_X2_draw (J8g_now hJV) (fun r1 u2 hJ2 hf2 d2 q2 => ?_)
  intro S3 e3
  have n3 : b8g_now S3 = u2 := by rw [e3]
  have hJ3 : J8 S3 := by rw [e3]; exact J8s_now hJV hJ2
  rw [n3]
  have er : r1 + 1 = NN a2 (b2g_draws (b8g_now S)) x5.toInt.toNat := by
    rw [q2, d2, hd, Int32.add_comm]
    rfl
  have rN := NN_rng (m := a2) (s := b2g_draws (b8g_now S)) (i := x5.toInt.toNat) (by omega) (by omega)
  refine sf_X2_drawBytes hJ2 (fun r4 u5 hJ5 hf5 d5 k5 => ?_)
  intro S6 e6
  have n6 : b8g_now S6 = u5 := by rw [e6]
  have l6 : b8g_leaves S6 = b8g_leaves S := by rw [e6, e3]; exact hl
  have t5 : b2g_told u5 = b2g_told (b8g_now V) := (hf5.1).trans (hf2.1)
  have t2 : b2g_told u2 = b2g_told (b8g_now V) := hf2.1
  have b5 : b2g_built u5 = b2g_built (b8g_now V) := (hf5.2.1).trans (hf2.2.1)
  have c5 : b2g_questions u5 = b2g_questions (b8g_now V) := (hf5.2.2.1).trans (hf2.2.2.1)
  have a5 : b2g_answers u5 = b2g_answers (b8g_now V) := (hf5.2.2.2).trans (hf2.2.2.2)
  have hJ6 : J8 S6 := by rw [e6]; exact J8s_now hJ3 hJ5
  have ek : r4 = KN (b3g_values (b2g_told (b8g_now S)) 4) a2 (b2g_draws (b8g_now S)) x5.toInt.toNat := by
    rw [k5 (by rw [er]; omega) (by rw [er]; omega), er, d2, hd, t2, ht]
    rfl
  have d5' : b2g_draws u5 = stpN a2 (x5 + 1).toInt.toNat (b2g_draws (b8g_now S)) := by
    rw [d5, d2, hd, stpN_s h0 (by omega), er]
    rfl
  rw [er]
  obtain ⟨N, hN⟩ : ∃ N : Int32, NN a2 (b2g_draws (b8g_now S)) x5.toInt.toNat = N := ⟨_, rfl⟩
  rw [hN] at rN ⊢
  obtain ⟨L, hL⟩ : ∃ L : Int32, N - 1 = L := ⟨_, rfl⟩
  have eL : L.toInt = N.toInt - 1 := by rw [← hL, pt_sub (by rw [pl_1]; omega) (by rw [pl_1]; omega), pl_1]
  rw [hL]
  refine fx_octetAt (fun r7 g7 _ => fx_front2 (fun r9 g9 g90 => fx_octetTo (fun r11 g11 => ?_)))
  obtain ⟨o, ho⟩ : ∃ o : Int32, (if (255 : Int32) < (r7 + a3) then (255 : Int32) else (r7 + a3)) = o := ⟨_, rfl⟩
  rw [ho] at g11
  have r7r := OCT_rng r4 (i := L) (by omega) (by omega)
  rw [← g7 (by omega) (by omega)] at r7r
  have ea : (r7 + a3).toInt = r7.toInt + a3.toInt := pt_add (by omega) (by omega)
  have eo : o.toInt = min ((OCT r4 L).toInt + a3.toInt) 255 := by
    rw [← g7 (by omega) (by omega), ← ho]
    by_cases z : (255 : Int32) < r7 + a3
    · rw [if_pos z]
      simp only [pn] at z
      rw [ea] at z
      rw [show ((255 : Int32)).toInt = 255 from rfl]
      omega
    · rw [if_neg z]
      simp only [pn] at z
      rw [ea] at z ⊢
      omega
  have et := to_cls (k := r4) (w := a3) (n := N.toInt.toNat) (by omega) (by omega) (by omega) (by omega) (by omega) g9 g90 eo (g11 (by omega) (by omega))
  refine sf_X8_askRange hJ6 (fun r13 u14 hJ8 hf8 h7 h8 => ?_)
  have hF8 : F_X8_stormRange S u14 := by
    have q1 : b2g_told (b8g_now u14) = b2g_told (b8g_now S) := (hf8.1).trans (by rw [n6, t5]; exact ht)
    have q2 : b2g_built (b8g_now u14) = b2g_built (b8g_now S) := (hf8.2.1).trans (by rw [n6, b5]; exact hFV.2.1)
    have q3 : b2g_questions (b8g_now u14) = b2g_questions (b8g_now S) := (hf8.2.2.1).trans (by rw [n6, c5]; exact hFV.2.2.1)
    exact ⟨q1, q2, q3, (hf8.2.2.2.2.1).trans (by rw [e6, e3]; exact hFV.2.2.2.1), (hf8.2.2.2.2.2.1).trans (by rw [e6, e3]; exact hFV.2.2.2.2.1), (hf8.2.2.2.2.2.2.1).trans l6, (hf8.2.2.2.2.2.2.2.1).trans (by rw [e6, e3]; exact hFV.2.2.2.2.2.2.1), (hf8.2.2.2.2.2.2.2.2.1).trans (by rw [e6, e3]; exact hFV.2.2.2.2.2.2.2.1), (hf8.2.2.2.2.2.2.2.2.2.1).trans (by rw [e6, e3]; exact hFV.2.2.2.2.2.2.2.2.1), (hf8.2.2.2.2.2.2.2.2.2.2.1).trans (by rw [e6, e3]; exact hFV.2.2.2.2.2.2.2.2.2.1), (hf8.2.2.2.2.2.2.2.2.2.2.2.1).trans (by rw [e6, e3]; exact hFV.2.2.2.2.2.2.2.2.2.2.1), (hf8.2.2.2.2.2.2.2.2.2.2.2.2).trans (by rw [e6, e3]; exact hFV.2.2.2.2.2.2.2.2.2.2.2)⟩
  have d8 : b2g_draws (b8g_now u14) = stpN a2 (x5 + 1).toInt.toNat (b2g_draws (b8g_now S)) := (hf8.2.2.2.1).trans (by rw [n6]; exact d5')
  rw [l6] at h7
  rw [n6, a5] at h8
  have hv : LVO (b8g_leaves S) → STQ (b0g_bytes (b1g_owners (b8g_leaves S))) (b0g_lengths (b1g_owners (b8g_leaves S))) (b0g_count (b1g_owners (b8g_leaves S))).toInt (b1g_realBits (b8g_leaves S)) (KN (b3g_values (b2g_told (b8g_now S)) 4) a2 (b2g_draws (b8g_now S)) x5.toInt.toNat) (NN a2 (b2g_draws (b8g_now S)) x5.toInt.toNat) a3 r13 := by
    intro o'
    rw [← ek, hN]
    exact ⟨_, et, h7 o' rN.1 rN.2 rN.1 rN.2⟩
  have next : ∀ y4 : Int32, y4 = x4 + IS2 r13 → wp_X8_stormRange_127 u14 a1 a2 a3 y4 x5 Q (fun x1 x2 x3 x4 x5 S_1 => ∃ n2 : Nat, n2 < n ∧ x1 = a1 ∧ x2 = a2 ∧ x3 = a3 ∧ 0 ≤ x5.toInt ∧ x5.toInt ≤ a1.toInt ∧ J8 S_1 ∧ F_X8_stormRange S S_1 ∧ b2g_draws (b8g_now S_1) = stpN a2 x5.toInt.toNat (b2g_draws (b8g_now S)) ∧ (LVO (b8g_leaves S) → STR (fun j v => STQ (b0g_bytes (b1g_owners (b8g_leaves S))) (b0g_lengths (b1g_owners (b8g_leaves S))) (b0g_count (b1g_owners (b8g_leaves S))).toInt (b1g_realBits (b8g_leaves S)) (KN (b3g_values (b2g_told (b8g_now S)) 4) a2 (b2g_draws (b8g_now S)) j) (NN a2 (b2g_draws (b8g_now S)) j) a3 v) 3 x5.toInt.toNat (b2g_answers (b8g_now S)) (b2g_answers (b8g_now S_1)) x4) ∧ n2 = (a1.toInt - x5.toInt).toNat) := by
    intro y4 hy
    unfold wp_X8_stormRange_127
    refine ⟨_, ?_, rfl, rfl, rfl, by omega, by omega, hJ8, hF8, d8, fun o' => STR_step h0 (by omega) (hC o') (hv o') h8 hy, rfl⟩
    omega
  exact ⟨fun e => next x4 (by rw [IS2_n e, Int32.add_zero]), fun e => next (x4 + 1) (by rw [IS2_y e])⟩
theorem sf_X8_account {S : bT8} (hJ : J8 S) {a1 : Int32} {Q : Int32 → Prop} (hq : ∀ r : Int32, ((0 ≤ a1.toInt ∧ a1.toInt ≤ 5 → r = b2g_answers (b8g_now S) a1.toNatClampNeg) ∧ (¬ (0 ≤ a1.toInt ∧ a1.toInt ≤ 5) → r.toInt = -1)) → Q r) : wp_X8_account S a1 Q := by
  unfold wp_X8_account
  refine ⟨fun c => hq _ ⟨fun h => ?_, fun _ => rfl⟩, fun c => ⟨fun d => hq _ ⟨fun h => ?_, fun _ => rfl⟩, fun d => ?_⟩⟩
  · simp only [pn] at c; omega
  · simp only [pn] at d; omega
  · simp only [pn] at c d
    exact fx_at6 (by omega) (by omega) (hq _ ⟨fun _ => rfl, fun h => by omega⟩)
theorem sf_X8_newOnesThatMayBe {S : bT8} (hJ : J8 S) {Q : Int32 → Prop} (hq : ∀ r : Int32, (LVO (b8g_leaves S) ∧ SRT (b0g_bytes (b3g_members (b2g_told (b8g_now S)))) (b0g_lengths (b3g_members (b2g_told (b8g_now S)))) (b0g_count (b3g_members (b2g_told (b8g_now S)))).toInt → r.toInt = CTP (fun i => VRD (b0g_bytes (b1g_owners (b8g_leaves S))) (b0g_lengths (b1g_owners (b8g_leaves S))) (b0g_count (b1g_owners (b8g_leaves S))).toInt (b1g_realBits (b8g_leaves S)) (b1g_salt (b8g_leaves S)) (b1g_hashBits (b8g_leaves S)) (b0g_bytes (b3g_members (b2g_told (b8g_now S))) i) (b0g_lengths (b3g_members (b2g_told (b8g_now S))) i) 2) (b0g_count (b3g_members (b2g_told (b8g_now S)))).toInt.toNat) → Q r) : wp_X8_newOnesThatMayBe S Q := by
  have hM := J3g_members (J2g_told (J8g_now hJ))
  have j1 := J0g_count hM
  unfold wp_X8_newOnesThatMayBe wp_X8_newOnesThatMayBe_15
  refine ⟨fun n x2 x3 => 0 ≤ x3.toInt ∧ x3.toInt ≤ (b0g_count (b3g_members (b2g_told (b8g_now S)))).toInt ∧ 0 ≤ x2.toInt ∧ x2.toInt ≤ x3.toInt ∧ ((LVO (b8g_leaves S) ∧ SRT (b0g_bytes (b3g_members (b2g_told (b8g_now S)))) (b0g_lengths (b3g_members (b2g_told (b8g_now S)))) (b0g_count (b3g_members (b2g_told (b8g_now S)))).toInt) → x2.toInt = CTP (fun i => (VRD (b0g_bytes (b1g_owners (b8g_leaves S))) (b0g_lengths (b1g_owners (b8g_leaves S))) (b0g_count (b1g_owners (b8g_leaves S))).toInt (b1g_realBits (b8g_leaves S)) (b1g_salt (b8g_leaves S)) (b1g_hashBits (b8g_leaves S)) (b0g_bytes (b3g_members (b2g_told (b8g_now S))) i) (b0g_lengths (b3g_members (b2g_told (b8g_now S))) i) 2)) x3.toInt.toNat) ∧ n = ((b0g_count (b3g_members (b2g_told (b8g_now S)))).toInt - x3.toInt).toNat, ⟨_, by decide, by rw [pl_0]; exact j1.1, by decide, by decide, fun _ => rfl, rfl⟩, ?_⟩
  rintro n x2 x3 ⟨h0, h1, w0, w1, hI, hn⟩
  unfold wp_X8_newOnesThatMayBe_15b
  refine ⟨fun c => hq _ (fun o => ?_), fun c => ?_⟩
  · simp only [pn] at c
    rw [hI o, show x3.toInt.toNat = (b0g_count (b3g_members (b2g_told (b8g_now S)))).toInt.toNat by omega]
  simp only [pn] at c
  have cx := pt_clamp h0
  have x3' : (x3 + 1).toInt = x3.toInt + 1 := by rw [pt_add (by rw [pl_1]; omega) (by rw [pl_1]; omega), pl_1]
  have x2' : (x2 + 1).toInt = x2.toInt + 1 := by rw [pt_add (by rw [pl_1]; omega) (by rw [pl_1]; omega), pl_1]
  refine fx_bytesAt hM (fun r1 b1 _ => fx_lengthAt hM (fun r3 b3 _ => sf_X1_verdictOf (J8g_leaves hJ) (fun r5 p0 p2 h5 => ?_)))
  have e1 := b1 x3.toNatClampNeg (by omega) (by omega)
  have e3 := b3 x3.toNatClampNeg (by omega) (by omega)
  rw [e1, e3] at h5
  unfold wp_X8_newOnesThatMayBe_47
  refine ⟨fun d => ⟨_, ?_, by omega, by omega, by omega, by omega, fun o => ?_, rfl⟩, fun d => ⟨_, ?_, by omega, by omega, by omega, by omega, fun o => ?_, rfl⟩⟩
  · omega
  · have l := o.2.2 x3.toNatClampNeg (by omega)
    have v := h5 o.1 l.1 l.2
    have np : ¬ (VRD (b0g_bytes (b1g_owners (b8g_leaves S))) (b0g_lengths (b1g_owners (b8g_leaves S))) (b0g_count (b1g_owners (b8g_leaves S))).toInt (b1g_realBits (b8g_leaves S)) (b1g_salt (b8g_leaves S)) (b1g_hashBits (b8g_leaves S)) (b0g_bytes (b3g_members (b2g_told (b8g_now S))) x3.toNatClampNeg) (b0g_lengths (b3g_members (b2g_told (b8g_now S))) x3.toNatClampNeg) 2) := fun h => d (Int32.toInt_inj.mp ((VRD_one o.1.2.1 o.1.2.2.1 o.1.2.2.2.1 o.1.2.2.2.2 v h).trans pl_2.symm))
    rw [x3', show (x3.toInt + 1).toNat = x3.toNatClampNeg + 1 by omega, CTP_n (P := fun i => (VRD (b0g_bytes (b1g_owners (b8g_leaves S))) (b0g_lengths (b1g_owners (b8g_leaves S))) (b0g_count (b1g_owners (b8g_leaves S))).toInt (b1g_realBits (b8g_leaves S)) (b1g_salt (b8g_leaves S)) (b1g_hashBits (b8g_leaves S)) (b0g_bytes (b3g_members (b2g_told (b8g_now S))) i) (b0g_lengths (b3g_members (b2g_told (b8g_now S))) i) 2)) np, hI o, show x3.toInt.toNat = x3.toNatClampNeg by omega]
  · omega
  · have l := o.2.2 x3.toNatClampNeg (by omega)
    have v := h5 o.1 l.1 l.2
    rw [d, pl_2] at v
    rw [x3', show (x3.toInt + 1).toNat = x3.toNatClampNeg + 1 by omega, CTP_y (P := fun i => (VRD (b0g_bytes (b1g_owners (b8g_leaves S))) (b0g_lengths (b1g_owners (b8g_leaves S))) (b0g_count (b1g_owners (b8g_leaves S))).toInt (b1g_realBits (b8g_leaves S)) (b1g_salt (b8g_leaves S)) (b1g_hashBits (b8g_leaves S)) (b0g_bytes (b3g_members (b2g_told (b8g_now S))) i) (b0g_lengths (b3g_members (b2g_told (b8g_now S))) i) 2)) v, x2', hI o, show x3.toInt.toNat = x3.toNatClampNeg by omega]
theorem sf_X8_since {S : bT8} (hJ : J8 S) {a1 : Int32} {Q : Int32 → Prop} (hq : ∀ r : Int32, (LVO (b8g_leaves S) ∧ SRT (b0g_bytes (b3g_members (b2g_told (b8g_now S)))) (b0g_lengths (b3g_members (b2g_told (b8g_now S)))) (b0g_count (b3g_members (b2g_told (b8g_now S)))).toInt → (a1.toInt = 0 → r.toInt = CTP (NIN (b0g_bytes (b3g_members (b2g_told (b8g_now S)))) (b0g_lengths (b3g_members (b2g_told (b8g_now S)))) (b0g_bytes (b1g_owners (b8g_leaves S))) (b0g_lengths (b1g_owners (b8g_leaves S))) (b0g_count (b1g_owners (b8g_leaves S))).toInt) (b0g_count (b3g_members (b2g_told (b8g_now S)))).toInt.toNat) ∧ (a1.toInt = 1 → r.toInt = CTP (fun i => VRD (b0g_bytes (b1g_owners (b8g_leaves S))) (b0g_lengths (b1g_owners (b8g_leaves S))) (b0g_count (b1g_owners (b8g_leaves S))).toInt (b1g_realBits (b8g_leaves S)) (b1g_salt (b8g_leaves S)) (b1g_hashBits (b8g_leaves S)) (b0g_bytes (b3g_members (b2g_told (b8g_now S))) i) (b0g_lengths (b3g_members (b2g_told (b8g_now S))) i) 2) (b0g_count (b3g_members (b2g_told (b8g_now S)))).toInt.toNat) ∧ (a1.toInt = 2 → r.toInt = CTP (NIN (b0g_bytes (b1g_owners (b8g_leaves S))) (b0g_lengths (b1g_owners (b8g_leaves S))) (b0g_bytes (b3g_members (b2g_told (b8g_now S)))) (b0g_lengths (b3g_members (b2g_told (b8g_now S)))) (b0g_count (b3g_members (b2g_told (b8g_now S)))).toInt) (b0g_count (b1g_owners (b8g_leaves S))).toInt.toNat) ∧ (¬ (0 ≤ a1.toInt ∧ a1.toInt ≤ 2) → r.toInt = -1)) → Q r) : wp_X8_since S a1 Q := by
  have hM := J3g_members (J2g_told (J8g_now hJ))
  have hO := J1g_owners (J8g_leaves hJ)
  unfold wp_X8_since
  refine ⟨fun c => hq _ (fun o => ⟨fun h => ?_, fun h => ?_, fun h => ?_, fun _ => rfl⟩), fun c => sf_X0_notIn (S := ((b3g_members (b2g_told (b8g_now S))), (b1g_owners (b8g_leaves S)))) ⟨hM, hO⟩ (fun r1 h1 => hq _ (fun o => ⟨fun _ => h1 ⟨o.2, o.1.2.1⟩, fun h => ?_, fun h => ?_, fun h => ?_⟩)), fun c => sf_X8_newOnesThatMayBe hJ (fun r3 h3 => hq _ (fun o => ⟨fun h => ?_, fun _ => h3 o, fun h => ?_, fun h => ?_⟩)), fun c => sf_X0_notIn (S := ((b1g_owners (b8g_leaves S)), (b3g_members (b2g_told (b8g_now S))))) ⟨hO, hM⟩ (fun r5 h5 => hq _ (fun o => ⟨fun h => ?_, fun h => ?_, fun _ => h5 ⟨o.1.2.1, o.2⟩, fun h => ?_⟩))⟩
  · omega
  · omega
  · omega
  · rw [c, pl_0] at h; omega
  · rw [c, pl_0] at h; omega
  · rw [c, pl_0] at h; omega
  · rw [c, pl_1] at h; omega
  · rw [c, pl_1] at h; omega
  · rw [c, pl_1] at h; omega
  · rw [c, pl_2] at h; omega
  · rw [c, pl_2] at h; omega
  · rw [c, pl_2] at h; omega
def F_X8_tellFilter (S u : bT8) : Prop := (b8g_now u) = (b8g_now S) ∧ (b8g_kept u) = (b8g_kept S) ∧ (b8g_isKept u) = (b8g_isKept S) ∧ (b8g_leaves u) = (b8g_leaves S) ∧ (b8g_tree u) = (b8g_tree S) ∧ (b8g_tuning u) = (b8g_tuning S) ∧ (b8g_trial u) = (b8g_trial S) ∧ (b8g_tape u) = (b8g_tape S) ∧ (b8g_chosenRow u) = (b8g_chosenRow S)
set_option maxRecDepth 20000 in
set_option maxHeartbeats 8000000 in
theorem sf_X8_tellFilter {S : bT8} (hJ : J8 S) {Q : (bT8) → Prop} (hq : ∀ u : bT8, (J8 u) → F_X8_tellFilter S u → Q u) : wp_X8_tellFilter S Q := by
  unfold wp_X8_tellFilter
  have hFS : F_X8_tellFilter S S := ⟨rfl, rfl, rfl, rfl, rfl, rfl, rfl, rfl, rfl⟩
  have jf1 := J6g_levels (J8g_tree hJ)
  refine ⟨fun n x1q1 Sq1 => (J8 Sq1) ∧ (F_X8_tellFilter S Sq1) ∧ (0 ≤ (x1q1).toInt) ∧ n = (((b6g_levels (b8g_tree Sq1))).toInt + 1 - (x1q1).toInt).toNat, ⟨_, hJ, hFS, (by (try simp (disch := first | ((try simp (disch := first | ((try simp only [pn]) <;> omega) | fail) only [pn, pq]) <;> omega) | fail) only [pn, pq]) <;> (intros; (try simp (disch := first | ((try simp (disch := first | ((try simp only [pn]) <;> omega) | fail) only [pn, pq]) <;> omega) | fail) only [pn, pq]) <;> omega)), rfl⟩, ?_⟩
  rintro n2 x1q1 Sq1 ⟨hJSq1, hFSq1, hiq1_0, hn2⟩
  have rgx1q1 := pt_rg x1q1
  unfold wp_X8_tellFilter_2b
  have je3 : ((b6g_levels (b8g_tree Sq1))).toInt = ((b6g_levels (b8g_tree S))).toInt := congrArg (fun z => ((b6g_levels z)).toInt) hFSq1.2.2.2.2.1
  have je5 : ((b6g_upper (b8g_tree Sq1))).toInt = ((b6g_upper (b8g_tree S))).toInt := congrArg (fun z => ((b6g_upper z)).toInt) hFSq1.2.2.2.2.1
  refine ⟨fun c3 => ?_, fun c3 => ?_⟩
  · try simp (disch := first | ((try simp (disch := first | ((try simp only [pn]) <;> omega) | fail) only [pn, pq]) <;> omega) | fail) only [pn, pq] at c3
    refine sf_X5_put (J8g_text hJSq1) (fun u5 hJu5 hfu5  => ?_)
    intro S6 eS6
    have hGS6 : F_X8_tellFilter S S6 := by
      rw [eS6]
      exact ⟨hFSq1.1, hFSq1.2.1, hFSq1.2.2.1, hFSq1.2.2.2.1, hFSq1.2.2.2.2.1, hFSq1.2.2.2.2.2.1, hFSq1.2.2.2.2.2.2.1, hFSq1.2.2.2.2.2.2.2.1, hFSq1.2.2.2.2.2.2.2.2⟩
    have hJS6 : J8 S6 := by rw [eS6]; exact (J8s_text hJSq1 hJu5)
    have hFS6 : F_X8_tellFilter S S6 := hGS6
    have je7 : ((b6g_levels (b8g_tree S6))).toInt = ((b6g_levels (b8g_tree S))).toInt := congrArg (fun z => ((b6g_levels z)).toInt) hFS6.2.2.2.2.1
    have je9 : ((b6g_upper (b8g_tree S6))).toInt = ((b6g_upper (b8g_tree S))).toInt := congrArg (fun z => ((b6g_upper z)).toInt) hFS6.2.2.2.2.1
    exact hq _ hJS6 hFS6 
  · try simp (disch := first | ((try simp (disch := first | ((try simp only [pn]) <;> omega) | fail) only [pn, pq]) <;> omega) | fail) only [pn, pq] at c3
    refine ⟨fun c7 => ?_, fun c7 => ?_⟩
    · try simp (disch := first | ((try simp (disch := first | ((try simp only [pn]) <;> omega) | fail) only [pn, pq]) <;> omega) | fail) only [pn, pq] at c7
      unfold wp_X8_tellFilter_26
      refine sf_X8_at (by decide) (fun r8 hr8_0 => ?_)
      have rgr8 := pt_rg r8
      try simp (disch := first | ((try simp (disch := first | ((try simp only [pn]) <;> omega) | fail) only [pn, pq]) <;> omega) | fail) only [pn, pq] at hr8_0
      refine sf_X8_at (by decide) (fun r10 hr10_0 => ?_)
      have rgr10 := pt_rg r10
      try simp (disch := first | ((try simp (disch := first | ((try simp only [pn]) <;> omega) | fail) only [pn, pq]) <;> omega) | fail) only [pn, pq] at hr10_0
      refine ⟨fun c12 => ?_, fun c12 => ?_⟩
      · try simp (disch := first | ((try simp (disch := first | ((try simp only [pn]) <;> omega) | fail) only [pn, pq]) <;> omega) | fail) only [pn, pq] at c12
        unfold wp_X8_tellFilter_74
        refine sf_X5_put (J8g_text hJSq1) (fun u14 hJu14 hfu14  => ?_)
        intro S15 eS15
        have hGS15 : F_X8_tellFilter S S15 := by
          rw [eS15]
          exact ⟨hFSq1.1, hFSq1.2.1, hFSq1.2.2.1, hFSq1.2.2.2.1, hFSq1.2.2.2.2.1, hFSq1.2.2.2.2.2.1, hFSq1.2.2.2.2.2.2.1, hFSq1.2.2.2.2.2.2.2.1, hFSq1.2.2.2.2.2.2.2.2⟩
        have hJS15 : J8 S15 := by rw [eS15]; exact (J8s_text hJSq1 hJu14)
        have hFS15 : F_X8_tellFilter S S15 := hGS15
        have je11 : ((b6g_levels (b8g_tree S15))).toInt = ((b6g_levels (b8g_tree S))).toInt := congrArg (fun z => ((b6g_levels z)).toInt) hFS15.2.2.2.2.1
        have je13 : ((b6g_upper (b8g_tree S15))).toInt = ((b6g_upper (b8g_tree S))).toInt := congrArg (fun z => ((b6g_upper z)).toInt) hFS15.2.2.2.2.1
        refine sf_X5_putNumber (J8g_text hJS15) (fun u17 hJu17 hfu17  => ?_)
        intro S18 eS18
        have hGS18 : F_X8_tellFilter S S18 := by
          rw [eS18]
          exact ⟨hFS15.1, hFS15.2.1, hFS15.2.2.1, hFS15.2.2.2.1, hFS15.2.2.2.2.1, hFS15.2.2.2.2.2.1, hFS15.2.2.2.2.2.2.1, hFS15.2.2.2.2.2.2.2.1, hFS15.2.2.2.2.2.2.2.2⟩
        have hJS18 : J8 S18 := by rw [eS18]; exact (J8s_text hJS15 hJu17)
        have hFS18 : F_X8_tellFilter S S18 := hGS18
        have je15 : ((b6g_levels (b8g_tree S18))).toInt = ((b6g_levels (b8g_tree S))).toInt := congrArg (fun z => ((b6g_levels z)).toInt) hFS18.2.2.2.2.1
        have je17 : ((b6g_upper (b8g_tree S18))).toInt = ((b6g_upper (b8g_tree S))).toInt := congrArg (fun z => ((b6g_upper z)).toInt) hFS18.2.2.2.2.1
        refine sf_X5_put (J8g_text hJS18) (fun u20 hJu20 hfu20  => ?_)
        intro S21 eS21
        have hGS21 : F_X8_tellFilter S S21 := by
          rw [eS21]
          exact ⟨hFS18.1, hFS18.2.1, hFS18.2.2.1, hFS18.2.2.2.1, hFS18.2.2.2.2.1, hFS18.2.2.2.2.2.1, hFS18.2.2.2.2.2.2.1, hFS18.2.2.2.2.2.2.2.1, hFS18.2.2.2.2.2.2.2.2⟩
        have hJS21 : J8 S21 := by rw [eS21]; exact (J8s_text hJS18 hJu20)
        have hFS21 : F_X8_tellFilter S S21 := hGS21
        have je19 : ((b6g_levels (b8g_tree S21))).toInt = ((b6g_levels (b8g_tree S))).toInt := congrArg (fun z => ((b6g_levels z)).toInt) hFS21.2.2.2.2.1
        have je21 : ((b6g_upper (b8g_tree S21))).toInt = ((b6g_upper (b8g_tree S))).toInt := congrArg (fun z => ((b6g_upper z)).toInt) hFS21.2.2.2.2.1
        refine sf_X6_branches (J8g_tree hJS21) (fun r22  => ?_)
        have rgr22 := pt_rg r22
        refine sf_X5_putNumber (J8g_text hJS21) (fun u25 hJu25 hfu25  => ?_)
        intro S26 eS26
        have hGS26 : F_X8_tellFilter S S26 := by
          rw [eS26]
          exact ⟨hFS21.1, hFS21.2.1, hFS21.2.2.1, hFS21.2.2.2.1, hFS21.2.2.2.2.1, hFS21.2.2.2.2.2.1, hFS21.2.2.2.2.2.2.1, hFS21.2.2.2.2.2.2.2.1, hFS21.2.2.2.2.2.2.2.2⟩
        have hJS26 : J8 S26 := by rw [eS26]; exact (J8s_text hJS21 hJu25)
        have hFS26 : F_X8_tellFilter S S26 := hGS26
        have je23 : ((b6g_levels (b8g_tree S26))).toInt = ((b6g_levels (b8g_tree S))).toInt := congrArg (fun z => ((b6g_levels z)).toInt) hFS26.2.2.2.2.1
        have je25 : ((b6g_upper (b8g_tree S26))).toInt = ((b6g_upper (b8g_tree S))).toInt := congrArg (fun z => ((b6g_upper z)).toInt) hFS26.2.2.2.2.1
        refine ⟨_, ?_, ?_, ?_, ?_, rfl⟩
        · (try simp (disch := first | ((try simp (disch := first | ((try simp only [pn]) <;> omega) | fail) only [pn, pq]) <;> omega) | fail) only [pn, pq]) <;> (intros; (try simp (disch := first | ((try simp (disch := first | ((try simp only [pn]) <;> omega) | fail) only [pn, pq]) <;> omega) | fail) only [pn, pq]) <;> omega)
        · exact hJS26
        · exact hFS26
        · (try simp (disch := first | ((try simp (disch := first | ((try simp only [pn]) <;> omega) | fail) only [pn, pq]) <;> omega) | fail) only [pn, pq]) <;> (intros; (try simp (disch := first | ((try simp (disch := first | ((try simp only [pn]) <;> omega) | fail) only [pn, pq]) <;> omega) | fail) only [pn, pq]) <;> omega)
      · try simp (disch := first | ((try simp (disch := first | ((try simp only [pn]) <;> omega) | fail) only [pn, pq]) <;> omega) | fail) only [pn, pq] at c12
        unfold wp_X8_tellFilter_74
        refine sf_X5_put (J8g_text hJSq1) (fun u28 hJu28 hfu28  => ?_)
        intro S29 eS29
        have hGS29 : F_X8_tellFilter S S29 := by
          rw [eS29]
          exact ⟨hFSq1.1, hFSq1.2.1, hFSq1.2.2.1, hFSq1.2.2.2.1, hFSq1.2.2.2.2.1, hFSq1.2.2.2.2.2.1, hFSq1.2.2.2.2.2.2.1, hFSq1.2.2.2.2.2.2.2.1, hFSq1.2.2.2.2.2.2.2.2⟩
        have hJS29 : J8 S29 := by rw [eS29]; exact (J8s_text hJSq1 hJu28)
        have hFS29 : F_X8_tellFilter S S29 := hGS29
        have je27 : ((b6g_levels (b8g_tree S29))).toInt = ((b6g_levels (b8g_tree S))).toInt := congrArg (fun z => ((b6g_levels z)).toInt) hFS29.2.2.2.2.1
        have je29 : ((b6g_upper (b8g_tree S29))).toInt = ((b6g_upper (b8g_tree S))).toInt := congrArg (fun z => ((b6g_upper z)).toInt) hFS29.2.2.2.2.1
        refine sf_X5_putNumber (J8g_text hJS29) (fun u31 hJu31 hfu31  => ?_)
        intro S32 eS32
        have hGS32 : F_X8_tellFilter S S32 := by
          rw [eS32]
          exact ⟨hFS29.1, hFS29.2.1, hFS29.2.2.1, hFS29.2.2.2.1, hFS29.2.2.2.2.1, hFS29.2.2.2.2.2.1, hFS29.2.2.2.2.2.2.1, hFS29.2.2.2.2.2.2.2.1, hFS29.2.2.2.2.2.2.2.2⟩
        have hJS32 : J8 S32 := by rw [eS32]; exact (J8s_text hJS29 hJu31)
        have hFS32 : F_X8_tellFilter S S32 := hGS32
        have je31 : ((b6g_levels (b8g_tree S32))).toInt = ((b6g_levels (b8g_tree S))).toInt := congrArg (fun z => ((b6g_levels z)).toInt) hFS32.2.2.2.2.1
        have je33 : ((b6g_upper (b8g_tree S32))).toInt = ((b6g_upper (b8g_tree S))).toInt := congrArg (fun z => ((b6g_upper z)).toInt) hFS32.2.2.2.2.1
        refine sf_X5_put (J8g_text hJS32) (fun u34 hJu34 hfu34  => ?_)
        intro S35 eS35
        have hGS35 : F_X8_tellFilter S S35 := by
          rw [eS35]
          exact ⟨hFS32.1, hFS32.2.1, hFS32.2.2.1, hFS32.2.2.2.1, hFS32.2.2.2.2.1, hFS32.2.2.2.2.2.1, hFS32.2.2.2.2.2.2.1, hFS32.2.2.2.2.2.2.2.1, hFS32.2.2.2.2.2.2.2.2⟩
        have hJS35 : J8 S35 := by rw [eS35]; exact (J8s_text hJS32 hJu34)
        have hFS35 : F_X8_tellFilter S S35 := hGS35
        have je35 : ((b6g_levels (b8g_tree S35))).toInt = ((b6g_levels (b8g_tree S))).toInt := congrArg (fun z => ((b6g_levels z)).toInt) hFS35.2.2.2.2.1
        have je37 : ((b6g_upper (b8g_tree S35))).toInt = ((b6g_upper (b8g_tree S))).toInt := congrArg (fun z => ((b6g_upper z)).toInt) hFS35.2.2.2.2.1
        refine sf_X6_branches (J8g_tree hJS35) (fun r36  => ?_)
        have rgr36 := pt_rg r36
        refine sf_X5_putNumber (J8g_text hJS35) (fun u39 hJu39 hfu39  => ?_)
        intro S40 eS40
        have hGS40 : F_X8_tellFilter S S40 := by
          rw [eS40]
          exact ⟨hFS35.1, hFS35.2.1, hFS35.2.2.1, hFS35.2.2.2.1, hFS35.2.2.2.2.1, hFS35.2.2.2.2.2.1, hFS35.2.2.2.2.2.2.1, hFS35.2.2.2.2.2.2.2.1, hFS35.2.2.2.2.2.2.2.2⟩
        have hJS40 : J8 S40 := by rw [eS40]; exact (J8s_text hJS35 hJu39)
        have hFS40 : F_X8_tellFilter S S40 := hGS40
        have je39 : ((b6g_levels (b8g_tree S40))).toInt = ((b6g_levels (b8g_tree S))).toInt := congrArg (fun z => ((b6g_levels z)).toInt) hFS40.2.2.2.2.1
        have je41 : ((b6g_upper (b8g_tree S40))).toInt = ((b6g_upper (b8g_tree S))).toInt := congrArg (fun z => ((b6g_upper z)).toInt) hFS40.2.2.2.2.1
        refine ⟨_, ?_, ?_, ?_, ?_, rfl⟩
        · (try simp (disch := first | ((try simp (disch := first | ((try simp only [pn]) <;> omega) | fail) only [pn, pq]) <;> omega) | fail) only [pn, pq]) <;> (intros; (try simp (disch := first | ((try simp (disch := first | ((try simp only [pn]) <;> omega) | fail) only [pn, pq]) <;> omega) | fail) only [pn, pq]) <;> omega)
        · exact hJS40
        · exact hFS40
        · (try simp (disch := first | ((try simp (disch := first | ((try simp only [pn]) <;> omega) | fail) only [pn, pq]) <;> omega) | fail) only [pn, pq]) <;> (intros; (try simp (disch := first | ((try simp (disch := first | ((try simp only [pn]) <;> omega) | fail) only [pn, pq]) <;> omega) | fail) only [pn, pq]) <;> omega)
    · try simp (disch := first | ((try simp (disch := first | ((try simp only [pn]) <;> omega) | fail) only [pn, pq]) <;> omega) | fail) only [pn, pq] at c7
      refine sf_X5_put (J8g_text hJSq1) (fun u42 hJu42 hfu42  => ?_)
      intro S43 eS43
      have hGS43 : F_X8_tellFilter S S43 := by
        rw [eS43]
        exact ⟨hFSq1.1, hFSq1.2.1, hFSq1.2.2.1, hFSq1.2.2.2.1, hFSq1.2.2.2.2.1, hFSq1.2.2.2.2.2.1, hFSq1.2.2.2.2.2.2.1, hFSq1.2.2.2.2.2.2.2.1, hFSq1.2.2.2.2.2.2.2.2⟩
      have hJS43 : J8 S43 := by rw [eS43]; exact (J8s_text hJSq1 hJu42)
      have hFS43 : F_X8_tellFilter S S43 := hGS43
      have je43 : ((b6g_levels (b8g_tree S43))).toInt = ((b6g_levels (b8g_tree S))).toInt := congrArg (fun z => ((b6g_levels z)).toInt) hFS43.2.2.2.2.1
      have je45 : ((b6g_upper (b8g_tree S43))).toInt = ((b6g_upper (b8g_tree S))).toInt := congrArg (fun z => ((b6g_upper z)).toInt) hFS43.2.2.2.2.1
      unfold wp_X8_tellFilter_26
      refine sf_X8_at (by decide) (fun r44 hr44_0 => ?_)
      have rgr44 := pt_rg r44
      try simp (disch := first | ((try simp (disch := first | ((try simp only [pn]) <;> omega) | fail) only [pn, pq]) <;> omega) | fail) only [pn, pq] at hr44_0
      refine sf_X8_at (by decide) (fun r46 hr46_0 => ?_)
      have rgr46 := pt_rg r46
      try simp (disch := first | ((try simp (disch := first | ((try simp only [pn]) <;> omega) | fail) only [pn, pq]) <;> omega) | fail) only [pn, pq] at hr46_0
      refine ⟨fun c48 => ?_, fun c48 => ?_⟩
      · try simp (disch := first | ((try simp (disch := first | ((try simp only [pn]) <;> omega) | fail) only [pn, pq]) <;> omega) | fail) only [pn, pq] at c48
        unfold wp_X8_tellFilter_74
        refine sf_X5_put (J8g_text hJS43) (fun u50 hJu50 hfu50  => ?_)
        intro S51 eS51
        have hGS51 : F_X8_tellFilter S S51 := by
          rw [eS51]
          exact ⟨hFS43.1, hFS43.2.1, hFS43.2.2.1, hFS43.2.2.2.1, hFS43.2.2.2.2.1, hFS43.2.2.2.2.2.1, hFS43.2.2.2.2.2.2.1, hFS43.2.2.2.2.2.2.2.1, hFS43.2.2.2.2.2.2.2.2⟩
        have hJS51 : J8 S51 := by rw [eS51]; exact (J8s_text hJS43 hJu50)
        have hFS51 : F_X8_tellFilter S S51 := hGS51
        have je47 : ((b6g_levels (b8g_tree S51))).toInt = ((b6g_levels (b8g_tree S))).toInt := congrArg (fun z => ((b6g_levels z)).toInt) hFS51.2.2.2.2.1
        have je49 : ((b6g_upper (b8g_tree S51))).toInt = ((b6g_upper (b8g_tree S))).toInt := congrArg (fun z => ((b6g_upper z)).toInt) hFS51.2.2.2.2.1
        refine sf_X5_putNumber (J8g_text hJS51) (fun u53 hJu53 hfu53  => ?_)
        intro S54 eS54
        have hGS54 : F_X8_tellFilter S S54 := by
          rw [eS54]
          exact ⟨hFS51.1, hFS51.2.1, hFS51.2.2.1, hFS51.2.2.2.1, hFS51.2.2.2.2.1, hFS51.2.2.2.2.2.1, hFS51.2.2.2.2.2.2.1, hFS51.2.2.2.2.2.2.2.1, hFS51.2.2.2.2.2.2.2.2⟩
        have hJS54 : J8 S54 := by rw [eS54]; exact (J8s_text hJS51 hJu53)
        have hFS54 : F_X8_tellFilter S S54 := hGS54
        have je51 : ((b6g_levels (b8g_tree S54))).toInt = ((b6g_levels (b8g_tree S))).toInt := congrArg (fun z => ((b6g_levels z)).toInt) hFS54.2.2.2.2.1
        have je53 : ((b6g_upper (b8g_tree S54))).toInt = ((b6g_upper (b8g_tree S))).toInt := congrArg (fun z => ((b6g_upper z)).toInt) hFS54.2.2.2.2.1
        refine sf_X5_put (J8g_text hJS54) (fun u56 hJu56 hfu56  => ?_)
        intro S57 eS57
        have hGS57 : F_X8_tellFilter S S57 := by
          rw [eS57]
          exact ⟨hFS54.1, hFS54.2.1, hFS54.2.2.1, hFS54.2.2.2.1, hFS54.2.2.2.2.1, hFS54.2.2.2.2.2.1, hFS54.2.2.2.2.2.2.1, hFS54.2.2.2.2.2.2.2.1, hFS54.2.2.2.2.2.2.2.2⟩
        have hJS57 : J8 S57 := by rw [eS57]; exact (J8s_text hJS54 hJu56)
        have hFS57 : F_X8_tellFilter S S57 := hGS57
        have je55 : ((b6g_levels (b8g_tree S57))).toInt = ((b6g_levels (b8g_tree S))).toInt := congrArg (fun z => ((b6g_levels z)).toInt) hFS57.2.2.2.2.1
        have je57 : ((b6g_upper (b8g_tree S57))).toInt = ((b6g_upper (b8g_tree S))).toInt := congrArg (fun z => ((b6g_upper z)).toInt) hFS57.2.2.2.2.1
        refine sf_X6_branches (J8g_tree hJS57) (fun r58  => ?_)
        have rgr58 := pt_rg r58
        refine sf_X5_putNumber (J8g_text hJS57) (fun u61 hJu61 hfu61  => ?_)
        intro S62 eS62
        have hGS62 : F_X8_tellFilter S S62 := by
          rw [eS62]
          exact ⟨hFS57.1, hFS57.2.1, hFS57.2.2.1, hFS57.2.2.2.1, hFS57.2.2.2.2.1, hFS57.2.2.2.2.2.1, hFS57.2.2.2.2.2.2.1, hFS57.2.2.2.2.2.2.2.1, hFS57.2.2.2.2.2.2.2.2⟩
        have hJS62 : J8 S62 := by rw [eS62]; exact (J8s_text hJS57 hJu61)
        have hFS62 : F_X8_tellFilter S S62 := hGS62
        have je59 : ((b6g_levels (b8g_tree S62))).toInt = ((b6g_levels (b8g_tree S))).toInt := congrArg (fun z => ((b6g_levels z)).toInt) hFS62.2.2.2.2.1
        have je61 : ((b6g_upper (b8g_tree S62))).toInt = ((b6g_upper (b8g_tree S))).toInt := congrArg (fun z => ((b6g_upper z)).toInt) hFS62.2.2.2.2.1
        refine ⟨_, ?_, ?_, ?_, ?_, rfl⟩
        · (try simp (disch := first | ((try simp (disch := first | ((try simp only [pn]) <;> omega) | fail) only [pn, pq]) <;> omega) | fail) only [pn, pq]) <;> (intros; (try simp (disch := first | ((try simp (disch := first | ((try simp only [pn]) <;> omega) | fail) only [pn, pq]) <;> omega) | fail) only [pn, pq]) <;> omega)
        · exact hJS62
        · exact hFS62
        · (try simp (disch := first | ((try simp (disch := first | ((try simp only [pn]) <;> omega) | fail) only [pn, pq]) <;> omega) | fail) only [pn, pq]) <;> (intros; (try simp (disch := first | ((try simp (disch := first | ((try simp only [pn]) <;> omega) | fail) only [pn, pq]) <;> omega) | fail) only [pn, pq]) <;> omega)
      · try simp (disch := first | ((try simp (disch := first | ((try simp only [pn]) <;> omega) | fail) only [pn, pq]) <;> omega) | fail) only [pn, pq] at c48
        unfold wp_X8_tellFilter_74
        refine sf_X5_put (J8g_text hJS43) (fun u64 hJu64 hfu64  => ?_)
        intro S65 eS65
        have hGS65 : F_X8_tellFilter S S65 := by
          rw [eS65]
          exact ⟨hFS43.1, hFS43.2.1, hFS43.2.2.1, hFS43.2.2.2.1, hFS43.2.2.2.2.1, hFS43.2.2.2.2.2.1, hFS43.2.2.2.2.2.2.1, hFS43.2.2.2.2.2.2.2.1, hFS43.2.2.2.2.2.2.2.2⟩
        have hJS65 : J8 S65 := by rw [eS65]; exact (J8s_text hJS43 hJu64)
        have hFS65 : F_X8_tellFilter S S65 := hGS65
        have je63 : ((b6g_levels (b8g_tree S65))).toInt = ((b6g_levels (b8g_tree S))).toInt := congrArg (fun z => ((b6g_levels z)).toInt) hFS65.2.2.2.2.1
        have je65 : ((b6g_upper (b8g_tree S65))).toInt = ((b6g_upper (b8g_tree S))).toInt := congrArg (fun z => ((b6g_upper z)).toInt) hFS65.2.2.2.2.1
        refine sf_X5_putNumber (J8g_text hJS65) (fun u67 hJu67 hfu67  => ?_)
        intro S68 eS68
        have hGS68 : F_X8_tellFilter S S68 := by
          rw [eS68]
          exact ⟨hFS65.1, hFS65.2.1, hFS65.2.2.1, hFS65.2.2.2.1, hFS65.2.2.2.2.1, hFS65.2.2.2.2.2.1, hFS65.2.2.2.2.2.2.1, hFS65.2.2.2.2.2.2.2.1, hFS65.2.2.2.2.2.2.2.2⟩
        have hJS68 : J8 S68 := by rw [eS68]; exact (J8s_text hJS65 hJu67)
        have hFS68 : F_X8_tellFilter S S68 := hGS68
        have je67 : ((b6g_levels (b8g_tree S68))).toInt = ((b6g_levels (b8g_tree S))).toInt := congrArg (fun z => ((b6g_levels z)).toInt) hFS68.2.2.2.2.1
        have je69 : ((b6g_upper (b8g_tree S68))).toInt = ((b6g_upper (b8g_tree S))).toInt := congrArg (fun z => ((b6g_upper z)).toInt) hFS68.2.2.2.2.1
        refine sf_X5_put (J8g_text hJS68) (fun u70 hJu70 hfu70  => ?_)
        intro S71 eS71
        have hGS71 : F_X8_tellFilter S S71 := by
          rw [eS71]
          exact ⟨hFS68.1, hFS68.2.1, hFS68.2.2.1, hFS68.2.2.2.1, hFS68.2.2.2.2.1, hFS68.2.2.2.2.2.1, hFS68.2.2.2.2.2.2.1, hFS68.2.2.2.2.2.2.2.1, hFS68.2.2.2.2.2.2.2.2⟩
        have hJS71 : J8 S71 := by rw [eS71]; exact (J8s_text hJS68 hJu70)
        have hFS71 : F_X8_tellFilter S S71 := hGS71
        have je71 : ((b6g_levels (b8g_tree S71))).toInt = ((b6g_levels (b8g_tree S))).toInt := congrArg (fun z => ((b6g_levels z)).toInt) hFS71.2.2.2.2.1
        have je73 : ((b6g_upper (b8g_tree S71))).toInt = ((b6g_upper (b8g_tree S))).toInt := congrArg (fun z => ((b6g_upper z)).toInt) hFS71.2.2.2.2.1
        refine sf_X6_branches (J8g_tree hJS71) (fun r72  => ?_)
        have rgr72 := pt_rg r72
        refine sf_X5_putNumber (J8g_text hJS71) (fun u75 hJu75 hfu75  => ?_)
        intro S76 eS76
        have hGS76 : F_X8_tellFilter S S76 := by
          rw [eS76]
          exact ⟨hFS71.1, hFS71.2.1, hFS71.2.2.1, hFS71.2.2.2.1, hFS71.2.2.2.2.1, hFS71.2.2.2.2.2.1, hFS71.2.2.2.2.2.2.1, hFS71.2.2.2.2.2.2.2.1, hFS71.2.2.2.2.2.2.2.2⟩
        have hJS76 : J8 S76 := by rw [eS76]; exact (J8s_text hJS71 hJu75)
        have hFS76 : F_X8_tellFilter S S76 := hGS76
        have je75 : ((b6g_levels (b8g_tree S76))).toInt = ((b6g_levels (b8g_tree S))).toInt := congrArg (fun z => ((b6g_levels z)).toInt) hFS76.2.2.2.2.1
        have je77 : ((b6g_upper (b8g_tree S76))).toInt = ((b6g_upper (b8g_tree S))).toInt := congrArg (fun z => ((b6g_upper z)).toInt) hFS76.2.2.2.2.1
        refine ⟨_, ?_, ?_, ?_, ?_, rfl⟩
        · (try simp (disch := first | ((try simp (disch := first | ((try simp only [pn]) <;> omega) | fail) only [pn, pq]) <;> omega) | fail) only [pn, pq]) <;> (intros; (try simp (disch := first | ((try simp (disch := first | ((try simp only [pn]) <;> omega) | fail) only [pn, pq]) <;> omega) | fail) only [pn, pq]) <;> omega)
        · exact hJS76
        · exact hFS76
        · (try simp (disch := first | ((try simp (disch := first | ((try simp only [pn]) <;> omega) | fail) only [pn, pq]) <;> omega) | fail) only [pn, pq]) <;> (intros; (try simp (disch := first | ((try simp (disch := first | ((try simp only [pn]) <;> omega) | fail) only [pn, pq]) <;> omega) | fail) only [pn, pq]) <;> omega)
def F_X8_tellLeaf (S u : bT8) : Prop := (b8g_now u) = (b8g_now S) ∧ (b8g_kept u) = (b8g_kept S) ∧ (b8g_isKept u) = (b8g_isKept S) ∧ (b8g_leaves u) = (b8g_leaves S) ∧ (b8g_tree u) = (b8g_tree S) ∧ (b8g_tuning u) = (b8g_tuning S) ∧ (b8g_trial u) = (b8g_trial S) ∧ (b8g_tape u) = (b8g_tape S) ∧ (b8g_chosenRow u) = (b8g_chosenRow S)
set_option maxRecDepth 20000 in
set_option maxHeartbeats 8000000 in
theorem sf_X8_tellLeaf {S : bT8} (hJ : J8 S) {a1 : Int32} {Q : (bT8) → Prop} (hq : ∀ u : bT8, (J8 u) → F_X8_tellLeaf S u → Q u) : wp_X8_tellLeaf S a1 Q := by
  unfold wp_X8_tellLeaf
  have hFS : F_X8_tellLeaf S S := ⟨rfl, rfl, rfl, rfl, rfl, rfl, rfl, rfl, rfl⟩
  have rga1 := pt_rg a1
  refine sf_X0_bytesAt (J1g_owners (J8g_leaves hJ)) (fun r1  => ?_)
  refine ⟨fun n x1q3 x2q3 x4q3 Sq3 => (J8 Sq3) ∧ (F_X8_tellLeaf S Sq3) ∧ (x1q3 = a1) ∧ (x2q3 = r1) ∧ (0 ≤ (x4q3).toInt) ∧ n = ((atf 64 (b1g_lengths (b8g_leaves S)) (x1q3)).toInt - (x4q3).toInt).toNat, ⟨_, hJ, hFS, rfl, rfl, (by (try simp (disch := first | ((try simp (disch := first | ((try simp only [pn]) <;> omega) | fail) only [pn, pq]) <;> omega) | fail) only [pn, pq]) <;> (intros; (try simp (disch := first | ((try simp (disch := first | ((try simp only [pn]) <;> omega) | fail) only [pn, pq]) <;> omega) | fail) only [pn, pq]) <;> omega)), rfl⟩, ?_⟩
  rintro n4 x1q3 x2q3 x4q3 Sq3 ⟨hJSq3, hFSq3, hkq3_0, hkq3_1, hiq3_0, hn4⟩
  subst hkq3_0
  subst hkq3_1
  have rgx1q3 := pt_rg x1q3
  have rgx4q3 := pt_rg x4q3
  unfold wp_X8_tellLeaf_15b
  have je2 : ((b1g_hashBits (b8g_leaves Sq3))).toInt = ((b1g_hashBits (b8g_leaves S))).toInt := congrArg (fun z => ((b1g_hashBits z)).toInt) hFSq3.2.2.2.1
  have je4 : ((b1g_realBits (b8g_leaves Sq3))).toInt = ((b1g_realBits (b8g_leaves S))).toInt := congrArg (fun z => ((b1g_realBits z)).toInt) hFSq3.2.2.2.1
  have qSq3_leaves : b8g_leaves Sq3 = b8g_leaves S := hFSq3.2.2.2.1
  refine sf_X1_lengthAt (J8g_leaves hJSq3) (fun r5 hr5_0 => ?_)
  have rgr5 := pt_rg r5
  try simp (disch := first | ((try simp (disch := first | ((try simp only [pn]) <;> omega) | fail) only [pn, pq]) <;> omega) | fail) only [pn, pq, qSq3_leaves] at hr5_0
  refine ⟨fun c7 => ?_, fun c7 => ?_⟩
  · try simp (disch := first | ((try simp (disch := first | ((try simp only [pn]) <;> omega) | fail) only [pn, pq]) <;> omega) | fail) only [pn, pq, qSq3_leaves] at c7
    refine sf_X1_isEnded (J8g_leaves hJSq3) (fun r8 hzr8  => ?_)
    refine ⟨fun c10 => ?_, fun c10 => ?_⟩
    · try simp (disch := first | ((try simp (disch := first | ((try simp only [pn]) <;> omega) | fail) only [pn, pq]) <;> omega) | fail) only [pn, pq, qSq3_leaves] at c10
      unfold wp_X8_tellLeaf_67
      refine ⟨fun c11 => ?_, fun c11 => ?_⟩
      · try simp (disch := first | ((try simp (disch := first | ((try simp only [pn]) <;> omega) | fail) only [pn, pq]) <;> omega) | fail) only [pn, pq, qSq3_leaves] at c11
        unfold wp_X8_tellLeaf_101
        refine ⟨fun c12 => ?_, fun c12 => ?_⟩
        · try simp (disch := first | ((try simp (disch := first | ((try simp only [pn]) <;> omega) | fail) only [pn, pq]) <;> omega) | fail) only [pn, pq, qSq3_leaves] at c12
          exact hq _ hJSq3 hFSq3 
        · try simp (disch := first | ((try simp (disch := first | ((try simp only [pn]) <;> omega) | fail) only [pn, pq]) <;> omega) | fail) only [pn, pq, qSq3_leaves] at c12
          refine sf_X5_put (J8g_text hJSq3) (fun u14 hJu14 hfu14  => ?_)
          intro S15 eS15
          have hGS15 : F_X8_tellLeaf S S15 := by
            rw [eS15]
            exact ⟨hFSq3.1, hFSq3.2.1, hFSq3.2.2.1, hFSq3.2.2.2.1, hFSq3.2.2.2.2.1, hFSq3.2.2.2.2.2.1, hFSq3.2.2.2.2.2.2.1, hFSq3.2.2.2.2.2.2.2.1, hFSq3.2.2.2.2.2.2.2.2⟩
          have hJS15 : J8 S15 := by rw [eS15]; exact (J8s_text hJSq3 hJu14)
          have hFS15 : F_X8_tellLeaf S S15 := hGS15
          have je6 : ((b1g_hashBits (b8g_leaves S15))).toInt = ((b1g_hashBits (b8g_leaves S))).toInt := congrArg (fun z => ((b1g_hashBits z)).toInt) hFS15.2.2.2.1
          have je8 : ((b1g_realBits (b8g_leaves S15))).toInt = ((b1g_realBits (b8g_leaves S))).toInt := congrArg (fun z => ((b1g_realBits z)).toInt) hFS15.2.2.2.1
          have qS15_leaves : b8g_leaves S15 = b8g_leaves S := hFS15.2.2.2.1
          refine ⟨fun n x1q16 x4q16 Sq16 => (J8 Sq16) ∧ (F_X8_tellLeaf S Sq16) ∧ (x1q16 = x1q3) ∧ n = ((x4q16).toInt + 1).toNat, ⟨_, hJS15, hFS15, rfl, rfl⟩, ?_⟩
          rintro n17 x1q16 x4q16 Sq16 ⟨hJSq16, hFSq16, hkq16_0, hn17⟩
          subst hkq16_0
          have rgx1q16 := pt_rg x1q16
          have rgx4q16 := pt_rg x4q16
          unfold wp_X8_tellLeaf_131b
          have je10 : ((b1g_hashBits (b8g_leaves Sq16))).toInt = ((b1g_hashBits (b8g_leaves S))).toInt := congrArg (fun z => ((b1g_hashBits z)).toInt) hFSq16.2.2.2.1
          have je12 : ((b1g_realBits (b8g_leaves Sq16))).toInt = ((b1g_realBits (b8g_leaves S))).toInt := congrArg (fun z => ((b1g_realBits z)).toInt) hFSq16.2.2.2.1
          have qSq16_leaves : b8g_leaves Sq16 = b8g_leaves S := hFSq16.2.2.2.1
          refine ⟨fun c18 => ?_, fun c18 => ?_⟩
          · try simp (disch := first | ((try simp (disch := first | ((try simp only [pn]) <;> omega) | fail) only [pn, pq]) <;> omega) | fail) only [pn, pq, qSq3_leaves, qS15_leaves, qSq16_leaves] at c18
            exact hq _ hJSq16 hFSq16 
          · try simp (disch := first | ((try simp (disch := first | ((try simp only [pn]) <;> omega) | fail) only [pn, pq]) <;> omega) | fail) only [pn, pq, qSq3_leaves, qS15_leaves, qSq16_leaves] at c18
            refine sf_X1_nextAt (J8g_leaves hJSq16) (fun r19  => ?_)
            have rgr19 := pt_rg r19
            refine ⟨fun c21 => ?_, fun c21 => ?_⟩
            · try simp (disch := first | ((try simp (disch := first | ((try simp only [pn]) <;> omega) | fail) only [pn, pq]) <;> omega) | fail) only [pn, pq, qSq3_leaves, qS15_leaves, qSq16_leaves] at c21
              unfold wp_X8_tellLeaf_164
              refine sf_X5_put (J8g_text hJSq16) (fun u23 hJu23 hfu23  => ?_)
              intro S24 eS24
              have hGS24 : F_X8_tellLeaf S S24 := by
                rw [eS24]
                exact ⟨hFSq16.1, hFSq16.2.1, hFSq16.2.2.1, hFSq16.2.2.2.1, hFSq16.2.2.2.2.1, hFSq16.2.2.2.2.2.1, hFSq16.2.2.2.2.2.2.1, hFSq16.2.2.2.2.2.2.2.1, hFSq16.2.2.2.2.2.2.2.2⟩
              have hJS24 : J8 S24 := by rw [eS24]; exact (J8s_text hJSq16 hJu23)
              have hFS24 : F_X8_tellLeaf S S24 := hGS24
              have je14 : ((b1g_hashBits (b8g_leaves S24))).toInt = ((b1g_hashBits (b8g_leaves S))).toInt := congrArg (fun z => ((b1g_hashBits z)).toInt) hFS24.2.2.2.1
              have je16 : ((b1g_realBits (b8g_leaves S24))).toInt = ((b1g_realBits (b8g_leaves S))).toInt := congrArg (fun z => ((b1g_realBits z)).toInt) hFS24.2.2.2.1
              have qS24_leaves : b8g_leaves S24 = b8g_leaves S := hFS24.2.2.2.1
              refine ⟨_, ?_, ?_, ?_, ?_, rfl⟩
              · (try simp (disch := first | ((try simp (disch := first | ((try simp only [pn]) <;> omega) | fail) only [pn, pq]) <;> omega) | fail) only [pn, pq, qSq3_leaves, qS15_leaves, qSq16_leaves, qS24_leaves]) <;> (intros; (try simp (disch := first | ((try simp (disch := first | ((try simp only [pn]) <;> omega) | fail) only [pn, pq]) <;> omega) | fail) only [pn, pq, qSq3_leaves, qS15_leaves, qSq16_leaves, qS24_leaves]) <;> omega)
              · exact hJS24
              · exact hFS24
              · first | rfl | assumption
            · try simp (disch := first | ((try simp (disch := first | ((try simp only [pn]) <;> omega) | fail) only [pn, pq]) <;> omega) | fail) only [pn, pq, qSq3_leaves, qS15_leaves, qSq16_leaves] at c21
              unfold wp_X8_tellLeaf_164
              refine sf_X5_put (J8g_text hJSq16) (fun u26 hJu26 hfu26  => ?_)
              intro S27 eS27
              have hGS27 : F_X8_tellLeaf S S27 := by
                rw [eS27]
                exact ⟨hFSq16.1, hFSq16.2.1, hFSq16.2.2.1, hFSq16.2.2.2.1, hFSq16.2.2.2.2.1, hFSq16.2.2.2.2.2.1, hFSq16.2.2.2.2.2.2.1, hFSq16.2.2.2.2.2.2.2.1, hFSq16.2.2.2.2.2.2.2.2⟩
              have hJS27 : J8 S27 := by rw [eS27]; exact (J8s_text hJSq16 hJu26)
              have hFS27 : F_X8_tellLeaf S S27 := hGS27
              have je18 : ((b1g_hashBits (b8g_leaves S27))).toInt = ((b1g_hashBits (b8g_leaves S))).toInt := congrArg (fun z => ((b1g_hashBits z)).toInt) hFS27.2.2.2.1
              have je20 : ((b1g_realBits (b8g_leaves S27))).toInt = ((b1g_realBits (b8g_leaves S))).toInt := congrArg (fun z => ((b1g_realBits z)).toInt) hFS27.2.2.2.1
              have qS27_leaves : b8g_leaves S27 = b8g_leaves S := hFS27.2.2.2.1
              refine ⟨_, ?_, ?_, ?_, ?_, rfl⟩
              · (try simp (disch := first | ((try simp (disch := first | ((try simp only [pn]) <;> omega) | fail) only [pn, pq]) <;> omega) | fail) only [pn, pq, qSq3_leaves, qS15_leaves, qSq16_leaves, qS27_leaves]) <;> (intros; (try simp (disch := first | ((try simp (disch := first | ((try simp only [pn]) <;> omega) | fail) only [pn, pq]) <;> omega) | fail) only [pn, pq, qSq3_leaves, qS15_leaves, qSq16_leaves, qS27_leaves]) <;> omega)
              · exact hJS27
              · exact hFS27
              · first | rfl | assumption
      · try simp (disch := first | ((try simp (disch := first | ((try simp only [pn]) <;> omega) | fail) only [pn, pq]) <;> omega) | fail) only [pn, pq, qSq3_leaves] at c11
        refine sf_X5_put (J8g_text hJSq3) (fun u29 hJu29 hfu29  => ?_)
        intro S30 eS30
        have hGS30 : F_X8_tellLeaf S S30 := by
          rw [eS30]
          exact ⟨hFSq3.1, hFSq3.2.1, hFSq3.2.2.1, hFSq3.2.2.2.1, hFSq3.2.2.2.2.1, hFSq3.2.2.2.2.2.1, hFSq3.2.2.2.2.2.2.1, hFSq3.2.2.2.2.2.2.2.1, hFSq3.2.2.2.2.2.2.2.2⟩
        have hJS30 : J8 S30 := by rw [eS30]; exact (J8s_text hJSq3 hJu29)
        have hFS30 : F_X8_tellLeaf S S30 := hGS30
        have je22 : ((b1g_hashBits (b8g_leaves S30))).toInt = ((b1g_hashBits (b8g_leaves S))).toInt := congrArg (fun z => ((b1g_hashBits z)).toInt) hFS30.2.2.2.1
        have je24 : ((b1g_realBits (b8g_leaves S30))).toInt = ((b1g_realBits (b8g_leaves S))).toInt := congrArg (fun z => ((b1g_realBits z)).toInt) hFS30.2.2.2.1
        have qS30_leaves : b8g_leaves S30 = b8g_leaves S := hFS30.2.2.2.1
        refine sf_X1_hashAt (J8g_leaves hJS30) (fun r31  => ?_)
        have rgr31 := pt_rg r31
        refine sf_X5_putNumber (J8g_text hJS30) (fun u34 hJu34 hfu34  => ?_)
        intro S35 eS35
        have hGS35 : F_X8_tellLeaf S S35 := by
          rw [eS35]
          exact ⟨hFS30.1, hFS30.2.1, hFS30.2.2.1, hFS30.2.2.2.1, hFS30.2.2.2.2.1, hFS30.2.2.2.2.2.1, hFS30.2.2.2.2.2.2.1, hFS30.2.2.2.2.2.2.2.1, hFS30.2.2.2.2.2.2.2.2⟩
        have hJS35 : J8 S35 := by rw [eS35]; exact (J8s_text hJS30 hJu34)
        have hFS35 : F_X8_tellLeaf S S35 := hGS35
        have je26 : ((b1g_hashBits (b8g_leaves S35))).toInt = ((b1g_hashBits (b8g_leaves S))).toInt := congrArg (fun z => ((b1g_hashBits z)).toInt) hFS35.2.2.2.1
        have je28 : ((b1g_realBits (b8g_leaves S35))).toInt = ((b1g_realBits (b8g_leaves S))).toInt := congrArg (fun z => ((b1g_realBits z)).toInt) hFS35.2.2.2.1
        have qS35_leaves : b8g_leaves S35 = b8g_leaves S := hFS35.2.2.2.1
        unfold wp_X8_tellLeaf_101
        refine ⟨fun c36 => ?_, fun c36 => ?_⟩
        · try simp (disch := first | ((try simp (disch := first | ((try simp only [pn]) <;> omega) | fail) only [pn, pq]) <;> omega) | fail) only [pn, pq, qSq3_leaves, qS30_leaves, qS35_leaves] at c36
          exact hq _ hJS35 hFS35 
        · try simp (disch := first | ((try simp (disch := first | ((try simp only [pn]) <;> omega) | fail) only [pn, pq]) <;> omega) | fail) only [pn, pq, qSq3_leaves, qS30_leaves, qS35_leaves] at c36
          refine sf_X5_put (J8g_text hJS35) (fun u38 hJu38 hfu38  => ?_)
          intro S39 eS39
          have hGS39 : F_X8_tellLeaf S S39 := by
            rw [eS39]
            exact ⟨hFS35.1, hFS35.2.1, hFS35.2.2.1, hFS35.2.2.2.1, hFS35.2.2.2.2.1, hFS35.2.2.2.2.2.1, hFS35.2.2.2.2.2.2.1, hFS35.2.2.2.2.2.2.2.1, hFS35.2.2.2.2.2.2.2.2⟩
          have hJS39 : J8 S39 := by rw [eS39]; exact (J8s_text hJS35 hJu38)
          have hFS39 : F_X8_tellLeaf S S39 := hGS39
          have je30 : ((b1g_hashBits (b8g_leaves S39))).toInt = ((b1g_hashBits (b8g_leaves S))).toInt := congrArg (fun z => ((b1g_hashBits z)).toInt) hFS39.2.2.2.1
          have je32 : ((b1g_realBits (b8g_leaves S39))).toInt = ((b1g_realBits (b8g_leaves S))).toInt := congrArg (fun z => ((b1g_realBits z)).toInt) hFS39.2.2.2.1
          have qS39_leaves : b8g_leaves S39 = b8g_leaves S := hFS39.2.2.2.1
          refine ⟨fun n x1q40 x4q40 Sq40 => (J8 Sq40) ∧ (F_X8_tellLeaf S Sq40) ∧ (x1q40 = x1q3) ∧ n = ((x4q40).toInt + 1).toNat, ⟨_, hJS39, hFS39, rfl, rfl⟩, ?_⟩
          rintro n41 x1q40 x4q40 Sq40 ⟨hJSq40, hFSq40, hkq40_0, hn41⟩
          subst hkq40_0
          have rgx1q40 := pt_rg x1q40
          have rgx4q40 := pt_rg x4q40
          unfold wp_X8_tellLeaf_131b
          have je34 : ((b1g_hashBits (b8g_leaves Sq40))).toInt = ((b1g_hashBits (b8g_leaves S))).toInt := congrArg (fun z => ((b1g_hashBits z)).toInt) hFSq40.2.2.2.1
          have je36 : ((b1g_realBits (b8g_leaves Sq40))).toInt = ((b1g_realBits (b8g_leaves S))).toInt := congrArg (fun z => ((b1g_realBits z)).toInt) hFSq40.2.2.2.1
          have qSq40_leaves : b8g_leaves Sq40 = b8g_leaves S := hFSq40.2.2.2.1
          refine ⟨fun c42 => ?_, fun c42 => ?_⟩
          · try simp (disch := first | ((try simp (disch := first | ((try simp only [pn]) <;> omega) | fail) only [pn, pq]) <;> omega) | fail) only [pn, pq, qSq3_leaves, qS30_leaves, qS35_leaves, qS39_leaves, qSq40_leaves] at c42
            exact hq _ hJSq40 hFSq40 
          · try simp (disch := first | ((try simp (disch := first | ((try simp only [pn]) <;> omega) | fail) only [pn, pq]) <;> omega) | fail) only [pn, pq, qSq3_leaves, qS30_leaves, qS35_leaves, qS39_leaves, qSq40_leaves] at c42
            refine sf_X1_nextAt (J8g_leaves hJSq40) (fun r43  => ?_)
            have rgr43 := pt_rg r43
            refine ⟨fun c45 => ?_, fun c45 => ?_⟩
            · try simp (disch := first | ((try simp (disch := first | ((try simp only [pn]) <;> omega) | fail) only [pn, pq]) <;> omega) | fail) only [pn, pq, qSq3_leaves, qS30_leaves, qS35_leaves, qS39_leaves, qSq40_leaves] at c45
              unfold wp_X8_tellLeaf_164
              refine sf_X5_put (J8g_text hJSq40) (fun u47 hJu47 hfu47  => ?_)
              intro S48 eS48
              have hGS48 : F_X8_tellLeaf S S48 := by
                rw [eS48]
                exact ⟨hFSq40.1, hFSq40.2.1, hFSq40.2.2.1, hFSq40.2.2.2.1, hFSq40.2.2.2.2.1, hFSq40.2.2.2.2.2.1, hFSq40.2.2.2.2.2.2.1, hFSq40.2.2.2.2.2.2.2.1, hFSq40.2.2.2.2.2.2.2.2⟩
              have hJS48 : J8 S48 := by rw [eS48]; exact (J8s_text hJSq40 hJu47)
              have hFS48 : F_X8_tellLeaf S S48 := hGS48
              have je38 : ((b1g_hashBits (b8g_leaves S48))).toInt = ((b1g_hashBits (b8g_leaves S))).toInt := congrArg (fun z => ((b1g_hashBits z)).toInt) hFS48.2.2.2.1
              have je40 : ((b1g_realBits (b8g_leaves S48))).toInt = ((b1g_realBits (b8g_leaves S))).toInt := congrArg (fun z => ((b1g_realBits z)).toInt) hFS48.2.2.2.1
              have qS48_leaves : b8g_leaves S48 = b8g_leaves S := hFS48.2.2.2.1
              refine ⟨_, ?_, ?_, ?_, ?_, rfl⟩
              · (try simp (disch := first | ((try simp (disch := first | ((try simp only [pn]) <;> omega) | fail) only [pn, pq]) <;> omega) | fail) only [pn, pq, qSq3_leaves, qS30_leaves, qS35_leaves, qS39_leaves, qSq40_leaves, qS48_leaves]) <;> (intros; (try simp (disch := first | ((try simp (disch := first | ((try simp only [pn]) <;> omega) | fail) only [pn, pq]) <;> omega) | fail) only [pn, pq, qSq3_leaves, qS30_leaves, qS35_leaves, qS39_leaves, qSq40_leaves, qS48_leaves]) <;> omega)
              · exact hJS48
              · exact hFS48
              · first | rfl | assumption
            · try simp (disch := first | ((try simp (disch := first | ((try simp only [pn]) <;> omega) | fail) only [pn, pq]) <;> omega) | fail) only [pn, pq, qSq3_leaves, qS30_leaves, qS35_leaves, qS39_leaves, qSq40_leaves] at c45
              unfold wp_X8_tellLeaf_164
              refine sf_X5_put (J8g_text hJSq40) (fun u50 hJu50 hfu50  => ?_)
              intro S51 eS51
              have hGS51 : F_X8_tellLeaf S S51 := by
                rw [eS51]
                exact ⟨hFSq40.1, hFSq40.2.1, hFSq40.2.2.1, hFSq40.2.2.2.1, hFSq40.2.2.2.2.1, hFSq40.2.2.2.2.2.1, hFSq40.2.2.2.2.2.2.1, hFSq40.2.2.2.2.2.2.2.1, hFSq40.2.2.2.2.2.2.2.2⟩
              have hJS51 : J8 S51 := by rw [eS51]; exact (J8s_text hJSq40 hJu50)
              have hFS51 : F_X8_tellLeaf S S51 := hGS51
              have je42 : ((b1g_hashBits (b8g_leaves S51))).toInt = ((b1g_hashBits (b8g_leaves S))).toInt := congrArg (fun z => ((b1g_hashBits z)).toInt) hFS51.2.2.2.1
              have je44 : ((b1g_realBits (b8g_leaves S51))).toInt = ((b1g_realBits (b8g_leaves S))).toInt := congrArg (fun z => ((b1g_realBits z)).toInt) hFS51.2.2.2.1
              have qS51_leaves : b8g_leaves S51 = b8g_leaves S := hFS51.2.2.2.1
              refine ⟨_, ?_, ?_, ?_, ?_, rfl⟩
              · (try simp (disch := first | ((try simp (disch := first | ((try simp only [pn]) <;> omega) | fail) only [pn, pq]) <;> omega) | fail) only [pn, pq, qSq3_leaves, qS30_leaves, qS35_leaves, qS39_leaves, qSq40_leaves, qS51_leaves]) <;> (intros; (try simp (disch := first | ((try simp (disch := first | ((try simp only [pn]) <;> omega) | fail) only [pn, pq]) <;> omega) | fail) only [pn, pq, qSq3_leaves, qS30_leaves, qS35_leaves, qS39_leaves, qSq40_leaves, qS51_leaves]) <;> omega)
              · exact hJS51
              · exact hFS51
              · first | rfl | assumption
    · try simp (disch := first | ((try simp (disch := first | ((try simp only [pn]) <;> omega) | fail) only [pn, pq]) <;> omega) | fail) only [pn, pq, qSq3_leaves] at c10
      refine sf_X5_put (J8g_text hJSq3) (fun u53 hJu53 hfu53  => ?_)
      intro S54 eS54
      have hGS54 : F_X8_tellLeaf S S54 := by
        rw [eS54]
        exact ⟨hFSq3.1, hFSq3.2.1, hFSq3.2.2.1, hFSq3.2.2.2.1, hFSq3.2.2.2.2.1, hFSq3.2.2.2.2.2.1, hFSq3.2.2.2.2.2.2.1, hFSq3.2.2.2.2.2.2.2.1, hFSq3.2.2.2.2.2.2.2.2⟩
      have hJS54 : J8 S54 := by rw [eS54]; exact (J8s_text hJSq3 hJu53)
      have hFS54 : F_X8_tellLeaf S S54 := hGS54
      have je46 : ((b1g_hashBits (b8g_leaves S54))).toInt = ((b1g_hashBits (b8g_leaves S))).toInt := congrArg (fun z => ((b1g_hashBits z)).toInt) hFS54.2.2.2.1
      have je48 : ((b1g_realBits (b8g_leaves S54))).toInt = ((b1g_realBits (b8g_leaves S))).toInt := congrArg (fun z => ((b1g_realBits z)).toInt) hFS54.2.2.2.1
      have qS54_leaves : b8g_leaves S54 = b8g_leaves S := hFS54.2.2.2.1
      unfold wp_X8_tellLeaf_67
      refine ⟨fun c55 => ?_, fun c55 => ?_⟩
      · try simp (disch := first | ((try simp (disch := first | ((try simp only [pn]) <;> omega) | fail) only [pn, pq]) <;> omega) | fail) only [pn, pq, qSq3_leaves, qS54_leaves] at c55
        unfold wp_X8_tellLeaf_101
        refine ⟨fun c56 => ?_, fun c56 => ?_⟩
        · try simp (disch := first | ((try simp (disch := first | ((try simp only [pn]) <;> omega) | fail) only [pn, pq]) <;> omega) | fail) only [pn, pq, qSq3_leaves, qS54_leaves] at c56
          exact hq _ hJS54 hFS54 
        · try simp (disch := first | ((try simp (disch := first | ((try simp only [pn]) <;> omega) | fail) only [pn, pq]) <;> omega) | fail) only [pn, pq, qSq3_leaves, qS54_leaves] at c56
          refine sf_X5_put (J8g_text hJS54) (fun u58 hJu58 hfu58  => ?_)
          intro S59 eS59
          have hGS59 : F_X8_tellLeaf S S59 := by
            rw [eS59]
            exact ⟨hFS54.1, hFS54.2.1, hFS54.2.2.1, hFS54.2.2.2.1, hFS54.2.2.2.2.1, hFS54.2.2.2.2.2.1, hFS54.2.2.2.2.2.2.1, hFS54.2.2.2.2.2.2.2.1, hFS54.2.2.2.2.2.2.2.2⟩
          have hJS59 : J8 S59 := by rw [eS59]; exact (J8s_text hJS54 hJu58)
          have hFS59 : F_X8_tellLeaf S S59 := hGS59
          have je50 : ((b1g_hashBits (b8g_leaves S59))).toInt = ((b1g_hashBits (b8g_leaves S))).toInt := congrArg (fun z => ((b1g_hashBits z)).toInt) hFS59.2.2.2.1
          have je52 : ((b1g_realBits (b8g_leaves S59))).toInt = ((b1g_realBits (b8g_leaves S))).toInt := congrArg (fun z => ((b1g_realBits z)).toInt) hFS59.2.2.2.1
          have qS59_leaves : b8g_leaves S59 = b8g_leaves S := hFS59.2.2.2.1
          refine ⟨fun n x1q60 x4q60 Sq60 => (J8 Sq60) ∧ (F_X8_tellLeaf S Sq60) ∧ (x1q60 = x1q3) ∧ n = ((x4q60).toInt + 1).toNat, ⟨_, hJS59, hFS59, rfl, rfl⟩, ?_⟩
          rintro n61 x1q60 x4q60 Sq60 ⟨hJSq60, hFSq60, hkq60_0, hn61⟩
          subst hkq60_0
          have rgx1q60 := pt_rg x1q60
          have rgx4q60 := pt_rg x4q60
          unfold wp_X8_tellLeaf_131b
          have je54 : ((b1g_hashBits (b8g_leaves Sq60))).toInt = ((b1g_hashBits (b8g_leaves S))).toInt := congrArg (fun z => ((b1g_hashBits z)).toInt) hFSq60.2.2.2.1
          have je56 : ((b1g_realBits (b8g_leaves Sq60))).toInt = ((b1g_realBits (b8g_leaves S))).toInt := congrArg (fun z => ((b1g_realBits z)).toInt) hFSq60.2.2.2.1
          have qSq60_leaves : b8g_leaves Sq60 = b8g_leaves S := hFSq60.2.2.2.1
          refine ⟨fun c62 => ?_, fun c62 => ?_⟩
          · try simp (disch := first | ((try simp (disch := first | ((try simp only [pn]) <;> omega) | fail) only [pn, pq]) <;> omega) | fail) only [pn, pq, qSq3_leaves, qS54_leaves, qS59_leaves, qSq60_leaves] at c62
            exact hq _ hJSq60 hFSq60 
          · try simp (disch := first | ((try simp (disch := first | ((try simp only [pn]) <;> omega) | fail) only [pn, pq]) <;> omega) | fail) only [pn, pq, qSq3_leaves, qS54_leaves, qS59_leaves, qSq60_leaves] at c62
            refine sf_X1_nextAt (J8g_leaves hJSq60) (fun r63  => ?_)
            have rgr63 := pt_rg r63
            refine ⟨fun c65 => ?_, fun c65 => ?_⟩
            · try simp (disch := first | ((try simp (disch := first | ((try simp only [pn]) <;> omega) | fail) only [pn, pq]) <;> omega) | fail) only [pn, pq, qSq3_leaves, qS54_leaves, qS59_leaves, qSq60_leaves] at c65
              unfold wp_X8_tellLeaf_164
              refine sf_X5_put (J8g_text hJSq60) (fun u67 hJu67 hfu67  => ?_)
              intro S68 eS68
              have hGS68 : F_X8_tellLeaf S S68 := by
                rw [eS68]
                exact ⟨hFSq60.1, hFSq60.2.1, hFSq60.2.2.1, hFSq60.2.2.2.1, hFSq60.2.2.2.2.1, hFSq60.2.2.2.2.2.1, hFSq60.2.2.2.2.2.2.1, hFSq60.2.2.2.2.2.2.2.1, hFSq60.2.2.2.2.2.2.2.2⟩
              have hJS68 : J8 S68 := by rw [eS68]; exact (J8s_text hJSq60 hJu67)
              have hFS68 : F_X8_tellLeaf S S68 := hGS68
              have je58 : ((b1g_hashBits (b8g_leaves S68))).toInt = ((b1g_hashBits (b8g_leaves S))).toInt := congrArg (fun z => ((b1g_hashBits z)).toInt) hFS68.2.2.2.1
              have je60 : ((b1g_realBits (b8g_leaves S68))).toInt = ((b1g_realBits (b8g_leaves S))).toInt := congrArg (fun z => ((b1g_realBits z)).toInt) hFS68.2.2.2.1
              have qS68_leaves : b8g_leaves S68 = b8g_leaves S := hFS68.2.2.2.1
              refine ⟨_, ?_, ?_, ?_, ?_, rfl⟩
              · (try simp (disch := first | ((try simp (disch := first | ((try simp only [pn]) <;> omega) | fail) only [pn, pq]) <;> omega) | fail) only [pn, pq, qSq3_leaves, qS54_leaves, qS59_leaves, qSq60_leaves, qS68_leaves]) <;> (intros; (try simp (disch := first | ((try simp (disch := first | ((try simp only [pn]) <;> omega) | fail) only [pn, pq]) <;> omega) | fail) only [pn, pq, qSq3_leaves, qS54_leaves, qS59_leaves, qSq60_leaves, qS68_leaves]) <;> omega)
              · exact hJS68
              · exact hFS68
              · first | rfl | assumption
            · try simp (disch := first | ((try simp (disch := first | ((try simp only [pn]) <;> omega) | fail) only [pn, pq]) <;> omega) | fail) only [pn, pq, qSq3_leaves, qS54_leaves, qS59_leaves, qSq60_leaves] at c65
              unfold wp_X8_tellLeaf_164
              refine sf_X5_put (J8g_text hJSq60) (fun u70 hJu70 hfu70  => ?_)
              intro S71 eS71
              have hGS71 : F_X8_tellLeaf S S71 := by
                rw [eS71]
                exact ⟨hFSq60.1, hFSq60.2.1, hFSq60.2.2.1, hFSq60.2.2.2.1, hFSq60.2.2.2.2.1, hFSq60.2.2.2.2.2.1, hFSq60.2.2.2.2.2.2.1, hFSq60.2.2.2.2.2.2.2.1, hFSq60.2.2.2.2.2.2.2.2⟩
              have hJS71 : J8 S71 := by rw [eS71]; exact (J8s_text hJSq60 hJu70)
              have hFS71 : F_X8_tellLeaf S S71 := hGS71
              have je62 : ((b1g_hashBits (b8g_leaves S71))).toInt = ((b1g_hashBits (b8g_leaves S))).toInt := congrArg (fun z => ((b1g_hashBits z)).toInt) hFS71.2.2.2.1
              have je64 : ((b1g_realBits (b8g_leaves S71))).toInt = ((b1g_realBits (b8g_leaves S))).toInt := congrArg (fun z => ((b1g_realBits z)).toInt) hFS71.2.2.2.1
              have qS71_leaves : b8g_leaves S71 = b8g_leaves S := hFS71.2.2.2.1
              refine ⟨_, ?_, ?_, ?_, ?_, rfl⟩
              · (try simp (disch := first | ((try simp (disch := first | ((try simp only [pn]) <;> omega) | fail) only [pn, pq]) <;> omega) | fail) only [pn, pq, qSq3_leaves, qS54_leaves, qS59_leaves, qSq60_leaves, qS71_leaves]) <;> (intros; (try simp (disch := first | ((try simp (disch := first | ((try simp only [pn]) <;> omega) | fail) only [pn, pq]) <;> omega) | fail) only [pn, pq, qSq3_leaves, qS54_leaves, qS59_leaves, qSq60_leaves, qS71_leaves]) <;> omega)
              · exact hJS71
              · exact hFS71
              · first | rfl | assumption
      · try simp (disch := first | ((try simp (disch := first | ((try simp only [pn]) <;> omega) | fail) only [pn, pq]) <;> omega) | fail) only [pn, pq, qSq3_leaves, qS54_leaves] at c55
        refine sf_X5_put (J8g_text hJS54) (fun u73 hJu73 hfu73  => ?_)
        intro S74 eS74
        have hGS74 : F_X8_tellLeaf S S74 := by
          rw [eS74]
          exact ⟨hFS54.1, hFS54.2.1, hFS54.2.2.1, hFS54.2.2.2.1, hFS54.2.2.2.2.1, hFS54.2.2.2.2.2.1, hFS54.2.2.2.2.2.2.1, hFS54.2.2.2.2.2.2.2.1, hFS54.2.2.2.2.2.2.2.2⟩
        have hJS74 : J8 S74 := by rw [eS74]; exact (J8s_text hJS54 hJu73)
        have hFS74 : F_X8_tellLeaf S S74 := hGS74
        have je66 : ((b1g_hashBits (b8g_leaves S74))).toInt = ((b1g_hashBits (b8g_leaves S))).toInt := congrArg (fun z => ((b1g_hashBits z)).toInt) hFS74.2.2.2.1
        have je68 : ((b1g_realBits (b8g_leaves S74))).toInt = ((b1g_realBits (b8g_leaves S))).toInt := congrArg (fun z => ((b1g_realBits z)).toInt) hFS74.2.2.2.1
        have qS74_leaves : b8g_leaves S74 = b8g_leaves S := hFS74.2.2.2.1
        refine sf_X1_hashAt (J8g_leaves hJS74) (fun r75  => ?_)
        have rgr75 := pt_rg r75
        refine sf_X5_putNumber (J8g_text hJS74) (fun u78 hJu78 hfu78  => ?_)
        intro S79 eS79
        have hGS79 : F_X8_tellLeaf S S79 := by
          rw [eS79]
          exact ⟨hFS74.1, hFS74.2.1, hFS74.2.2.1, hFS74.2.2.2.1, hFS74.2.2.2.2.1, hFS74.2.2.2.2.2.1, hFS74.2.2.2.2.2.2.1, hFS74.2.2.2.2.2.2.2.1, hFS74.2.2.2.2.2.2.2.2⟩
        have hJS79 : J8 S79 := by rw [eS79]; exact (J8s_text hJS74 hJu78)
        have hFS79 : F_X8_tellLeaf S S79 := hGS79
        have je70 : ((b1g_hashBits (b8g_leaves S79))).toInt = ((b1g_hashBits (b8g_leaves S))).toInt := congrArg (fun z => ((b1g_hashBits z)).toInt) hFS79.2.2.2.1
        have je72 : ((b1g_realBits (b8g_leaves S79))).toInt = ((b1g_realBits (b8g_leaves S))).toInt := congrArg (fun z => ((b1g_realBits z)).toInt) hFS79.2.2.2.1
        have qS79_leaves : b8g_leaves S79 = b8g_leaves S := hFS79.2.2.2.1
        unfold wp_X8_tellLeaf_101
        refine ⟨fun c80 => ?_, fun c80 => ?_⟩
        · try simp (disch := first | ((try simp (disch := first | ((try simp only [pn]) <;> omega) | fail) only [pn, pq]) <;> omega) | fail) only [pn, pq, qSq3_leaves, qS54_leaves, qS74_leaves, qS79_leaves] at c80
          exact hq _ hJS79 hFS79 
        · try simp (disch := first | ((try simp (disch := first | ((try simp only [pn]) <;> omega) | fail) only [pn, pq]) <;> omega) | fail) only [pn, pq, qSq3_leaves, qS54_leaves, qS74_leaves, qS79_leaves] at c80
          refine sf_X5_put (J8g_text hJS79) (fun u82 hJu82 hfu82  => ?_)
          intro S83 eS83
          have hGS83 : F_X8_tellLeaf S S83 := by
            rw [eS83]
            exact ⟨hFS79.1, hFS79.2.1, hFS79.2.2.1, hFS79.2.2.2.1, hFS79.2.2.2.2.1, hFS79.2.2.2.2.2.1, hFS79.2.2.2.2.2.2.1, hFS79.2.2.2.2.2.2.2.1, hFS79.2.2.2.2.2.2.2.2⟩
          have hJS83 : J8 S83 := by rw [eS83]; exact (J8s_text hJS79 hJu82)
          have hFS83 : F_X8_tellLeaf S S83 := hGS83
          have je74 : ((b1g_hashBits (b8g_leaves S83))).toInt = ((b1g_hashBits (b8g_leaves S))).toInt := congrArg (fun z => ((b1g_hashBits z)).toInt) hFS83.2.2.2.1
          have je76 : ((b1g_realBits (b8g_leaves S83))).toInt = ((b1g_realBits (b8g_leaves S))).toInt := congrArg (fun z => ((b1g_realBits z)).toInt) hFS83.2.2.2.1
          have qS83_leaves : b8g_leaves S83 = b8g_leaves S := hFS83.2.2.2.1
          refine ⟨fun n x1q84 x4q84 Sq84 => (J8 Sq84) ∧ (F_X8_tellLeaf S Sq84) ∧ (x1q84 = x1q3) ∧ n = ((x4q84).toInt + 1).toNat, ⟨_, hJS83, hFS83, rfl, rfl⟩, ?_⟩
          rintro n85 x1q84 x4q84 Sq84 ⟨hJSq84, hFSq84, hkq84_0, hn85⟩
          subst hkq84_0
          have rgx1q84 := pt_rg x1q84
          have rgx4q84 := pt_rg x4q84
          unfold wp_X8_tellLeaf_131b
          have je78 : ((b1g_hashBits (b8g_leaves Sq84))).toInt = ((b1g_hashBits (b8g_leaves S))).toInt := congrArg (fun z => ((b1g_hashBits z)).toInt) hFSq84.2.2.2.1
          have je80 : ((b1g_realBits (b8g_leaves Sq84))).toInt = ((b1g_realBits (b8g_leaves S))).toInt := congrArg (fun z => ((b1g_realBits z)).toInt) hFSq84.2.2.2.1
          have qSq84_leaves : b8g_leaves Sq84 = b8g_leaves S := hFSq84.2.2.2.1
          refine ⟨fun c86 => ?_, fun c86 => ?_⟩
          · try simp (disch := first | ((try simp (disch := first | ((try simp only [pn]) <;> omega) | fail) only [pn, pq]) <;> omega) | fail) only [pn, pq, qSq3_leaves, qS54_leaves, qS74_leaves, qS79_leaves, qS83_leaves, qSq84_leaves] at c86
            exact hq _ hJSq84 hFSq84 
          · try simp (disch := first | ((try simp (disch := first | ((try simp only [pn]) <;> omega) | fail) only [pn, pq]) <;> omega) | fail) only [pn, pq, qSq3_leaves, qS54_leaves, qS74_leaves, qS79_leaves, qS83_leaves, qSq84_leaves] at c86
            refine sf_X1_nextAt (J8g_leaves hJSq84) (fun r87  => ?_)
            have rgr87 := pt_rg r87
            refine ⟨fun c89 => ?_, fun c89 => ?_⟩
            · try simp (disch := first | ((try simp (disch := first | ((try simp only [pn]) <;> omega) | fail) only [pn, pq]) <;> omega) | fail) only [pn, pq, qSq3_leaves, qS54_leaves, qS74_leaves, qS79_leaves, qS83_leaves, qSq84_leaves] at c89
              unfold wp_X8_tellLeaf_164
              refine sf_X5_put (J8g_text hJSq84) (fun u91 hJu91 hfu91  => ?_)
              intro S92 eS92
              have hGS92 : F_X8_tellLeaf S S92 := by
                rw [eS92]
                exact ⟨hFSq84.1, hFSq84.2.1, hFSq84.2.2.1, hFSq84.2.2.2.1, hFSq84.2.2.2.2.1, hFSq84.2.2.2.2.2.1, hFSq84.2.2.2.2.2.2.1, hFSq84.2.2.2.2.2.2.2.1, hFSq84.2.2.2.2.2.2.2.2⟩
              have hJS92 : J8 S92 := by rw [eS92]; exact (J8s_text hJSq84 hJu91)
              have hFS92 : F_X8_tellLeaf S S92 := hGS92
              have je82 : ((b1g_hashBits (b8g_leaves S92))).toInt = ((b1g_hashBits (b8g_leaves S))).toInt := congrArg (fun z => ((b1g_hashBits z)).toInt) hFS92.2.2.2.1
              have je84 : ((b1g_realBits (b8g_leaves S92))).toInt = ((b1g_realBits (b8g_leaves S))).toInt := congrArg (fun z => ((b1g_realBits z)).toInt) hFS92.2.2.2.1
              have qS92_leaves : b8g_leaves S92 = b8g_leaves S := hFS92.2.2.2.1
              refine ⟨_, ?_, ?_, ?_, ?_, rfl⟩
              · (try simp (disch := first | ((try simp (disch := first | ((try simp only [pn]) <;> omega) | fail) only [pn, pq]) <;> omega) | fail) only [pn, pq, qSq3_leaves, qS54_leaves, qS74_leaves, qS79_leaves, qS83_leaves, qSq84_leaves, qS92_leaves]) <;> (intros; (try simp (disch := first | ((try simp (disch := first | ((try simp only [pn]) <;> omega) | fail) only [pn, pq]) <;> omega) | fail) only [pn, pq, qSq3_leaves, qS54_leaves, qS74_leaves, qS79_leaves, qS83_leaves, qSq84_leaves, qS92_leaves]) <;> omega)
              · exact hJS92
              · exact hFS92
              · first | rfl | assumption
            · try simp (disch := first | ((try simp (disch := first | ((try simp only [pn]) <;> omega) | fail) only [pn, pq]) <;> omega) | fail) only [pn, pq, qSq3_leaves, qS54_leaves, qS74_leaves, qS79_leaves, qS83_leaves, qSq84_leaves] at c89
              unfold wp_X8_tellLeaf_164
              refine sf_X5_put (J8g_text hJSq84) (fun u94 hJu94 hfu94  => ?_)
              intro S95 eS95
              have hGS95 : F_X8_tellLeaf S S95 := by
                rw [eS95]
                exact ⟨hFSq84.1, hFSq84.2.1, hFSq84.2.2.1, hFSq84.2.2.2.1, hFSq84.2.2.2.2.1, hFSq84.2.2.2.2.2.1, hFSq84.2.2.2.2.2.2.1, hFSq84.2.2.2.2.2.2.2.1, hFSq84.2.2.2.2.2.2.2.2⟩
              have hJS95 : J8 S95 := by rw [eS95]; exact (J8s_text hJSq84 hJu94)
              have hFS95 : F_X8_tellLeaf S S95 := hGS95
              have je86 : ((b1g_hashBits (b8g_leaves S95))).toInt = ((b1g_hashBits (b8g_leaves S))).toInt := congrArg (fun z => ((b1g_hashBits z)).toInt) hFS95.2.2.2.1
              have je88 : ((b1g_realBits (b8g_leaves S95))).toInt = ((b1g_realBits (b8g_leaves S))).toInt := congrArg (fun z => ((b1g_realBits z)).toInt) hFS95.2.2.2.1
              have qS95_leaves : b8g_leaves S95 = b8g_leaves S := hFS95.2.2.2.1
              refine ⟨_, ?_, ?_, ?_, ?_, rfl⟩
              · (try simp (disch := first | ((try simp (disch := first | ((try simp only [pn]) <;> omega) | fail) only [pn, pq]) <;> omega) | fail) only [pn, pq, qSq3_leaves, qS54_leaves, qS74_leaves, qS79_leaves, qS83_leaves, qSq84_leaves, qS95_leaves]) <;> (intros; (try simp (disch := first | ((try simp (disch := first | ((try simp only [pn]) <;> omega) | fail) only [pn, pq]) <;> omega) | fail) only [pn, pq, qSq3_leaves, qS54_leaves, qS74_leaves, qS79_leaves, qS83_leaves, qSq84_leaves, qS95_leaves]) <;> omega)
              · exact hJS95
              · exact hFS95
              · first | rfl | assumption
  · try simp (disch := first | ((try simp (disch := first | ((try simp only [pn]) <;> omega) | fail) only [pn, pq]) <;> omega) | fail) only [pn, pq, qSq3_leaves] at c7
    refine sf_X8_octetAt  (fun r96  => ?_)
    have rgr96 := pt_rg r96
    refine sf_X5_putOctet (J8g_text hJSq3) (fun u99 hJu99 hfu99  => ?_)
    intro S100 eS100
    have hGS100 : F_X8_tellLeaf S S100 := by
      rw [eS100]
      exact ⟨hFSq3.1, hFSq3.2.1, hFSq3.2.2.1, hFSq3.2.2.2.1, hFSq3.2.2.2.2.1, hFSq3.2.2.2.2.2.1, hFSq3.2.2.2.2.2.2.1, hFSq3.2.2.2.2.2.2.2.1, hFSq3.2.2.2.2.2.2.2.2⟩
    have hJS100 : J8 S100 := by rw [eS100]; exact (J8s_text hJSq3 hJu99)
    have hFS100 : F_X8_tellLeaf S S100 := hGS100
    have je90 : ((b1g_hashBits (b8g_leaves S100))).toInt = ((b1g_hashBits (b8g_leaves S))).toInt := congrArg (fun z => ((b1g_hashBits z)).toInt) hFS100.2.2.2.1
    have je92 : ((b1g_realBits (b8g_leaves S100))).toInt = ((b1g_realBits (b8g_leaves S))).toInt := congrArg (fun z => ((b1g_realBits z)).toInt) hFS100.2.2.2.1
    have qS100_leaves : b8g_leaves S100 = b8g_leaves S := hFS100.2.2.2.1
    refine ⟨_, ?_, ?_, ?_, ?_, ?_, ?_, rfl⟩
    · (try simp (disch := first | ((try simp (disch := first | ((try simp only [pn]) <;> omega) | fail) only [pn, pq]) <;> omega) | fail) only [pn, pq, qSq3_leaves, qS100_leaves]) <;> (intros; (try simp (disch := first | ((try simp (disch := first | ((try simp only [pn]) <;> omega) | fail) only [pn, pq]) <;> omega) | fail) only [pn, pq, qSq3_leaves, qS100_leaves]) <;> omega)
    · exact hJS100
    · exact hFS100
    · first | rfl | assumption
    · first | rfl | assumption
    · (try simp (disch := first | ((try simp (disch := first | ((try simp only [pn]) <;> omega) | fail) only [pn, pq]) <;> omega) | fail) only [pn, pq, qSq3_leaves, qS100_leaves]) <;> (intros; (try simp (disch := first | ((try simp (disch := first | ((try simp only [pn]) <;> omega) | fail) only [pn, pq]) <;> omega) | fail) only [pn, pq, qSq3_leaves, qS100_leaves]) <;> omega)
def F_X8_report (S u : bT8) : Prop := (b8g_now u) = (b8g_now S) ∧ (b8g_kept u) = (b8g_kept S) ∧ (b8g_isKept u) = (b8g_isKept S) ∧ (b8g_leaves u) = (b8g_leaves S) ∧ (b8g_tree u) = (b8g_tree S) ∧ (b8g_tuning u) = (b8g_tuning S) ∧ (b8g_trial u) = (b8g_trial S) ∧ (b8g_tape u) = (b8g_tape S) ∧ (b8g_chosenRow u) = (b8g_chosenRow S)
set_option maxRecDepth 20000 in
set_option maxHeartbeats 8000000 in
theorem sf_X8_report {S : bT8} (hJ : J8 S) {a1 : Int32} {Q : Int32 → (bT8) → Prop} (hq : ∀ (r : Int32) (u : bT8), (J8 u) → F_X8_report S u → Q r u) : wp_X8_report S a1 Q := by
  unfold wp_X8_report
  have hFS : F_X8_report S S := ⟨rfl, rfl, rfl, rfl, rfl, rfl, rfl, rfl, rfl⟩
  have jf1 := J5g_length (J8g_text hJ)
  have rga1 := pt_rg a1
  refine ⟨fun c1 => ?_, fun c1 => ?_⟩
  · try simp (disch := first | ((try simp (disch := first | ((try simp only [pn]) <;> omega) | fail) only [pn, pq]) <;> omega) | fail) only [pn, pq] at c1
    exact hq _ _ hJ hFS 
  · try simp (disch := first | ((try simp (disch := first | ((try simp only [pn]) <;> omega) | fail) only [pn, pq]) <;> omega) | fail) only [pn, pq] at c1
    refine sf_X1_count (J8g_leaves hJ) (fun r2 hr2_0 => ?_)
    have rgr2 := pt_rg r2
    try simp (disch := first | ((try simp (disch := first | ((try simp only [pn]) <;> omega) | fail) only [pn, pq]) <;> omega) | fail) only [pn, pq] at hr2_0
    refine ⟨fun c4 => ?_, fun c4 => ?_⟩
    · try simp (disch := first | ((try simp (disch := first | ((try simp only [pn]) <;> omega) | fail) only [pn, pq]) <;> omega) | fail) only [pn, pq] at c4
      intro S5 eS5
      have hJS5 : J8 S5 := by rw [eS5]; exact (J8s_text hJ (J5s_length (J8g_text hJ) ⟨(by (try simp (disch := first | ((try simp (disch := first | ((try simp only [pn]) <;> omega) | fail) only [pn, pq]) <;> omega) | fail) only [pn, pq]) <;> (intros; (try simp (disch := first | ((try simp (disch := first | ((try simp only [pn]) <;> omega) | fail) only [pn, pq]) <;> omega) | fail) only [pn, pq]) <;> omega)), (by (try simp (disch := first | ((try simp (disch := first | ((try simp only [pn]) <;> omega) | fail) only [pn, pq]) <;> omega) | fail) only [pn, pq]) <;> (intros; (try simp (disch := first | ((try simp (disch := first | ((try simp only [pn]) <;> omega) | fail) only [pn, pq]) <;> omega) | fail) only [pn, pq]) <;> omega))⟩))
      have hFS5 : F_X8_report S S5 := by rw [eS5]; exact hFS
      have je2 : ((b5g_length (b8g_text S5))).toInt = ((0 : Int32)).toInt := by rw [eS5]
      try simp (disch := first | ((try simp (disch := first | ((try simp only [pn]) <;> omega) | fail) only [pn, pq]) <;> omega) | fail) only [pn, pq] at je2
      have jf3 := J5g_length (J8g_text hJS5)
      refine ⟨fun c6 => ?_, fun c6 => ?_⟩
      · try simp (disch := first | ((try simp (disch := first | ((try simp only [pn]) <;> omega) | fail) only [pn, pq]) <;> omega) | fail) only [pn, pq] at c6
        refine sf_X8_tellLeaf hJS5 (fun u8 hJu8 hfu8  => ?_)
        have hFu8 : F_X8_report S u8 := ⟨(congrArg (fun z => z) hfu8.1).trans hFS5.1, (congrArg (fun z => z) hfu8.2.1).trans hFS5.2.1, (congrArg (fun z => z) hfu8.2.2.1).trans hFS5.2.2.1, (congrArg (fun z => z) hfu8.2.2.2.1).trans hFS5.2.2.2.1, (congrArg (fun z => z) hfu8.2.2.2.2.1).trans hFS5.2.2.2.2.1, (congrArg (fun z => z) hfu8.2.2.2.2.2.1).trans hFS5.2.2.2.2.2.1, (congrArg (fun z => z) hfu8.2.2.2.2.2.2.1).trans hFS5.2.2.2.2.2.2.1, (congrArg (fun z => z) hfu8.2.2.2.2.2.2.2.1).trans hFS5.2.2.2.2.2.2.2.1, (congrArg (fun z => z) hfu8.2.2.2.2.2.2.2.2).trans hFS5.2.2.2.2.2.2.2.2⟩
        have jf4 := J5g_length (J8g_text hJu8)
        exact hq _ _ hJu8 hFu8 
      · try simp (disch := first | ((try simp (disch := first | ((try simp only [pn]) <;> omega) | fail) only [pn, pq]) <;> omega) | fail) only [pn, pq] at c6
        refine sf_X8_tellFilter hJS5 (fun u10 hJu10 hfu10  => ?_)
        have hFu10 : F_X8_report S u10 := ⟨(congrArg (fun z => z) hfu10.1).trans hFS5.1, (congrArg (fun z => z) hfu10.2.1).trans hFS5.2.1, (congrArg (fun z => z) hfu10.2.2.1).trans hFS5.2.2.1, (congrArg (fun z => z) hfu10.2.2.2.1).trans hFS5.2.2.2.1, (congrArg (fun z => z) hfu10.2.2.2.2.1).trans hFS5.2.2.2.2.1, (congrArg (fun z => z) hfu10.2.2.2.2.2.1).trans hFS5.2.2.2.2.2.1, (congrArg (fun z => z) hfu10.2.2.2.2.2.2.1).trans hFS5.2.2.2.2.2.2.1, (congrArg (fun z => z) hfu10.2.2.2.2.2.2.2.1).trans hFS5.2.2.2.2.2.2.2.1, (congrArg (fun z => z) hfu10.2.2.2.2.2.2.2.2).trans hFS5.2.2.2.2.2.2.2.2⟩
        have jf5 := J5g_length (J8g_text hJu10)
        exact hq _ _ hJu10 hFu10 
    · try simp (disch := first | ((try simp (disch := first | ((try simp only [pn]) <;> omega) | fail) only [pn, pq]) <;> omega) | fail) only [pn, pq] at c4
      exact hq _ _ hJ hFS 
set_option maxRecDepth 20000 in
set_option maxHeartbeats 8000000 in
theorem sf_X8_sign {S : bT8} (hJ : J8 S) {a1 : Int32} {Q : Int32 → Prop} (hq : ∀ r : Int32, Q r) : wp_X8_sign S a1 Q := by
  unfold wp_X8_sign
  have rga1 := pt_rg a1
  refine sf_X5_signAt (J8g_text hJ) (fun r1  => ?_)
  have rgr1 := pt_rg r1
  exact hq _ 
def F_X8_image (S u : bT8) : Prop := (b8g_tuning u) = (b8g_tuning S) ∧ (b8g_trial u) = (b8g_trial S) ∧ (b8g_tape u) = (b8g_tape S) ∧ (b8g_text u) = (b8g_text S) ∧ (b8g_chosenRow u) = (b8g_chosenRow S)
theorem sf_X8_image {S : bT8} (hJ : J8 S) {a1 : Int32} {Q : Int32 → (bT8) → Prop} (hq : ∀ (r : Int32) (u : bT8), (J8 u) → F_X8_image S u → bf_bool r → ((a1.toInt ≠ 0 ∧ r.toInt = 1 ∧ (b8g_isKept u).toInt = 1) ∨ (a1.toInt = 0 ∧ (b8g_isKept S).toInt = 0 ∧ r.toInt = 0 ∧ (b8g_isKept u).toInt = 0) ∨ (a1.toInt = 0 ∧ (b8g_isKept S).toInt ≠ 0 ∧ r.toInt = (b8g_isKept S).toInt ∧ (b8g_isKept u).toInt = (b8g_isKept S).toInt)) → (a1.toInt ≠ 0 → MEQ (b8g_kept u) (b8g_now S) ∧ b8g_now u = b8g_now S) → (a1.toInt = 0 → (b8g_isKept S).toInt = 0 → b8g_now u = b8g_now S ∧ b8g_kept u = b8g_kept S) → (a1.toInt = 0 → (b8g_isKept S).toInt ≠ 0 → MEQ (b8g_now u) (b8g_kept S) ∧ b8g_kept u = b8g_kept S) → (a1.toInt = 0 → (b8g_isKept S).toInt ≠ 0 → LVX (b8g_leaves u) (b2g_built (b8g_now u))) → (a1.toInt ≠ 0 ∨ (b8g_isKept S).toInt = 0 → b8g_leaves u = b8g_leaves S) → Q r u) : wp_X8_image S a1 Q := by
  have hk := J8g_isKept hJ
  have z : ∀ {b : Int32}, b.toInt = 0 → b = 0 := fun h => Int32.toInt_inj.mp h
  unfold wp_X8_image
  refine ⟨fun c => ⟨fun d => ⟨hk, ?_⟩, fun d => ?_⟩, fun c => ?_⟩
  · have a0 : a1.toInt = 0 := by rw [c]; rfl
    have d0 : (b8g_isKept S).toInt = 0 := by rw [d]; rfl
    exact hq _ _ hJ ⟨rfl, rfl, rfl, rfl, rfl⟩ hk (Or.inr (Or.inl ⟨a0, d0, d0, d0⟩)) (fun h => absurd a0 h) (fun _ _ => ⟨rfl, rfl⟩) (fun _ h => absurd d0 h) (fun _ h => absurd d0 h) (fun _ => rfl)
  · have a0 : a1.toInt = 0 := by rw [c]; rfl
    have d0 : (b8g_isKept S).toInt ≠ 0 := fun h => d (z h)
    refine sf_X2_copyFrom (S := ((b8g_now S), (b8g_kept S))) ⟨J8g_now hJ, J8g_kept hJ⟩ (fun u2 hJ2 hf2 qc dr qm => ?_)
    intro S3 e3
    have f2 : u2.2 = b8g_kept S := hf2
    have hJ3 : J8 S3 := by rw [e3]; exact J8s_kept (J8s_now hJ hJ2.1) hJ2.2
    refine sf_X8_rebuild hJ3 (fun u5 hJ5 hf5 _ x5 => ?_)
    have n5 : b8g_now u5 = u2.1 := (hf5.1).trans (by rw [e3])
    have k5 : b8g_kept u5 = b8g_kept S := (hf5.2.1).trans (by rw [e3]; exact f2)
    have i5 : b8g_isKept u5 = b8g_isKept S := (hf5.2.2.1).trans (by rw [e3])
    have hF3 : F_X8_image S S3 := by rw [e3]; exact ⟨rfl, rfl, rfl, rfl, rfl⟩
    have hF5 : F_X8_image S u5 := ⟨(hf5.2.2.2.1).trans (hF3.1), (hf5.2.2.2.2.1).trans (hF3.2.1), (hf5.2.2.2.2.2.1).trans (hF3.2.2.1), (hf5.2.2.2.2.2.2.1).trans (hF3.2.2.2.1), (hf5.2.2.2.2.2.2.2).trans (hF3.2.2.2.2)⟩
    have q5 : b0g_count (b2g_questions (b8g_now u5)) = b0g_count (b2g_questions (b8g_kept S)) := by rw [n5]; exact qm.2.2.1.1
    have r5 : b2g_draws (b8g_now u5) = b2g_draws (b8g_kept S) := by rw [n5]; exact qm.2.2.2.2
    rw [i5]
    exact ⟨hk, hq _ _ hJ5 hF5 hk (Or.inr (Or.inr ⟨a0, d0, rfl, by rw [i5]⟩)) (fun h => absurd a0 h) (fun _ h => absurd h d0) (fun _ _ => ⟨by rw [n5]; exact qm, k5⟩) (fun _ _ => by rw [show b8g_now u5 = b8g_now S3 from hf5.1]; exact x5) (fun h => h.elim (fun g => absurd a0 g) (fun g => absurd g d0))⟩
  · have a0 : a1.toInt ≠ 0 := fun h => c (z h)
    refine sf_X2_copyFrom (S := ((b8g_kept S), (b8g_now S))) ⟨J8g_kept hJ, J8g_now hJ⟩ (fun u2 hJ2 hf2 qc dr qm => ?_)
    intro S3 e3 S4 e4
    have f2 : u2.2 = b8g_now S := hf2
    have n4 : b8g_now S4 = b8g_now S := by
      have : b8g_now S4 = u2.2 := by rw [e4, e3]
      rw [this, f2]
    have k4 : b8g_kept S4 = u2.1 := by rw [e4, e3]
    have i4 : b8g_isKept S4 = 1 := by rw [e4]
    have hJ3 : J8 S3 := by rw [e3]; exact J8s_now (J8s_kept hJ hJ2.1) hJ2.2
    have hJ4 : J8 S4 := by rw [e4]; exact J8s_isKept hJ3 rfl
    have q5 : b0g_count (b2g_questions (b8g_kept S4)) = b0g_count (b2g_questions (b8g_now S)) := by rw [k4]; exact qm.2.2.1.1
    have r5 : b2g_draws (b8g_kept S4) = b2g_draws (b8g_now S) := by rw [k4]; exact qm.2.2.2.2
    have hF4 : F_X8_image S S4 := by rw [e4, e3]; exact ⟨rfl, rfl, rfl, rfl, rfl⟩
    rw [i4]
    exact ⟨rfl, hq _ _ hJ4 hF4 rfl (Or.inl ⟨a0, rfl, by rw [i4]; rfl⟩) (fun _ => ⟨by rw [k4]; exact qm, n4⟩) (fun h => absurd h a0) (fun h => absurd h a0) (fun h => absurd h a0) (fun _ => by rw [e4, e3])⟩
set_option maxRecDepth 20000 in
set_option maxHeartbeats 8000000 in
theorem sf_X8_look {S : bT8} (hJ : J8 S) {a1 : Int32} {Q : Int32 → Prop} (hq : ∀ r : Int32, Q r) : wp_X8_look S a1 Q := by
  unfold wp_X8_look
  have jf1 := J0g_count (J3g_members (J2g_told (J8g_now hJ)))
  have jf2 := J0g_count (J2g_questions (J8g_now hJ))
  have jf3 := J6g_levels (J8g_tree hJ)
  have jf4 := J6g_nodes (J8g_tree hJ)
  have jf5 := J4g_count (J8g_tape hJ)
  have rga1 := pt_rg a1
  refine ⟨fun c => ?_, fun c => ?_, fun c => ?_, fun c => ?_, fun c => ?_, fun c => ?_, fun c => ?_, fun c => ?_, fun c => ?_, fun c => ?_, fun c => ?_, fun c => ?_, fun c => ?_, fun c => ?_, fun c => ?_, fun c => ?_⟩
  · skip
    refine ⟨fun c1 => ?_, fun c1 => ?_⟩
    · try simp (disch := first | ((try simp (disch := first | ((try simp only [pn]) <;> omega) | fail) only [pn, pq]) <;> omega) | fail) only [pn, pq] at c1
      exact hq _ 
    · try simp (disch := first | ((try simp (disch := first | ((try simp only [pn]) <;> omega) | fail) only [pn, pq]) <;> omega) | fail) only [pn, pq] at c1
      refine ⟨fun c2 => ?_, fun c2 => ?_⟩
      · try simp (disch := first | ((try simp (disch := first | ((try simp only [pn]) <;> omega) | fail) only [pn, pq]) <;> omega) | fail) only [pn, pq] at c2
        exact hq _ 
      · try simp (disch := first | ((try simp (disch := first | ((try simp only [pn]) <;> omega) | fail) only [pn, pq]) <;> omega) | fail) only [pn, pq] at c2
        refine sf_X8_at (by decide) (fun r3 hr3_0 => ?_)
        have rgr3 := pt_rg r3
        try simp (disch := first | ((try simp (disch := first | ((try simp only [pn]) <;> omega) | fail) only [pn, pq]) <;> omega) | fail) only [pn, pq] at hr3_0
        exact hq _ 
  · skip
    exact hq _ 
  · skip
    exact hq _ 
  · skip
    exact hq _ 
  · skip
    refine sf_X1_count (J8g_leaves hJ) (fun r5 hr5_0 => ?_)
    have rgr5 := pt_rg r5
    try simp (disch := first | ((try simp (disch := first | ((try simp only [pn]) <;> omega) | fail) only [pn, pq]) <;> omega) | fail) only [pn, pq] at hr5_0
    exact hq _ 
  · skip
    exact hq _ 
  · skip
    exact hq _ 
  · skip
    exact hq _ 
  · skip
    exact hq _ 
  · skip
    refine sf_X6_items (J8g_tree hJ) (fun r7  => ?_)
    have rgr7 := pt_rg r7
    exact hq _ 
  · skip
    exact hq _ 
  · skip
    exact hq _ 
  · skip
    exact hq _ 
  · skip
    exact hq _ 
  · skip
    refine sf_X1_allEnded (J8g_leaves hJ) (fun r9  => ?_)
    have rgr9 := pt_rg r9
    exact hq _ 
  · skip
    refine sf_X1_allBytes (J8g_leaves hJ) (fun r11  => ?_)
    have rgr11 := pt_rg r11
    exact hq _ 
set_option maxRecDepth 20000 in
set_option maxHeartbeats 8000000 in
theorem sf_X9_isIn {S : bT9} (hJ : K9 S) {a1 : Int32} {a2 : Int32} {a3 : Int32} {Q : Int32 → Prop} (hq : ∀ r : Int32, bf_bool r → ((r.toInt = 1 ∧ a2.toInt ≤ a1.toInt ∧ a1.toInt ≤ a3.toInt) ∨ (r.toInt = 0 ∧ (a1.toInt < a2.toInt ∨ a3.toInt < a1.toInt))) → Q r) : wp_X9_isIn S a1 a2 a3 Q := by
  unfold wp_X9_isIn
  have jf1 : (-4 ≤ ((b9g_now S) 1).toInt ∧ ((b9g_now S) 1).toInt ≤ 4) ∧ (-3 ≤ ((b9g_now S) 4).toInt ∧ ((b9g_now S) 4).toInt ≤ 252) ∧ (0 ≤ ((b9g_now S) 8).toInt ∧ ((b9g_now S) 8).toInt ≤ 64) ∧ (0 ≤ ((b9g_now S) 9).toInt ∧ ((b9g_now S) 9).toInt ≤ 64) ∧ (0 ≤ ((b9g_now S) 10).toInt ∧ ((b9g_now S) 10).toInt ≤ 16) ∧ (0 ≤ ((b9g_now S) 12).toInt ∧ ((b9g_now S) 12).toInt ≤ 8) := K9g_now hJ
  have rga1 := pt_rg a1
  have rga2 := pt_rg a2
  have rga3 := pt_rg a3
  refine ⟨fun c1 => ?_, fun c1 => ?_⟩
  · try simp (disch := first | ((try simp (disch := first | ((try simp only [pn]) <;> omega) | fail) only [pn, pq]) <;> omega) | fail) only [pn, pq] at c1
    exact ⟨by first | rfl | assumption, hq _ (by first | rfl | assumption) (by (try simp (disch := first | ((try simp (disch := first | ((try simp only [pn]) <;> omega) | fail) only [pn, pq]) <;> omega) | fail) only [pn, pq]) <;> (intros; (try simp (disch := first | ((try simp (disch := first | ((try simp only [pn]) <;> omega) | fail) only [pn, pq]) <;> omega) | fail) only [pn, pq]) <;> omega))⟩
  · try simp (disch := first | ((try simp (disch := first | ((try simp only [pn]) <;> omega) | fail) only [pn, pq]) <;> omega) | fail) only [pn, pq] at c1
    refine ⟨fun c2 => ?_, fun c2 => ?_⟩
    · try simp (disch := first | ((try simp (disch := first | ((try simp only [pn]) <;> omega) | fail) only [pn, pq]) <;> omega) | fail) only [pn, pq] at c2
      exact ⟨by first | rfl | assumption, hq _ (by first | rfl | assumption) (by (try simp (disch := first | ((try simp (disch := first | ((try simp only [pn]) <;> omega) | fail) only [pn, pq]) <;> omega) | fail) only [pn, pq]) <;> (intros; (try simp (disch := first | ((try simp (disch := first | ((try simp only [pn]) <;> omega) | fail) only [pn, pq]) <;> omega) | fail) only [pn, pq]) <;> omega))⟩
    · try simp (disch := first | ((try simp (disch := first | ((try simp only [pn]) <;> omega) | fail) only [pn, pq]) <;> omega) | fail) only [pn, pq] at c2
      exact ⟨by first | rfl | assumption, hq _ (by first | rfl | assumption) (by (try simp (disch := first | ((try simp (disch := first | ((try simp only [pn]) <;> omega) | fail) only [pn, pq]) <;> omega) | fail) only [pn, pq]) <;> (intros; (try simp (disch := first | ((try simp (disch := first | ((try simp only [pn]) <;> omega) | fail) only [pn, pq]) <;> omega) | fail) only [pn, pq]) <;> omega))⟩
theorem sf_X9_firstOf {S : bT9} (hJ : K9 S) {a1 : Int32} {Q : Int32 → Prop} (hq : ∀ r : Int32, (a1.toInt = 4 → r.toInt = 4) → (a1.toInt = 1 → r.toInt = 4) → (0 ≤ r.toInt) → (r.toInt ≤ 16) → (r = FST a1) → Q r) : wp_X9_firstOf S a1 Q := by
  have fin : ∀ r : Int32, r = FST a1 → Q r := by
    intro r hr
    obtain ⟨f1, f2, f3, f4⟩ := FST_f a1
    rw [← hr] at f1 f2 f3 f4
    exact hq r f1 f2 f3 f4 hr
  unfold wp_X9_firstOf
  refine ⟨fun c => fin _ ?_, fun c => ⟨fun d => fin _ ?_, fun d => ⟨fun e => ⟨fun f => ⟨fun g => fin _ ?_, fun g => fin _ ?_⟩, fun f => fin _ ?_⟩, fun e => fin _ ?_⟩⟩⟩
  · unfold FST; rw [if_pos c]
  · unfold FST; rw [if_neg c, if_pos d]
  · unfold FST; rw [if_neg c, if_neg d, if_neg e, if_neg f, if_neg g]
  · unfold FST; rw [if_neg c, if_neg d, if_neg e, if_neg f, if_pos g]
  · unfold FST; rw [if_neg c, if_neg d, if_neg e, if_pos f]
  · unfold FST; rw [if_neg c, if_neg d, if_pos e]
theorem sf_X9_settingOf {S : bT9} (hJ : K9 S) {a1 : Int32} {Q : Int32 → Prop} (hp0 : 0 ≤ a1.toInt) (hp1 : a1.toInt ≤ 22) (hq : ∀ r : Int32, (a1.toInt = 4 → (1 ≤ r.toInt ∧ r.toInt ≤ 256)) → (a1.toInt = 1 → (0 ≤ r.toInt ∧ r.toInt ≤ 8)) → (a1.toInt = 4 → r = b9g_now S 4 + 4) → (r = b9g_now S a1.toNatClampNeg + FST a1) → Q r) : wp_X9_settingOf S a1 Q := by
  obtain ⟨w1, w4, _⟩ := NW_at (K9g_now hJ) a1
  unfold wp_X9_settingOf
  refine ⟨pt_in hp0 (by omega), sf_X9_firstOf hJ (fun r1 g4 g1 p0 p16 hF => hq _ (fun h => ?_) (fun h => ?_) (fun h => ?_) (by rw [hF]))⟩
  · have a := w4 h
    have b := g4 h
    rw [pt_add (by omega) (by omega)]
    omega
  · have a := w1 h
    have b := g1 h
    rw [pt_add (by omega) (by omega)]
    omega
  · have e4 : a1 = 4 := Int32.toInt_inj.mp (by rw [pl_4]; exact h)
    have e5 : r1 = 4 := Int32.toInt_inj.mp (by rw [pl_4]; exact g4 h)
    rw [e5, e4]
    rfl
theorem sf_X9_canSet {S : bT9} (hJ : K9 S) {a1 : Int32} {a2 : Int32} {Q : Int32 → Prop} (hq : ∀ r : Int32, bf_bool r → ((r.toInt = 1 ∧ ((a1.toInt = 0 ∧ 0 ≤ a2.toInt ∧ a2.toInt ≤ 8) ∨ (a1.toInt = 1 ∧ 0 ≤ a2.toInt ∧ a2.toInt ≤ 8) ∨ (a1.toInt = 2 ∧ 0 ≤ a2.toInt ∧ a2.toInt ≤ 9) ∨ (a1.toInt = 3 ∧ 1 ≤ a2.toInt ∧ a2.toInt ≤ 64) ∨ (a1.toInt = 4 ∧ 1 ≤ a2.toInt ∧ a2.toInt ≤ 256) ∨ a1.toInt = 5)) ∨ (r.toInt = 0 ∧ ¬ ((a1.toInt = 0 ∧ 0 ≤ a2.toInt ∧ a2.toInt ≤ 8) ∨ (a1.toInt = 1 ∧ 0 ≤ a2.toInt ∧ a2.toInt ≤ 8) ∨ (a1.toInt = 2 ∧ 0 ≤ a2.toInt ∧ a2.toInt ≤ 9) ∨ (a1.toInt = 3 ∧ 1 ≤ a2.toInt ∧ a2.toInt ≤ 64) ∨ (a1.toInt = 4 ∧ 1 ≤ a2.toInt ∧ a2.toInt ≤ 256) ∨ a1.toInt = 5))) → Q r) : wp_X9_canSet S a1 a2 Q := by
  have no : ∀ {m : Int32}, ¬ a1 = m → ¬ a1.toInt = m.toInt := fun h z => h (Int32.toInt_inj.mp z)
  unfold wp_X9_canSet wp_X9_canSet_9
  refine ⟨fun c => ?_, fun c0 => ⟨fun c1 => ⟨fun c2 => ⟨fun c3 => ⟨fun c4 => ⟨fun c5 => ⟨rfl, hq _ rfl (Or.inr ⟨rfl, fun z => ?_⟩)⟩, fun c => ⟨rfl, hq _ rfl (Or.inl ⟨rfl, Or.inr (Or.inr (Or.inr (Or.inr (Or.inr (congrArg Int32.toInt c)))))⟩)⟩⟩, fun c => ?_⟩, fun c => ?_⟩, fun c => ?_⟩, fun c => ?_⟩⟩
  · have m := congrArg Int32.toInt c
    simp only [pn] at m
    refine sf_X9_isIn hJ (fun r hz h => ⟨hz, hq r hz ?_⟩)
    simp only [pn] at h
    rcases h with ⟨e, p⟩ | ⟨e, p⟩
    · exact Or.inl ⟨e, Or.inl ⟨m, p⟩⟩
    · refine Or.inr ⟨e, fun z => ?_⟩
      rcases z with z | z | z | z | z | z <;> omega
  · have n0 := no c0
    have n1 := no c1
    have n2 := no c2
    have n3 := no c3
    have n4 := no c4
    have n5 := no c5
    simp only [pn] at n0 n1 n2 n3 n4 n5
    rcases z with z | z | z | z | z | z <;> omega
  · have m := congrArg Int32.toInt c
    simp only [pn] at m
    refine sf_X9_isIn hJ (fun r hz h => ⟨hz, hq r hz ?_⟩)
    simp only [pn] at h
    rcases h with ⟨e, p⟩ | ⟨e, p⟩
    · exact Or.inl ⟨e, Or.inr (Or.inr (Or.inr (Or.inr (Or.inl ⟨m, p⟩))))⟩
    · refine Or.inr ⟨e, fun z => ?_⟩
      rcases z with z | z | z | z | z | z <;> omega
  · have m := congrArg Int32.toInt c
    simp only [pn] at m
    refine sf_X9_isIn hJ (fun r hz h => ⟨hz, hq r hz ?_⟩)
    simp only [pn] at h
    rcases h with ⟨e, p⟩ | ⟨e, p⟩
    · exact Or.inl ⟨e, Or.inr (Or.inr (Or.inr (Or.inl ⟨m, p⟩)))⟩
    · refine Or.inr ⟨e, fun z => ?_⟩
      rcases z with z | z | z | z | z | z <;> omega
  · have m := congrArg Int32.toInt c
    simp only [pn] at m
    refine sf_X9_isIn hJ (fun r hz h => ⟨hz, hq r hz ?_⟩)
    simp only [pn] at h
    rcases h with ⟨e, p⟩ | ⟨e, p⟩
    · exact Or.inl ⟨e, Or.inr (Or.inr (Or.inl ⟨m, p⟩))⟩
    · refine Or.inr ⟨e, fun z => ?_⟩
      rcases z with z | z | z | z | z | z <;> omega
  · have m := congrArg Int32.toInt c
    simp only [pn] at m
    refine sf_X9_isIn hJ (fun r hz h => ⟨hz, hq r hz ?_⟩)
    simp only [pn] at h
    rcases h with ⟨e, p⟩ | ⟨e, p⟩
    · exact Or.inl ⟨e, Or.inr (Or.inl ⟨m, p⟩)⟩
    · refine Or.inr ⟨e, fun z => ?_⟩
      rcases z with z | z | z | z | z | z <;> omega
def F_X9_set (S u : bT9) : Prop := (b9g_keys u) = (b9g_keys S) ∧ (b9g_lengths u) = (b9g_lengths S) ∧ (b9g_drawn u) = (b9g_drawn S) ∧ (b9g_drawnLength u) = (b9g_drawnLength S) ∧ (b9g_tape u) = (b9g_tape S) ∧ (b9g_taped u) = (b9g_taped S) ∧ (b9g_names u) = (b9g_names S) ∧ (b9g_chosen u) = (b9g_chosen S) ∧ (b9g_common u) = (b9g_common S) ∧ (b9g_beginning u) = (b9g_beginning S) ∧ (b9g_isLaid u) = (b9g_isLaid S) ∧ (b9g_nodeLevel u) = (b9g_nodeLevel S) ∧ (b9g_nodeLeaf u) = (b9g_nodeLeaf S) ∧ (b9g_nodeLeaves u) = (b9g_nodeLeaves S) ∧ (b9g_nodeMany u) = (b9g_nodeMany S) ∧ (b9g_levelMany u) = (b9g_levelMany S) ∧ (b9g_upper u) = (b9g_upper S) ∧ (b9g_upperNodes u) = (b9g_upperNodes S) ∧ (b9g_areNodesLaid u) = (b9g_areNodesLaid S) ∧ (b9g_itemNode u) = (b9g_itemNode S) ∧ (b9g_itemByte u) = (b9g_itemByte S) ∧ (b9g_itemChild u) = (b9g_itemChild S) ∧ (b9g_itemMany u) = (b9g_itemMany S) ∧ (b9g_placeOf u) = (b9g_placeOf S) ∧ (b9g_leafOfPlace u) = (b9g_leafOfPlace S) ∧ (b9g_places u) = (b9g_places S) ∧ (b9g_lowKey u) = (b9g_lowKey S) ∧ (b9g_highKey u) = (b9g_highKey S) ∧ (b9g_lowLength u) = (b9g_lowLength S) ∧ (b9g_highLength u) = (b9g_highLength S) ∧ (b9g_fromKey u) = (b9g_fromKey S) ∧ (b9g_toKey u) = (b9g_toKey S) ∧ (b9g_fromLength u) = (b9g_fromLength S) ∧ (b9g_toLength u) = (b9g_toLength S) ∧ (b9g_ones u) = (b9g_ones S) ∧ (b9g_oneMany u) = (b9g_oneMany S) ∧ (b9g_rowLong u) = (b9g_rowLong S) ∧ (b9g_laidFor u) = (b9g_laidFor S) ∧ (b9g_signs u) = (b9g_signs S) ∧ (b9g_signMany u) = (b9g_signMany S) ∧ (b9g_hasImage u) = (b9g_hasImage S) ∧ (b9g_images u) = (b9g_images S) ∧ (b9g_keyImages u) = (b9g_keyImages S) ∧ (b9g_lengthImages u) = (b9g_lengthImages S)
theorem sf_X9_set {S : bT9} (hJ : J9 S) {a1 : Int32} {a2 : Int32} {Q : Int32 → (bT9) → Prop} (hq : ∀ (r : Int32) (u : bT9), (J9 u) → F_X9_set S u → bf_bool r → ((r.toInt = 1 ∧ ((a1.toInt = 0 ∧ 0 ≤ a2.toInt ∧ a2.toInt ≤ 8) ∨ (a1.toInt = 1 ∧ 0 ≤ a2.toInt ∧ a2.toInt ≤ 8) ∨ (a1.toInt = 2 ∧ 0 ≤ a2.toInt ∧ a2.toInt ≤ 9) ∨ (a1.toInt = 3 ∧ 1 ≤ a2.toInt ∧ a2.toInt ≤ 64) ∨ (a1.toInt = 4 ∧ 1 ≤ a2.toInt ∧ a2.toInt ≤ 256) ∨ a1.toInt = 5)) ∨ (r.toInt = 0 ∧ ¬ ((a1.toInt = 0 ∧ 0 ≤ a2.toInt ∧ a2.toInt ≤ 8) ∨ (a1.toInt = 1 ∧ 0 ≤ a2.toInt ∧ a2.toInt ≤ 8) ∨ (a1.toInt = 2 ∧ 0 ≤ a2.toInt ∧ a2.toInt ≤ 9) ∨ (a1.toInt = 3 ∧ 1 ≤ a2.toInt ∧ a2.toInt ≤ 64) ∨ (a1.toInt = 4 ∧ 1 ≤ a2.toInt ∧ a2.toInt ≤ 256) ∨ a1.toInt = 5))) → (r.toInt = 1 → a1.toInt = 4 → b9g_now u 4 = a2 - 4) → (r.toInt = 0 ∨ a1.toInt ≠ 4 → b9g_now u 4 = b9g_now S 4) → (b9g_now u 8 = b9g_now S 8) → (∀ i : Nat, (i : Int) ≠ a1.toInt → b9g_now u i = b9g_now S i) → (r.toInt = 1 → b9g_now u a1.toNatClampNeg = a2 - FST a1) → (r.toInt = 0 → b9g_now u = b9g_now S) → (b9g_now u 10 = b9g_now S 10) → (b9g_now u 7 = b9g_now S 7) → Q r u) : wp_X9_set S a1 a2 Q := by
  have rg1 := pt_rg a1
  have rg2 := pt_rg a2
  unfold wp_X9_set
  intro S1 e1
  have hJ1 : J9 S1 := by rw [e1]; exact J9s_told hJ
  have hF1 : F_X9_set S S1 := by rw [e1]; exact ⟨rfl, rfl, rfl, rfl, rfl, rfl, rfl, rfl, rfl, rfl, rfl, rfl, rfl, rfl, rfl, rfl, rfl, rfl, rfl, rfl, rfl, rfl, rfl, rfl, rfl, rfl, rfl, rfl, rfl, rfl, rfl, rfl, rfl, rfl, rfl, rfl, rfl, rfl, rfl, rfl, rfl, rfl, rfl, rfl⟩
  have en : b9g_now S1 = b9g_now S := by rw [e1]
  refine sf_X9_canSet hJ1.1 (fun r2 hz h2 => ⟨fun c => ?_, fun c => ?_⟩)
  · simp only [pn] at c
    have h2' : (r2.toInt = 1 ∧ ((a1.toInt = 0 ∧ 0 ≤ a2.toInt ∧ a2.toInt ≤ 8) ∨ (a1.toInt = 1 ∧ 0 ≤ a2.toInt ∧ a2.toInt ≤ 8) ∨ (a1.toInt = 2 ∧ 0 ≤ a2.toInt ∧ a2.toInt ≤ 9) ∨ (a1.toInt = 3 ∧ 1 ≤ a2.toInt ∧ a2.toInt ≤ 64) ∨ (a1.toInt = 4 ∧ 1 ≤ a2.toInt ∧ a2.toInt ≤ 256) ∨ a1.toInt = 5)) := by
      rcases h2 with h | h
      · exact h
      · exact absurd h.1 c
    clear h2
    have ok : 0 ≤ a1.toInt ∧ a1.toInt ≤ 5 ∧ (a1.toInt = 4 → 1 ≤ a2.toInt ∧ a2.toInt ≤ 256) ∧ (a1.toInt = 1 → 0 ≤ a2.toInt ∧ a2.toInt ≤ 8) := by
      rcases h2'.2 with z | z | z | z | z | z
      · exact ⟨by omega, by omega, fun y => by omega, fun y => by omega⟩
      · exact ⟨by omega, by omega, fun y => by omega, fun y => z.2⟩
      · exact ⟨by omega, by omega, fun y => by omega, fun y => by omega⟩
      · exact ⟨by omega, by omega, fun y => by omega, fun y => by omega⟩
      · exact ⟨by omega, by omega, fun y => z.2, fun y => by omega⟩
      · exact ⟨by omega, by omega, fun y => by omega, fun y => by omega⟩
    refine sf_X9_firstOf hJ1.1 (fun r4 f0 f1 f2 f3 hFS => ⟨pt_in (by omega) (by omega), fun S6 e6 => ⟨rfl, ?_⟩⟩)
    have c1 := pt_clamp (i := a1) (by omega)
    have n6 : b9g_now S6 = upd (b9g_now S) a1.toNatClampNeg (a2 - r4) := by rw [e6, en]
    have oth : ∀ k : Nat, (k : Int) ≠ a1.toInt → b9g_now S6 k = b9g_now S k := fun k hk => by rw [n6]; exact Int32.toInt_inj.mp (pt_updn (by omega))
    refine hq _ _ ?_ ?_ rfl (Or.inl ⟨rfl, h2'.2⟩) (fun _ h4 => ?_) (fun h => ?_) (oth 8 (by omega)) (fun i hi => oth i hi) (fun _ => by rw [n6, up_s, hFS]) (fun h => absurd h (by decide)) (oth 10 (by omega)) (oth 7 (by omega))
    · rw [e6]
      refine J9s_now hJ1 (NW_set (J9g_now hJ1) (fun h => ?_) (fun h => ?_) (fun h => by omega) (fun h => by omega) (fun h => by omega) (fun h => by omega)) (up_n (by omega))
      · have e := f1 h
        have o := ok.2.2.2 h
        rw [pt_sub (by omega) (by omega)]
        omega
      · have e := f0 h
        have o := ok.2.2.1 h
        rw [pt_sub (by omega) (by omega)]
        omega
    · rw [e6]
      exact hF1
    · have e : r4 = 4 := Int32.toInt_inj.mp (by rw [pl_4]; exact f0 h4)
      rw [n6, e]
      unfold upd
      rw [if_pos (by omega)]
    · rcases h with h | h
      · exact absurd h (by decide)
      · exact oth 4 (by omega)
  · simp only [pn] at c
    have h2' : ¬ ((a1.toInt = 0 ∧ 0 ≤ a2.toInt ∧ a2.toInt ≤ 8) ∨ (a1.toInt = 1 ∧ 0 ≤ a2.toInt ∧ a2.toInt ≤ 8) ∨ (a1.toInt = 2 ∧ 0 ≤ a2.toInt ∧ a2.toInt ≤ 9) ∨ (a1.toInt = 3 ∧ 1 ≤ a2.toInt ∧ a2.toInt ≤ 64) ∨ (a1.toInt = 4 ∧ 1 ≤ a2.toInt ∧ a2.toInt ≤ 256) ∨ a1.toInt = 5) := by
      rcases h2 with h | h
      · exact absurd (h.1.symm.trans c) (by decide)
      · exact h.2
    exact ⟨rfl, hq _ _ hJ1 hF1 rfl (Or.inr ⟨rfl, h2'⟩) (fun h => absurd h (by decide)) (fun _ => by rw [en]) (by rw [en]) (fun i _ => by rw [en]) (fun h => absurd h (by decide)) (fun _ => en) (by rw [en]) (by rw [en])⟩
def F_X9_state (S u : bT9) : Prop := (b9g_keys u) = (b9g_keys S) ∧ (b9g_lengths u) = (b9g_lengths S) ∧ (b9g_drawn u) = (b9g_drawn S) ∧ (b9g_drawnLength u) = (b9g_drawnLength S) ∧ (b9g_tape u) = (b9g_tape S) ∧ (b9g_taped u) = (b9g_taped S) ∧ (b9g_names u) = (b9g_names S) ∧ (b9g_chosen u) = (b9g_chosen S) ∧ (b9g_common u) = (b9g_common S) ∧ (b9g_beginning u) = (b9g_beginning S) ∧ (b9g_isLaid u) = (b9g_isLaid S) ∧ (b9g_nodeLevel u) = (b9g_nodeLevel S) ∧ (b9g_nodeLeaf u) = (b9g_nodeLeaf S) ∧ (b9g_nodeLeaves u) = (b9g_nodeLeaves S) ∧ (b9g_nodeMany u) = (b9g_nodeMany S) ∧ (b9g_levelMany u) = (b9g_levelMany S) ∧ (b9g_upper u) = (b9g_upper S) ∧ (b9g_upperNodes u) = (b9g_upperNodes S) ∧ (b9g_areNodesLaid u) = (b9g_areNodesLaid S) ∧ (b9g_itemNode u) = (b9g_itemNode S) ∧ (b9g_itemByte u) = (b9g_itemByte S) ∧ (b9g_itemChild u) = (b9g_itemChild S) ∧ (b9g_itemMany u) = (b9g_itemMany S) ∧ (b9g_placeOf u) = (b9g_placeOf S) ∧ (b9g_leafOfPlace u) = (b9g_leafOfPlace S) ∧ (b9g_places u) = (b9g_places S) ∧ (b9g_lowKey u) = (b9g_lowKey S) ∧ (b9g_highKey u) = (b9g_highKey S) ∧ (b9g_lowLength u) = (b9g_lowLength S) ∧ (b9g_highLength u) = (b9g_highLength S) ∧ (b9g_fromKey u) = (b9g_fromKey S) ∧ (b9g_toKey u) = (b9g_toKey S) ∧ (b9g_fromLength u) = (b9g_fromLength S) ∧ (b9g_toLength u) = (b9g_toLength S) ∧ (b9g_ones u) = (b9g_ones S) ∧ (b9g_oneMany u) = (b9g_oneMany S) ∧ (b9g_rowLong u) = (b9g_rowLong S) ∧ (b9g_laidFor u) = (b9g_laidFor S) ∧ (b9g_signs u) = (b9g_signs S) ∧ (b9g_signMany u) = (b9g_signMany S) ∧ (b9g_hasImage u) = (b9g_hasImage S) ∧ (b9g_images u) = (b9g_images S) ∧ (b9g_keyImages u) = (b9g_keyImages S) ∧ (b9g_lengthImages u) = (b9g_lengthImages S)
theorem sf_X9_state {S : bT9} (hJ : J9 S) {a1 : Int32} {Q : Int32 → (bT9) → Prop} (hq : ∀ (r : Int32) (u : bT9), (J9 u) → F_X9_state S u → (r.toInt = (b9g_now S 7).toInt) → ((b9g_now u 7).toInt = a1.toInt) → (∀ i : Nat, i ≠ 7 → b9g_now u i = b9g_now S i) → (b9g_now u 10 = b9g_now S 10) → (b9g_now u 4 = b9g_now S 4) → (b9g_now u 8 = b9g_now S 8) → Q r u) : wp_X9_state S a1 Q := by
  unfold wp_X9_state
  intro S1 e1
  refine ⟨pt_in (by decide) (by decide), pt_in (by decide) (by decide), fun S2 e2 => ?_⟩
  have n1 : b9g_now S1 = b9g_now S := by rw [e1]
  have hJ1 : J9 S1 := by rw [e1]; exact J9s_told hJ
  have n2 : b9g_now S2 = upd (b9g_now S) 7 a1 := by rw [e2, n1]; rfl
  have oth : ∀ i : Nat, i ≠ 7 → b9g_now S2 i = b9g_now S i := fun i hi => by rw [n2]; exact up_n hi
  refine hq _ _ ?_ (by rw [e2, e1]; exact ⟨rfl, rfl, rfl, rfl, rfl, rfl, rfl, rfl, rfl, rfl, rfl, rfl, rfl, rfl, rfl, rfl, rfl, rfl, rfl, rfl, rfl, rfl, rfl, rfl, rfl, rfl, rfl, rfl, rfl, rfl, rfl, rfl, rfl, rfl, rfl, rfl, rfl, rfl, rfl, rfl, rfl, rfl, rfl, rfl⟩) (by rw [n1]; rfl) (by rw [n2, up_s]) oth (oth 10 (by decide)) (oth 4 (by decide)) (oth 8 (by decide))
  rw [e2]
  exact J9s_now hJ1 (NW_set (J9g_now hJ1) (fun e => absurd e (by decide)) (fun e => absurd e (by decide)) (fun e => absurd e (by decide)) (fun e => absurd e (by decide)) (fun e => absurd e (by decide)) (fun e => absurd e (by decide))) (up_n (by decide))
def F_X9_draw (S u : bT9) : Prop := (b9g_told u) = (b9g_told S) ∧ (b9g_keys u) = (b9g_keys S) ∧ (b9g_lengths u) = (b9g_lengths S) ∧ (b9g_drawn u) = (b9g_drawn S) ∧ (b9g_drawnLength u) = (b9g_drawnLength S) ∧ (b9g_tape u) = (b9g_tape S) ∧ (b9g_taped u) = (b9g_taped S) ∧ (b9g_names u) = (b9g_names S) ∧ (b9g_chosen u) = (b9g_chosen S) ∧ (b9g_common u) = (b9g_common S) ∧ (b9g_beginning u) = (b9g_beginning S) ∧ (b9g_isLaid u) = (b9g_isLaid S) ∧ (b9g_nodeLevel u) = (b9g_nodeLevel S) ∧ (b9g_nodeLeaf u) = (b9g_nodeLeaf S) ∧ (b9g_nodeLeaves u) = (b9g_nodeLeaves S) ∧ (b9g_nodeMany u) = (b9g_nodeMany S) ∧ (b9g_levelMany u) = (b9g_levelMany S) ∧ (b9g_upper u) = (b9g_upper S) ∧ (b9g_upperNodes u) = (b9g_upperNodes S) ∧ (b9g_areNodesLaid u) = (b9g_areNodesLaid S) ∧ (b9g_itemNode u) = (b9g_itemNode S) ∧ (b9g_itemByte u) = (b9g_itemByte S) ∧ (b9g_itemChild u) = (b9g_itemChild S) ∧ (b9g_itemMany u) = (b9g_itemMany S) ∧ (b9g_placeOf u) = (b9g_placeOf S) ∧ (b9g_leafOfPlace u) = (b9g_leafOfPlace S) ∧ (b9g_places u) = (b9g_places S) ∧ (b9g_lowKey u) = (b9g_lowKey S) ∧ (b9g_highKey u) = (b9g_highKey S) ∧ (b9g_lowLength u) = (b9g_lowLength S) ∧ (b9g_highLength u) = (b9g_highLength S) ∧ (b9g_fromKey u) = (b9g_fromKey S) ∧ (b9g_toKey u) = (b9g_toKey S) ∧ (b9g_fromLength u) = (b9g_fromLength S) ∧ (b9g_toLength u) = (b9g_toLength S) ∧ (b9g_ones u) = (b9g_ones S) ∧ (b9g_oneMany u) = (b9g_oneMany S) ∧ (b9g_rowLong u) = (b9g_rowLong S) ∧ (b9g_laidFor u) = (b9g_laidFor S) ∧ (b9g_signs u) = (b9g_signs S) ∧ (b9g_signMany u) = (b9g_signMany S) ∧ (b9g_hasImage u) = (b9g_hasImage S) ∧ (b9g_images u) = (b9g_images S) ∧ (b9g_keyImages u) = (b9g_keyImages S) ∧ (b9g_lengthImages u) = (b9g_lengthImages S)
theorem sf_X9_draw {S : bT9} (hJ : J9 S) {a1 : Int32} {Q : Int32 → (bT9) → Prop} (hp0 : 0 < a1.toInt) (hq : ∀ (r : Int32) (u : bT9), (J9 u) → F_X9_draw S u → (0 ≤ r.toInt) → (r.toInt < a1.toInt) → (b9g_now u 7 = lcg (b9g_now S 7)) → (r = drw (b9g_now u 7) a1) → (∀ i : Nat, i ≠ 7 → b9g_now u i = b9g_now S i) → (b9g_now u 10 = b9g_now S 10) → Q r u) : wp_X9_draw S a1 Q := by
  unfold wp_X9_draw
  refine ⟨pt_in (by decide) (by decide), fun v1 e1 => ⟨pt_in (by decide) (by decide), fun S2 e2 => ⟨pt_in (by decide) (by decide), ?_, ?_⟩⟩⟩
  · intro h
    rw [h] at hp0
    exact absurd hp0 (by decide)
  · have r := pt_rem (pt_ushr8 ((b9g_now S2) ((7 : Int32)).toNatClampNeg)) hp0
    have c7 : ((7 : Int32)).toNatClampNeg = 7 := by decide
    have a : b9g_now S2 ((7 : Int32)).toNatClampNeg = v1 := Int32.toInt_inj.mp (by rw [e2]; exact pt_upds)
    have e7 : b9g_now S2 7 = lcg (b9g_now S 7) := by
      rw [c7] at a
      rw [c7] at e1
      rw [a, e1]
      rfl
    refine hq _ _ ?_ ?_ r.1 r.2 e7 ?_ (fun i hi => Int32.toInt_inj.mp (by rw [e2]; exact pt_updn hi)) (Int32.toInt_inj.mp (by rw [e2]; exact pt_updn (by decide)))
    · rw [e2]
      exact J9s_now hJ (NW_set (J9g_now hJ) (by (try simp (disch := first | ((try simp (disch := first | ((try simp only [pn]) <;> omega) | fail) only [pn, pq]) <;> omega) | fail) only [pn, pq]) <;> (intros; (try simp (disch := first | ((try simp (disch := first | ((try simp only [pn]) <;> omega) | fail) only [pn, pq]) <;> omega) | fail) only [pn, pq]) <;> omega)) (by (try simp (disch := first | ((try simp (disch := first | ((try simp only [pn]) <;> omega) | fail) only [pn, pq]) <;> omega) | fail) only [pn, pq]) <;> (intros; (try simp (disch := first | ((try simp (disch := first | ((try simp only [pn]) <;> omega) | fail) only [pn, pq]) <;> omega) | fail) only [pn, pq]) <;> omega)) (by (try simp (disch := first | ((try simp (disch := first | ((try simp only [pn]) <;> omega) | fail) only [pn, pq]) <;> omega) | fail) only [pn, pq]) <;> (intros; (try simp (disch := first | ((try simp (disch := first | ((try simp only [pn]) <;> omega) | fail) only [pn, pq]) <;> omega) | fail) only [pn, pq]) <;> omega)) (by (try simp (disch := first | ((try simp (disch := first | ((try simp only [pn]) <;> omega) | fail) only [pn, pq]) <;> omega) | fail) only [pn, pq]) <;> (intros; (try simp (disch := first | ((try simp (disch := first | ((try simp only [pn]) <;> omega) | fail) only [pn, pq]) <;> omega) | fail) only [pn, pq]) <;> omega)) (by (try simp (disch := first | ((try simp (disch := first | ((try simp only [pn]) <;> omega) | fail) only [pn, pq]) <;> omega) | fail) only [pn, pq]) <;> (intros; (try simp (disch := first | ((try simp (disch := first | ((try simp only [pn]) <;> omega) | fail) only [pn, pq]) <;> omega) | fail) only [pn, pq]) <;> omega)) (by (try simp (disch := first | ((try simp (disch := first | ((try simp only [pn]) <;> omega) | fail) only [pn, pq]) <;> omega) | fail) only [pn, pq]) <;> (intros; (try simp (disch := first | ((try simp (disch := first | ((try simp only [pn]) <;> omega) | fail) only [pn, pq]) <;> omega) | fail) only [pn, pq]) <;> omega))) (up_n (by decide))
    · rw [e2]
      exact ⟨rfl, rfl, rfl, rfl, rfl, rfl, rfl, rfl, rfl, rfl, rfl, rfl, rfl, rfl, rfl, rfl, rfl, rfl, rfl, rfl, rfl, rfl, rfl, rfl, rfl, rfl, rfl, rfl, rfl, rfl, rfl, rfl, rfl, rfl, rfl, rfl, rfl, rfl, rfl, rfl, rfl, rfl, rfl, rfl, rfl⟩
    · rw [drw_1 (by omega), c7]
theorem sf_X9_low {S : bT9} (hJ : K9 S) {a1 : Int32} {Q : Int64 → Prop} (hq : ∀ r : Int64, (r = a1.toInt64 &&& (4294967295 : Int64)) → Q r) : wp_X9_low S a1 Q := by
  unfold wp_X9_low
  exact hq _ rfl
theorem sf_X9_cut {S : bT9} (hJ : K9 S) {a1 : Int64} {a3 : Int32} {Q : Int64 → Prop} (hq : ∀ r : Int64, (r = cutf a1 a3) → Q r) : wp_X9_cut S a1 a3 Q := by
  unfold wp_X9_cut
  exact ⟨fun c => hq _ (by unfold cutf; rw [if_neg c]), fun c => hq _ (by unfold cutf; rw [if_pos c])⟩
theorem sf_X9_keyOf {S : bT9} (hJ : K9 S) {a1 : Int32} {a2 : Int32} {a3 : Int32} {Q : Int64 → Prop} (hq : ∀ r : Int64, (r = KEY a1 a2 a3) → Q r) : wp_X9_keyOf S a1 a2 a3 Q := by
  unfold wp_X9_keyOf
  refine sf_X9_low hJ (fun r1 h1 => sf_X9_low hJ (fun r3 h3 => sf_X9_cut hJ (fun r5 h5 => hq _ ?_)))
  rw [h5, h1, h3]
  rfl
set_option maxRecDepth 20000 in
set_option maxHeartbeats 8000000 in
theorem sf_X9_isKey {S : bT9} (hJ : K9 S) {a1 : Int32} {Q : Int32 → Prop} (hq : ∀ r : Int32, bf_bool r → ((r.toInt = 1 ∧ 1 ≤ a1.toInt ∧ a1.toInt ≤ 8) ∨ (r.toInt = 0 ∧ (a1.toInt < 1 ∨ 8 < a1.toInt))) → Q r) : wp_X9_isKey S a1 Q := by
  unfold wp_X9_isKey
  have jf1 : (-4 ≤ ((b9g_now S) 1).toInt ∧ ((b9g_now S) 1).toInt ≤ 4) ∧ (-3 ≤ ((b9g_now S) 4).toInt ∧ ((b9g_now S) 4).toInt ≤ 252) ∧ (0 ≤ ((b9g_now S) 8).toInt ∧ ((b9g_now S) 8).toInt ≤ 64) ∧ (0 ≤ ((b9g_now S) 9).toInt ∧ ((b9g_now S) 9).toInt ≤ 64) ∧ (0 ≤ ((b9g_now S) 10).toInt ∧ ((b9g_now S) 10).toInt ≤ 16) ∧ (0 ≤ ((b9g_now S) 12).toInt ∧ ((b9g_now S) 12).toInt ≤ 8) := K9g_now hJ
  have rga1 := pt_rg a1
  refine sf_X9_isIn hJ (fun r1 hzr1 hr1_0 => ?_)
  try simp (disch := first | ((try simp (disch := first | ((try simp only [pn]) <;> omega) | fail) only [pn, pq]) <;> omega) | fail) only [pn, pq] at hr1_0
  exact ⟨by first | rfl | assumption, hq _ (by first | rfl | assumption) (by (try simp (disch := first | ((try simp (disch := first | ((try simp only [pn]) <;> omega) | fail) only [pn, pq]) <;> omega) | fail) only [pn, pq]) <;> (intros; (try simp (disch := first | ((try simp (disch := first | ((try simp only [pn]) <;> omega) | fail) only [pn, pq]) <;> omega) | fail) only [pn, pq]) <;> omega))⟩
set_option maxRecDepth 20000 in
set_option maxHeartbeats 8000000 in
theorem sf_X9_byteOf {S : bT9} (hJ : K9 S) {a1 : Int64} {a3 : Int32} {Q : Int32 → Prop} (hq : ∀ r : Int32, Q r) : wp_X9_byteOf S a1 a3 Q := by
  unfold wp_X9_byteOf
  have jf1 : (-4 ≤ ((b9g_now S) 1).toInt ∧ ((b9g_now S) 1).toInt ≤ 4) ∧ (-3 ≤ ((b9g_now S) 4).toInt ∧ ((b9g_now S) 4).toInt ≤ 252) ∧ (0 ≤ ((b9g_now S) 8).toInt ∧ ((b9g_now S) 8).toInt ≤ 64) ∧ (0 ≤ ((b9g_now S) 9).toInt ∧ ((b9g_now S) 9).toInt ≤ 64) ∧ (0 ≤ ((b9g_now S) 10).toInt ∧ ((b9g_now S) 10).toInt ≤ 16) ∧ (0 ≤ ((b9g_now S) 12).toInt ∧ ((b9g_now S) 12).toInt ≤ 8) := K9g_now hJ
  have rga3 := pt_rg a3
  exact hq _ 
set_option maxRecDepth 20000 in
set_option maxHeartbeats 8000000 in
theorem sf_X9_isLess {S : bT9} (hJ : K9 S) {a1 : Int64} {a3 : Int32} {a4 : Int64} {a6 : Int32} {Q : Int32 → Prop} (hq : ∀ r : Int32, bf_bool r → Q r) : wp_X9_isLess S a1 a3 a4 a6 Q := by
  unfold wp_X9_isLess
  have jf1 : (-4 ≤ ((b9g_now S) 1).toInt ∧ ((b9g_now S) 1).toInt ≤ 4) ∧ (-3 ≤ ((b9g_now S) 4).toInt ∧ ((b9g_now S) 4).toInt ≤ 252) ∧ (0 ≤ ((b9g_now S) 8).toInt ∧ ((b9g_now S) 8).toInt ≤ 64) ∧ (0 ≤ ((b9g_now S) 9).toInt ∧ ((b9g_now S) 9).toInt ≤ 64) ∧ (0 ≤ ((b9g_now S) 10).toInt ∧ ((b9g_now S) 10).toInt ≤ 16) ∧ (0 ≤ ((b9g_now S) 12).toInt ∧ ((b9g_now S) 12).toInt ≤ 8) := K9g_now hJ
  have rga3 := pt_rg a3
  have rga6 := pt_rg a6
  refine ⟨fun c1 => ?_, fun c1 => ?_⟩
  · try simp (disch := first | ((try simp (disch := first | ((try simp only [pn]) <;> omega) | fail) only [pn, pq]) <;> omega) | fail) only [pn, pq] at c1
    refine ⟨fun c2 => ?_, fun c2 => ?_⟩
    · try simp (disch := first | ((try simp (disch := first | ((try simp only [pn]) <;> omega) | fail) only [pn, pq]) <;> omega) | fail) only [pn, pq] at c2
      exact ⟨by first | rfl | assumption, hq _ (by first | rfl | assumption) ⟩
    · try simp (disch := first | ((try simp (disch := first | ((try simp only [pn]) <;> omega) | fail) only [pn, pq]) <;> omega) | fail) only [pn, pq] at c2
      exact ⟨by first | rfl | assumption, hq _ (by first | rfl | assumption) ⟩
  · try simp (disch := first | ((try simp (disch := first | ((try simp only [pn]) <;> omega) | fail) only [pn, pq]) <;> omega) | fail) only [pn, pq] at c1
    refine ⟨fun c3 => ?_, fun c3 => ?_⟩
    · try simp (disch := first | ((try simp (disch := first | ((try simp only [pn]) <;> omega) | fail) only [pn, pq]) <;> omega) | fail) only [pn, pq] at c3
      exact ⟨by first | rfl | assumption, hq _ (by first | rfl | assumption) ⟩
    · try simp (disch := first | ((try simp (disch := first | ((try simp only [pn]) <;> omega) | fail) only [pn, pq]) <;> omega) | fail) only [pn, pq] at c3
      exact ⟨by first | rfl | assumption, hq _ (by first | rfl | assumption) ⟩
theorem sf_X9_lessMany {S : bT9} (hJ : K9 S) {a1 : Int32} {a2 : Int32} {a3 : Int64} {a5 : Int32} {Q : Int32 → Prop} (hp0 : 0 ≤ a1.toInt) (hp1 : 0 ≤ a2.toInt) (hp2 : a1.toInt + a2.toInt ≤ 144) (hq : ∀ r : Int32, (0 ≤ r.toInt) → (r.toInt ≤ a2.toInt) → (LES (fun j => b9g_keys S (a1.toNatClampNeg + j)) (fun j => b9g_lengths S (a1.toNatClampNeg + j)) a2.toInt a3 a5 r.toInt) → Q r) : wp_X9_lessMany S a1 a2 a3 a5 Q := by
  have c1 := pt_clamp hp0
  unfold wp_X9_lessMany wp_X9_lessMany_3
  refine ⟨fun n x1 x2 x3 x5 x6 => x1 = a1 ∧ x2 = a2 ∧ x3 = a3 ∧ x5 = a5 ∧ 0 ≤ x6.toInt ∧ x6.toInt ≤ a2.toInt ∧ (∀ j : Nat, (j : Int) < x6.toInt → KLT (b9g_keys S (a1.toNatClampNeg + j)) (b9g_lengths S (a1.toNatClampNeg + j)) a3 a5) ∧ n = (a2.toInt - x6.toInt).toNat, ⟨_, rfl, rfl, rfl, rfl, by decide, hp1, fun j hj => by rw [pl_0] at hj; omega, rfl⟩, ?_⟩
  rintro n x1 x2 x3 x5 x6 ⟨e1, e2, e3, e5, h0, h2, hP, hn⟩
  unfold wp_X9_lessMany_3b
  rw [e1, e2, e3, e5]
  refine ⟨fun c => ?_, fun c => ?_⟩
  · simp only [pn] at c
    exact hq _ h0 h2 ⟨h0, h2, hP, fun j hj hc => by omega⟩
  simp only [pn] at c
  have ea : (a1 + x6).toInt = a1.toInt + x6.toInt := pt_add (by omega) (by omega)
  have ca := pt_clamp (i := a1 + x6) (by omega)
  have c6 := pt_clamp h0
  have ei : (a1 + x6).toNatClampNeg = a1.toNatClampNeg + x6.toNatClampNeg := by omega
  have x6' : (x6 + 1).toInt = x6.toInt + 1 := by rw [pt_add (by rw [pl_1]; omega) (by rw [pl_1]; omega), pl_1]
  have vin : vp_in (a1 + x6) 144 := pt_in (by omega) (by omega)
  refine ⟨vin, vin, fx_isLess (fun r hz h => ⟨fun g => ?_, fun g => ?_⟩)⟩
  · refine hq _ h0 h2 ⟨h0, h2, hP, fun j hj hc hh => ?_⟩
    have hh2 : KLT (b9g_keys S (a1.toNatClampNeg + j)) (b9g_lengths S (a1.toNatClampNeg + j)) a3 a5 := hh
    rw [show j = x6.toNatClampNeg by omega, ← ei] at hh2
    rcases h with h | h
    · rw [g] at h
      exact absurd h.1 (by decide)
    · exact h.2 hh2
  · refine ⟨_, ?_, rfl, rfl, rfl, rfl, by omega, by omega, fun j hj => ?_, rfl⟩
    · omega
    · by_cases hj2 : (j : Int) < x6.toInt
      · exact hP j hj2
      · rw [show j = x6.toNatClampNeg by omega, ← ei]
        rcases h with h | h
        · exact h.2
        · exact absurd (Int32.toInt_inj.mp h.1) g
theorem sf_X9_find {S : bT9} (hJ : K9 S) {a1 : Int32} {a2 : Int32} {a3 : Int64} {a5 : Int32} {Q : Int32 → Prop} (hp0 : 0 ≤ a1.toInt) (hp1 : 0 ≤ a2.toInt) (hp2 : a1.toInt + a2.toInt ≤ 144) (hq : ∀ r : Int32, (r.toInt = -1 ∨ (0 ≤ r.toInt ∧ r.toInt < a2.toInt)) → (SRT (fun j => b9g_keys S (a1.toNatClampNeg + j)) (fun j => b9g_lengths S (a1.toNatClampNeg + j)) a2.toInt → NUM (fun j => b9g_keys S (a1.toNatClampNeg + j)) (fun j => b9g_lengths S (a1.toNatClampNeg + j)) a2.toInt a3 a5 r.toInt) → Q r) : wp_X9_find S a1 a2 a3 a5 Q := by
  have c1 := pt_clamp hp0
  unfold wp_X9_find
  refine sf_X9_lessMany hJ hp0 hp1 hp2 (fun r h0 h2 hl => ⟨fun c => ?_, fun c => ?_⟩)
  · simp only [pn] at c
    exact hq _ (Or.inl rfl) (fun hs => Or.inr ⟨rfl, LES_no hs hl (fun j hj hc => by omega)⟩)
  simp only [pn] at c
  have ea : (a1 + r).toInt = a1.toInt + r.toInt := pt_add (by omega) (by omega)
  have ca := pt_clamp (i := a1 + r) (by omega)
  have c6 := pt_clamp h0
  have ei : (a1 + r).toNatClampNeg = a1.toNatClampNeg + r.toNatClampNeg := by omega
  have vin : vp_in (a1 + r) 144 := pt_in (by omega) (by omega)
  refine ⟨vin, fun d => ?_, fun d => ⟨vin, fun g => ?_, fun g => ?_⟩⟩
  · refine hq _ (Or.inl rfl) (fun hs => Or.inr ⟨rfl, LES_no hs hl (fun j hj hc hh => d ((lg_cmp_eq _ _).mpr ?_))⟩)
    rw [ei, show r.toNatClampNeg = j by omega]
    exact hh.1
  · refine hq _ (Or.inl rfl) (fun hs => Or.inr ⟨rfl, LES_no hs hl (fun j hj hc hh => g ?_)⟩)
    rw [ei, show r.toNatClampNeg = j by omega]
    exact hh.2
  · have d2 := (lg_cmp_eq _ _).mp d
    refine hq _ (Or.inr ⟨h0, by omega⟩) (fun hs => Or.inl ⟨h0, by omega, fun j hj => ?_⟩)
    rw [ei, show r.toNatClampNeg = j by omega] at d2 g
    exact ⟨d2, g⟩
def F_X9_comes (S u : bT9) : Prop := (b9g_told u) = (b9g_told S) ∧ (b9g_drawn u) = (b9g_drawn S) ∧ (b9g_drawnLength u) = (b9g_drawnLength S) ∧ (b9g_tape u) = (b9g_tape S) ∧ (b9g_taped u) = (b9g_taped S) ∧ (b9g_names u) = (b9g_names S) ∧ (b9g_chosen u) = (b9g_chosen S) ∧ (b9g_common u) = (b9g_common S) ∧ (b9g_beginning u) = (b9g_beginning S) ∧ (b9g_isLaid u) = (b9g_isLaid S) ∧ (b9g_nodeLevel u) = (b9g_nodeLevel S) ∧ (b9g_nodeLeaf u) = (b9g_nodeLeaf S) ∧ (b9g_nodeLeaves u) = (b9g_nodeLeaves S) ∧ (b9g_nodeMany u) = (b9g_nodeMany S) ∧ (b9g_levelMany u) = (b9g_levelMany S) ∧ (b9g_upper u) = (b9g_upper S) ∧ (b9g_upperNodes u) = (b9g_upperNodes S) ∧ (b9g_areNodesLaid u) = (b9g_areNodesLaid S) ∧ (b9g_itemNode u) = (b9g_itemNode S) ∧ (b9g_itemByte u) = (b9g_itemByte S) ∧ (b9g_itemChild u) = (b9g_itemChild S) ∧ (b9g_itemMany u) = (b9g_itemMany S) ∧ (b9g_placeOf u) = (b9g_placeOf S) ∧ (b9g_leafOfPlace u) = (b9g_leafOfPlace S) ∧ (b9g_places u) = (b9g_places S) ∧ (b9g_lowKey u) = (b9g_lowKey S) ∧ (b9g_highKey u) = (b9g_highKey S) ∧ (b9g_lowLength u) = (b9g_lowLength S) ∧ (b9g_highLength u) = (b9g_highLength S) ∧ (b9g_fromKey u) = (b9g_fromKey S) ∧ (b9g_toKey u) = (b9g_toKey S) ∧ (b9g_fromLength u) = (b9g_fromLength S) ∧ (b9g_toLength u) = (b9g_toLength S) ∧ (b9g_ones u) = (b9g_ones S) ∧ (b9g_oneMany u) = (b9g_oneMany S) ∧ (b9g_rowLong u) = (b9g_rowLong S) ∧ (b9g_laidFor u) = (b9g_laidFor S) ∧ (b9g_signs u) = (b9g_signs S) ∧ (b9g_signMany u) = (b9g_signMany S) ∧ (b9g_hasImage u) = (b9g_hasImage S) ∧ (b9g_images u) = (b9g_images S) ∧ (b9g_keyImages u) = (b9g_keyImages S) ∧ (b9g_lengthImages u) = (b9g_lengthImages S)
theorem sf_X9_comes {S : bT9} (hJ : J9 S) {a1 : Int64} {a3 : Int32} {Q : Int32 → (bT9) → Prop} (hp0 : 0 ≤ a3.toInt) (hp1 : a3.toInt ≤ 8) (hq : ∀ (r : Int32) (u : bT9), (J9 u) → F_X9_comes S u → (SRT (b9g_keys S) (b9g_lengths S) (b9g_now S 8).toInt → INS (b9g_keys S) (b9g_lengths S) (b9g_now S 8).toInt a1 a3 r.toInt (b9g_keys u) (b9g_lengths u) (b9g_now u 8).toInt) → (∀ j : Nat, 64 ≤ j → b9g_keys u j = b9g_keys S j ∧ b9g_lengths u j = b9g_lengths S j) → (∀ i : Nat, i ≠ 8 → b9g_now u i = b9g_now S i) → (b9g_now u 10 = b9g_now S 10) → (b9g_now u 7 = b9g_now S 7) → Q r u) : wp_X9_comes S a1 a3 Q := by
  have jn := (J9g_now hJ).2.2.1
  have c8 : ((8 : Int32)).toNatClampNeg = 8 := by decide
  have v8 : vp_in (8 : Int32) 23 := pt_in (by decide) (by decide)
  have h0S : F_X9_comes S S := ⟨rfl, rfl, rfl, rfl, rfl, rfl, rfl, rfl, rfl, rfl, rfl, rfl, rfl, rfl, rfl, rfl, rfl, rfl, rfl, rfl, rfl, rfl, rfl, rfl, rfl, rfl, rfl, rfl, rfl, rfl, rfl, rfl, rfl, rfl, rfl, rfl, rfl, rfl, rfl, rfl, rfl, rfl, rfl⟩
  unfold wp_X9_comes
  rw [c8]
  refine ⟨v8, fun c => ?_, fun c => ⟨v8, ?_⟩⟩
  · exact hq _ _ hJ h0S (fun hs => Or.inl ⟨rfl, rfl, fun j hj => ⟨rfl, rfl⟩, Or.inl (by rw [c]; decide)⟩) (fun j hj => ⟨rfl, rfl⟩) (fun i hi => rfl) rfl rfl
  have c' : (b9g_now S 8).toInt < 64 := by
    simp only [pn] at c
    omega
  refine sf_X9_find hJ.1 (by decide) jn.1 (by rw [pl_0]; omega) (fun r6 h6 hN => ⟨fun d => ⟨v8, ?_⟩, fun d => ?_⟩)
  rotate_left
  · refine hq _ _ hJ h0S (fun hs => ?_) (fun j hj => ⟨rfl, rfl⟩) (fun i hi => rfl) rfl rfl
    rw [sh0, sh0'] at hN
    rcases hN hs with ⟨a, b, e⟩ | ⟨a, b⟩
    · exact Or.inl ⟨rfl, rfl, fun j hj => ⟨rfl, rfl⟩, Or.inr ⟨r6.toInt.toNat, by omega, e _ (by omega)⟩⟩
    · exact absurd (Int32.toInt_inj.mp (a.trans pl_m1.symm)) d
  refine sf_X9_lessMany hJ.1 (by decide) jn.1 (by rw [pl_0]; omega) (fun r h0 h1 hl => ⟨v8, ?_⟩)
  rw [sh0, sh0'] at hN hl
  have hne : SRT (b9g_keys S) (b9g_lengths S) (b9g_now S 8).toInt → ∀ j : Nat, (j : Int) < (b9g_now S 8).toInt → ¬ (b9g_keys S j = a1 ∧ b9g_lengths S j = a3) := by
    intro hs
    rcases hN hs with ⟨a, b, e⟩ | ⟨a, b⟩
    · rw [d, pl_m1] at a
      omega
    · exact b
  unfold wp_X9_comes_57
  refine ⟨fun n x1 x3 x4 x5 V => x1 = a1 ∧ x3 = a3 ∧ x4 = r ∧ J9 V ∧ F_X9_comes S V ∧ b9g_now V = b9g_now S ∧ r.toInt ≤ x5.toInt ∧ x5.toInt ≤ (b9g_now S 8).toInt ∧ (∀ j : Nat, (j : Int) < x5.toInt ∨ 64 ≤ j → b9g_keys V j = b9g_keys S j ∧ b9g_lengths V j = b9g_lengths S j) ∧ (∀ j : Nat, x5.toInt ≤ (j : Int) → (j : Int) < (b9g_now S 8).toInt → b9g_keys V (j + 1) = b9g_keys S j ∧ b9g_lengths V (j + 1) = b9g_lengths S j) ∧ n = x5.toInt.toNat, ⟨_, rfl, rfl, rfl, hJ, h0S, rfl, h1, Int.le_refl _, fun j hj => ⟨rfl, rfl⟩, fun j hj hc => by omega, rfl⟩, ?_⟩
  rintro n x1 x3 x4 x5 V ⟨e1, e3, e4, hJV, hFV, eV, l1, l2, p1, p2, hn0⟩
  unfold wp_X9_comes_57b
  rw [e1, e3, e4, c8]
  have cr := pt_clamp h0
  refine ⟨fun g => ?_, fun g => ?_⟩
  · simp only [pn] at g
    have vin : vp_in r 144 := pt_in (by omega) (by omega)
    refine ⟨vin, fun S1 d1 => ⟨vin, fun S2 d2 => ⟨v8, v8, fun S3 d3 => ?_⟩⟩⟩
    have hJ1 : J9 S1 := by rw [d1]; exact J9s_keys hJV (fun j hj => upL_n (by omega))
    have hJ2 : J9 S2 := by rw [d2]; exact J9s_lengths hJ1 (pt_updr (J9g_lengths hJ1) ⟨hp0, hp1⟩) (fun j hj => up_n (by omega))
    have en2 : b9g_now S2 = b9g_now S := by rw [d2, d1]; exact eV
    have e81 : (b9g_now S 8 + 1).toInt = (b9g_now S 8).toInt + 1 := by rw [pt_add (by rw [pl_1]; omega) (by rw [pl_1]; omega), pl_1]
    have en : b9g_now S3 = upd (b9g_now S) 8 (b9g_now S 8 + 1) := by rw [d3, en2]
    have hJ3 : J9 S3 := by
      rw [d3, en2, ← c8]
      refine J9s_now hJ2 (NW_set (J9g_now hJ) (fun e => absurd e (by decide)) (fun e => absurd e (by decide)) (fun _ => ⟨?_, ?_⟩) (fun e => absurd e (by decide)) (fun e => absurd e (by decide)) (fun e => absurd e (by decide))) (by rw [en2]; exact up_n (by decide))
      · rw [c8, e81]; omega
      · rw [c8, e81]; omega
    have eb : b9g_keys S3 = vp_updL (b9g_keys V) r.toNatClampNeg a1 := by rw [d3, d2, d1]
    have el : b9g_lengths S3 = upd (b9g_lengths V) r.toNatClampNeg a3 := by rw [d3, d2, d1]
    have ec : (b9g_now S3 8).toInt = (b9g_now S 8).toInt + 1 := by rw [en]; unfold upd; rw [if_pos rfl]; exact e81
    have eo : ∀ i : Nat, i ≠ 8 → b9g_now S3 i = b9g_now S i := fun i hi => by rw [en]; unfold upd; rw [if_neg hi]
    refine hq _ _ hJ3 (by rw [d3, d2, d1]; exact hFV) (fun hs => Or.inr ⟨c', ec, hl, hne hs, fun j hj => ?_, fun j hj => ?_, fun j hj hc => ?_⟩) (fun j hj => ?_) eo (eo 10 (by decide)) (eo 7 (by decide))
    · rw [eb, el]
      unfold vp_updL upd
      rw [if_neg (by omega), if_neg (by omega)]
      exact p1 j (Or.inl (by omega))
    · rw [eb, el]
      unfold vp_updL upd
      rw [if_pos (by omega), if_pos (by omega)]
      exact ⟨rfl, rfl⟩
    · rw [eb, el]
      unfold vp_updL upd
      rw [if_neg (by omega), if_neg (by omega)]
      exact p2 j (by omega) hc
    · rw [eb, el]
      unfold vp_updL upd
      rw [if_neg (by omega), if_neg (by omega)]
      exact p1 j (Or.inr hj)
  · simp only [pn] at g
    have x1' : (x5 - 1).toInt = x5.toInt - 1 := by rw [pt_sub (by rw [pl_1]; omega) (by rw [pl_1]; omega), pl_1]
    have x2' : (x5 + (-1 : Int32)).toInt = x5.toInt - 1 := by
      rw [pt_add (by rw [pl_m1]; omega) (by rw [pl_m1]; omega), pl_m1]
      omega
    obtain ⟨y, hy⟩ : ∃ y : Int32, x5 + (-1 : Int32) = y := ⟨_, rfl⟩
    rw [hy] at x2'
    have c5 := pt_clamp (i := x5) (by omega)
    have c51 := pt_clamp (i := x5 - 1) (by omega)
    have v1 : vp_in (x5 - 1) 144 := pt_in (by omega) (by omega)
    have v2 : vp_in x5 144 := pt_in (by omega) (by omega)
    refine ⟨v1, v2, fun S4 d4 => ⟨v1, v2, fun S5 d5 => ?_⟩⟩
    rw [hy]
    have hJ4 : J9 S4 := by rw [d4]; exact J9s_keys hJV (fun j hj => upL_n (by omega))
    have hJ5 : J9 S5 := by rw [d5]; exact J9s_lengths hJ4 (pt_updr (J9g_lengths hJ4) (J9g_lengths hJ4 _)) (fun j hj => up_n (by omega))
    have eb : b9g_keys S5 = vp_updL (b9g_keys V) x5.toNatClampNeg (b9g_keys V (x5 - 1).toNatClampNeg) := by rw [d5, d4]
    have el : b9g_lengths S5 = upd (b9g_lengths V) x5.toNatClampNeg (b9g_lengths V (x5 - 1).toNatClampNeg) := by rw [d5, d4]
    refine ⟨_, ?_, rfl, rfl, rfl, hJ5, by rw [d5, d4]; exact hFV, by rw [d5, d4]; exact eV, by omega, by omega, fun j hj => ?_, fun j hj hc => ?_, rfl⟩
    · omega
    · rw [eb, el]
      unfold vp_updL upd
      rw [if_neg (by omega), if_neg (by omega)]
      exact p1 j (by omega)
    · rw [eb, el]
      unfold vp_updL upd
      by_cases h : j + 1 = x5.toNatClampNeg
      · rw [if_pos h, if_pos h, show (x5 - 1).toNatClampNeg = j by omega]
        exact p1 j (by omega)
      · rw [if_neg h, if_neg h]
        exact p2 j (by omega) hc
def F_X9_add (S u : bT9) : Prop := (b9g_drawn u) = (b9g_drawn S) ∧ (b9g_drawnLength u) = (b9g_drawnLength S) ∧ (b9g_tape u) = (b9g_tape S) ∧ (b9g_taped u) = (b9g_taped S) ∧ (b9g_names u) = (b9g_names S) ∧ (b9g_chosen u) = (b9g_chosen S) ∧ (b9g_common u) = (b9g_common S) ∧ (b9g_beginning u) = (b9g_beginning S) ∧ (b9g_isLaid u) = (b9g_isLaid S) ∧ (b9g_nodeLevel u) = (b9g_nodeLevel S) ∧ (b9g_nodeLeaf u) = (b9g_nodeLeaf S) ∧ (b9g_nodeLeaves u) = (b9g_nodeLeaves S) ∧ (b9g_nodeMany u) = (b9g_nodeMany S) ∧ (b9g_levelMany u) = (b9g_levelMany S) ∧ (b9g_upper u) = (b9g_upper S) ∧ (b9g_upperNodes u) = (b9g_upperNodes S) ∧ (b9g_areNodesLaid u) = (b9g_areNodesLaid S) ∧ (b9g_itemNode u) = (b9g_itemNode S) ∧ (b9g_itemByte u) = (b9g_itemByte S) ∧ (b9g_itemChild u) = (b9g_itemChild S) ∧ (b9g_itemMany u) = (b9g_itemMany S) ∧ (b9g_placeOf u) = (b9g_placeOf S) ∧ (b9g_leafOfPlace u) = (b9g_leafOfPlace S) ∧ (b9g_places u) = (b9g_places S) ∧ (b9g_lowKey u) = (b9g_lowKey S) ∧ (b9g_highKey u) = (b9g_highKey S) ∧ (b9g_lowLength u) = (b9g_lowLength S) ∧ (b9g_highLength u) = (b9g_highLength S) ∧ (b9g_fromKey u) = (b9g_fromKey S) ∧ (b9g_toKey u) = (b9g_toKey S) ∧ (b9g_fromLength u) = (b9g_fromLength S) ∧ (b9g_toLength u) = (b9g_toLength S) ∧ (b9g_ones u) = (b9g_ones S) ∧ (b9g_oneMany u) = (b9g_oneMany S) ∧ (b9g_rowLong u) = (b9g_rowLong S) ∧ (b9g_laidFor u) = (b9g_laidFor S) ∧ (b9g_signs u) = (b9g_signs S) ∧ (b9g_signMany u) = (b9g_signMany S) ∧ (b9g_hasImage u) = (b9g_hasImage S) ∧ (b9g_images u) = (b9g_images S) ∧ (b9g_keyImages u) = (b9g_keyImages S) ∧ (b9g_lengthImages u) = (b9g_lengthImages S)
theorem sf_X9_add {S : bT9} (hJ : J9 S) {a1 : Int32} {a2 : Int32} {a3 : Int32} {Q : Int32 → (bT9) → Prop} (hq : ∀ (r : Int32) (u : bT9), (J9 u) → F_X9_add S u → (SRT (b9g_keys S) (b9g_lengths S) (b9g_now S 8).toInt → (1 ≤ a3.toInt ∧ a3.toInt ≤ 8 → INS (b9g_keys S) (b9g_lengths S) (b9g_now S 8).toInt (KEY a1 a2 a3) a3 r.toInt (b9g_keys u) (b9g_lengths u) (b9g_now u 8).toInt) ∧ (¬ (1 ≤ a3.toInt ∧ a3.toInt ≤ 8) → r.toInt = -1 ∧ b9g_keys u = b9g_keys S ∧ b9g_lengths u = b9g_lengths S ∧ b9g_now u 8 = b9g_now S 8)) → (∀ j : Nat, 64 ≤ j → b9g_keys u j = b9g_keys S j ∧ b9g_lengths u j = b9g_lengths S j) → (∀ i : Nat, i ≠ 8 → b9g_now u i = b9g_now S i) → (b9g_now u 10 = b9g_now S 10) → (b9g_now u 7 = b9g_now S 7) → Q r u) : wp_X9_add S a1 a2 a3 Q := by
  unfold wp_X9_add
  intro S1 e1
  have hJ1 : J9 S1 := by rw [e1]; exact J9s_told hJ
  have hF1 : F_X9_add S S1 := by rw [e1]; exact ⟨rfl, rfl, rfl, rfl, rfl, rfl, rfl, rfl, rfl, rfl, rfl, rfl, rfl, rfl, rfl, rfl, rfl, rfl, rfl, rfl, rfl, rfl, rfl, rfl, rfl, rfl, rfl, rfl, rfl, rfl, rfl, rfl, rfl, rfl, rfl, rfl, rfl, rfl, rfl, rfl, rfl, rfl⟩
  have ek : b9g_keys S1 = b9g_keys S := by rw [e1]
  have el : b9g_lengths S1 = b9g_lengths S := by rw [e1]
  have en : b9g_now S1 = b9g_now S := by rw [e1]
  refine sf_X9_isKey hJ1.1 (fun r2 hz h2 => ⟨fun c => ?_, fun c => ?_⟩)
  · simp only [pn] at c
    exact hq _ _ hJ1 hF1 (fun _ => ⟨fun h => by omega, fun _ => ⟨rfl, ek, el, by rw [en]⟩⟩) (fun j hj => ⟨by rw [ek], by rw [el]⟩) (fun i hi => by rw [en]) (by rw [en]) (by rw [en])
  · simp only [pn] at c
    have hn : 1 ≤ a3.toInt ∧ a3.toInt ≤ 8 := by omega
    refine sf_X9_keyOf hJ1.1 (fun r4 h4 => ?_)
    refine sf_X9_comes hJ1 (by omega) (by omega) (fun r6 u7 hJ7 hf7 hI hO hN g10 g7 => ?_)
    rw [ek, el, en, h4] at hI
    rw [ek, el] at hO
    rw [en] at hN g10 g7
    exact hq _ _ hJ7 ⟨(hf7.2.1).trans (hF1.1), (hf7.2.2.1).trans (hF1.2.1), (hf7.2.2.2.1).trans (hF1.2.2.1), (hf7.2.2.2.2.1).trans (hF1.2.2.2.1), (hf7.2.2.2.2.2.1).trans (hF1.2.2.2.2.1), (hf7.2.2.2.2.2.2.1).trans (hF1.2.2.2.2.2.1), (hf7.2.2.2.2.2.2.2.1).trans (hF1.2.2.2.2.2.2.1), (hf7.2.2.2.2.2.2.2.2.1).trans (hF1.2.2.2.2.2.2.2.1), (hf7.2.2.2.2.2.2.2.2.2.1).trans (hF1.2.2.2.2.2.2.2.2.1), (hf7.2.2.2.2.2.2.2.2.2.2.1).trans (hF1.2.2.2.2.2.2.2.2.2.1), (hf7.2.2.2.2.2.2.2.2.2.2.2.1).trans (hF1.2.2.2.2.2.2.2.2.2.2.1), (hf7.2.2.2.2.2.2.2.2.2.2.2.2.1).trans (hF1.2.2.2.2.2.2.2.2.2.2.2.1), (hf7.2.2.2.2.2.2.2.2.2.2.2.2.2.1).trans (hF1.2.2.2.2.2.2.2.2.2.2.2.2.1), (hf7.2.2.2.2.2.2.2.2.2.2.2.2.2.2.1).trans (hF1.2.2.2.2.2.2.2.2.2.2.2.2.2.1), (hf7.2.2.2.2.2.2.2.2.2.2.2.2.2.2.2.1).trans (hF1.2.2.2.2.2.2.2.2.2.2.2.2.2.2.1), (hf7.2.2.2.2.2.2.2.2.2.2.2.2.2.2.2.2.1).trans (hF1.2.2.2.2.2.2.2.2.2.2.2.2.2.2.2.1), (hf7.2.2.2.2.2.2.2.2.2.2.2.2.2.2.2.2.2.1).trans (hF1.2.2.2.2.2.2.2.2.2.2.2.2.2.2.2.2.1), (hf7.2.2.2.2.2.2.2.2.2.2.2.2.2.2.2.2.2.2.1).trans (hF1.2.2.2.2.2.2.2.2.2.2.2.2.2.2.2.2.2.1), (hf7.2.2.2.2.2.2.2.2.2.2.2.2.2.2.2.2.2.2.2.1).trans (hF1.2.2.2.2.2.2.2.2.2.2.2.2.2.2.2.2.2.2.1), (hf7.2.2.2.2.2.2.2.2.2.2.2.2.2.2.2.2.2.2.2.2.1).trans (hF1.2.2.2.2.2.2.2.2.2.2.2.2.2.2.2.2.2.2.2.1), (hf7.2.2.2.2.2.2.2.2.2.2.2.2.2.2.2.2.2.2.2.2.2.1).trans (hF1.2.2.2.2.2.2.2.2.2.2.2.2.2.2.2.2.2.2.2.2.1), (hf7.2.2.2.2.2.2.2.2.2.2.2.2.2.2.2.2.2.2.2.2.2.2.1).trans (hF1.2.2.2.2.2.2.2.2.2.2.2.2.2.2.2.2.2.2.2.2.2.1), (hf7.2.2.2.2.2.2.2.2.2.2.2.2.2.2.2.2.2.2.2.2.2.2.2.1).trans (hF1.2.2.2.2.2.2.2.2.2.2.2.2.2.2.2.2.2.2.2.2.2.2.1), (hf7.2.2.2.2.2.2.2.2.2.2.2.2.2.2.2.2.2.2.2.2.2.2.2.2.1).trans (hF1.2.2.2.2.2.2.2.2.2.2.2.2.2.2.2.2.2.2.2.2.2.2.2.1), (hf7.2.2.2.2.2.2.2.2.2.2.2.2.2.2.2.2.2.2.2.2.2.2.2.2.2.1).trans (hF1.2.2.2.2.2.2.2.2.2.2.2.2.2.2.2.2.2.2.2.2.2.2.2.2.1), (hf7.2.2.2.2.2.2.2.2.2.2.2.2.2.2.2.2.2.2.2.2.2.2.2.2.2.2.1).trans (hF1.2.2.2.2.2.2.2.2.2.2.2.2.2.2.2.2.2.2.2.2.2.2.2.2.2.1), (hf7.2.2.2.2.2.2.2.2.2.2.2.2.2.2.2.2.2.2.2.2.2.2.2.2.2.2.2.1).trans (hF1.2.2.2.2.2.2.2.2.2.2.2.2.2.2.2.2.2.2.2.2.2.2.2.2.2.2.1), (hf7.2.2.2.2.2.2.2.2.2.2.2.2.2.2.2.2.2.2.2.2.2.2.2.2.2.2.2.2.1).trans (hF1.2.2.2.2.2.2.2.2.2.2.2.2.2.2.2.2.2.2.2.2.2.2.2.2.2.2.2.1), (hf7.2.2.2.2.2.2.2.2.2.2.2.2.2.2.2.2.2.2.2.2.2.2.2.2.2.2.2.2.2.1).trans (hF1.2.2.2.2.2.2.2.2.2.2.2.2.2.2.2.2.2.2.2.2.2.2.2.2.2.2.2.2.1), (hf7.2.2.2.2.2.2.2.2.2.2.2.2.2.2.2.2.2.2.2.2.2.2.2.2.2.2.2.2.2.2.1).trans (hF1.2.2.2.2.2.2.2.2.2.2.2.2.2.2.2.2.2.2.2.2.2.2.2.2.2.2.2.2.2.1), (hf7.2.2.2.2.2.2.2.2.2.2.2.2.2.2.2.2.2.2.2.2.2.2.2.2.2.2.2.2.2.2.2.1).trans (hF1.2.2.2.2.2.2.2.2.2.2.2.2.2.2.2.2.2.2.2.2.2.2.2.2.2.2.2.2.2.2.1), (hf7.2.2.2.2.2.2.2.2.2.2.2.2.2.2.2.2.2.2.2.2.2.2.2.2.2.2.2.2.2.2.2.2.1).trans (hF1.2.2.2.2.2.2.2.2.2.2.2.2.2.2.2.2.2.2.2.2.2.2.2.2.2.2.2.2.2.2.2.1), (hf7.2.2.2.2.2.2.2.2.2.2.2.2.2.2.2.2.2.2.2.2.2.2.2.2.2.2.2.2.2.2.2.2.2.1).trans (hF1.2.2.2.2.2.2.2.2.2.2.2.2.2.2.2.2.2.2.2.2.2.2.2.2.2.2.2.2.2.2.2.2.1), (hf7.2.2.2.2.2.2.2.2.2.2.2.2.2.2.2.2.2.2.2.2.2.2.2.2.2.2.2.2.2.2.2.2.2.2.1).trans (hF1.2.2.2.2.2.2.2.2.2.2.2.2.2.2.2.2.2.2.2.2.2.2.2.2.2.2.2.2.2.2.2.2.2.1), (hf7.2.2.2.2.2.2.2.2.2.2.2.2.2.2.2.2.2.2.2.2.2.2.2.2.2.2.2.2.2.2.2.2.2.2.2.1).trans (hF1.2.2.2.2.2.2.2.2.2.2.2.2.2.2.2.2.2.2.2.2.2.2.2.2.2.2.2.2.2.2.2.2.2.2.1), (hf7.2.2.2.2.2.2.2.2.2.2.2.2.2.2.2.2.2.2.2.2.2.2.2.2.2.2.2.2.2.2.2.2.2.2.2.2.1).trans (hF1.2.2.2.2.2.2.2.2.2.2.2.2.2.2.2.2.2.2.2.2.2.2.2.2.2.2.2.2.2.2.2.2.2.2.2.1), (hf7.2.2.2.2.2.2.2.2.2.2.2.2.2.2.2.2.2.2.2.2.2.2.2.2.2.2.2.2.2.2.2.2.2.2.2.2.2.1).trans (hF1.2.2.2.2.2.2.2.2.2.2.2.2.2.2.2.2.2.2.2.2.2.2.2.2.2.2.2.2.2.2.2.2.2.2.2.2.1), (hf7.2.2.2.2.2.2.2.2.2.2.2.2.2.2.2.2.2.2.2.2.2.2.2.2.2.2.2.2.2.2.2.2.2.2.2.2.2.2.1).trans (hF1.2.2.2.2.2.2.2.2.2.2.2.2.2.2.2.2.2.2.2.2.2.2.2.2.2.2.2.2.2.2.2.2.2.2.2.2.2.1), (hf7.2.2.2.2.2.2.2.2.2.2.2.2.2.2.2.2.2.2.2.2.2.2.2.2.2.2.2.2.2.2.2.2.2.2.2.2.2.2.2.1).trans (hF1.2.2.2.2.2.2.2.2.2.2.2.2.2.2.2.2.2.2.2.2.2.2.2.2.2.2.2.2.2.2.2.2.2.2.2.2.2.2.1), (hf7.2.2.2.2.2.2.2.2.2.2.2.2.2.2.2.2.2.2.2.2.2.2.2.2.2.2.2.2.2.2.2.2.2.2.2.2.2.2.2.2.1).trans (hF1.2.2.2.2.2.2.2.2.2.2.2.2.2.2.2.2.2.2.2.2.2.2.2.2.2.2.2.2.2.2.2.2.2.2.2.2.2.2.2.1), (hf7.2.2.2.2.2.2.2.2.2.2.2.2.2.2.2.2.2.2.2.2.2.2.2.2.2.2.2.2.2.2.2.2.2.2.2.2.2.2.2.2.2.1).trans (hF1.2.2.2.2.2.2.2.2.2.2.2.2.2.2.2.2.2.2.2.2.2.2.2.2.2.2.2.2.2.2.2.2.2.2.2.2.2.2.2.2.1), (hf7.2.2.2.2.2.2.2.2.2.2.2.2.2.2.2.2.2.2.2.2.2.2.2.2.2.2.2.2.2.2.2.2.2.2.2.2.2.2.2.2.2.2).trans (hF1.2.2.2.2.2.2.2.2.2.2.2.2.2.2.2.2.2.2.2.2.2.2.2.2.2.2.2.2.2.2.2.2.2.2.2.2.2.2.2.2.2)⟩ (fun hs => ⟨fun _ => hI hs, fun h => absurd hn h⟩) hO hN g10 g7
def F_X9_remove (S u : bT9) : Prop := (b9g_drawn u) = (b9g_drawn S) ∧ (b9g_drawnLength u) = (b9g_drawnLength S) ∧ (b9g_tape u) = (b9g_tape S) ∧ (b9g_taped u) = (b9g_taped S) ∧ (b9g_names u) = (b9g_names S) ∧ (b9g_chosen u) = (b9g_chosen S) ∧ (b9g_common u) = (b9g_common S) ∧ (b9g_beginning u) = (b9g_beginning S) ∧ (b9g_isLaid u) = (b9g_isLaid S) ∧ (b9g_nodeLevel u) = (b9g_nodeLevel S) ∧ (b9g_nodeLeaf u) = (b9g_nodeLeaf S) ∧ (b9g_nodeLeaves u) = (b9g_nodeLeaves S) ∧ (b9g_nodeMany u) = (b9g_nodeMany S) ∧ (b9g_levelMany u) = (b9g_levelMany S) ∧ (b9g_upper u) = (b9g_upper S) ∧ (b9g_upperNodes u) = (b9g_upperNodes S) ∧ (b9g_areNodesLaid u) = (b9g_areNodesLaid S) ∧ (b9g_itemNode u) = (b9g_itemNode S) ∧ (b9g_itemByte u) = (b9g_itemByte S) ∧ (b9g_itemChild u) = (b9g_itemChild S) ∧ (b9g_itemMany u) = (b9g_itemMany S) ∧ (b9g_placeOf u) = (b9g_placeOf S) ∧ (b9g_leafOfPlace u) = (b9g_leafOfPlace S) ∧ (b9g_places u) = (b9g_places S) ∧ (b9g_lowKey u) = (b9g_lowKey S) ∧ (b9g_highKey u) = (b9g_highKey S) ∧ (b9g_lowLength u) = (b9g_lowLength S) ∧ (b9g_highLength u) = (b9g_highLength S) ∧ (b9g_fromKey u) = (b9g_fromKey S) ∧ (b9g_toKey u) = (b9g_toKey S) ∧ (b9g_fromLength u) = (b9g_fromLength S) ∧ (b9g_toLength u) = (b9g_toLength S) ∧ (b9g_ones u) = (b9g_ones S) ∧ (b9g_oneMany u) = (b9g_oneMany S) ∧ (b9g_rowLong u) = (b9g_rowLong S) ∧ (b9g_laidFor u) = (b9g_laidFor S) ∧ (b9g_signs u) = (b9g_signs S) ∧ (b9g_signMany u) = (b9g_signMany S) ∧ (b9g_hasImage u) = (b9g_hasImage S) ∧ (b9g_images u) = (b9g_images S) ∧ (b9g_keyImages u) = (b9g_keyImages S) ∧ (b9g_lengthImages u) = (b9g_lengthImages S)
theorem sf_X9_remove {S : bT9} (hJ : J9 S) {a1 : Int32} {a2 : Int32} {a3 : Int32} {Q : Int32 → (bT9) → Prop} (hq : ∀ (r : Int32) (u : bT9), (J9 u) → F_X9_remove S u → (SRT (b9g_keys S) (b9g_lengths S) (b9g_now S 8).toInt → (1 ≤ a3.toInt ∧ a3.toInt ≤ 8 → NUM (b9g_keys S) (b9g_lengths S) (b9g_now S 8).toInt (KEY a1 a2 a3) a3 r.toInt) ∧ (¬ (1 ≤ a3.toInt ∧ a3.toInt ≤ 8) → r.toInt = -1)) → (DRP (b9g_keys S) (b9g_lengths S) (b9g_now S 8).toInt r.toInt (b9g_keys u) (b9g_lengths u) (b9g_now u 8).toInt) → (∀ j : Nat, 64 ≤ j → b9g_keys u j = b9g_keys S j ∧ b9g_lengths u j = b9g_lengths S j) → (∀ i : Nat, i ≠ 8 → b9g_now u i = b9g_now S i) → (b9g_now u 10 = b9g_now S 10) → (b9g_now u 7 = b9g_now S 7) → Q r u) : wp_X9_remove S a1 a2 a3 Q := by
  have jn := (J9g_now hJ).2.2.1
  have c8 : ((8 : Int32)).toNatClampNeg = 8 := by decide
  have v8 : vp_in (8 : Int32) 23 := pt_in (by decide) (by decide)
  unfold wp_X9_remove
  intro S1 e1
  have hJ1 : J9 S1 := by rw [e1]; exact J9s_told hJ
  have hF1 : F_X9_remove S S1 := by rw [e1]; exact ⟨rfl, rfl, rfl, rfl, rfl, rfl, rfl, rfl, rfl, rfl, rfl, rfl, rfl, rfl, rfl, rfl, rfl, rfl, rfl, rfl, rfl, rfl, rfl, rfl, rfl, rfl, rfl, rfl, rfl, rfl, rfl, rfl, rfl, rfl, rfl, rfl, rfl, rfl, rfl, rfl, rfl, rfl⟩
  have ek : b9g_keys S1 = b9g_keys S := by rw [e1]
  have el : b9g_lengths S1 = b9g_lengths S := by rw [e1]
  have en : b9g_now S1 = b9g_now S := by rw [e1]
  have go : ∀ t : Int32, (t.toInt = -1 ∨ (0 ≤ t.toInt ∧ t.toInt < (b9g_now S 8).toInt)) → (SRT (b9g_keys S) (b9g_lengths S) (b9g_now S 8).toInt → (1 ≤ a3.toInt ∧ a3.toInt ≤ 8 → NUM (b9g_keys S) (b9g_lengths S) (b9g_now S 8).toInt (KEY a1 a2 a3) a3 t.toInt) ∧ (¬ (1 ≤ a3.toInt ∧ a3.toInt ≤ 8) → t.toInt = -1)) → wp_X9_remove_37 S1 t Q := by
    intro t ht hN
    unfold wp_X9_remove_37
    rw [c8, en]
    refine ⟨fun c => ⟨v8, v8, fun S3 e3 => ?_⟩, fun c => ?_⟩
    rotate_left
    · refine hq _ _ hJ1 hF1 ?_ (Or.inl ⟨by rw [pl_m1]; omega, by rw [en], fun j hj => ⟨by rw [ek], by rw [el]⟩⟩) (fun j hj => ⟨by rw [ek], by rw [el]⟩) (fun i hi => by rw [en]) (by rw [en]) (by rw [en])
      rw [c] at hN
      exact hN
    simp only [pn] at c
    have t0 : 0 ≤ t.toInt ∧ t.toInt < (b9g_now S 8).toInt := by omega
    have e81 : (b9g_now S 8 - 1).toInt = (b9g_now S 8).toInt - 1 := by rw [pt_sub (by rw [pl_1]; omega) (by rw [pl_1]; omega), pl_1]
    have en3 : b9g_now S3 = upd (b9g_now S) 8 (b9g_now S 8 - 1) := by rw [e3]
    have hJ3 : J9 S3 := by
      rw [e3, ← c8]
      refine J9s_now hJ1 (NW_set (J9g_now hJ) (fun e => absurd e (by decide)) (fun e => absurd e (by decide)) (fun _ => ⟨?_, ?_⟩) (fun e => absurd e (by decide)) (fun e => absurd e (by decide)) (fun e => absurd e (by decide))) (by rw [en]; exact up_n (by decide))
      · rw [c8, e81]; omega
      · rw [c8, e81]; omega
    have ec3 : (b9g_now S3 8).toInt = (b9g_now S 8).toInt - 1 := by rw [en3]; unfold upd; rw [if_pos rfl]; exact e81
    have eo3 : ∀ i : Nat, i ≠ 8 → b9g_now S3 i = b9g_now S i := fun i hi => by rw [en3]; unfold upd; rw [if_neg hi]
    unfold wp_X9_remove_67
    refine ⟨fun n x4 x5 V => x4 = t ∧ J9 V ∧ F_X9_remove S V ∧ b9g_now V = b9g_now S3 ∧ t.toInt ≤ x5.toInt ∧ x5.toInt ≤ (b9g_now S 8).toInt - 1 ∧ (∀ j : Nat, (j : Int) < t.toInt ∨ x5.toInt ≤ (j : Int) → b9g_keys V j = b9g_keys S j ∧ b9g_lengths V j = b9g_lengths S j) ∧ (∀ j : Nat, t.toInt ≤ (j : Int) → (j : Int) < x5.toInt → b9g_keys V j = b9g_keys S (j + 1) ∧ b9g_lengths V j = b9g_lengths S (j + 1)) ∧ n = ((b9g_now S 8).toInt - x5.toInt).toNat, ⟨_, rfl, hJ3, by rw [e3]; exact hF1, rfl, Int.le_refl _, by omega, fun j hj => ⟨by rw [e3]; exact congrFun ek j, by rw [e3]; exact congrFun el j⟩, fun j hj hc => by omega, rfl⟩, ?_⟩
    rintro n x4 x5 V ⟨ex, hJV, hFV, eV, l1, l2, p1, p2, hn0⟩
    unfold wp_X9_remove_67b
    rw [ex, c8, eV]
    have ec5 := pt_clamp (i := x5) (by omega)
    refine ⟨v8, fun d => ?_, fun d => ?_⟩
    · simp only [pn] at d
      refine hq _ _ hJV hFV hN (Or.inr ⟨t0.1, t0.2, by rw [eV]; exact ec3, fun j hj => p1 j (Or.inl hj), fun j hj hc => p2 j hj (by omega)⟩) (fun j hj => p1 j (Or.inr (by omega))) (fun i hi => by rw [eV]; exact eo3 i hi) (by rw [eV]; exact eo3 10 (by decide)) (by rw [eV]; exact eo3 7 (by decide))
    · simp only [pn] at d
      have x1' : (x5 + 1).toInt = x5.toInt + 1 := by rw [pt_add (by rw [pl_1]; omega) (by rw [pl_1]; omega), pl_1]
      have c51 := pt_clamp (i := x5 + 1) (by omega)
      have v1 : vp_in (x5 + 1) 144 := pt_in (by omega) (by omega)
      have v2 : vp_in x5 144 := pt_in (by omega) (by omega)
      refine ⟨v1, v2, fun S4 d4 => ⟨v1, v2, fun S5 d5 => ?_⟩⟩
      have hJ4 : J9 S4 := by rw [d4]; exact J9s_keys hJV (fun j hj => upL_n (by omega))
      have hJ5 : J9 S5 := by rw [d5]; exact J9s_lengths hJ4 (pt_updr (J9g_lengths hJ4) (J9g_lengths hJ4 _)) (fun j hj => up_n (by omega))
      have eb : b9g_keys S5 = vp_updL (b9g_keys V) x5.toNatClampNeg (b9g_keys V (x5 + 1).toNatClampNeg) := by rw [d5, d4]
      have eg : b9g_lengths S5 = upd (b9g_lengths V) x5.toNatClampNeg (b9g_lengths V (x5 + 1).toNatClampNeg) := by rw [d5, d4]
      refine ⟨_, ?_, rfl, hJ5, by rw [d5, d4]; exact hFV, by rw [d5, d4]; exact eV, by omega, by omega, fun j hj => ?_, fun j hj hc => ?_, rfl⟩
      · omega
      · rw [eb, eg]
        unfold vp_updL upd
        rw [if_neg (by omega), if_neg (by omega)]
        exact p1 j (by omega)
      · rw [eb, eg]
        unfold vp_updL upd
        by_cases h : j = x5.toNatClampNeg
        · rw [if_pos h, if_pos h, show (x5 + 1).toNatClampNeg = j + 1 by omega]
          exact p1 (j + 1) (by omega)
        · rw [if_neg h, if_neg h]
          exact p2 j hj (by omega)
  refine sf_X9_isKey hJ1.1 (fun r2 hz h2 => ⟨fun c => ?_, fun c => ⟨v8, ?_⟩⟩)
  · simp only [pn] at c
    exact go _ (Or.inl rfl) (fun _ => ⟨fun h => by omega, fun _ => rfl⟩)
  · simp only [pn] at c
    have hn : 1 ≤ a3.toInt ∧ a3.toInt ≤ 8 := by omega
    refine sf_X9_keyOf hJ1.1 (fun r4 h4 => ?_)
    rw [c8, en]
    refine sf_X9_find hJ1.1 (by decide) jn.1 (by rw [pl_0]; omega) (fun r6 h6 hN => ?_)
    rw [sh0, sh0', ek, el, h4] at hN
    exact go _ h6 (fun hs => ⟨fun _ => hN hs, fun h => absurd hn h⟩)
def F_X9_has (S u : bT9) : Prop := (b9g_now u) = (b9g_now S) ∧ (b9g_keys u) = (b9g_keys S) ∧ (b9g_lengths u) = (b9g_lengths S) ∧ (b9g_drawn u) = (b9g_drawn S) ∧ (b9g_drawnLength u) = (b9g_drawnLength S) ∧ (b9g_tape u) = (b9g_tape S) ∧ (b9g_taped u) = (b9g_taped S) ∧ (b9g_names u) = (b9g_names S) ∧ (b9g_chosen u) = (b9g_chosen S) ∧ (b9g_common u) = (b9g_common S) ∧ (b9g_beginning u) = (b9g_beginning S) ∧ (b9g_isLaid u) = (b9g_isLaid S) ∧ (b9g_nodeLevel u) = (b9g_nodeLevel S) ∧ (b9g_nodeLeaf u) = (b9g_nodeLeaf S) ∧ (b9g_nodeLeaves u) = (b9g_nodeLeaves S) ∧ (b9g_nodeMany u) = (b9g_nodeMany S) ∧ (b9g_levelMany u) = (b9g_levelMany S) ∧ (b9g_upper u) = (b9g_upper S) ∧ (b9g_upperNodes u) = (b9g_upperNodes S) ∧ (b9g_areNodesLaid u) = (b9g_areNodesLaid S) ∧ (b9g_itemNode u) = (b9g_itemNode S) ∧ (b9g_itemByte u) = (b9g_itemByte S) ∧ (b9g_itemChild u) = (b9g_itemChild S) ∧ (b9g_itemMany u) = (b9g_itemMany S) ∧ (b9g_placeOf u) = (b9g_placeOf S) ∧ (b9g_leafOfPlace u) = (b9g_leafOfPlace S) ∧ (b9g_places u) = (b9g_places S) ∧ (b9g_lowKey u) = (b9g_lowKey S) ∧ (b9g_highKey u) = (b9g_highKey S) ∧ (b9g_lowLength u) = (b9g_lowLength S) ∧ (b9g_highLength u) = (b9g_highLength S) ∧ (b9g_fromKey u) = (b9g_fromKey S) ∧ (b9g_toKey u) = (b9g_toKey S) ∧ (b9g_fromLength u) = (b9g_fromLength S) ∧ (b9g_toLength u) = (b9g_toLength S) ∧ (b9g_ones u) = (b9g_ones S) ∧ (b9g_oneMany u) = (b9g_oneMany S) ∧ (b9g_rowLong u) = (b9g_rowLong S) ∧ (b9g_laidFor u) = (b9g_laidFor S) ∧ (b9g_signs u) = (b9g_signs S) ∧ (b9g_signMany u) = (b9g_signMany S) ∧ (b9g_hasImage u) = (b9g_hasImage S) ∧ (b9g_images u) = (b9g_images S) ∧ (b9g_keyImages u) = (b9g_keyImages S) ∧ (b9g_lengthImages u) = (b9g_lengthImages S)
theorem sf_X9_has {S : bT9} (hJ : J9 S) {a1 : Int32} {a2 : Int32} {a3 : Int32} {a4 : Int32} {Q : Int32 → (bT9) → Prop} (hq : ∀ (r : Int32) (u : bT9), (J9 u) → F_X9_has S u → (1 ≤ a3.toInt ∧ a3.toInt ≤ 8 → a4.toInt = 0 → SRT (b9g_keys S) (b9g_lengths S) (b9g_now S 8).toInt → NUM (b9g_keys S) (b9g_lengths S) (b9g_now S 8).toInt (KEY a1 a2 a3) a3 r.toInt) → (1 ≤ a3.toInt ∧ a3.toInt ≤ 8 → a4.toInt = 1 → SRT (fun j => b9g_keys S (64 + j)) (fun j => b9g_lengths S (64 + j)) (b9g_now S 9).toInt → NUM (fun j => b9g_keys S (64 + j)) (fun j => b9g_lengths S (64 + j)) (b9g_now S 9).toInt (KEY a1 a2 a3) a3 r.toInt) → (¬ ((1 ≤ a3.toInt ∧ a3.toInt ≤ 8) ∧ (a4.toInt = 0 ∨ a4.toInt = 1)) → r.toInt = -1) → Q r u) : wp_X9_has S a1 a2 a3 a4 Q := by
  have j8 := (J9g_now hJ).2.2.1
  have j9 := (J9g_now hJ).2.2.2.1
  have c8 : ((8 : Int32)).toNatClampNeg = 8 := by decide
  have c9 : ((9 : Int32)).toNatClampNeg = 9 := by decide
  unfold wp_X9_has
  intro S1 e1
  have hJ1 : J9 S1 := by rw [e1]; exact J9s_told hJ
  have hF1 : F_X9_has S S1 := by rw [e1]; exact ⟨rfl, rfl, rfl, rfl, rfl, rfl, rfl, rfl, rfl, rfl, rfl, rfl, rfl, rfl, rfl, rfl, rfl, rfl, rfl, rfl, rfl, rfl, rfl, rfl, rfl, rfl, rfl, rfl, rfl, rfl, rfl, rfl, rfl, rfl, rfl, rfl, rfl, rfl, rfl, rfl, rfl, rfl, rfl, rfl, rfl⟩
  have ek : b9g_keys S1 = b9g_keys S := by rw [e1]
  have el : b9g_lengths S1 = b9g_lengths S := by rw [e1]
  have en : b9g_now S1 = b9g_now S := by rw [e1]
  rw [c8, c9, en]
  refine sf_X9_isKey hJ1.1 (fun r2 hz h2 => ⟨fun c => ?_, fun c => sf_X9_isIn hJ1.1 (fun r4 hz4 h4 => ⟨fun d => ?_, fun d => ?_⟩)⟩)
  · simp only [pn] at c
    exact hq _ _ hJ1 hF1 (fun h _ => by omega) (fun h _ => by omega) (fun _ => rfl)
  rotate_left
  · simp only [pn] at c d h4
    exact hq _ _ hJ1 hF1 (fun _ h => by omega) (fun _ h => by omega) (fun _ => rfl)
  simp only [pn] at c d h4
  have hn : 1 ≤ a3.toInt ∧ a3.toInt ≤ 8 := by omega
  refine ⟨fun e => ⟨pt_in (by decide) (by decide), sf_X9_keyOf hJ1.1 (fun r6 h6 => ?_)⟩, fun e => ⟨pt_in (by decide) (by decide), sf_X9_keyOf hJ1.1 (fun r6 h6 => ?_)⟩⟩
  · simp only [pn] at e
    refine sf_X9_find hJ1.1 (by decide) j9.1 (by rw [pl_64]; omega) (fun r8 h8 hN => ?_)
    rw [sh64, sh64', ek, el, h6] at hN
    exact hq _ _ hJ1 hF1 (fun _ h => by omega) (fun _ _ hs => hN hs) (fun h => absurd ⟨hn, Or.inr (by omega)⟩ h)
  · simp only [pn] at e
    refine sf_X9_find hJ1.1 (by decide) j8.1 (by rw [pl_0]; omega) (fun r8 h8 hN => ?_)
    rw [sh0, sh0', ek, el, h6] at hN
    exact hq _ _ hJ1 hF1 (fun _ _ hs => hN hs) (fun _ h => by omega) (fun h => absurd ⟨hn, Or.inl e⟩ h)
def F_X9_draws (S u : bT9) : Prop := (b9g_told u) = (b9g_told S) ∧ (b9g_keys u) = (b9g_keys S) ∧ (b9g_lengths u) = (b9g_lengths S) ∧ (b9g_tape u) = (b9g_tape S) ∧ (b9g_taped u) = (b9g_taped S) ∧ (b9g_names u) = (b9g_names S) ∧ (b9g_chosen u) = (b9g_chosen S) ∧ (b9g_common u) = (b9g_common S) ∧ (b9g_beginning u) = (b9g_beginning S) ∧ (b9g_isLaid u) = (b9g_isLaid S) ∧ (b9g_nodeLevel u) = (b9g_nodeLevel S) ∧ (b9g_nodeLeaf u) = (b9g_nodeLeaf S) ∧ (b9g_nodeLeaves u) = (b9g_nodeLeaves S) ∧ (b9g_nodeMany u) = (b9g_nodeMany S) ∧ (b9g_levelMany u) = (b9g_levelMany S) ∧ (b9g_upper u) = (b9g_upper S) ∧ (b9g_upperNodes u) = (b9g_upperNodes S) ∧ (b9g_areNodesLaid u) = (b9g_areNodesLaid S) ∧ (b9g_itemNode u) = (b9g_itemNode S) ∧ (b9g_itemByte u) = (b9g_itemByte S) ∧ (b9g_itemChild u) = (b9g_itemChild S) ∧ (b9g_itemMany u) = (b9g_itemMany S) ∧ (b9g_placeOf u) = (b9g_placeOf S) ∧ (b9g_leafOfPlace u) = (b9g_leafOfPlace S) ∧ (b9g_places u) = (b9g_places S) ∧ (b9g_lowKey u) = (b9g_lowKey S) ∧ (b9g_highKey u) = (b9g_highKey S) ∧ (b9g_lowLength u) = (b9g_lowLength S) ∧ (b9g_highLength u) = (b9g_highLength S) ∧ (b9g_fromKey u) = (b9g_fromKey S) ∧ (b9g_toKey u) = (b9g_toKey S) ∧ (b9g_fromLength u) = (b9g_fromLength S) ∧ (b9g_toLength u) = (b9g_toLength S) ∧ (b9g_ones u) = (b9g_ones S) ∧ (b9g_oneMany u) = (b9g_oneMany S) ∧ (b9g_rowLong u) = (b9g_rowLong S) ∧ (b9g_laidFor u) = (b9g_laidFor S) ∧ (b9g_signs u) = (b9g_signs S) ∧ (b9g_signMany u) = (b9g_signMany S) ∧ (b9g_hasImage u) = (b9g_hasImage S) ∧ (b9g_images u) = (b9g_images S) ∧ (b9g_keyImages u) = (b9g_keyImages S) ∧ (b9g_lengthImages u) = (b9g_lengthImages S)
theorem sf_X9_draws {S : bT9} (hJ : J9 S) {a1 : Int32} {Q : (bT9) → Prop} (hp0 : 1 ≤ a1.toInt) (hp1 : a1.toInt ≤ 8) (hq : ∀ u : bT9, (J9 u) → F_X9_draws S u → (1 ≤ (b9g_drawnLength u).toInt) → ((b9g_drawnLength u).toInt ≤ 8) → (b9g_now u 7 = stp a1 (b9g_now S 7)) → (b9g_drawnLength u = 1 + drw (lcg (b9g_now S 7)) a1) → (b9g_drawn u = DKY (b9g_now S 4 + 4) (lcg (b9g_now S 7)) (b9g_drawnLength u).toInt.toNat) → (∀ i : Nat, i ≠ 7 → b9g_now u i = b9g_now S i) → (b9g_now u 10 = b9g_now S 10) → Q u) : wp_X9_draws S a1 Q := by
  unfold wp_X9_draws
  refine sf_X9_draw hJ (by omega) (fun r7 u8 hJ8 hf8 r0 r1 d8 q8 o8 t8 => ?_)
  intro S9 e9 S10 e10
  have er : (1 + r7).toInt = 1 + r7.toInt := by rw [pt_add (by rw [pl_1]; omega) (by rw [pl_1]; omega), pl_1]
  have hJ9' : J9 S9 := by rw [e9]; exact J9s_drawnLength hJ8 ⟨by rw [er]; omega, by rw [er]; omega⟩
  have hJ10 : J9 S10 := by rw [e10]; exact J9s_drawn hJ9'
  have hF8 : F_X9_draws S u8 := ⟨hf8.1, hf8.2.1, hf8.2.2.1, hf8.2.2.2.2.2.1, hf8.2.2.2.2.2.2.1, hf8.2.2.2.2.2.2.2.1, hf8.2.2.2.2.2.2.2.2.1, hf8.2.2.2.2.2.2.2.2.2.1, hf8.2.2.2.2.2.2.2.2.2.2.1, hf8.2.2.2.2.2.2.2.2.2.2.2.1, hf8.2.2.2.2.2.2.2.2.2.2.2.2.1, hf8.2.2.2.2.2.2.2.2.2.2.2.2.2.1, hf8.2.2.2.2.2.2.2.2.2.2.2.2.2.2.1, hf8.2.2.2.2.2.2.2.2.2.2.2.2.2.2.2.1, hf8.2.2.2.2.2.2.2.2.2.2.2.2.2.2.2.2.1, hf8.2.2.2.2.2.2.2.2.2.2.2.2.2.2.2.2.2.1, hf8.2.2.2.2.2.2.2.2.2.2.2.2.2.2.2.2.2.2.1, hf8.2.2.2.2.2.2.2.2.2.2.2.2.2.2.2.2.2.2.2.1, hf8.2.2.2.2.2.2.2.2.2.2.2.2.2.2.2.2.2.2.2.2.1, hf8.2.2.2.2.2.2.2.2.2.2.2.2.2.2.2.2.2.2.2.2.2.1, hf8.2.2.2.2.2.2.2.2.2.2.2.2.2.2.2.2.2.2.2.2.2.2.1, hf8.2.2.2.2.2.2.2.2.2.2.2.2.2.2.2.2.2.2.2.2.2.2.2.1, hf8.2.2.2.2.2.2.2.2.2.2.2.2.2.2.2.2.2.2.2.2.2.2.2.2.1, hf8.2.2.2.2.2.2.2.2.2.2.2.2.2.2.2.2.2.2.2.2.2.2.2.2.2.1, hf8.2.2.2.2.2.2.2.2.2.2.2.2.2.2.2.2.2.2.2.2.2.2.2.2.2.2.1, hf8.2.2.2.2.2.2.2.2.2.2.2.2.2.2.2.2.2.2.2.2.2.2.2.2.2.2.2.1, hf8.2.2.2.2.2.2.2.2.2.2.2.2.2.2.2.2.2.2.2.2.2.2.2.2.2.2.2.2.1, hf8.2.2.2.2.2.2.2.2.2.2.2.2.2.2.2.2.2.2.2.2.2.2.2.2.2.2.2.2.2.1, hf8.2.2.2.2.2.2.2.2.2.2.2.2.2.2.2.2.2.2.2.2.2.2.2.2.2.2.2.2.2.2.1, hf8.2.2.2.2.2.2.2.2.2.2.2.2.2.2.2.2.2.2.2.2.2.2.2.2.2.2.2.2.2.2.2.1, hf8.2.2.2.2.2.2.2.2.2.2.2.2.2.2.2.2.2.2.2.2.2.2.2.2.2.2.2.2.2.2.2.2.1, hf8.2.2.2.2.2.2.2.2.2.2.2.2.2.2.2.2.2.2.2.2.2.2.2.2.2.2.2.2.2.2.2.2.2.1, hf8.2.2.2.2.2.2.2.2.2.2.2.2.2.2.2.2.2.2.2.2.2.2.2.2.2.2.2.2.2.2.2.2.2.2.1, hf8.2.2.2.2.2.2.2.2.2.2.2.2.2.2.2.2.2.2.2.2.2.2.2.2.2.2.2.2.2.2.2.2.2.2.2.1, hf8.2.2.2.2.2.2.2.2.2.2.2.2.2.2.2.2.2.2.2.2.2.2.2.2.2.2.2.2.2.2.2.2.2.2.2.2.1, hf8.2.2.2.2.2.2.2.2.2.2.2.2.2.2.2.2.2.2.2.2.2.2.2.2.2.2.2.2.2.2.2.2.2.2.2.2.2.1, hf8.2.2.2.2.2.2.2.2.2.2.2.2.2.2.2.2.2.2.2.2.2.2.2.2.2.2.2.2.2.2.2.2.2.2.2.2.2.2.1, hf8.2.2.2.2.2.2.2.2.2.2.2.2.2.2.2.2.2.2.2.2.2.2.2.2.2.2.2.2.2.2.2.2.2.2.2.2.2.2.2.1, hf8.2.2.2.2.2.2.2.2.2.2.2.2.2.2.2.2.2.2.2.2.2.2.2.2.2.2.2.2.2.2.2.2.2.2.2.2.2.2.2.2.1, hf8.2.2.2.2.2.2.2.2.2.2.2.2.2.2.2.2.2.2.2.2.2.2.2.2.2.2.2.2.2.2.2.2.2.2.2.2.2.2.2.2.2.1, hf8.2.2.2.2.2.2.2.2.2.2.2.2.2.2.2.2.2.2.2.2.2.2.2.2.2.2.2.2.2.2.2.2.2.2.2.2.2.2.2.2.2.2.1, hf8.2.2.2.2.2.2.2.2.2.2.2.2.2.2.2.2.2.2.2.2.2.2.2.2.2.2.2.2.2.2.2.2.2.2.2.2.2.2.2.2.2.2.2.1, hf8.2.2.2.2.2.2.2.2.2.2.2.2.2.2.2.2.2.2.2.2.2.2.2.2.2.2.2.2.2.2.2.2.2.2.2.2.2.2.2.2.2.2.2.2⟩
  have hF10 : F_X9_draws S S10 := by rw [e10, e9]; exact hF8
  have n10 : b9g_now S10 = b9g_now u8 := by rw [e10, e9]
  have l10 : b9g_drawnLength S10 = 1 + drw (lcg (b9g_now S 7)) a1 := by
    have : b9g_drawnLength S10 = 1 + r7 := by rw [e10, e9]
    rw [this, q8, d8]
  have w10 : b9g_drawn S10 = 0 := by rw [e10]
  have m10 : 1 ≤ (1 + drw (lcg (b9g_now S 7)) a1).toInt ∧ (1 + drw (lcg (b9g_now S 7)) a1).toInt ≤ 8 := by
    rw [← d8, ← q8, er]
    omega
  obtain ⟨M, hM⟩ : ∃ M : Int32, 1 + drw (lcg (b9g_now S 7)) a1 = M := ⟨_, rfl⟩
  rw [hM] at l10 m10
  unfold wp_X9_draws_18
  refine ⟨fun n x2 V => 0 ≤ x2.toInt ∧ x2.toInt ≤ M.toInt ∧ J9 V ∧ F_X9_draws S V ∧ b9g_drawnLength V = M ∧ b9g_now V 7 = lcgN x2.toInt.toNat (lcg (b9g_now S 7)) ∧ (∀ i : Nat, i ≠ 7 → b9g_now V i = b9g_now S i) ∧ b9g_drawn V = DKY (b9g_now S 4 + 4) (lcg (b9g_now S 7)) x2.toInt.toNat ∧ n = (M.toInt - x2.toInt).toNat, ⟨_, by decide, by rw [pl_0]; omega, hJ10, hF10, l10, by rw [z0, lcgN0, n10, d8], fun i hi => by rw [n10]; exact o8 i hi, by rw [z0, w10]; rfl, rfl⟩, ?_⟩
  rintro n x2 V ⟨h0, h1, hJV, hFV, hl, h7, ho, hk, hn⟩
  unfold wp_X9_draws_18b
  rw [hl]
  refine ⟨fun c => ?_, fun c => ?_⟩
  · simp only [pn] at c
    have ex : x2.toInt = M.toInt := by omega
    rw [ex] at h7 hk
    refine hq _ hJV hFV (by rw [hl]; exact m10.1) (by rw [hl]; exact m10.2) ?_ (by rw [hl, hM]) (by rw [hl]; exact hk) ho (ho 10 (by decide))
    rw [h7]
    unfold stp
    rw [hM]
  simp only [pn] at c
  refine sf_X9_settingOf hJV.1 (by decide) (by decide) (fun r1 g4 _ s4 _ => ?_)
  have g4' := g4 rfl
  refine sf_X9_draw hJV (by omega) (fun r3 u4 hJ4 hf4 _ _ d4 q4 o4 t4 => ?_)
  intro v5 e5 S6 e6
  have x2' : (x2 + 1).toInt = x2.toInt + 1 := by rw [pt_add (by rw [pl_1]; omega) (by rw [pl_1]; omega), pl_1]
  have n6 : b9g_now S6 = b9g_now u4 := by rw [e6]
  have l6 : b9g_drawnLength S6 = b9g_drawnLength V := by rw [e6]; exact hf4.2.2.2.2.1
  have hF4 : F_X9_draws S u4 := ⟨(hf4.1).trans (hFV.1), (hf4.2.1).trans (hFV.2.1), (hf4.2.2.1).trans (hFV.2.2.1), (hf4.2.2.2.2.2.1).trans (hFV.2.2.2.1), (hf4.2.2.2.2.2.2.1).trans (hFV.2.2.2.2.1), (hf4.2.2.2.2.2.2.2.1).trans (hFV.2.2.2.2.2.1), (hf4.2.2.2.2.2.2.2.2.1).trans (hFV.2.2.2.2.2.2.1), (hf4.2.2.2.2.2.2.2.2.2.1).trans (hFV.2.2.2.2.2.2.2.1), (hf4.2.2.2.2.2.2.2.2.2.2.1).trans (hFV.2.2.2.2.2.2.2.2.1), (hf4.2.2.2.2.2.2.2.2.2.2.2.1).trans (hFV.2.2.2.2.2.2.2.2.2.1), (hf4.2.2.2.2.2.2.2.2.2.2.2.2.1).trans (hFV.2.2.2.2.2.2.2.2.2.2.1), (hf4.2.2.2.2.2.2.2.2.2.2.2.2.2.1).trans (hFV.2.2.2.2.2.2.2.2.2.2.2.1), (hf4.2.2.2.2.2.2.2.2.2.2.2.2.2.2.1).trans (hFV.2.2.2.2.2.2.2.2.2.2.2.2.1), (hf4.2.2.2.2.2.2.2.2.2.2.2.2.2.2.2.1).trans (hFV.2.2.2.2.2.2.2.2.2.2.2.2.2.1), (hf4.2.2.2.2.2.2.2.2.2.2.2.2.2.2.2.2.1).trans (hFV.2.2.2.2.2.2.2.2.2.2.2.2.2.2.1), (hf4.2.2.2.2.2.2.2.2.2.2.2.2.2.2.2.2.2.1).trans (hFV.2.2.2.2.2.2.2.2.2.2.2.2.2.2.2.1), (hf4.2.2.2.2.2.2.2.2.2.2.2.2.2.2.2.2.2.2.1).trans (hFV.2.2.2.2.2.2.2.2.2.2.2.2.2.2.2.2.1), (hf4.2.2.2.2.2.2.2.2.2.2.2.2.2.2.2.2.2.2.2.1).trans (hFV.2.2.2.2.2.2.2.2.2.2.2.2.2.2.2.2.2.1), (hf4.2.2.2.2.2.2.2.2.2.2.2.2.2.2.2.2.2.2.2.2.1).trans (hFV.2.2.2.2.2.2.2.2.2.2.2.2.2.2.2.2.2.2.1), (hf4.2.2.2.2.2.2.2.2.2.2.2.2.2.2.2.2.2.2.2.2.2.1).trans (hFV.2.2.2.2.2.2.2.2.2.2.2.2.2.2.2.2.2.2.2.1), (hf4.2.2.2.2.2.2.2.2.2.2.2.2.2.2.2.2.2.2.2.2.2.2.1).trans (hFV.2.2.2.2.2.2.2.2.2.2.2.2.2.2.2.2.2.2.2.2.1), (hf4.2.2.2.2.2.2.2.2.2.2.2.2.2.2.2.2.2.2.2.2.2.2.2.1).trans (hFV.2.2.2.2.2.2.2.2.2.2.2.2.2.2.2.2.2.2.2.2.2.1), (hf4.2.2.2.2.2.2.2.2.2.2.2.2.2.2.2.2.2.2.2.2.2.2.2.2.1).trans (hFV.2.2.2.2.2.2.2.2.2.2.2.2.2.2.2.2.2.2.2.2.2.2.1), (hf4.2.2.2.2.2.2.2.2.2.2.2.2.2.2.2.2.2.2.2.2.2.2.2.2.2.1).trans (hFV.2.2.2.2.2.2.2.2.2.2.2.2.2.2.2.2.2.2.2.2.2.2.2.1), (hf4.2.2.2.2.2.2.2.2.2.2.2.2.2.2.2.2.2.2.2.2.2.2.2.2.2.2.1).trans (hFV.2.2.2.2.2.2.2.2.2.2.2.2.2.2.2.2.2.2.2.2.2.2.2.2.1), (hf4.2.2.2.2.2.2.2.2.2.2.2.2.2.2.2.2.2.2.2.2.2.2.2.2.2.2.2.1).trans (hFV.2.2.2.2.2.2.2.2.2.2.2.2.2.2.2.2.2.2.2.2.2.2.2.2.2.1), (hf4.2.2.2.2.2.2.2.2.2.2.2.2.2.2.2.2.2.2.2.2.2.2.2.2.2.2.2.2.1).trans (hFV.2.2.2.2.2.2.2.2.2.2.2.2.2.2.2.2.2.2.2.2.2.2.2.2.2.2.1), (hf4.2.2.2.2.2.2.2.2.2.2.2.2.2.2.2.2.2.2.2.2.2.2.2.2.2.2.2.2.2.1).trans (hFV.2.2.2.2.2.2.2.2.2.2.2.2.2.2.2.2.2.2.2.2.2.2.2.2.2.2.2.1), (hf4.2.2.2.2.2.2.2.2.2.2.2.2.2.2.2.2.2.2.2.2.2.2.2.2.2.2.2.2.2.2.1).trans (hFV.2.2.2.2.2.2.2.2.2.2.2.2.2.2.2.2.2.2.2.2.2.2.2.2.2.2.2.2.1), (hf4.2.2.2.2.2.2.2.2.2.2.2.2.2.2.2.2.2.2.2.2.2.2.2.2.2.2.2.2.2.2.2.1).trans (hFV.2.2.2.2.2.2.2.2.2.2.2.2.2.2.2.2.2.2.2.2.2.2.2.2.2.2.2.2.2.1), (hf4.2.2.2.2.2.2.2.2.2.2.2.2.2.2.2.2.2.2.2.2.2.2.2.2.2.2.2.2.2.2.2.2.1).trans (hFV.2.2.2.2.2.2.2.2.2.2.2.2.2.2.2.2.2.2.2.2.2.2.2.2.2.2.2.2.2.2.1), (hf4.2.2.2.2.2.2.2.2.2.2.2.2.2.2.2.2.2.2.2.2.2.2.2.2.2.2.2.2.2.2.2.2.2.1).trans (hFV.2.2.2.2.2.2.2.2.2.2.2.2.2.2.2.2.2.2.2.2.2.2.2.2.2.2.2.2.2.2.2.1), (hf4.2.2.2.2.2.2.2.2.2.2.2.2.2.2.2.2.2.2.2.2.2.2.2.2.2.2.2.2.2.2.2.2.2.2.1).trans (hFV.2.2.2.2.2.2.2.2.2.2.2.2.2.2.2.2.2.2.2.2.2.2.2.2.2.2.2.2.2.2.2.2.1), (hf4.2.2.2.2.2.2.2.2.2.2.2.2.2.2.2.2.2.2.2.2.2.2.2.2.2.2.2.2.2.2.2.2.2.2.2.1).trans (hFV.2.2.2.2.2.2.2.2.2.2.2.2.2.2.2.2.2.2.2.2.2.2.2.2.2.2.2.2.2.2.2.2.2.1), (hf4.2.2.2.2.2.2.2.2.2.2.2.2.2.2.2.2.2.2.2.2.2.2.2.2.2.2.2.2.2.2.2.2.2.2.2.2.1).trans (hFV.2.2.2.2.2.2.2.2.2.2.2.2.2.2.2.2.2.2.2.2.2.2.2.2.2.2.2.2.2.2.2.2.2.2.1), (hf4.2.2.2.2.2.2.2.2.2.2.2.2.2.2.2.2.2.2.2.2.2.2.2.2.2.2.2.2.2.2.2.2.2.2.2.2.2.1).trans (hFV.2.2.2.2.2.2.2.2.2.2.2.2.2.2.2.2.2.2.2.2.2.2.2.2.2.2.2.2.2.2.2.2.2.2.2.1), (hf4.2.2.2.2.2.2.2.2.2.2.2.2.2.2.2.2.2.2.2.2.2.2.2.2.2.2.2.2.2.2.2.2.2.2.2.2.2.2.1).trans (hFV.2.2.2.2.2.2.2.2.2.2.2.2.2.2.2.2.2.2.2.2.2.2.2.2.2.2.2.2.2.2.2.2.2.2.2.2.1), (hf4.2.2.2.2.2.2.2.2.2.2.2.2.2.2.2.2.2.2.2.2.2.2.2.2.2.2.2.2.2.2.2.2.2.2.2.2.2.2.2.1).trans (hFV.2.2.2.2.2.2.2.2.2.2.2.2.2.2.2.2.2.2.2.2.2.2.2.2.2.2.2.2.2.2.2.2.2.2.2.2.2.1), (hf4.2.2.2.2.2.2.2.2.2.2.2.2.2.2.2.2.2.2.2.2.2.2.2.2.2.2.2.2.2.2.2.2.2.2.2.2.2.2.2.2.1).trans (hFV.2.2.2.2.2.2.2.2.2.2.2.2.2.2.2.2.2.2.2.2.2.2.2.2.2.2.2.2.2.2.2.2.2.2.2.2.2.2.1), (hf4.2.2.2.2.2.2.2.2.2.2.2.2.2.2.2.2.2.2.2.2.2.2.2.2.2.2.2.2.2.2.2.2.2.2.2.2.2.2.2.2.2.1).trans (hFV.2.2.2.2.2.2.2.2.2.2.2.2.2.2.2.2.2.2.2.2.2.2.2.2.2.2.2.2.2.2.2.2.2.2.2.2.2.2.2.1), (hf4.2.2.2.2.2.2.2.2.2.2.2.2.2.2.2.2.2.2.2.2.2.2.2.2.2.2.2.2.2.2.2.2.2.2.2.2.2.2.2.2.2.2.1).trans (hFV.2.2.2.2.2.2.2.2.2.2.2.2.2.2.2.2.2.2.2.2.2.2.2.2.2.2.2.2.2.2.2.2.2.2.2.2.2.2.2.2.1), (hf4.2.2.2.2.2.2.2.2.2.2.2.2.2.2.2.2.2.2.2.2.2.2.2.2.2.2.2.2.2.2.2.2.2.2.2.2.2.2.2.2.2.2.2.1).trans (hFV.2.2.2.2.2.2.2.2.2.2.2.2.2.2.2.2.2.2.2.2.2.2.2.2.2.2.2.2.2.2.2.2.2.2.2.2.2.2.2.2.2.1), (hf4.2.2.2.2.2.2.2.2.2.2.2.2.2.2.2.2.2.2.2.2.2.2.2.2.2.2.2.2.2.2.2.2.2.2.2.2.2.2.2.2.2.2.2.2).trans (hFV.2.2.2.2.2.2.2.2.2.2.2.2.2.2.2.2.2.2.2.2.2.2.2.2.2.2.2.2.2.2.2.2.2.2.2.2.2.2.2.2.2.2)⟩
  refine ⟨_, ?_, by omega, by omega, by rw [e6]; exact J9s_drawn hJ4, by rw [e6]; exact hF4, by rw [l6]; exact hl, ?_, fun i hi => ?_, ?_, rfl⟩
  · omega
  · rw [n6, d4, h7, lcgN_s h0 (by omega)]
  · rw [n6]
    exact (o4 i hi).trans (ho i hi)
  · have e : b9g_drawn S6 = v5 := by rw [e6]
    rw [e, e5, hk, DKY_s h0 (by omega), q4, d4, h7, s4 rfl, ho 4 (by decide)]
