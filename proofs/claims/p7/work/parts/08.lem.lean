theorem ge_bW0_0 (S : bT0) : (bW0 S)[0]? = some (.inr (0, [.ref 1, .ref 2, .int (b0g_count S)])) := rfl
theorem ge_bW0_1 (S : bT0) : (bW0 S)[1]? = some (.inl (1, 64, .inr (.inl (b0g_bytes S)))) := rfl
theorem ge_bW0_2 (S : bT0) : (bW0 S)[2]? = some (.inl (0, 64, .inl (b0g_lengths S))) := rfl
theorem ar_bW0_1 (S : bT0) (v : (Nat → Int64)) : (bW0 S).set 1 (.inl (1, 64, .inr (.inl v))) = bW0 (b0s_bytes S v) := by
  obtain ⟨z1, z2, z3⟩ := S
  rfl
theorem ar_bW0_2 (S : bT0) (v : (Nat → Int32)) : (bW0 S).set 2 (.inl (0, 64, .inl v)) = bW0 (b0s_lengths S v) := by
  obtain ⟨z1, z2, z3⟩ := S
  rfl
theorem pu_bW0_0_2 (S : bT0) (v : Int32) : (bW0 S).set 0 (.inr (0, (([.ref 1, .ref 2, .int (b0g_count S)] : List Value).set 2 (.int v)))) = bW0 (b0s_count S v) := by
  obtain ⟨z1, z2, z3⟩ := S
  rfl
theorem ge_bW0_0_3 (S : bT0 × bT0) : (bW0_0 S)[3]? = some (.inr (0, [.ref 4, .ref 5, .int (b0g_count S.2)])) := rfl
theorem ge_bW0_0_0 (S : bT0 × bT0) : (bW0_0 S)[0]? = some (.inr (0, [.ref 1, .ref 2, .int (b0g_count S.1)])) := rfl
theorem ge_bW0_0_4 (S : bT0 × bT0) : (bW0_0 S)[4]? = some (.inl (1, 64, .inr (.inl (b0g_bytes S.2)))) := rfl
theorem ge_bW0_0_1 (S : bT0 × bT0) : (bW0_0 S)[1]? = some (.inl (1, 64, .inr (.inl (b0g_bytes S.1)))) := rfl
theorem ar_bW0_0_1 (S : bT0 × bT0) (v : (Nat → Int64)) : (bW0_0 S).set 1 (.inl (1, 64, .inr (.inl v))) = bW0_0 ((b0s_bytes S.1 v), S.2) := by
  obtain ⟨⟨z1, z2, z3⟩, z4⟩ := S
  rfl
theorem ge_bW0_0_5 (S : bT0 × bT0) : (bW0_0 S)[5]? = some (.inl (0, 64, .inl (b0g_lengths S.2))) := rfl
theorem ge_bW0_0_2 (S : bT0 × bT0) : (bW0_0 S)[2]? = some (.inl (0, 64, .inl (b0g_lengths S.1))) := rfl
theorem ar_bW0_0_2 (S : bT0 × bT0) (v : (Nat → Int32)) : (bW0_0 S).set 2 (.inl (0, 64, .inl v)) = bW0_0 ((b0s_lengths S.1 v), S.2) := by
  obtain ⟨⟨z1, z2, z3⟩, z4⟩ := S
  rfl
theorem pu_bW0_0_0_2 (S : bT0 × bT0) (v : Int32) : (bW0_0 S).set 0 (.inr (0, (([.ref 1, .ref 2, .int (b0g_count S.1)] : List Value).set 2 (.int v)))) = bW0_0 ((b0s_count S.1 v), S.2) := by
  obtain ⟨⟨z1, z2, z3⟩, z4⟩ := S
  rfl
theorem su_bW0_0_0_bW0 (S : bT0 × bT0) : bf_Sub (bW0_0 S) [0, 1, 2] (bW0 S.1) := rfl
theorem su_bW0_0_3_bW0 (S : bT0 × bT0) : bf_Sub (bW0_0 S) [3, 4, 5] (bW0 S.2) := rfl
theorem ge_bWa_0 (N : Nat) (S : (Nat → Int32)) : ((bWa N) S)[0]? = some (.inl (0, N, .inl S)) := rfl
theorem ge_bW1_0 (S : bT1) : (bW1 S)[0]? = some (.inr (1, [.ref 1, .ref 4, .ref 7, .ref 10, .ref 11, .ref 12, .ref 13, .int (b1g_hashBits S), .int (b1g_realBits S), .int (b1g_salt S)])) := rfl
theorem su_bW1_10_bWan64 (S : bT1) : bf_Sub (bW1 S) [10] ((bWa 64) (b1g_commons S)) := rfl
theorem su_bW1_1_bW0 (S : bT1) : bf_Sub (bW1 S) [1, 2, 3] (bW0 (b1g_owners S)) := rfl
theorem su_bW1_11_bWan64 (S : bT1) : bf_Sub (bW1 S) [11] ((bWa 64) (b1g_lengths S)) := rfl
theorem su_bW1_13_bWan64 (S : bT1) : bf_Sub (bW1 S) [13] ((bWa 64) (b1g_nexts S)) := rfl
theorem su_bW1_4_bW0 (S : bT1) : bf_Sub (bW1 S) [4, 5, 6] (bW0 (b1g_lows S)) := rfl
theorem pt_bW1_4_bW0 (S : bT1) (u : bT0) : bf_put (bW1 S) [4, 5, 6] ((bW0 u).map (bf_rne [4, 5, 6])) = bW1 (b1s_lows S u) := by
  obtain ⟨z1, ⟨z2, z3, z4⟩, z5, z6, z7, z8, z9, z10, z11, z12⟩ := S
  rfl
theorem su_bW1_7_bW0 (S : bT1) : bf_Sub (bW1 S) [7, 8, 9] (bW0 (b1g_highs S)) := rfl
theorem pt_bW1_7_bW0 (S : bT1) (u : bT0) : bf_put (bW1 S) [7, 8, 9] ((bW0 u).map (bf_rne [7, 8, 9])) = bW1 (b1s_highs S u) := by
  obtain ⟨z1, z2, ⟨z3, z4, z5⟩, z6, z7, z8, z9, z10, z11, z12⟩ := S
  rfl
theorem ge_bW1_10 (S : bT1) : (bW1 S)[10]? = some (.inl (0, 64, .inl (b1g_commons S))) := rfl
theorem ar_bW1_10 (S : bT1) (v : (Nat → Int32)) : (bW1 S).set 10 (.inl (0, 64, .inl v)) = bW1 (b1s_commons S v) := by
  obtain ⟨z1, z2, z3, z4, z5, z6, z7, z8, z9, z10⟩ := S
  rfl
theorem ge_bW1_11 (S : bT1) : (bW1 S)[11]? = some (.inl (0, 64, .inl (b1g_lengths S))) := rfl
theorem ar_bW1_11 (S : bT1) (v : (Nat → Int32)) : (bW1 S).set 11 (.inl (0, 64, .inl v)) = bW1 (b1s_lengths S v) := by
  obtain ⟨z1, z2, z3, z4, z5, z6, z7, z8, z9, z10⟩ := S
  rfl
theorem ge_bW1_12 (S : bT1) : (bW1 S)[12]? = some (.inl (0, 64, .inl (b1g_hashes S))) := rfl
theorem ar_bW1_12 (S : bT1) (v : (Nat → Int32)) : (bW1 S).set 12 (.inl (0, 64, .inl v)) = bW1 (b1s_hashes S v) := by
  obtain ⟨z1, z2, z3, z4, z5, z6, z7, z8, z9, z10⟩ := S
  rfl
theorem ge_bW1_13 (S : bT1) : (bW1 S)[13]? = some (.inl (0, 64, .inl (b1g_nexts S))) := rfl
theorem ar_bW1_13 (S : bT1) (v : (Nat → Int32)) : (bW1 S).set 13 (.inl (0, 64, .inl v)) = bW1 (b1s_nexts S v) := by
  obtain ⟨z1, z2, z3, z4, z5, z6, z7, z8, z9, z10⟩ := S
  rfl
theorem ge_bW1_3_0 (S : bT1 × bT3) : (bW1_3 S)[0]? = some (.inr (1, [.ref 1, .ref 4, .ref 7, .ref 10, .ref 11, .ref 12, .ref 13, .int (b1g_hashBits S.1), .int (b1g_realBits S.1), .int (b1g_salt S.1)])) := rfl
theorem ge_bW1_3_1 (S : bT1 × bT3) : (bW1_3 S)[1]? = some (.inr (0, [.ref 2, .ref 3, .int (b0g_count (b1g_owners S.1))])) := rfl
theorem su_bW1_3_0_bW1 (S : bT1 × bT3) : bf_Sub (bW1_3 S) [0, 1, 2, 3, 4, 5, 6, 7, 8, 9, 10, 11, 12, 13] (bW1 S.1) := rfl
theorem pt_bW1_3_0_bW1 (S : bT1 × bT3) (u : bT1) : bf_put (bW1_3 S) [0, 1, 2, 3, 4, 5, 6, 7, 8, 9, 10, 11, 12, 13] ((bW1 u).map (bf_rne [0, 1, 2, 3, 4, 5, 6, 7, 8, 9, 10, 11, 12, 13])) = bW1_3 (u, S.2) := by
  obtain ⟨⟨z1, z2, z3, z4, z5, z6, z7, z8, z9, z10⟩, z11⟩ := S
  rfl
theorem pu_bW1_3_0_8 (S : bT1 × bT3) (v : Int32) : (bW1_3 S).set 0 (.inr (1, (([.ref 1, .ref 4, .ref 7, .ref 10, .ref 11, .ref 12, .ref 13, .int (b1g_hashBits S.1), .int (b1g_realBits S.1), .int (b1g_salt S.1)] : List Value).set 8 (.int v)))) = bW1_3 ((b1s_realBits S.1 v), S.2) := by
  obtain ⟨⟨z1, z2, z3, z4, z5, z6, z7, z8, z9, z10⟩, z11⟩ := S
  rfl
theorem ge_bW1_3_14 (S : bT1 × bT3) : (bW1_3 S)[14]? = some (.inr (3, [.ref 15, .ref 18, .int (b3g_mode S.2)])) := rfl
theorem su_bW1_3_18_bWan6 (S : bT1 × bT3) : bf_Sub (bW1_3 S) [18] ((bWa 6) (b3g_values S.2)) := rfl
theorem pu_bW1_3_0_9 (S : bT1 × bT3) (v : Int32) : (bW1_3 S).set 0 (.inr (1, (([.ref 1, .ref 4, .ref 7, .ref 10, .ref 11, .ref 12, .ref 13, .int (b1g_hashBits S.1), .int (b1g_realBits S.1), .int (b1g_salt S.1)] : List Value).set 9 (.int v)))) = bW1_3 ((b1s_salt S.1 v), S.2) := by
  obtain ⟨⟨z1, z2, z3, z4, z5, z6, z7, z8, z9, z10⟩, z11⟩ := S
  rfl
theorem su_bW1_3_1_15_bW0_0 (S : bT1 × bT3) : bf_Sub (bW1_3 S) [1, 2, 3, 15, 16, 17] (bW0_0 ((b1g_owners S.1), (b3g_members S.2))) := rfl
theorem pt_bW1_3_1_15_bW0_0 (S : bT1 × bT3) (u : bT0 × bT0) : bf_put (bW1_3 S) [1, 2, 3, 15, 16, 17] ((bW0_0 u).map (bf_rne [1, 2, 3, 15, 16, 17])) = bW1_3 (((b1s_owners S.1 u.1), S.2).1, (b3s_members ((b1s_owners S.1 u.1), S.2).2 u.2)) := by
  obtain ⟨⟨⟨z1, z2, z3⟩, z4, z5, z6, z7, z8, z9, z10, z11, z12⟩, ⟨⟨z13, z14, z15⟩, z16, z17⟩⟩ := S
  rfl
theorem ge_bW1_3_4 (S : bT1 × bT3) : (bW1_3 S)[4]? = some (.inr (0, [.ref 5, .ref 6, .int (b0g_count (b1g_lows S.1))])) := rfl
theorem pu_bW1_3_4_2 (S : bT1 × bT3) (v : Int32) : (bW1_3 S).set 4 (.inr (0, (([.ref 5, .ref 6, .int (b0g_count (b1g_lows S.1))] : List Value).set 2 (.int v)))) = bW1_3 ((b1s_lows S.1 (b0s_count (b1g_lows S.1) v)), S.2) := by
  obtain ⟨⟨z1, ⟨z2, z3, z4⟩, z5, z6, z7, z8, z9, z10, z11, z12⟩, z13⟩ := S
  rfl
theorem ge_bW1_3_7 (S : bT1 × bT3) : (bW1_3 S)[7]? = some (.inr (0, [.ref 8, .ref 9, .int (b0g_count (b1g_highs S.1))])) := rfl
theorem pu_bW1_3_7_2 (S : bT1 × bT3) (v : Int32) : (bW1_3 S).set 7 (.inr (0, (([.ref 8, .ref 9, .int (b0g_count (b1g_highs S.1))] : List Value).set 2 (.int v)))) = bW1_3 ((b1s_highs S.1 (b0s_count (b1g_highs S.1) v)), S.2) := by
  obtain ⟨⟨z1, z2, ⟨z3, z4, z5⟩, z6, z7, z8, z9, z10, z11, z12⟩, z13⟩ := S
  rfl
theorem pu_bW1_3_0_7 (S : bT1 × bT3) (v : Int32) : (bW1_3 S).set 0 (.inr (1, (([.ref 1, .ref 4, .ref 7, .ref 10, .ref 11, .ref 12, .ref 13, .int (b1g_hashBits S.1), .int (b1g_realBits S.1), .int (b1g_salt S.1)] : List Value).set 7 (.int v)))) = bW1_3 ((b1s_hashBits S.1 v), S.2) := by
  obtain ⟨⟨z1, z2, z3, z4, z5, z6, z7, z8, z9, z10⟩, z11⟩ := S
  rfl
theorem ge_bW1_1 (S : bT1) : (bW1 S)[1]? = some (.inr (0, [.ref 2, .ref 3, .int (b0g_count (b1g_owners S))])) := rfl
theorem su_bW1_12_bWan64 (S : bT1) : bf_Sub (bW1 S) [12] ((bWa 64) (b1g_hashes S)) := rfl
theorem ge_bW3_3_0 (S : bT3 × bT3) : (bW3_3 S)[0]? = some (.inr (3, [.ref 1, .ref 4, .int (b3g_mode S.1)])) := rfl
theorem ge_bW3_3_5 (S : bT3 × bT3) : (bW3_3 S)[5]? = some (.inr (3, [.ref 6, .ref 9, .int (b3g_mode S.2)])) := rfl
theorem su_bW3_3_1_6_bW0_0 (S : bT3 × bT3) : bf_Sub (bW3_3 S) [1, 2, 3, 6, 7, 8] (bW0_0 ((b3g_members S.1), (b3g_members S.2))) := rfl
theorem pt_bW3_3_1_6_bW0_0 (S : bT3 × bT3) (u : bT0 × bT0) : bf_put (bW3_3 S) [1, 2, 3, 6, 7, 8] ((bW0_0 u).map (bf_rne [1, 2, 3, 6, 7, 8])) = bW3_3 (((b3s_members S.1 u.1), S.2).1, (b3s_members ((b3s_members S.1 u.1), S.2).2 u.2)) := by
  obtain ⟨⟨⟨z1, z2, z3⟩, z4, z5⟩, ⟨⟨z6, z7, z8⟩, z9, z10⟩⟩ := S
  rfl
theorem ge_bW3_3_9 (S : bT3 × bT3) : (bW3_3 S)[9]? = some (.inl (0, 6, .inl (b3g_values S.2))) := rfl
theorem ge_bW3_3_4 (S : bT3 × bT3) : (bW3_3 S)[4]? = some (.inl (0, 6, .inl (b3g_values S.1))) := rfl
theorem ar_bW3_3_4 (S : bT3 × bT3) (v : (Nat → Int32)) : (bW3_3 S).set 4 (.inl (0, 6, .inl v)) = bW3_3 ((b3s_values S.1 v), S.2) := by
  obtain ⟨⟨z1, z2, z3⟩, z4⟩ := S
  rfl
theorem pu_bW3_3_0_2 (S : bT3 × bT3) (v : Int32) : (bW3_3 S).set 0 (.inr (3, (([.ref 1, .ref 4, .int (b3g_mode S.1)] : List Value).set 2 (.int v)))) = bW3_3 ((b3s_mode S.1 v), S.2) := by
  obtain ⟨⟨z1, z2, z3⟩, z4⟩ := S
  rfl
theorem ge_bW2_2_0 (S : bT2 × bT2) : (bW2_2 S)[0]? = some (.inr (2, [.ref 1, .ref 6, .ref 11, .ref 14, .int (b2g_draws S.1)])) := rfl
theorem ge_bW2_2_15 (S : bT2 × bT2) : (bW2_2 S)[15]? = some (.inr (2, [.ref 16, .ref 21, .ref 26, .ref 29, .int (b2g_draws S.2)])) := rfl
theorem su_bW2_2_1_16_bW3_3 (S : bT2 × bT2) : bf_Sub (bW2_2 S) [1, 2, 3, 4, 5, 16, 17, 18, 19, 20] (bW3_3 ((b2g_told S.1), (b2g_told S.2))) := rfl
theorem pt_bW2_2_1_16_bW3_3 (S : bT2 × bT2) (u : bT3 × bT3) : bf_put (bW2_2 S) [1, 2, 3, 4, 5, 16, 17, 18, 19, 20] ((bW3_3 u).map (bf_rne [1, 2, 3, 4, 5, 16, 17, 18, 19, 20])) = bW2_2 (((b2s_told S.1 u.1), S.2).1, (b2s_told ((b2s_told S.1 u.1), S.2).2 u.2)) := by
  obtain ⟨⟨⟨z1, z2, z3⟩, z4, z5, z6, z7⟩, ⟨⟨z8, z9, z10⟩, z11, z12, z13, z14⟩⟩ := S
  rfl
theorem su_bW2_2_6_21_bW3_3 (S : bT2 × bT2) : bf_Sub (bW2_2 S) [6, 7, 8, 9, 10, 21, 22, 23, 24, 25] (bW3_3 ((b2g_built S.1), (b2g_built S.2))) := rfl
theorem pt_bW2_2_6_21_bW3_3 (S : bT2 × bT2) (u : bT3 × bT3) : bf_put (bW2_2 S) [6, 7, 8, 9, 10, 21, 22, 23, 24, 25] ((bW3_3 u).map (bf_rne [6, 7, 8, 9, 10, 21, 22, 23, 24, 25])) = bW2_2 (((b2s_built S.1 u.1), S.2).1, (b2s_built ((b2s_built S.1 u.1), S.2).2 u.2)) := by
  obtain ⟨⟨z1, ⟨z2, z3, z4⟩, z5, z6, z7⟩, ⟨z8, ⟨z9, z10, z11⟩, z12, z13, z14⟩⟩ := S
  rfl
theorem su_bW2_2_11_26_bW0_0 (S : bT2 × bT2) : bf_Sub (bW2_2 S) [11, 12, 13, 26, 27, 28] (bW0_0 ((b2g_questions S.1), (b2g_questions S.2))) := rfl
theorem pt_bW2_2_11_26_bW0_0 (S : bT2 × bT2) (u : bT0 × bT0) : bf_put (bW2_2 S) [11, 12, 13, 26, 27, 28] ((bW0_0 u).map (bf_rne [11, 12, 13, 26, 27, 28])) = bW2_2 (((b2s_questions S.1 u.1), S.2).1, (b2s_questions ((b2s_questions S.1 u.1), S.2).2 u.2)) := by
  obtain ⟨⟨z1, z2, ⟨z3, z4, z5⟩, z6, z7⟩, ⟨z8, z9, ⟨z10, z11, z12⟩, z13, z14⟩⟩ := S
  rfl
theorem ge_bW2_2_29 (S : bT2 × bT2) : (bW2_2 S)[29]? = some (.inl (0, 6, .inl (b2g_answers S.2))) := rfl
theorem ge_bW2_2_14 (S : bT2 × bT2) : (bW2_2 S)[14]? = some (.inl (0, 6, .inl (b2g_answers S.1))) := rfl
theorem ar_bW2_2_14 (S : bT2 × bT2) (v : (Nat → Int32)) : (bW2_2 S).set 14 (.inl (0, 6, .inl v)) = bW2_2 ((b2s_answers S.1 v), S.2) := by
  obtain ⟨⟨z1, z2, z3, z4, z5⟩, z6⟩ := S
  rfl
theorem pu_bW2_2_0_4 (S : bT2 × bT2) (v : Int32) : (bW2_2 S).set 0 (.inr (2, (([.ref 1, .ref 6, .ref 11, .ref 14, .int (b2g_draws S.1)] : List Value).set 4 (.int v)))) = bW2_2 ((b2s_draws S.1 v), S.2) := by
  obtain ⟨⟨z1, z2, z3, z4, z5⟩, z6⟩ := S
  rfl
theorem ge_bW2_0 (S : bT2) : (bW2 S)[0]? = some (.inr (2, [.ref 1, .ref 6, .ref 11, .ref 14, .int (b2g_draws S)])) := rfl
theorem pu_bW2_0_4 (S : bT2) (v : Int32) : (bW2 S).set 0 (.inr (2, (([.ref 1, .ref 6, .ref 11, .ref 14, .int (b2g_draws S)] : List Value).set 4 (.int v)))) = bW2 (b2s_draws S v) := by
  obtain ⟨z1, z2, z3, z4, z5⟩ := S
  rfl
theorem ge_bW2_1 (S : bT2) : (bW2 S)[1]? = some (.inr (3, [.ref 2, .ref 5, .int (b3g_mode (b2g_told S))])) := rfl
theorem su_bW2_5_bWan6 (S : bT2) : bf_Sub (bW2 S) [5] ((bWa 6) (b3g_values (b2g_told S))) := rfl
theorem ge_bW2_14 (S : bT2) : (bW2 S)[14]? = some (.inl (0, 6, .inl (b2g_answers S))) := rfl
theorem ar_bW2_14 (S : bT2) (v : (Nat → Int32)) : (bW2 S).set 14 (.inl (0, 6, .inl v)) = bW2 (b2s_answers S v) := by
  obtain ⟨z1, z2, z3, z4, z5⟩ := S
  rfl
theorem ge_bW4_0 (S : bT4) : (bW4 S)[0]? = some (.inr (4, [.ref 1, .int (b4g_count S)])) := rfl
theorem ge_bW4_1 (S : bT4) : (bW4 S)[1]? = some (.inl (0, 160, .inl (b4g_octets S))) := rfl
theorem ar_bW4_1 (S : bT4) (v : (Nat → Int32)) : (bW4 S).set 1 (.inl (0, 160, .inl v)) = bW4 (b4s_octets S v) := by
  obtain ⟨z1, z2⟩ := S
  rfl
theorem pu_bW4_0_1 (S : bT4) (v : Int32) : (bW4 S).set 0 (.inr (4, (([.ref 1, .int (b4g_count S)] : List Value).set 1 (.int v)))) = bW4 (b4s_count S v) := by
  obtain ⟨z1, z2⟩ := S
  rfl
theorem su_bW4_1_bWan160 (S : bT4) : bf_Sub (bW4 S) [1] ((bWa 160) (b4g_octets S)) := rfl
theorem ge_bW4_0_0 (S : bT4 × bT0) : (bW4_0 S)[0]? = some (.inr (4, [.ref 1, .int (b4g_count S.1)])) := rfl
theorem su_bW4_0_1_bWan160 (S : bT4 × bT0) : bf_Sub (bW4_0 S) [1] ((bWa 160) (b4g_octets S.1)) := rfl
theorem su_bW4_0_0_bW4 (S : bT4 × bT0) : bf_Sub (bW4_0 S) [0, 1] (bW4 S.1) := rfl
theorem su_bW4_0_2_bW0 (S : bT4 × bT0) : bf_Sub (bW4_0 S) [2, 3, 4] (bW0 S.2) := rfl
theorem pt_bW4_0_2_bW0 (S : bT4 × bT0) (u : bT0) : bf_put (bW4_0 S) [2, 3, 4] ((bW0 u).map (bf_rne [2, 3, 4])) = bW4_0 (S.1, u) := by
  obtain ⟨z1, ⟨z2, z3, z4⟩⟩ := S
  rfl
theorem ge_bW5_0 (S : bT5) : (bW5 S)[0]? = some (.inr (5, [.ref 1, .int (b5g_length S)])) := rfl
theorem ge_bW5_1 (S : bT5) : (bW5 S)[1]? = some (.inl (2, 128, .inl (b5g_signs S))) := rfl
theorem ar_bW5_1 (S : bT5) (v : (Nat → Int32)) : (bW5 S).set 1 (.inl (2, 128, .inl v)) = bW5 (b5s_signs S v) := by
  obtain ⟨z1, z2⟩ := S
  rfl
theorem pu_bW5_0_1 (S : bT5) (v : Int32) : (bW5 S).set 0 (.inr (5, (([.ref 1, .int (b5g_length S)] : List Value).set 1 (.int v)))) = bW5 (b5s_length S v) := by
  obtain ⟨z1, z2⟩ := S
  rfl
theorem ge_bW6_8 (S : bT6) : (bW6 S)[8]? = some (.inl (0, 296, .inl (b6g_edgeChildren S))) := rfl
theorem ar_bW6_8 (S : bT6) (v : (Nat → Int32)) : (bW6 S).set 8 (.inl (0, 296, .inl v)) = bW6 (b6s_edgeChildren S v) := by
  obtain ⟨z1, z2, z3, z4, z5, z6, z7, z8, z9, z10, z11, z12, z13, z14, z15, z16, z17, z18, z19⟩ := S
  rfl
theorem ge_bW6_0 (S : bT6) : (bW6 S)[0]? = some (.inr (6, [.ref 1, .ref 2, .ref 3, .ref 4, .ref 5, .ref 6, .ref 7, .ref 8, .ref 9, .ref 10, .ref 11, .ref 12, .int (b6g_nodes S), .int (b6g_edges S), .int (b6g_children S), .int (b6g_levels S), .int (b6g_upper S), .int (b6g_upperNodes S), .int (b6g_itemStart S)])) := rfl
theorem pu_bW6_0_13 (S : bT6) (v : Int32) : (bW6 S).set 0 (.inr (6, (([.ref 1, .ref 2, .ref 3, .ref 4, .ref 5, .ref 6, .ref 7, .ref 8, .ref 9, .ref 10, .ref 11, .ref 12, .int (b6g_nodes S), .int (b6g_edges S), .int (b6g_children S), .int (b6g_levels S), .int (b6g_upper S), .int (b6g_upperNodes S), .int (b6g_itemStart S)] : List Value).set 13 (.int v)))) = bW6 (b6s_edges S v) := by
  obtain ⟨z1, z2, z3, z4, z5, z6, z7, z8, z9, z10, z11, z12, z13, z14, z15, z16, z17, z18, z19⟩ := S
  rfl
theorem pu_bW6_0_14 (S : bT6) (v : Int32) : (bW6 S).set 0 (.inr (6, (([.ref 1, .ref 2, .ref 3, .ref 4, .ref 5, .ref 6, .ref 7, .ref 8, .ref 9, .ref 10, .ref 11, .ref 12, .int (b6g_nodes S), .int (b6g_edges S), .int (b6g_children S), .int (b6g_levels S), .int (b6g_upper S), .int (b6g_upperNodes S), .int (b6g_itemStart S)] : List Value).set 14 (.int v)))) = bW6 (b6s_children S v) := by
  obtain ⟨z1, z2, z3, z4, z5, z6, z7, z8, z9, z10, z11, z12, z13, z14, z15, z16, z17, z18, z19⟩ := S
  rfl
theorem ge_bW6_5 (S : bT6) : (bW6 S)[5]? = some (.inl (0, 296, .inl (b6g_edgeNodes S))) := rfl
theorem ar_bW6_5 (S : bT6) (v : (Nat → Int32)) : (bW6 S).set 5 (.inl (0, 296, .inl v)) = bW6 (b6s_edgeNodes S v) := by
  obtain ⟨z1, z2, z3, z4, z5, z6, z7, z8, z9, z10, z11, z12, z13, z14, z15, z16, z17, z18, z19⟩ := S
  rfl
theorem ge_bW6_6 (S : bT6) : (bW6 S)[6]? = some (.inl (0, 296, .inl (b6g_edgeOctets S))) := rfl
theorem ar_bW6_6 (S : bT6) (v : (Nat → Int32)) : (bW6 S).set 6 (.inl (0, 296, .inl v)) = bW6 (b6s_edgeOctets S v) := by
  obtain ⟨z1, z2, z3, z4, z5, z6, z7, z8, z9, z10, z11, z12, z13, z14, z15, z16, z17, z18, z19⟩ := S
  rfl
theorem ge_bW6_7 (S : bT6) : (bW6 S)[7]? = some (.inl (0, 296, .inl (b6g_edgeLeaves S))) := rfl
theorem ar_bW6_7 (S : bT6) (v : (Nat → Int32)) : (bW6 S).set 7 (.inl (0, 296, .inl v)) = bW6 (b6s_edgeLeaves S v) := by
  obtain ⟨z1, z2, z3, z4, z5, z6, z7, z8, z9, z10, z11, z12, z13, z14, z15, z16, z17, z18, z19⟩ := S
  rfl
theorem su_bW6_1_0_bW6 (S : bT6 × bT1) : bf_Sub (bW6_1 S) [0, 1, 2, 3, 4, 5, 6, 7, 8, 9, 10, 11, 12] (bW6 S.1) := rfl
theorem pt_bW6_1_0_bW6 (S : bT6 × bT1) (u : bT6) : bf_put (bW6_1 S) [0, 1, 2, 3, 4, 5, 6, 7, 8, 9, 10, 11, 12] ((bW6 u).map (bf_rne [0, 1, 2, 3, 4, 5, 6, 7, 8, 9, 10, 11, 12])) = bW6_1 (u, S.2) := by
  obtain ⟨⟨z1, z2, z3, z4, z5, z6, z7, z8, z9, z10, z11, z12, z13, z14, z15, z16, z17, z18, z19⟩, z20⟩ := S
  rfl
theorem su_bW6_1_13_bW1 (S : bT6 × bT1) : bf_Sub (bW6_1 S) [13, 14, 15, 16, 17, 18, 19, 20, 21, 22, 23, 24, 25, 26] (bW1 S.2) := rfl
theorem ge_bW6_1_13 (S : bT6 × bT1) : (bW6_1 S)[13]? = some (.inr (1, [.ref 14, .ref 17, .ref 20, .ref 23, .ref 24, .ref 25, .ref 26, .int (b1g_hashBits S.2), .int (b1g_realBits S.2), .int (b1g_salt S.2)])) := rfl
theorem su_bW6_1_14_bW0 (S : bT6 × bT1) : bf_Sub (bW6_1 S) [14, 15, 16] (bW0 (b1g_owners S.2)) := rfl
theorem ge_bW6_1_0 (S : bT6 × bT1) : (bW6_1 S)[0]? = some (.inr (6, [.ref 1, .ref 2, .ref 3, .ref 4, .ref 5, .ref 6, .ref 7, .ref 8, .ref 9, .ref 10, .ref 11, .ref 12, .int (b6g_nodes S.1), .int (b6g_edges S.1), .int (b6g_children S.1), .int (b6g_levels S.1), .int (b6g_upper S.1), .int (b6g_upperNodes S.1), .int (b6g_itemStart S.1)])) := rfl
theorem su_bW6_1_1_bWan232 (S : bT6 × bT1) : bf_Sub (bW6_1 S) [1] ((bWa 232) (b6g_nodeLevels S.1)) := rfl
theorem su_bW6_1_2_bWan232 (S : bT6 × bT1) : bf_Sub (bW6_1 S) [2] ((bWa 232) (b6g_firstLeaves S.1)) := rfl
theorem su_bW6_1_3_bWan232 (S : bT6 × bT1) : bf_Sub (bW6_1 S) [3] ((bWa 232) (b6g_leafCounts S.1)) := rfl
theorem ge_bW6_1_4 (S : bT6 × bT1) : (bW6_1 S)[4]? = some (.inl (0, 233, .inl (b6g_edgeStarts S.1))) := rfl
theorem ar_bW6_1_4 (S : bT6 × bT1) (v : (Nat → Int32)) : (bW6_1 S).set 4 (.inl (0, 233, .inl v)) = bW6_1 ((b6s_edgeStarts S.1 v), S.2) := by
  obtain ⟨⟨z1, z2, z3, z4, z5, z6, z7, z8, z9, z10, z11, z12, z13, z14, z15, z16, z17, z18, z19⟩, z20⟩ := S
  rfl
theorem pu_bW6_1_0_13 (S : bT6 × bT1) (v : Int32) : (bW6_1 S).set 0 (.inr (6, (([.ref 1, .ref 2, .ref 3, .ref 4, .ref 5, .ref 6, .ref 7, .ref 8, .ref 9, .ref 10, .ref 11, .ref 12, .int (b6g_nodes S.1), .int (b6g_edges S.1), .int (b6g_children S.1), .int (b6g_levels S.1), .int (b6g_upper S.1), .int (b6g_upperNodes S.1), .int (b6g_itemStart S.1)] : List Value).set 13 (.int v)))) = bW6_1 ((b6s_edges S.1 v), S.2) := by
  obtain ⟨⟨z1, z2, z3, z4, z5, z6, z7, z8, z9, z10, z11, z12, z13, z14, z15, z16, z17, z18, z19⟩, z20⟩ := S
  rfl
theorem pu_bW6_1_0_14 (S : bT6 × bT1) (v : Int32) : (bW6_1 S).set 0 (.inr (6, (([.ref 1, .ref 2, .ref 3, .ref 4, .ref 5, .ref 6, .ref 7, .ref 8, .ref 9, .ref 10, .ref 11, .ref 12, .int (b6g_nodes S.1), .int (b6g_edges S.1), .int (b6g_children S.1), .int (b6g_levels S.1), .int (b6g_upper S.1), .int (b6g_upperNodes S.1), .int (b6g_itemStart S.1)] : List Value).set 14 (.int v)))) = bW6_1 ((b6s_children S.1 v), S.2) := by
  obtain ⟨⟨z1, z2, z3, z4, z5, z6, z7, z8, z9, z10, z11, z12, z13, z14, z15, z16, z17, z18, z19⟩, z20⟩ := S
  rfl
theorem ge_bW6_1 (S : bT6) : (bW6 S)[1]? = some (.inl (0, 232, .inl (b6g_nodeLevels S))) := rfl
theorem ar_bW6_1 (S : bT6) (v : (Nat → Int32)) : (bW6 S).set 1 (.inl (0, 232, .inl v)) = bW6 (b6s_nodeLevels S v) := by
  obtain ⟨z1, z2, z3, z4, z5, z6, z7, z8, z9, z10, z11, z12, z13, z14, z15, z16, z17, z18, z19⟩ := S
  rfl
theorem ge_bW6_2 (S : bT6) : (bW6 S)[2]? = some (.inl (0, 232, .inl (b6g_firstLeaves S))) := rfl
theorem ar_bW6_2 (S : bT6) (v : (Nat → Int32)) : (bW6 S).set 2 (.inl (0, 232, .inl v)) = bW6 (b6s_firstLeaves S v) := by
  obtain ⟨z1, z2, z3, z4, z5, z6, z7, z8, z9, z10, z11, z12, z13, z14, z15, z16, z17, z18, z19⟩ := S
  rfl
theorem ge_bW6_3 (S : bT6) : (bW6 S)[3]? = some (.inl (0, 232, .inl (b6g_leafCounts S))) := rfl
theorem ar_bW6_3 (S : bT6) (v : (Nat → Int32)) : (bW6 S).set 3 (.inl (0, 232, .inl v)) = bW6 (b6s_leafCounts S v) := by
  obtain ⟨z1, z2, z3, z4, z5, z6, z7, z8, z9, z10, z11, z12, z13, z14, z15, z16, z17, z18, z19⟩ := S
  rfl
theorem pu_bW6_0_12 (S : bT6) (v : Int32) : (bW6 S).set 0 (.inr (6, (([.ref 1, .ref 2, .ref 3, .ref 4, .ref 5, .ref 6, .ref 7, .ref 8, .ref 9, .ref 10, .ref 11, .ref 12, .int (b6g_nodes S), .int (b6g_edges S), .int (b6g_children S), .int (b6g_levels S), .int (b6g_upper S), .int (b6g_upperNodes S), .int (b6g_itemStart S)] : List Value).set 12 (.int v)))) = bW6 (b6s_nodes S v) := by
  obtain ⟨z1, z2, z3, z4, z5, z6, z7, z8, z9, z10, z11, z12, z13, z14, z15, z16, z17, z18, z19⟩ := S
  rfl
theorem ge_bW6_1_3 (S : bT6 × bT1) : (bW6_1 S)[3]? = some (.inl (0, 232, .inl (b6g_leafCounts S.1))) := rfl
theorem ar_bW6_1_3 (S : bT6 × bT1) (v : (Nat → Int32)) : (bW6_1 S).set 3 (.inl (0, 232, .inl v)) = bW6_1 ((b6s_leafCounts S.1 v), S.2) := by
  obtain ⟨⟨z1, z2, z3, z4, z5, z6, z7, z8, z9, z10, z11, z12, z13, z14, z15, z16, z17, z18, z19⟩, z20⟩ := S
  rfl
theorem ge_bW6_1_9 (S : bT6 × bT1) : (bW6_1 S)[9]? = some (.inl (0, 9, .inl (b6g_levelStarts S.1))) := rfl
theorem ar_bW6_1_9 (S : bT6 × bT1) (v : (Nat → Int32)) : (bW6_1 S).set 9 (.inl (0, 9, .inl v)) = bW6_1 ((b6s_levelStarts S.1 v), S.2) := by
  obtain ⟨⟨z1, z2, z3, z4, z5, z6, z7, z8, z9, z10, z11, z12, z13, z14, z15, z16, z17, z18, z19⟩, z20⟩ := S
  rfl
theorem pu_bW6_1_0_15 (S : bT6 × bT1) (v : Int32) : (bW6_1 S).set 0 (.inr (6, (([.ref 1, .ref 2, .ref 3, .ref 4, .ref 5, .ref 6, .ref 7, .ref 8, .ref 9, .ref 10, .ref 11, .ref 12, .int (b6g_nodes S.1), .int (b6g_edges S.1), .int (b6g_children S.1), .int (b6g_levels S.1), .int (b6g_upper S.1), .int (b6g_upperNodes S.1), .int (b6g_itemStart S.1)] : List Value).set 15 (.int v)))) = bW6_1 ((b6s_levels S.1 v), S.2) := by
  obtain ⟨⟨z1, z2, z3, z4, z5, z6, z7, z8, z9, z10, z11, z12, z13, z14, z15, z16, z17, z18, z19⟩, z20⟩ := S
  rfl
theorem pu_bW6_1_0_12 (S : bT6 × bT1) (v : Int32) : (bW6_1 S).set 0 (.inr (6, (([.ref 1, .ref 2, .ref 3, .ref 4, .ref 5, .ref 6, .ref 7, .ref 8, .ref 9, .ref 10, .ref 11, .ref 12, .int (b6g_nodes S.1), .int (b6g_edges S.1), .int (b6g_children S.1), .int (b6g_levels S.1), .int (b6g_upper S.1), .int (b6g_upperNodes S.1), .int (b6g_itemStart S.1)] : List Value).set 12 (.int v)))) = bW6_1 ((b6s_nodes S.1 v), S.2) := by
  obtain ⟨⟨z1, z2, z3, z4, z5, z6, z7, z8, z9, z10, z11, z12, z13, z14, z15, z16, z17, z18, z19⟩, z20⟩ := S
  rfl
theorem su_bW6_7_bWan296 (S : bT6) : bf_Sub (bW6 S) [7] ((bWa 296) (b6g_edgeLeaves S)) := rfl
theorem ge_bW6_10 (S : bT6) : (bW6 S)[10]? = some (.inl (0, 64, .inl (b6g_places S))) := rfl
theorem ar_bW6_10 (S : bT6) (v : (Nat → Int32)) : (bW6 S).set 10 (.inl (0, 64, .inl v)) = bW6 (b6s_places S v) := by
  obtain ⟨z1, z2, z3, z4, z5, z6, z7, z8, z9, z10, z11, z12, z13, z14, z15, z16, z17, z18, z19⟩ := S
  rfl
theorem ge_bW6_11 (S : bT6) : (bW6 S)[11]? = some (.inl (0, 64, .inl (b6g_leavesByPlace S))) := rfl
theorem ar_bW6_11 (S : bT6) (v : (Nat → Int32)) : (bW6 S).set 11 (.inl (0, 64, .inl v)) = bW6 (b6s_leavesByPlace S v) := by
  obtain ⟨z1, z2, z3, z4, z5, z6, z7, z8, z9, z10, z11, z12, z13, z14, z15, z16, z17, z18, z19⟩ := S
  rfl
theorem su_bW6_5_bWan296 (S : bT6) : bf_Sub (bW6 S) [5] ((bWa 296) (b6g_edgeNodes S)) := rfl
theorem ge_bW6_12 (S : bT6) : (bW6 S)[12]? = some (.inl (0, 64, .inl (b6g_leafNodes S))) := rfl
theorem ar_bW6_12 (S : bT6) (v : (Nat → Int32)) : (bW6 S).set 12 (.inl (0, 64, .inl v)) = bW6 (b6s_leafNodes S v) := by
  obtain ⟨z1, z2, z3, z4, z5, z6, z7, z8, z9, z10, z11, z12, z13, z14, z15, z16, z17, z18, z19⟩ := S
  rfl
theorem su_bW6_4_bWan233 (S : bT6) : bf_Sub (bW6 S) [4] ((bWa 233) (b6g_edgeStarts S)) := rfl
theorem su_bW6_9_bWan9 (S : bT6) : bf_Sub (bW6 S) [9] ((bWa 9) (b6g_levelStarts S)) := rfl
theorem pu_bW6_1_0_16 (S : bT6 × bT1) (v : Int32) : (bW6_1 S).set 0 (.inr (6, (([.ref 1, .ref 2, .ref 3, .ref 4, .ref 5, .ref 6, .ref 7, .ref 8, .ref 9, .ref 10, .ref 11, .ref 12, .int (b6g_nodes S.1), .int (b6g_edges S.1), .int (b6g_children S.1), .int (b6g_levels S.1), .int (b6g_upper S.1), .int (b6g_upperNodes S.1), .int (b6g_itemStart S.1)] : List Value).set 16 (.int v)))) = bW6_1 ((b6s_upper S.1 v), S.2) := by
  obtain ⟨⟨z1, z2, z3, z4, z5, z6, z7, z8, z9, z10, z11, z12, z13, z14, z15, z16, z17, z18, z19⟩, z20⟩ := S
  rfl
theorem su_bW6_1_9_bWan9 (S : bT6 × bT1) : bf_Sub (bW6_1 S) [9] ((bWa 9) (b6g_levelStarts S.1)) := rfl
theorem pu_bW6_1_0_17 (S : bT6 × bT1) (v : Int32) : (bW6_1 S).set 0 (.inr (6, (([.ref 1, .ref 2, .ref 3, .ref 4, .ref 5, .ref 6, .ref 7, .ref 8, .ref 9, .ref 10, .ref 11, .ref 12, .int (b6g_nodes S.1), .int (b6g_edges S.1), .int (b6g_children S.1), .int (b6g_levels S.1), .int (b6g_upper S.1), .int (b6g_upperNodes S.1), .int (b6g_itemStart S.1)] : List Value).set 17 (.int v)))) = bW6_1 ((b6s_upperNodes S.1 v), S.2) := by
  obtain ⟨⟨z1, z2, z3, z4, z5, z6, z7, z8, z9, z10, z11, z12, z13, z14, z15, z16, z17, z18, z19⟩, z20⟩ := S
  rfl
theorem su_bW6_1_4_bWan233 (S : bT6 × bT1) : bf_Sub (bW6_1 S) [4] ((bWa 233) (b6g_edgeStarts S.1)) := rfl
theorem pu_bW6_1_0_18 (S : bT6 × bT1) (v : Int32) : (bW6_1 S).set 0 (.inr (6, (([.ref 1, .ref 2, .ref 3, .ref 4, .ref 5, .ref 6, .ref 7, .ref 8, .ref 9, .ref 10, .ref 11, .ref 12, .int (b6g_nodes S.1), .int (b6g_edges S.1), .int (b6g_children S.1), .int (b6g_levels S.1), .int (b6g_upper S.1), .int (b6g_upperNodes S.1), .int (b6g_itemStart S.1)] : List Value).set 18 (.int v)))) = bW6_1 ((b6s_itemStart S.1 v), S.2) := by
  obtain ⟨⟨z1, z2, z3, z4, z5, z6, z7, z8, z9, z10, z11, z12, z13, z14, z15, z16, z17, z18, z19⟩, z20⟩ := S
  rfl
theorem su_bW6_6_bWan296 (S : bT6) : bf_Sub (bW6 S) [6] ((bWa 296) (b6g_edgeOctets S)) := rfl
theorem su_bW6_8_bWan296 (S : bT6) : bf_Sub (bW6 S) [8] ((bWa 296) (b6g_edgeChildren S)) := rfl
theorem ge_bW7_1_0 (S : bT7 × bT1) : (bW7_1 S)[0]? = some (.inr (7, [.ref 1, .ref 2, .int (b7g_count S.1), .int (b7g_hashBits S.1), .int (b7g_realBits S.1), .int (b7g_falsely S.1)])) := rfl
theorem ge_bW7_1_1 (S : bT7 × bT1) : (bW7_1 S)[1]? = some (.inl (0, 16, .inl (b7g_likeHash S.1))) := rfl
theorem ar_bW7_1_1 (S : bT7 × bT1) (v : (Nat → Int32)) : (bW7_1 S).set 1 (.inl (0, 16, .inl v)) = bW7_1 ((b7s_likeHash S.1 v), S.2) := by
  obtain ⟨⟨z1, z2, z3, z4, z5, z6⟩, z7⟩ := S
  rfl
theorem ge_bW7_1_2 (S : bT7 × bT1) : (bW7_1 S)[2]? = some (.inl (0, 16, .inl (b7g_likeNext S.1))) := rfl
theorem ar_bW7_1_2 (S : bT7 × bT1) (v : (Nat → Int32)) : (bW7_1 S).set 2 (.inl (0, 16, .inl v)) = bW7_1 ((b7s_likeNext S.1 v), S.2) := by
  obtain ⟨⟨z1, z2, z3, z4, z5, z6⟩, z7⟩ := S
  rfl
theorem ge_bW7_1_3 (S : bT7 × bT1) : (bW7_1 S)[3]? = some (.inr (1, [.ref 4, .ref 7, .ref 10, .ref 13, .ref 14, .ref 15, .ref 16, .int (b1g_hashBits S.2), .int (b1g_realBits S.2), .int (b1g_salt S.2)])) := rfl
theorem su_bW7_1_15_bWan64 (S : bT7 × bT1) : bf_Sub (bW7_1 S) [15] ((bWa 64) (b1g_hashes S.2)) := rfl
theorem su_bW7_1_3_bW1 (S : bT7 × bT1) : bf_Sub (bW7_1 S) [3, 4, 5, 6, 7, 8, 9, 10, 11, 12, 13, 14, 15, 16] (bW1 S.2) := rfl
theorem su_bW7_1_16_bWan64 (S : bT7 × bT1) : bf_Sub (bW7_1 S) [16] ((bWa 64) (b1g_nexts S.2)) := rfl
theorem su_bW7_1_4_bW0 (S : bT7 × bT1) : bf_Sub (bW7_1 S) [4, 5, 6] (bW0 (b1g_owners S.2)) := rfl
theorem ge_bW7_0 (S : bT7) : (bW7 S)[0]? = some (.inr (7, [.ref 1, .ref 2, .int (b7g_count S), .int (b7g_hashBits S), .int (b7g_realBits S), .int (b7g_falsely S)])) := rfl
theorem su_bW7_1_bWan16 (S : bT7) : bf_Sub (bW7 S) [1] ((bWa 16) (b7g_likeHash S)) := rfl
theorem su_bW7_2_bWan16 (S : bT7) : bf_Sub (bW7 S) [2] ((bWa 16) (b7g_likeNext S)) := rfl
theorem su_bW7_1_0_0_bW7 (S : bT7 × bT1 × bT0) : bf_Sub (bW7_1_0 S) [0, 1, 2] (bW7 S.1) := rfl
theorem ge_bW7_1_0_0 (S : bT7 × bT1 × bT0) : (bW7_1_0 S)[0]? = some (.inr (7, [.ref 1, .ref 2, .int (b7g_count S.1), .int (b7g_hashBits S.1), .int (b7g_realBits S.1), .int (b7g_falsely S.1)])) := rfl
theorem pu_bW7_1_0_0_5 (S : bT7 × bT1 × bT0) (v : Int32) : (bW7_1_0 S).set 0 (.inr (7, (([.ref 1, .ref 2, .int (b7g_count S.1), .int (b7g_hashBits S.1), .int (b7g_realBits S.1), .int (b7g_falsely S.1)] : List Value).set 5 (.int v)))) = bW7_1_0 ((b7s_falsely S.1 v), S.2) := by
  obtain ⟨⟨z1, z2, z3, z4, z5, z6⟩, z7, z8⟩ := S
  rfl
theorem pu_bW7_1_0_0_3 (S : bT7 × bT1 × bT0) (v : Int32) : (bW7_1_0 S).set 0 (.inr (7, (([.ref 1, .ref 2, .int (b7g_count S.1), .int (b7g_hashBits S.1), .int (b7g_realBits S.1), .int (b7g_falsely S.1)] : List Value).set 3 (.int v)))) = bW7_1_0 ((b7s_hashBits S.1 v), S.2) := by
  obtain ⟨⟨z1, z2, z3, z4, z5, z6⟩, z7, z8⟩ := S
  rfl
theorem pu_bW7_1_0_0_4 (S : bT7 × bT1 × bT0) (v : Int32) : (bW7_1_0 S).set 0 (.inr (7, (([.ref 1, .ref 2, .int (b7g_count S.1), .int (b7g_hashBits S.1), .int (b7g_realBits S.1), .int (b7g_falsely S.1)] : List Value).set 4 (.int v)))) = bW7_1_0 ((b7s_realBits S.1 v), S.2) := by
  obtain ⟨⟨z1, z2, z3, z4, z5, z6⟩, z7, z8⟩ := S
  rfl
theorem su_bW7_1_0_17_bW0 (S : bT7 × bT1 × bT0) : bf_Sub (bW7_1_0 S) [17, 18, 19] (bW0 S.2.2) := rfl
theorem su_bW7_1_0_0_3_bW7_1 (S : bT7 × bT1 × bT0) : bf_Sub (bW7_1_0 S) [0, 1, 2, 3, 4, 5, 6, 7, 8, 9, 10, 11, 12, 13, 14, 15, 16] (bW7_1 (S.1, S.2.1)) := rfl
theorem pt_bW7_1_0_0_3_bW7_1 (S : bT7 × bT1 × bT0) (u : bT7 × bT1) : bf_put (bW7_1_0 S) [0, 1, 2, 3, 4, 5, 6, 7, 8, 9, 10, 11, 12, 13, 14, 15, 16] ((bW7_1 u).map (bf_rne [0, 1, 2, 3, 4, 5, 6, 7, 8, 9, 10, 11, 12, 13, 14, 15, 16])) = bW7_1_0 ((u.1, S.2).1, u.2, (u.1, S.2).2.2) := by
  obtain ⟨⟨z1, z2, z3, z4, z5, z6⟩, ⟨z7, z8, z9, z10, z11, z12, z13, z14, z15, z16⟩, z17⟩ := S
  rfl
theorem ge_bW7_1_0_17 (S : bT7 × bT1 × bT0) : (bW7_1_0 S)[17]? = some (.inr (0, [.ref 18, .ref 19, .int (b0g_count S.2.2)])) := rfl
theorem pu_bW7_1_0_0_2 (S : bT7 × bT1 × bT0) (v : Int32) : (bW7_1_0 S).set 0 (.inr (7, (([.ref 1, .ref 2, .int (b7g_count S.1), .int (b7g_hashBits S.1), .int (b7g_realBits S.1), .int (b7g_falsely S.1)] : List Value).set 2 (.int v)))) = bW7_1_0 ((b7s_count S.1 v), S.2) := by
  obtain ⟨⟨z1, z2, z3, z4, z5, z6⟩, z7, z8⟩ := S
  rfl
theorem ge_bW8_0 (S : bT8) : (bW8 S)[0]? = some (.inr (8, [.ref 1, .ref 16, .int (b8g_isKept S), .ref 31, .ref 45, .ref 58, .ref 61, .ref 64, .ref 66, .int (b8g_chosenRow S)])) := rfl
theorem ge_bW8_1 (S : bT8) : (bW8 S)[1]? = some (.inr (2, [.ref 2, .ref 7, .ref 12, .ref 15, .int (b2g_draws (b8g_now S))])) := rfl
theorem su_bW8_31_7_bW1_3 (S : bT8) : bf_Sub (bW8 S) [31, 32, 33, 34, 35, 36, 37, 38, 39, 40, 41, 42, 43, 44, 7, 8, 9, 10, 11] (bW1_3 ((b8g_leaves S), (b2g_built (b8g_now S)))) := rfl
theorem pt_bW8_31_7_bW1_3 (S : bT8) (u : bT1 × bT3) : bf_put (bW8 S) [31, 32, 33, 34, 35, 36, 37, 38, 39, 40, 41, 42, 43, 44, 7, 8, 9, 10, 11] ((bW1_3 u).map (bf_rne [31, 32, 33, 34, 35, 36, 37, 38, 39, 40, 41, 42, 43, 44, 7, 8, 9, 10, 11])) = bW8 (b8s_now (b8s_leaves S u.1) (b2s_built (b8g_now (b8s_leaves S u.1)) u.2)) := by
  obtain ⟨⟨z1, ⟨z2, z3, z4⟩, z5, z6, z7⟩, z8, z9, ⟨z10, z11, z12, z13, z14, z15, z16, z17, z18, z19⟩, z20, z21, z22, z23, z24, z25⟩ := S
  rfl
theorem ge_bW8_7 (S : bT8) : (bW8 S)[7]? = some (.inr (3, [.ref 8, .ref 11, .int (b3g_mode (b2g_built (b8g_now S)))])) := rfl
theorem su_bW8_11_bWan6 (S : bT8) : bf_Sub (bW8 S) [11] ((bWa 6) (b3g_values (b2g_built (b8g_now S)))) := rfl
theorem su_bW8_45_31_bW6_1 (S : bT8) : bf_Sub (bW8 S) [45, 46, 47, 48, 49, 50, 51, 52, 53, 54, 55, 56, 57, 31, 32, 33, 34, 35, 36, 37, 38, 39, 40, 41, 42, 43, 44] (bW6_1 ((b8g_tree S), (b8g_leaves S))) := rfl
theorem pt_bW8_45_31_bW6_1 (S : bT8) (u : bT6 × bT1) : bf_put (bW8 S) [45, 46, 47, 48, 49, 50, 51, 52, 53, 54, 55, 56, 57, 31, 32, 33, 34, 35, 36, 37, 38, 39, 40, 41, 42, 43, 44] ((bW6_1 u).map (bf_rne [45, 46, 47, 48, 49, 50, 51, 52, 53, 54, 55, 56, 57, 31, 32, 33, 34, 35, 36, 37, 38, 39, 40, 41, 42, 43, 44])) = bW8 (b8s_leaves (b8s_tree S u.1) u.2) := by
  obtain ⟨z1, z2, z3, ⟨z4, z5, z6, z7, z8, z9, z10, z11, z12, z13⟩, ⟨z14, z15, z16, z17, z18, z19, z20, z21, z22, z23, z24, z25, z26, z27, z28, z29, z30, z31, z32⟩, z33, z34, z35, z36, z37⟩ := S
  rfl
theorem ge_bW8_64 (S : bT8) : (bW8 S)[64]? = some (.inr (4, [.ref 65, .int (b4g_count (b8g_tape S))])) := rfl
theorem su_bW8_64_bW4 (S : bT8) : bf_Sub (bW8 S) [64, 65] (bW4 (b8g_tape S)) := rfl
theorem pt_bW8_64_bW4 (S : bT8) (u : bT4) : bf_put (bW8 S) [64, 65] ((bW4 u).map (bf_rne [64, 65])) = bW8 (b8s_tape S u) := by
  obtain ⟨z1, z2, z3, z4, z5, z6, z7, ⟨z8, z9⟩, z10, z11⟩ := S
  rfl
theorem pu_bW8_64_1 (S : bT8) (v : Int32) : (bW8 S).set 64 (.inr (4, (([.ref 65, .int (b4g_count (b8g_tape S))] : List Value).set 1 (.int v)))) = bW8 (b8s_tape S (b4s_count (b8g_tape S) v)) := by
  obtain ⟨z1, z2, z3, z4, z5, z6, z7, ⟨z8, z9⟩, z10, z11⟩ := S
  rfl
theorem ge_bW8_2 (S : bT8) : (bW8 S)[2]? = some (.inr (3, [.ref 3, .ref 6, .int (b3g_mode (b2g_told (b8g_now S)))])) := rfl
theorem su_bW8_61_3_bW0_0 (S : bT8) : bf_Sub (bW8 S) [61, 62, 63, 3, 4, 5] (bW0_0 ((b8g_trial S), (b3g_members (b2g_told (b8g_now S))))) := rfl
theorem pt_bW8_61_3_bW0_0 (S : bT8) (u : bT0 × bT0) : bf_put (bW8 S) [61, 62, 63, 3, 4, 5] ((bW0_0 u).map (bf_rne [61, 62, 63, 3, 4, 5])) = bW8 (b8s_now (b8s_trial S u.1) (b2s_told (b8g_now (b8s_trial S u.1)) (b3s_members (b2g_told (b8g_now (b8s_trial S u.1))) u.2))) := by
  obtain ⟨⟨⟨⟨z1, z2, z3⟩, z4, z5⟩, z6, z7, z8, z9⟩, z10, z11, z12, z13, z14, ⟨z15, z16, z17⟩, z18, z19, z20⟩ := S
  rfl
theorem su_bW8_64_61_bW4_0 (S : bT8) : bf_Sub (bW8 S) [64, 65, 61, 62, 63] (bW4_0 ((b8g_tape S), (b8g_trial S))) := rfl
theorem pt_bW8_64_61_bW4_0 (S : bT8) (u : bT4 × bT0) : bf_put (bW8 S) [64, 65, 61, 62, 63] ((bW4_0 u).map (bf_rne [64, 65, 61, 62, 63])) = bW8 (b8s_trial (b8s_tape S u.1) u.2) := by
  obtain ⟨z1, z2, z3, z4, z5, z6, ⟨z7, z8, z9⟩, ⟨z10, z11⟩, z12, z13⟩ := S
  rfl
theorem ge_bW8_61 (S : bT8) : (bW8 S)[61]? = some (.inr (0, [.ref 62, .ref 63, .int (b0g_count (b8g_trial S))])) := rfl
theorem ge_bW8_3 (S : bT8) : (bW8 S)[3]? = some (.inr (0, [.ref 4, .ref 5, .int (b0g_count (b3g_members (b2g_told (b8g_now S))))])) := rfl
theorem su_bW8_3_61_bW0_0 (S : bT8) : bf_Sub (bW8 S) [3, 4, 5, 61, 62, 63] (bW0_0 ((b3g_members (b2g_told (b8g_now S))), (b8g_trial S))) := rfl
theorem pt_bW8_3_61_bW0_0 (S : bT8) (u : bT0 × bT0) : bf_put (bW8 S) [3, 4, 5, 61, 62, 63] ((bW0_0 u).map (bf_rne [3, 4, 5, 61, 62, 63])) = bW8 (b8s_trial (b8s_now S (b2s_told (b8g_now S) (b3s_members (b2g_told (b8g_now S)) u.1))) u.2) := by
  obtain ⟨⟨⟨⟨z1, z2, z3⟩, z4, z5⟩, z6, z7, z8, z9⟩, z10, z11, z12, z13, z14, ⟨z15, z16, z17⟩, z18, z19, z20⟩ := S
  rfl
theorem pu_bW8_1_4 (S : bT8) (v : Int32) : (bW8 S).set 1 (.inr (2, (([.ref 2, .ref 7, .ref 12, .ref 15, .int (b2g_draws (b8g_now S))] : List Value).set 4 (.int v)))) = bW8 (b8s_now S (b2s_draws (b8g_now S) v)) := by
  obtain ⟨⟨z1, z2, z3, z4, z5⟩, z6, z7, z8, z9, z10, z11, z12, z13, z14⟩ := S
  rfl
theorem su_bW8_3_bW0 (S : bT8) : bf_Sub (bW8 S) [3, 4, 5] (bW0 (b3g_members (b2g_told (b8g_now S)))) := rfl
theorem pt_bW8_3_bW0 (S : bT8) (u : bT0) : bf_put (bW8 S) [3, 4, 5] ((bW0 u).map (bf_rne [3, 4, 5])) = bW8 (b8s_now S (b2s_told (b8g_now S) (b3s_members (b2g_told (b8g_now S)) u))) := by
  obtain ⟨⟨⟨⟨z1, z2, z3⟩, z4, z5⟩, z6, z7, z8, z9⟩, z10, z11, z12, z13, z14, z15, z16, z17, z18⟩ := S
  rfl
theorem su_bW8_1_bW2 (S : bT8) : bf_Sub (bW8 S) [1, 2, 3, 4, 5, 6, 7, 8, 9, 10, 11, 12, 13, 14, 15] (bW2 (b8g_now S)) := rfl
theorem pt_bW8_1_bW2 (S : bT8) (u : bT2) : bf_put (bW8 S) [1, 2, 3, 4, 5, 6, 7, 8, 9, 10, 11, 12, 13, 14, 15] ((bW2 u).map (bf_rne [1, 2, 3, 4, 5, 6, 7, 8, 9, 10, 11, 12, 13, 14, 15])) = bW8 (b8s_now S u) := by
  obtain ⟨⟨z1, z2, z3, z4, z5⟩, z6, z7, z8, z9, z10, z11, z12, z13, z14⟩ := S
  rfl
theorem su_bW8_7_2_bW3_3 (S : bT8) : bf_Sub (bW8 S) [7, 8, 9, 10, 11, 2, 3, 4, 5, 6] (bW3_3 ((b2g_built (b8g_now S)), (b2g_told (b8g_now S)))) := rfl
theorem pt_bW8_7_2_bW3_3 (S : bT8) (u : bT3 × bT3) : bf_put (bW8 S) [7, 8, 9, 10, 11, 2, 3, 4, 5, 6] ((bW3_3 u).map (bf_rne [7, 8, 9, 10, 11, 2, 3, 4, 5, 6])) = bW8 (b8s_now (b8s_now S (b2s_built (b8g_now S) u.1)) (b2s_told (b8g_now (b8s_now S (b2s_built (b8g_now S) u.1))) u.2)) := by
  obtain ⟨⟨⟨z1, z2, z3⟩, ⟨z4, z5, z6⟩, z7, z8, z9⟩, z10, z11, z12, z13, z14, z15, z16, z17, z18⟩ := S
  rfl
theorem su_bW8_31_bW1 (S : bT8) : bf_Sub (bW8 S) [31, 32, 33, 34, 35, 36, 37, 38, 39, 40, 41, 42, 43, 44] (bW1 (b8g_leaves S)) := rfl
theorem ge_bW8_31 (S : bT8) : (bW8 S)[31]? = some (.inr (1, [.ref 32, .ref 35, .ref 38, .ref 41, .ref 42, .ref 43, .ref 44, .int (b1g_hashBits (b8g_leaves S)), .int (b1g_realBits (b8g_leaves S)), .int (b1g_salt (b8g_leaves S))])) := rfl
theorem su_bW8_32_bW0 (S : bT8) : bf_Sub (bW8 S) [32, 33, 34] (bW0 (b1g_owners (b8g_leaves S))) := rfl
theorem su_bW8_38_bW0 (S : bT8) : bf_Sub (bW8 S) [38, 39, 40] (bW0 (b1g_highs (b8g_leaves S))) := rfl
theorem su_bW8_35_bW0 (S : bT8) : bf_Sub (bW8 S) [35, 36, 37] (bW0 (b1g_lows (b8g_leaves S))) := rfl
theorem ge_bW8_45 (S : bT8) : (bW8 S)[45]? = some (.inr (6, [.ref 46, .ref 47, .ref 48, .ref 49, .ref 50, .ref 51, .ref 52, .ref 53, .ref 54, .ref 55, .ref 56, .ref 57, .int (b6g_nodes (b8g_tree S)), .int (b6g_edges (b8g_tree S)), .int (b6g_children (b8g_tree S)), .int (b6g_levels (b8g_tree S)), .int (b6g_upper (b8g_tree S)), .int (b6g_upperNodes (b8g_tree S)), .int (b6g_itemStart (b8g_tree S))])) := rfl
theorem su_bW8_55_bWan64 (S : bT8) : bf_Sub (bW8 S) [55] ((bWa 64) (b6g_places (b8g_tree S))) := rfl
theorem su_bW8_57_bWan64 (S : bT8) : bf_Sub (bW8 S) [57] ((bWa 64) (b6g_leafNodes (b8g_tree S))) := rfl
theorem su_bW8_41_bWan64 (S : bT8) : bf_Sub (bW8 S) [41] ((bWa 64) (b1g_commons (b8g_leaves S))) := rfl
theorem su_bW8_56_bWan64 (S : bT8) : bf_Sub (bW8 S) [56] ((bWa 64) (b6g_leavesByPlace (b8g_tree S))) := rfl
theorem su_bW8_46_bWan232 (S : bT8) : bf_Sub (bW8 S) [46] ((bWa 232) (b6g_nodeLevels (b8g_tree S))) := rfl
theorem su_bW8_45_bW6 (S : bT8) : bf_Sub (bW8 S) [45, 46, 47, 48, 49, 50, 51, 52, 53, 54, 55, 56, 57] (bW6 (b8g_tree S)) := rfl
theorem su_bW8_47_bWan232 (S : bT8) : bf_Sub (bW8 S) [47] ((bWa 232) (b6g_firstLeaves (b8g_tree S))) := rfl
theorem su_bW8_48_bWan232 (S : bT8) : bf_Sub (bW8 S) [48] ((bWa 232) (b6g_leafCounts (b8g_tree S))) := rfl
theorem su_bW8_54_bWan9 (S : bT8) : bf_Sub (bW8 S) [54] ((bWa 9) (b6g_levelStarts (b8g_tree S))) := rfl
theorem su_bW8_51_bWan296 (S : bT8) : bf_Sub (bW8 S) [51] ((bWa 296) (b6g_edgeOctets (b8g_tree S))) := rfl
theorem su_bW8_50_bWan296 (S : bT8) : bf_Sub (bW8 S) [50] ((bWa 296) (b6g_edgeNodes (b8g_tree S))) := rfl
theorem ge_bW8_12 (S : bT8) : (bW8 S)[12]? = some (.inr (0, [.ref 13, .ref 14, .int (b0g_count (b2g_questions (b8g_now S)))])) := rfl
theorem su_bW8_12_bW0 (S : bT8) : bf_Sub (bW8 S) [12, 13, 14] (bW0 (b2g_questions (b8g_now S))) := rfl
theorem pt_bW8_12_bW0 (S : bT8) (u : bT0) : bf_put (bW8 S) [12, 13, 14] ((bW0 u).map (bf_rne [12, 13, 14])) = bW8 (b8s_now S (b2s_questions (b8g_now S) u)) := by
  obtain ⟨⟨z1, z2, ⟨z3, z4, z5⟩, z6, z7⟩, z8, z9, z10, z11, z12, z13, z14, z15, z16⟩ := S
  rfl
theorem pu_bW8_12_2 (S : bT8) (v : Int32) : (bW8 S).set 12 (.inr (0, (([.ref 13, .ref 14, .int (b0g_count (b2g_questions (b8g_now S)))] : List Value).set 2 (.int v)))) = bW8 (b8s_now S (b2s_questions (b8g_now S) (b0s_count (b2g_questions (b8g_now S)) v))) := by
  obtain ⟨⟨z1, z2, ⟨z3, z4, z5⟩, z6, z7⟩, z8, z9, z10, z11, z12, z13, z14, z15, z16⟩ := S
  rfl
theorem su_bW8_58_31_12_bW7_1_0 (S : bT8) : bf_Sub (bW8 S) [58, 59, 60, 31, 32, 33, 34, 35, 36, 37, 38, 39, 40, 41, 42, 43, 44, 12, 13, 14] (bW7_1_0 ((b8g_tuning S), (b8g_leaves S), (b2g_questions (b8g_now S)))) := rfl
theorem pt_bW8_58_31_12_bW7_1_0 (S : bT8) (u : bT7 × bT1 × bT0) : bf_put (bW8 S) [58, 59, 60, 31, 32, 33, 34, 35, 36, 37, 38, 39, 40, 41, 42, 43, 44, 12, 13, 14] ((bW7_1_0 u).map (bf_rne [58, 59, 60, 31, 32, 33, 34, 35, 36, 37, 38, 39, 40, 41, 42, 43, 44, 12, 13, 14])) = bW8 (b8s_now (b8s_leaves (b8s_tuning S u.1) u.2.1) (b2s_questions (b8g_now (b8s_leaves (b8s_tuning S u.1) u.2.1)) u.2.2)) := by
  obtain ⟨⟨z1, z2, ⟨z3, z4, z5⟩, z6, z7⟩, z8, z9, ⟨z10, z11, z12, z13, z14, z15, z16, z17, z18, z19⟩, z20, ⟨z21, z22, z23, z24, z25, z26⟩, z27, z28, z29, z30⟩ := S
  rfl
theorem ge_bW8_58 (S : bT8) : (bW8 S)[58]? = some (.inr (7, [.ref 59, .ref 60, .int (b7g_count (b8g_tuning S)), .int (b7g_hashBits (b8g_tuning S)), .int (b7g_realBits (b8g_tuning S)), .int (b7g_falsely (b8g_tuning S))])) := rfl
theorem su_bW8_15_bWan6 (S : bT8) : bf_Sub (bW8 S) [15] ((bWa 6) (b2g_answers (b8g_now S))) := rfl
theorem su_bW8_3_32_bW0_0 (S : bT8) : bf_Sub (bW8 S) [3, 4, 5, 32, 33, 34] (bW0_0 ((b3g_members (b2g_told (b8g_now S))), (b1g_owners (b8g_leaves S)))) := rfl
theorem su_bW8_32_3_bW0_0 (S : bT8) : bf_Sub (bW8 S) [32, 33, 34, 3, 4, 5] (bW0_0 ((b1g_owners (b8g_leaves S)), (b3g_members (b2g_told (b8g_now S))))) := rfl
theorem su_bW8_66_bW5 (S : bT8) : bf_Sub (bW8 S) [66, 67] (bW5 (b8g_text S)) := rfl
theorem pt_bW8_66_bW5 (S : bT8) (u : bT5) : bf_put (bW8 S) [66, 67] ((bW5 u).map (bf_rne [66, 67])) = bW8 (b8s_text S u) := by
  obtain ⟨z1, z2, z3, z4, z5, z6, z7, z8, ⟨z9, z10⟩, z11⟩ := S
  rfl
theorem ge_bW8_66 (S : bT8) : (bW8 S)[66]? = some (.inr (5, [.ref 67, .int (b5g_length (b8g_text S))])) := rfl
theorem pu_bW8_66_1 (S : bT8) (v : Int32) : (bW8 S).set 66 (.inr (5, (([.ref 67, .int (b5g_length (b8g_text S))] : List Value).set 1 (.int v)))) = bW8 (b8s_text S (b5s_length (b8g_text S) v)) := by
  obtain ⟨z1, z2, z3, z4, z5, z6, z7, z8, ⟨z9, z10⟩, z11⟩ := S
  rfl
theorem su_bW8_1_16_bW2_2 (S : bT8) : bf_Sub (bW8 S) [1, 2, 3, 4, 5, 6, 7, 8, 9, 10, 11, 12, 13, 14, 15, 16, 17, 18, 19, 20, 21, 22, 23, 24, 25, 26, 27, 28, 29, 30] (bW2_2 ((b8g_now S), (b8g_kept S))) := rfl
theorem pt_bW8_1_16_bW2_2 (S : bT8) (u : bT2 × bT2) : bf_put (bW8 S) [1, 2, 3, 4, 5, 6, 7, 8, 9, 10, 11, 12, 13, 14, 15, 16, 17, 18, 19, 20, 21, 22, 23, 24, 25, 26, 27, 28, 29, 30] ((bW2_2 u).map (bf_rne [1, 2, 3, 4, 5, 6, 7, 8, 9, 10, 11, 12, 13, 14, 15, 16, 17, 18, 19, 20, 21, 22, 23, 24, 25, 26, 27, 28, 29, 30])) = bW8 (b8s_kept (b8s_now S u.1) u.2) := by
  obtain ⟨⟨z1, z2, z3, z4, z5⟩, ⟨z6, z7, z8, z9, z10⟩, z11, z12, z13, z14, z15, z16, z17, z18⟩ := S
  rfl
theorem su_bW8_16_1_bW2_2 (S : bT8) : bf_Sub (bW8 S) [16, 17, 18, 19, 20, 21, 22, 23, 24, 25, 26, 27, 28, 29, 30, 1, 2, 3, 4, 5, 6, 7, 8, 9, 10, 11, 12, 13, 14, 15] (bW2_2 ((b8g_kept S), (b8g_now S))) := rfl
theorem pt_bW8_16_1_bW2_2 (S : bT8) (u : bT2 × bT2) : bf_put (bW8 S) [16, 17, 18, 19, 20, 21, 22, 23, 24, 25, 26, 27, 28, 29, 30, 1, 2, 3, 4, 5, 6, 7, 8, 9, 10, 11, 12, 13, 14, 15] ((bW2_2 u).map (bf_rne [16, 17, 18, 19, 20, 21, 22, 23, 24, 25, 26, 27, 28, 29, 30, 1, 2, 3, 4, 5, 6, 7, 8, 9, 10, 11, 12, 13, 14, 15])) = bW8 (b8s_now (b8s_kept S u.1) u.2) := by
  obtain ⟨⟨z1, z2, z3, z4, z5⟩, ⟨z6, z7, z8, z9, z10⟩, z11, z12, z13, z14, z15, z16, z17, z18⟩ := S
  rfl
theorem pu_bW8_0_2 (S : bT8) (v : Int32) : (bW8 S).set 0 (.inr (8, (([.ref 1, .ref 16, .int (b8g_isKept S), .ref 31, .ref 45, .ref 58, .ref 61, .ref 64, .ref 66, .int (b8g_chosenRow S)] : List Value).set 2 (.int v)))) = bW8 (b8s_isKept S v) := by
  obtain ⟨z1, z2, z3, z4, z5, z6, z7, z8, z9, z10⟩ := S
  rfl
theorem su_bW8_6_bWan6 (S : bT8) : bf_Sub (bW8 S) [6] ((bWa 6) (b3g_values (b2g_told (b8g_now S)))) := rfl
theorem ge_bW9_0 (S : bT9) : (bW9 S)[0]? = some (.inr (9, [.int (b9g_told S), .ref 1, .ref 2, .ref 3, .long (b9g_drawn S), .int (b9g_drawnLength S), .ref 4, .int (b9g_taped S), .ref 5, .int (b9g_chosen S), .ref 6, .ref 7, .int (b9g_isLaid S), .ref 8, .ref 9, .ref 10, .int (b9g_nodeMany S), .int (b9g_levelMany S), .int (b9g_upper S), .int (b9g_upperNodes S), .int (b9g_areNodesLaid S), .ref 11, .ref 12, .ref 13, .int (b9g_itemMany S), .ref 14, .ref 15, .int (b9g_places S), .long (b9g_lowKey S), .long (b9g_highKey S), .int (b9g_lowLength S), .int (b9g_highLength S), .long (b9g_fromKey S), .long (b9g_toKey S), .int (b9g_fromLength S), .int (b9g_toLength S), .ref 16, .int (b9g_oneMany S), .int (b9g_rowLong S), .int (b9g_laidFor S), .ref 17, .int (b9g_signMany S), .int (b9g_hasImage S), .ref 18, .ref 19, .ref 20])) := rfl
theorem ge_bW9_1 (S : bT9) : (bW9 S)[1]? = some (.inl (0, 23, .inl (b9g_now S))) := rfl
theorem pu_bW9_0_0 (S : bT9) (v : Int32) : (bW9 S).set 0 (.inr (9, (([.int (b9g_told S), .ref 1, .ref 2, .ref 3, .long (b9g_drawn S), .int (b9g_drawnLength S), .ref 4, .int (b9g_taped S), .ref 5, .int (b9g_chosen S), .ref 6, .ref 7, .int (b9g_isLaid S), .ref 8, .ref 9, .ref 10, .int (b9g_nodeMany S), .int (b9g_levelMany S), .int (b9g_upper S), .int (b9g_upperNodes S), .int (b9g_areNodesLaid S), .ref 11, .ref 12, .ref 13, .int (b9g_itemMany S), .ref 14, .ref 15, .int (b9g_places S), .long (b9g_lowKey S), .long (b9g_highKey S), .int (b9g_lowLength S), .int (b9g_highLength S), .long (b9g_fromKey S), .long (b9g_toKey S), .int (b9g_fromLength S), .int (b9g_toLength S), .ref 16, .int (b9g_oneMany S), .int (b9g_rowLong S), .int (b9g_laidFor S), .ref 17, .int (b9g_signMany S), .int (b9g_hasImage S), .ref 18, .ref 19, .ref 20] : List Value).set 0 (.int v)))) = bW9 (b9s_told S v) := by
  obtain ⟨z1, z2, z3, z4, z5, z6, z7, z8, z9, z10, z11, z12, z13, z14, z15, z16, z17, z18, z19, z20, z21, z22, z23, z24, z25, z26, z27, z28, z29, z30, z31, z32, z33, z34, z35, z36, z37, z38, z39, z40, z41, z42, z43, z44, z45, z46⟩ := S
  rfl
theorem ar_bW9_1 (S : bT9) (v : (Nat → Int32)) : (bW9 S).set 1 (.inl (0, 23, .inl v)) = bW9 (b9s_now S v) := by
  obtain ⟨z1, z2, z3, z4, z5, z6, z7, z8, z9, z10, z11, z12, z13, z14, z15, z16, z17, z18, z19, z20, z21, z22, z23, z24, z25, z26, z27, z28, z29, z30, z31, z32, z33, z34, z35, z36, z37, z38, z39, z40, z41, z42, z43, z44, z45, z46⟩ := S
  rfl
theorem ge_bW9_2 (S : bT9) : (bW9 S)[2]? = some (.inl (1, 144, .inr (.inl (b9g_keys S)))) := rfl
theorem ge_bW9_3 (S : bT9) : (bW9 S)[3]? = some (.inl (0, 144, .inl (b9g_lengths S))) := rfl
theorem ar_bW9_2 (S : bT9) (v : (Nat → Int64)) : (bW9 S).set 2 (.inl (1, 144, .inr (.inl v))) = bW9 (b9s_keys S v) := by
  obtain ⟨z1, z2, z3, z4, z5, z6, z7, z8, z9, z10, z11, z12, z13, z14, z15, z16, z17, z18, z19, z20, z21, z22, z23, z24, z25, z26, z27, z28, z29, z30, z31, z32, z33, z34, z35, z36, z37, z38, z39, z40, z41, z42, z43, z44, z45, z46⟩ := S
  rfl
theorem ar_bW9_3 (S : bT9) (v : (Nat → Int32)) : (bW9 S).set 3 (.inl (0, 144, .inl v)) = bW9 (b9s_lengths S v) := by
  obtain ⟨z1, z2, z3, z4, z5, z6, z7, z8, z9, z10, z11, z12, z13, z14, z15, z16, z17, z18, z19, z20, z21, z22, z23, z24, z25, z26, z27, z28, z29, z30, z31, z32, z33, z34, z35, z36, z37, z38, z39, z40, z41, z42, z43, z44, z45, z46⟩ := S
  rfl
theorem pu_bW9_0_4 (S : bT9) (v : Int64) : (bW9 S).set 0 (.inr (9, (([.int (b9g_told S), .ref 1, .ref 2, .ref 3, .long (b9g_drawn S), .int (b9g_drawnLength S), .ref 4, .int (b9g_taped S), .ref 5, .int (b9g_chosen S), .ref 6, .ref 7, .int (b9g_isLaid S), .ref 8, .ref 9, .ref 10, .int (b9g_nodeMany S), .int (b9g_levelMany S), .int (b9g_upper S), .int (b9g_upperNodes S), .int (b9g_areNodesLaid S), .ref 11, .ref 12, .ref 13, .int (b9g_itemMany S), .ref 14, .ref 15, .int (b9g_places S), .long (b9g_lowKey S), .long (b9g_highKey S), .int (b9g_lowLength S), .int (b9g_highLength S), .long (b9g_fromKey S), .long (b9g_toKey S), .int (b9g_fromLength S), .int (b9g_toLength S), .ref 16, .int (b9g_oneMany S), .int (b9g_rowLong S), .int (b9g_laidFor S), .ref 17, .int (b9g_signMany S), .int (b9g_hasImage S), .ref 18, .ref 19, .ref 20] : List Value).set 4 (.long v)))) = bW9 (b9s_drawn S v) := by
  obtain ⟨z1, z2, z3, z4, z5, z6, z7, z8, z9, z10, z11, z12, z13, z14, z15, z16, z17, z18, z19, z20, z21, z22, z23, z24, z25, z26, z27, z28, z29, z30, z31, z32, z33, z34, z35, z36, z37, z38, z39, z40, z41, z42, z43, z44, z45, z46⟩ := S
  rfl
theorem pu_bW9_0_5 (S : bT9) (v : Int32) : (bW9 S).set 0 (.inr (9, (([.int (b9g_told S), .ref 1, .ref 2, .ref 3, .long (b9g_drawn S), .int (b9g_drawnLength S), .ref 4, .int (b9g_taped S), .ref 5, .int (b9g_chosen S), .ref 6, .ref 7, .int (b9g_isLaid S), .ref 8, .ref 9, .ref 10, .int (b9g_nodeMany S), .int (b9g_levelMany S), .int (b9g_upper S), .int (b9g_upperNodes S), .int (b9g_areNodesLaid S), .ref 11, .ref 12, .ref 13, .int (b9g_itemMany S), .ref 14, .ref 15, .int (b9g_places S), .long (b9g_lowKey S), .long (b9g_highKey S), .int (b9g_lowLength S), .int (b9g_highLength S), .long (b9g_fromKey S), .long (b9g_toKey S), .int (b9g_fromLength S), .int (b9g_toLength S), .ref 16, .int (b9g_oneMany S), .int (b9g_rowLong S), .int (b9g_laidFor S), .ref 17, .int (b9g_signMany S), .int (b9g_hasImage S), .ref 18, .ref 19, .ref 20] : List Value).set 5 (.int v)))) = bW9 (b9s_drawnLength S v) := by
  obtain ⟨z1, z2, z3, z4, z5, z6, z7, z8, z9, z10, z11, z12, z13, z14, z15, z16, z17, z18, z19, z20, z21, z22, z23, z24, z25, z26, z27, z28, z29, z30, z31, z32, z33, z34, z35, z36, z37, z38, z39, z40, z41, z42, z43, z44, z45, z46⟩ := S
  rfl
theorem ge_bW9_4 (S : bT9) : (bW9 S)[4]? = some (.inl (0, 160, .inl (b9g_tape S))) := rfl
theorem ar_bW9_4 (S : bT9) (v : (Nat → Int32)) : (bW9 S).set 4 (.inl (0, 160, .inl v)) = bW9 (b9s_tape S v) := by
  obtain ⟨z1, z2, z3, z4, z5, z6, z7, z8, z9, z10, z11, z12, z13, z14, z15, z16, z17, z18, z19, z20, z21, z22, z23, z24, z25, z26, z27, z28, z29, z30, z31, z32, z33, z34, z35, z36, z37, z38, z39, z40, z41, z42, z43, z44, z45, z46⟩ := S
  rfl
theorem pu_bW9_0_7 (S : bT9) (v : Int32) : (bW9 S).set 0 (.inr (9, (([.int (b9g_told S), .ref 1, .ref 2, .ref 3, .long (b9g_drawn S), .int (b9g_drawnLength S), .ref 4, .int (b9g_taped S), .ref 5, .int (b9g_chosen S), .ref 6, .ref 7, .int (b9g_isLaid S), .ref 8, .ref 9, .ref 10, .int (b9g_nodeMany S), .int (b9g_levelMany S), .int (b9g_upper S), .int (b9g_upperNodes S), .int (b9g_areNodesLaid S), .ref 11, .ref 12, .ref 13, .int (b9g_itemMany S), .ref 14, .ref 15, .int (b9g_places S), .long (b9g_lowKey S), .long (b9g_highKey S), .int (b9g_lowLength S), .int (b9g_highLength S), .long (b9g_fromKey S), .long (b9g_toKey S), .int (b9g_fromLength S), .int (b9g_toLength S), .ref 16, .int (b9g_oneMany S), .int (b9g_rowLong S), .int (b9g_laidFor S), .ref 17, .int (b9g_signMany S), .int (b9g_hasImage S), .ref 18, .ref 19, .ref 20] : List Value).set 7 (.int v)))) = bW9 (b9s_taped S v) := by
  obtain ⟨z1, z2, z3, z4, z5, z6, z7, z8, z9, z10, z11, z12, z13, z14, z15, z16, z17, z18, z19, z20, z21, z22, z23, z24, z25, z26, z27, z28, z29, z30, z31, z32, z33, z34, z35, z36, z37, z38, z39, z40, z41, z42, z43, z44, z45, z46⟩ := S
  rfl
theorem ge_bW9_5 (S : bT9) : (bW9 S)[5]? = some (.inl (0, 57, .inl (b9g_names S))) := rfl
theorem pu_bW9_0_9 (S : bT9) (v : Int32) : (bW9 S).set 0 (.inr (9, (([.int (b9g_told S), .ref 1, .ref 2, .ref 3, .long (b9g_drawn S), .int (b9g_drawnLength S), .ref 4, .int (b9g_taped S), .ref 5, .int (b9g_chosen S), .ref 6, .ref 7, .int (b9g_isLaid S), .ref 8, .ref 9, .ref 10, .int (b9g_nodeMany S), .int (b9g_levelMany S), .int (b9g_upper S), .int (b9g_upperNodes S), .int (b9g_areNodesLaid S), .ref 11, .ref 12, .ref 13, .int (b9g_itemMany S), .ref 14, .ref 15, .int (b9g_places S), .long (b9g_lowKey S), .long (b9g_highKey S), .int (b9g_lowLength S), .int (b9g_highLength S), .long (b9g_fromKey S), .long (b9g_toKey S), .int (b9g_fromLength S), .int (b9g_toLength S), .ref 16, .int (b9g_oneMany S), .int (b9g_rowLong S), .int (b9g_laidFor S), .ref 17, .int (b9g_signMany S), .int (b9g_hasImage S), .ref 18, .ref 19, .ref 20] : List Value).set 9 (.int v)))) = bW9 (b9s_chosen S v) := by
  obtain ⟨z1, z2, z3, z4, z5, z6, z7, z8, z9, z10, z11, z12, z13, z14, z15, z16, z17, z18, z19, z20, z21, z22, z23, z24, z25, z26, z27, z28, z29, z30, z31, z32, z33, z34, z35, z36, z37, z38, z39, z40, z41, z42, z43, z44, z45, z46⟩ := S
  rfl
theorem ge_bW9_7 (S : bT9) : (bW9 S)[7]? = some (.inl (0, 64, .inl (b9g_beginning S))) := rfl
theorem ar_bW9_7 (S : bT9) (v : (Nat → Int32)) : (bW9 S).set 7 (.inl (0, 64, .inl v)) = bW9 (b9s_beginning S v) := by
  obtain ⟨z1, z2, z3, z4, z5, z6, z7, z8, z9, z10, z11, z12, z13, z14, z15, z16, z17, z18, z19, z20, z21, z22, z23, z24, z25, z26, z27, z28, z29, z30, z31, z32, z33, z34, z35, z36, z37, z38, z39, z40, z41, z42, z43, z44, z45, z46⟩ := S
  rfl
theorem ge_bW9_6 (S : bT9) : (bW9 S)[6]? = some (.inl (0, 64, .inl (b9g_common S))) := rfl
theorem ar_bW9_6 (S : bT9) (v : (Nat → Int32)) : (bW9 S).set 6 (.inl (0, 64, .inl v)) = bW9 (b9s_common S v) := by
  obtain ⟨z1, z2, z3, z4, z5, z6, z7, z8, z9, z10, z11, z12, z13, z14, z15, z16, z17, z18, z19, z20, z21, z22, z23, z24, z25, z26, z27, z28, z29, z30, z31, z32, z33, z34, z35, z36, z37, z38, z39, z40, z41, z42, z43, z44, z45, z46⟩ := S
  rfl
theorem pu_bW9_0_12 (S : bT9) (v : Int32) : (bW9 S).set 0 (.inr (9, (([.int (b9g_told S), .ref 1, .ref 2, .ref 3, .long (b9g_drawn S), .int (b9g_drawnLength S), .ref 4, .int (b9g_taped S), .ref 5, .int (b9g_chosen S), .ref 6, .ref 7, .int (b9g_isLaid S), .ref 8, .ref 9, .ref 10, .int (b9g_nodeMany S), .int (b9g_levelMany S), .int (b9g_upper S), .int (b9g_upperNodes S), .int (b9g_areNodesLaid S), .ref 11, .ref 12, .ref 13, .int (b9g_itemMany S), .ref 14, .ref 15, .int (b9g_places S), .long (b9g_lowKey S), .long (b9g_highKey S), .int (b9g_lowLength S), .int (b9g_highLength S), .long (b9g_fromKey S), .long (b9g_toKey S), .int (b9g_fromLength S), .int (b9g_toLength S), .ref 16, .int (b9g_oneMany S), .int (b9g_rowLong S), .int (b9g_laidFor S), .ref 17, .int (b9g_signMany S), .int (b9g_hasImage S), .ref 18, .ref 19, .ref 20] : List Value).set 12 (.int v)))) = bW9 (b9s_isLaid S v) := by
  obtain ⟨z1, z2, z3, z4, z5, z6, z7, z8, z9, z10, z11, z12, z13, z14, z15, z16, z17, z18, z19, z20, z21, z22, z23, z24, z25, z26, z27, z28, z29, z30, z31, z32, z33, z34, z35, z36, z37, z38, z39, z40, z41, z42, z43, z44, z45, z46⟩ := S
  rfl
theorem pu_bW9_0_20 (S : bT9) (v : Int32) : (bW9 S).set 0 (.inr (9, (([.int (b9g_told S), .ref 1, .ref 2, .ref 3, .long (b9g_drawn S), .int (b9g_drawnLength S), .ref 4, .int (b9g_taped S), .ref 5, .int (b9g_chosen S), .ref 6, .ref 7, .int (b9g_isLaid S), .ref 8, .ref 9, .ref 10, .int (b9g_nodeMany S), .int (b9g_levelMany S), .int (b9g_upper S), .int (b9g_upperNodes S), .int (b9g_areNodesLaid S), .ref 11, .ref 12, .ref 13, .int (b9g_itemMany S), .ref 14, .ref 15, .int (b9g_places S), .long (b9g_lowKey S), .long (b9g_highKey S), .int (b9g_lowLength S), .int (b9g_highLength S), .long (b9g_fromKey S), .long (b9g_toKey S), .int (b9g_fromLength S), .int (b9g_toLength S), .ref 16, .int (b9g_oneMany S), .int (b9g_rowLong S), .int (b9g_laidFor S), .ref 17, .int (b9g_signMany S), .int (b9g_hasImage S), .ref 18, .ref 19, .ref 20] : List Value).set 20 (.int v)))) = bW9 (b9s_areNodesLaid S v) := by
  obtain ⟨z1, z2, z3, z4, z5, z6, z7, z8, z9, z10, z11, z12, z13, z14, z15, z16, z17, z18, z19, z20, z21, z22, z23, z24, z25, z26, z27, z28, z29, z30, z31, z32, z33, z34, z35, z36, z37, z38, z39, z40, z41, z42, z43, z44, z45, z46⟩ := S
  rfl
theorem ge_bW9_8 (S : bT9) : (bW9 S)[8]? = some (.inl (0, 512, .inl (b9g_nodeLevel S))) := rfl
theorem ge_bW9_9 (S : bT9) : (bW9 S)[9]? = some (.inl (0, 512, .inl (b9g_nodeLeaf S))) := rfl
theorem ge_bW9_10 (S : bT9) : (bW9 S)[10]? = some (.inl (0, 512, .inl (b9g_nodeLeaves S))) := rfl
theorem ge_bW9_11 (S : bT9) : (bW9 S)[11]? = some (.inl (0, 700, .inl (b9g_itemNode S))) := rfl
theorem ar_bW9_11 (S : bT9) (v : (Nat → Int32)) : (bW9 S).set 11 (.inl (0, 700, .inl v)) = bW9 (b9s_itemNode S v) := by
  obtain ⟨z1, z2, z3, z4, z5, z6, z7, z8, z9, z10, z11, z12, z13, z14, z15, z16, z17, z18, z19, z20, z21, z22, z23, z24, z25, z26, z27, z28, z29, z30, z31, z32, z33, z34, z35, z36, z37, z38, z39, z40, z41, z42, z43, z44, z45, z46⟩ := S
  rfl
theorem ge_bW9_12 (S : bT9) : (bW9 S)[12]? = some (.inl (0, 700, .inl (b9g_itemByte S))) := rfl
theorem ar_bW9_12 (S : bT9) (v : (Nat → Int32)) : (bW9 S).set 12 (.inl (0, 700, .inl v)) = bW9 (b9s_itemByte S v) := by
  obtain ⟨z1, z2, z3, z4, z5, z6, z7, z8, z9, z10, z11, z12, z13, z14, z15, z16, z17, z18, z19, z20, z21, z22, z23, z24, z25, z26, z27, z28, z29, z30, z31, z32, z33, z34, z35, z36, z37, z38, z39, z40, z41, z42, z43, z44, z45, z46⟩ := S
  rfl
theorem ge_bW9_13 (S : bT9) : (bW9 S)[13]? = some (.inl (0, 700, .inl (b9g_itemChild S))) := rfl
theorem ar_bW9_13 (S : bT9) (v : (Nat → Int32)) : (bW9 S).set 13 (.inl (0, 700, .inl v)) = bW9 (b9s_itemChild S v) := by
  obtain ⟨z1, z2, z3, z4, z5, z6, z7, z8, z9, z10, z11, z12, z13, z14, z15, z16, z17, z18, z19, z20, z21, z22, z23, z24, z25, z26, z27, z28, z29, z30, z31, z32, z33, z34, z35, z36, z37, z38, z39, z40, z41, z42, z43, z44, z45, z46⟩ := S
  rfl
theorem pu_bW9_0_24 (S : bT9) (v : Int32) : (bW9 S).set 0 (.inr (9, (([.int (b9g_told S), .ref 1, .ref 2, .ref 3, .long (b9g_drawn S), .int (b9g_drawnLength S), .ref 4, .int (b9g_taped S), .ref 5, .int (b9g_chosen S), .ref 6, .ref 7, .int (b9g_isLaid S), .ref 8, .ref 9, .ref 10, .int (b9g_nodeMany S), .int (b9g_levelMany S), .int (b9g_upper S), .int (b9g_upperNodes S), .int (b9g_areNodesLaid S), .ref 11, .ref 12, .ref 13, .int (b9g_itemMany S), .ref 14, .ref 15, .int (b9g_places S), .long (b9g_lowKey S), .long (b9g_highKey S), .int (b9g_lowLength S), .int (b9g_highLength S), .long (b9g_fromKey S), .long (b9g_toKey S), .int (b9g_fromLength S), .int (b9g_toLength S), .ref 16, .int (b9g_oneMany S), .int (b9g_rowLong S), .int (b9g_laidFor S), .ref 17, .int (b9g_signMany S), .int (b9g_hasImage S), .ref 18, .ref 19, .ref 20] : List Value).set 24 (.int v)))) = bW9 (b9s_itemMany S v) := by
  obtain ⟨z1, z2, z3, z4, z5, z6, z7, z8, z9, z10, z11, z12, z13, z14, z15, z16, z17, z18, z19, z20, z21, z22, z23, z24, z25, z26, z27, z28, z29, z30, z31, z32, z33, z34, z35, z36, z37, z38, z39, z40, z41, z42, z43, z44, z45, z46⟩ := S
  rfl
theorem ge_bW9_14 (S : bT9) : (bW9 S)[14]? = some (.inl (0, 64, .inl (b9g_placeOf S))) := rfl
theorem ar_bW9_14 (S : bT9) (v : (Nat → Int32)) : (bW9 S).set 14 (.inl (0, 64, .inl v)) = bW9 (b9s_placeOf S v) := by
  obtain ⟨z1, z2, z3, z4, z5, z6, z7, z8, z9, z10, z11, z12, z13, z14, z15, z16, z17, z18, z19, z20, z21, z22, z23, z24, z25, z26, z27, z28, z29, z30, z31, z32, z33, z34, z35, z36, z37, z38, z39, z40, z41, z42, z43, z44, z45, z46⟩ := S
  rfl
theorem ge_bW9_15 (S : bT9) : (bW9 S)[15]? = some (.inl (0, 64, .inl (b9g_leafOfPlace S))) := rfl
theorem ar_bW9_15 (S : bT9) (v : (Nat → Int32)) : (bW9 S).set 15 (.inl (0, 64, .inl v)) = bW9 (b9s_leafOfPlace S v) := by
  obtain ⟨z1, z2, z3, z4, z5, z6, z7, z8, z9, z10, z11, z12, z13, z14, z15, z16, z17, z18, z19, z20, z21, z22, z23, z24, z25, z26, z27, z28, z29, z30, z31, z32, z33, z34, z35, z36, z37, z38, z39, z40, z41, z42, z43, z44, z45, z46⟩ := S
  rfl
theorem pu_bW9_0_27 (S : bT9) (v : Int32) : (bW9 S).set 0 (.inr (9, (([.int (b9g_told S), .ref 1, .ref 2, .ref 3, .long (b9g_drawn S), .int (b9g_drawnLength S), .ref 4, .int (b9g_taped S), .ref 5, .int (b9g_chosen S), .ref 6, .ref 7, .int (b9g_isLaid S), .ref 8, .ref 9, .ref 10, .int (b9g_nodeMany S), .int (b9g_levelMany S), .int (b9g_upper S), .int (b9g_upperNodes S), .int (b9g_areNodesLaid S), .ref 11, .ref 12, .ref 13, .int (b9g_itemMany S), .ref 14, .ref 15, .int (b9g_places S), .long (b9g_lowKey S), .long (b9g_highKey S), .int (b9g_lowLength S), .int (b9g_highLength S), .long (b9g_fromKey S), .long (b9g_toKey S), .int (b9g_fromLength S), .int (b9g_toLength S), .ref 16, .int (b9g_oneMany S), .int (b9g_rowLong S), .int (b9g_laidFor S), .ref 17, .int (b9g_signMany S), .int (b9g_hasImage S), .ref 18, .ref 19, .ref 20] : List Value).set 27 (.int v)))) = bW9 (b9s_places S v) := by
  obtain ⟨z1, z2, z3, z4, z5, z6, z7, z8, z9, z10, z11, z12, z13, z14, z15, z16, z17, z18, z19, z20, z21, z22, z23, z24, z25, z26, z27, z28, z29, z30, z31, z32, z33, z34, z35, z36, z37, z38, z39, z40, z41, z42, z43, z44, z45, z46⟩ := S
  rfl
theorem pu_bW9_0_19 (S : bT9) (v : Int32) : (bW9 S).set 0 (.inr (9, (([.int (b9g_told S), .ref 1, .ref 2, .ref 3, .long (b9g_drawn S), .int (b9g_drawnLength S), .ref 4, .int (b9g_taped S), .ref 5, .int (b9g_chosen S), .ref 6, .ref 7, .int (b9g_isLaid S), .ref 8, .ref 9, .ref 10, .int (b9g_nodeMany S), .int (b9g_levelMany S), .int (b9g_upper S), .int (b9g_upperNodes S), .int (b9g_areNodesLaid S), .ref 11, .ref 12, .ref 13, .int (b9g_itemMany S), .ref 14, .ref 15, .int (b9g_places S), .long (b9g_lowKey S), .long (b9g_highKey S), .int (b9g_lowLength S), .int (b9g_highLength S), .long (b9g_fromKey S), .long (b9g_toKey S), .int (b9g_fromLength S), .int (b9g_toLength S), .ref 16, .int (b9g_oneMany S), .int (b9g_rowLong S), .int (b9g_laidFor S), .ref 17, .int (b9g_signMany S), .int (b9g_hasImage S), .ref 18, .ref 19, .ref 20] : List Value).set 19 (.int v)))) = bW9 (b9s_upperNodes S v) := by
  obtain ⟨z1, z2, z3, z4, z5, z6, z7, z8, z9, z10, z11, z12, z13, z14, z15, z16, z17, z18, z19, z20, z21, z22, z23, z24, z25, z26, z27, z28, z29, z30, z31, z32, z33, z34, z35, z36, z37, z38, z39, z40, z41, z42, z43, z44, z45, z46⟩ := S
  rfl
theorem ar_bW9_8 (S : bT9) (v : (Nat → Int32)) : (bW9 S).set 8 (.inl (0, 512, .inl v)) = bW9 (b9s_nodeLevel S v) := by
  obtain ⟨z1, z2, z3, z4, z5, z6, z7, z8, z9, z10, z11, z12, z13, z14, z15, z16, z17, z18, z19, z20, z21, z22, z23, z24, z25, z26, z27, z28, z29, z30, z31, z32, z33, z34, z35, z36, z37, z38, z39, z40, z41, z42, z43, z44, z45, z46⟩ := S
  rfl
theorem ar_bW9_9 (S : bT9) (v : (Nat → Int32)) : (bW9 S).set 9 (.inl (0, 512, .inl v)) = bW9 (b9s_nodeLeaf S v) := by
  obtain ⟨z1, z2, z3, z4, z5, z6, z7, z8, z9, z10, z11, z12, z13, z14, z15, z16, z17, z18, z19, z20, z21, z22, z23, z24, z25, z26, z27, z28, z29, z30, z31, z32, z33, z34, z35, z36, z37, z38, z39, z40, z41, z42, z43, z44, z45, z46⟩ := S
  rfl
theorem ar_bW9_10 (S : bT9) (v : (Nat → Int32)) : (bW9 S).set 10 (.inl (0, 512, .inl v)) = bW9 (b9s_nodeLeaves S v) := by
  obtain ⟨z1, z2, z3, z4, z5, z6, z7, z8, z9, z10, z11, z12, z13, z14, z15, z16, z17, z18, z19, z20, z21, z22, z23, z24, z25, z26, z27, z28, z29, z30, z31, z32, z33, z34, z35, z36, z37, z38, z39, z40, z41, z42, z43, z44, z45, z46⟩ := S
  rfl
theorem pu_bW9_0_16 (S : bT9) (v : Int32) : (bW9 S).set 0 (.inr (9, (([.int (b9g_told S), .ref 1, .ref 2, .ref 3, .long (b9g_drawn S), .int (b9g_drawnLength S), .ref 4, .int (b9g_taped S), .ref 5, .int (b9g_chosen S), .ref 6, .ref 7, .int (b9g_isLaid S), .ref 8, .ref 9, .ref 10, .int (b9g_nodeMany S), .int (b9g_levelMany S), .int (b9g_upper S), .int (b9g_upperNodes S), .int (b9g_areNodesLaid S), .ref 11, .ref 12, .ref 13, .int (b9g_itemMany S), .ref 14, .ref 15, .int (b9g_places S), .long (b9g_lowKey S), .long (b9g_highKey S), .int (b9g_lowLength S), .int (b9g_highLength S), .long (b9g_fromKey S), .long (b9g_toKey S), .int (b9g_fromLength S), .int (b9g_toLength S), .ref 16, .int (b9g_oneMany S), .int (b9g_rowLong S), .int (b9g_laidFor S), .ref 17, .int (b9g_signMany S), .int (b9g_hasImage S), .ref 18, .ref 19, .ref 20] : List Value).set 16 (.int v)))) = bW9 (b9s_nodeMany S v) := by
  obtain ⟨z1, z2, z3, z4, z5, z6, z7, z8, z9, z10, z11, z12, z13, z14, z15, z16, z17, z18, z19, z20, z21, z22, z23, z24, z25, z26, z27, z28, z29, z30, z31, z32, z33, z34, z35, z36, z37, z38, z39, z40, z41, z42, z43, z44, z45, z46⟩ := S
  rfl
theorem pu_bW9_0_17 (S : bT9) (v : Int32) : (bW9 S).set 0 (.inr (9, (([.int (b9g_told S), .ref 1, .ref 2, .ref 3, .long (b9g_drawn S), .int (b9g_drawnLength S), .ref 4, .int (b9g_taped S), .ref 5, .int (b9g_chosen S), .ref 6, .ref 7, .int (b9g_isLaid S), .ref 8, .ref 9, .ref 10, .int (b9g_nodeMany S), .int (b9g_levelMany S), .int (b9g_upper S), .int (b9g_upperNodes S), .int (b9g_areNodesLaid S), .ref 11, .ref 12, .ref 13, .int (b9g_itemMany S), .ref 14, .ref 15, .int (b9g_places S), .long (b9g_lowKey S), .long (b9g_highKey S), .int (b9g_lowLength S), .int (b9g_highLength S), .long (b9g_fromKey S), .long (b9g_toKey S), .int (b9g_fromLength S), .int (b9g_toLength S), .ref 16, .int (b9g_oneMany S), .int (b9g_rowLong S), .int (b9g_laidFor S), .ref 17, .int (b9g_signMany S), .int (b9g_hasImage S), .ref 18, .ref 19, .ref 20] : List Value).set 17 (.int v)))) = bW9 (b9s_levelMany S v) := by
  obtain ⟨z1, z2, z3, z4, z5, z6, z7, z8, z9, z10, z11, z12, z13, z14, z15, z16, z17, z18, z19, z20, z21, z22, z23, z24, z25, z26, z27, z28, z29, z30, z31, z32, z33, z34, z35, z36, z37, z38, z39, z40, z41, z42, z43, z44, z45, z46⟩ := S
  rfl
theorem pu_bW9_0_18 (S : bT9) (v : Int32) : (bW9 S).set 0 (.inr (9, (([.int (b9g_told S), .ref 1, .ref 2, .ref 3, .long (b9g_drawn S), .int (b9g_drawnLength S), .ref 4, .int (b9g_taped S), .ref 5, .int (b9g_chosen S), .ref 6, .ref 7, .int (b9g_isLaid S), .ref 8, .ref 9, .ref 10, .int (b9g_nodeMany S), .int (b9g_levelMany S), .int (b9g_upper S), .int (b9g_upperNodes S), .int (b9g_areNodesLaid S), .ref 11, .ref 12, .ref 13, .int (b9g_itemMany S), .ref 14, .ref 15, .int (b9g_places S), .long (b9g_lowKey S), .long (b9g_highKey S), .int (b9g_lowLength S), .int (b9g_highLength S), .long (b9g_fromKey S), .long (b9g_toKey S), .int (b9g_fromLength S), .int (b9g_toLength S), .ref 16, .int (b9g_oneMany S), .int (b9g_rowLong S), .int (b9g_laidFor S), .ref 17, .int (b9g_signMany S), .int (b9g_hasImage S), .ref 18, .ref 19, .ref 20] : List Value).set 18 (.int v)))) = bW9 (b9s_upper S v) := by
  obtain ⟨z1, z2, z3, z4, z5, z6, z7, z8, z9, z10, z11, z12, z13, z14, z15, z16, z17, z18, z19, z20, z21, z22, z23, z24, z25, z26, z27, z28, z29, z30, z31, z32, z33, z34, z35, z36, z37, z38, z39, z40, z41, z42, z43, z44, z45, z46⟩ := S
  rfl
theorem pu_bW9_0_39 (S : bT9) (v : Int32) : (bW9 S).set 0 (.inr (9, (([.int (b9g_told S), .ref 1, .ref 2, .ref 3, .long (b9g_drawn S), .int (b9g_drawnLength S), .ref 4, .int (b9g_taped S), .ref 5, .int (b9g_chosen S), .ref 6, .ref 7, .int (b9g_isLaid S), .ref 8, .ref 9, .ref 10, .int (b9g_nodeMany S), .int (b9g_levelMany S), .int (b9g_upper S), .int (b9g_upperNodes S), .int (b9g_areNodesLaid S), .ref 11, .ref 12, .ref 13, .int (b9g_itemMany S), .ref 14, .ref 15, .int (b9g_places S), .long (b9g_lowKey S), .long (b9g_highKey S), .int (b9g_lowLength S), .int (b9g_highLength S), .long (b9g_fromKey S), .long (b9g_toKey S), .int (b9g_fromLength S), .int (b9g_toLength S), .ref 16, .int (b9g_oneMany S), .int (b9g_rowLong S), .int (b9g_laidFor S), .ref 17, .int (b9g_signMany S), .int (b9g_hasImage S), .ref 18, .ref 19, .ref 20] : List Value).set 39 (.int v)))) = bW9 (b9s_laidFor S v) := by
  obtain ⟨z1, z2, z3, z4, z5, z6, z7, z8, z9, z10, z11, z12, z13, z14, z15, z16, z17, z18, z19, z20, z21, z22, z23, z24, z25, z26, z27, z28, z29, z30, z31, z32, z33, z34, z35, z36, z37, z38, z39, z40, z41, z42, z43, z44, z45, z46⟩ := S
  rfl
theorem pu_bW9_0_29 (S : bT9) (v : Int64) : (bW9 S).set 0 (.inr (9, (([.int (b9g_told S), .ref 1, .ref 2, .ref 3, .long (b9g_drawn S), .int (b9g_drawnLength S), .ref 4, .int (b9g_taped S), .ref 5, .int (b9g_chosen S), .ref 6, .ref 7, .int (b9g_isLaid S), .ref 8, .ref 9, .ref 10, .int (b9g_nodeMany S), .int (b9g_levelMany S), .int (b9g_upper S), .int (b9g_upperNodes S), .int (b9g_areNodesLaid S), .ref 11, .ref 12, .ref 13, .int (b9g_itemMany S), .ref 14, .ref 15, .int (b9g_places S), .long (b9g_lowKey S), .long (b9g_highKey S), .int (b9g_lowLength S), .int (b9g_highLength S), .long (b9g_fromKey S), .long (b9g_toKey S), .int (b9g_fromLength S), .int (b9g_toLength S), .ref 16, .int (b9g_oneMany S), .int (b9g_rowLong S), .int (b9g_laidFor S), .ref 17, .int (b9g_signMany S), .int (b9g_hasImage S), .ref 18, .ref 19, .ref 20] : List Value).set 29 (.long v)))) = bW9 (b9s_highKey S v) := by
  obtain ⟨z1, z2, z3, z4, z5, z6, z7, z8, z9, z10, z11, z12, z13, z14, z15, z16, z17, z18, z19, z20, z21, z22, z23, z24, z25, z26, z27, z28, z29, z30, z31, z32, z33, z34, z35, z36, z37, z38, z39, z40, z41, z42, z43, z44, z45, z46⟩ := S
  rfl
theorem pu_bW9_0_31 (S : bT9) (v : Int32) : (bW9 S).set 0 (.inr (9, (([.int (b9g_told S), .ref 1, .ref 2, .ref 3, .long (b9g_drawn S), .int (b9g_drawnLength S), .ref 4, .int (b9g_taped S), .ref 5, .int (b9g_chosen S), .ref 6, .ref 7, .int (b9g_isLaid S), .ref 8, .ref 9, .ref 10, .int (b9g_nodeMany S), .int (b9g_levelMany S), .int (b9g_upper S), .int (b9g_upperNodes S), .int (b9g_areNodesLaid S), .ref 11, .ref 12, .ref 13, .int (b9g_itemMany S), .ref 14, .ref 15, .int (b9g_places S), .long (b9g_lowKey S), .long (b9g_highKey S), .int (b9g_lowLength S), .int (b9g_highLength S), .long (b9g_fromKey S), .long (b9g_toKey S), .int (b9g_fromLength S), .int (b9g_toLength S), .ref 16, .int (b9g_oneMany S), .int (b9g_rowLong S), .int (b9g_laidFor S), .ref 17, .int (b9g_signMany S), .int (b9g_hasImage S), .ref 18, .ref 19, .ref 20] : List Value).set 31 (.int v)))) = bW9 (b9s_highLength S v) := by
  obtain ⟨z1, z2, z3, z4, z5, z6, z7, z8, z9, z10, z11, z12, z13, z14, z15, z16, z17, z18, z19, z20, z21, z22, z23, z24, z25, z26, z27, z28, z29, z30, z31, z32, z33, z34, z35, z36, z37, z38, z39, z40, z41, z42, z43, z44, z45, z46⟩ := S
  rfl
theorem pu_bW9_0_28 (S : bT9) (v : Int64) : (bW9 S).set 0 (.inr (9, (([.int (b9g_told S), .ref 1, .ref 2, .ref 3, .long (b9g_drawn S), .int (b9g_drawnLength S), .ref 4, .int (b9g_taped S), .ref 5, .int (b9g_chosen S), .ref 6, .ref 7, .int (b9g_isLaid S), .ref 8, .ref 9, .ref 10, .int (b9g_nodeMany S), .int (b9g_levelMany S), .int (b9g_upper S), .int (b9g_upperNodes S), .int (b9g_areNodesLaid S), .ref 11, .ref 12, .ref 13, .int (b9g_itemMany S), .ref 14, .ref 15, .int (b9g_places S), .long (b9g_lowKey S), .long (b9g_highKey S), .int (b9g_lowLength S), .int (b9g_highLength S), .long (b9g_fromKey S), .long (b9g_toKey S), .int (b9g_fromLength S), .int (b9g_toLength S), .ref 16, .int (b9g_oneMany S), .int (b9g_rowLong S), .int (b9g_laidFor S), .ref 17, .int (b9g_signMany S), .int (b9g_hasImage S), .ref 18, .ref 19, .ref 20] : List Value).set 28 (.long v)))) = bW9 (b9s_lowKey S v) := by
  obtain ⟨z1, z2, z3, z4, z5, z6, z7, z8, z9, z10, z11, z12, z13, z14, z15, z16, z17, z18, z19, z20, z21, z22, z23, z24, z25, z26, z27, z28, z29, z30, z31, z32, z33, z34, z35, z36, z37, z38, z39, z40, z41, z42, z43, z44, z45, z46⟩ := S
  rfl
theorem pu_bW9_0_30 (S : bT9) (v : Int32) : (bW9 S).set 0 (.inr (9, (([.int (b9g_told S), .ref 1, .ref 2, .ref 3, .long (b9g_drawn S), .int (b9g_drawnLength S), .ref 4, .int (b9g_taped S), .ref 5, .int (b9g_chosen S), .ref 6, .ref 7, .int (b9g_isLaid S), .ref 8, .ref 9, .ref 10, .int (b9g_nodeMany S), .int (b9g_levelMany S), .int (b9g_upper S), .int (b9g_upperNodes S), .int (b9g_areNodesLaid S), .ref 11, .ref 12, .ref 13, .int (b9g_itemMany S), .ref 14, .ref 15, .int (b9g_places S), .long (b9g_lowKey S), .long (b9g_highKey S), .int (b9g_lowLength S), .int (b9g_highLength S), .long (b9g_fromKey S), .long (b9g_toKey S), .int (b9g_fromLength S), .int (b9g_toLength S), .ref 16, .int (b9g_oneMany S), .int (b9g_rowLong S), .int (b9g_laidFor S), .ref 17, .int (b9g_signMany S), .int (b9g_hasImage S), .ref 18, .ref 19, .ref 20] : List Value).set 30 (.int v)))) = bW9 (b9s_lowLength S v) := by
  obtain ⟨z1, z2, z3, z4, z5, z6, z7, z8, z9, z10, z11, z12, z13, z14, z15, z16, z17, z18, z19, z20, z21, z22, z23, z24, z25, z26, z27, z28, z29, z30, z31, z32, z33, z34, z35, z36, z37, z38, z39, z40, z41, z42, z43, z44, z45, z46⟩ := S
  rfl
theorem pu_bW9_0_32 (S : bT9) (v : Int64) : (bW9 S).set 0 (.inr (9, (([.int (b9g_told S), .ref 1, .ref 2, .ref 3, .long (b9g_drawn S), .int (b9g_drawnLength S), .ref 4, .int (b9g_taped S), .ref 5, .int (b9g_chosen S), .ref 6, .ref 7, .int (b9g_isLaid S), .ref 8, .ref 9, .ref 10, .int (b9g_nodeMany S), .int (b9g_levelMany S), .int (b9g_upper S), .int (b9g_upperNodes S), .int (b9g_areNodesLaid S), .ref 11, .ref 12, .ref 13, .int (b9g_itemMany S), .ref 14, .ref 15, .int (b9g_places S), .long (b9g_lowKey S), .long (b9g_highKey S), .int (b9g_lowLength S), .int (b9g_highLength S), .long (b9g_fromKey S), .long (b9g_toKey S), .int (b9g_fromLength S), .int (b9g_toLength S), .ref 16, .int (b9g_oneMany S), .int (b9g_rowLong S), .int (b9g_laidFor S), .ref 17, .int (b9g_signMany S), .int (b9g_hasImage S), .ref 18, .ref 19, .ref 20] : List Value).set 32 (.long v)))) = bW9 (b9s_fromKey S v) := by
  obtain ⟨z1, z2, z3, z4, z5, z6, z7, z8, z9, z10, z11, z12, z13, z14, z15, z16, z17, z18, z19, z20, z21, z22, z23, z24, z25, z26, z27, z28, z29, z30, z31, z32, z33, z34, z35, z36, z37, z38, z39, z40, z41, z42, z43, z44, z45, z46⟩ := S
  rfl
theorem pu_bW9_0_34 (S : bT9) (v : Int32) : (bW9 S).set 0 (.inr (9, (([.int (b9g_told S), .ref 1, .ref 2, .ref 3, .long (b9g_drawn S), .int (b9g_drawnLength S), .ref 4, .int (b9g_taped S), .ref 5, .int (b9g_chosen S), .ref 6, .ref 7, .int (b9g_isLaid S), .ref 8, .ref 9, .ref 10, .int (b9g_nodeMany S), .int (b9g_levelMany S), .int (b9g_upper S), .int (b9g_upperNodes S), .int (b9g_areNodesLaid S), .ref 11, .ref 12, .ref 13, .int (b9g_itemMany S), .ref 14, .ref 15, .int (b9g_places S), .long (b9g_lowKey S), .long (b9g_highKey S), .int (b9g_lowLength S), .int (b9g_highLength S), .long (b9g_fromKey S), .long (b9g_toKey S), .int (b9g_fromLength S), .int (b9g_toLength S), .ref 16, .int (b9g_oneMany S), .int (b9g_rowLong S), .int (b9g_laidFor S), .ref 17, .int (b9g_signMany S), .int (b9g_hasImage S), .ref 18, .ref 19, .ref 20] : List Value).set 34 (.int v)))) = bW9 (b9s_fromLength S v) := by
  obtain ⟨z1, z2, z3, z4, z5, z6, z7, z8, z9, z10, z11, z12, z13, z14, z15, z16, z17, z18, z19, z20, z21, z22, z23, z24, z25, z26, z27, z28, z29, z30, z31, z32, z33, z34, z35, z36, z37, z38, z39, z40, z41, z42, z43, z44, z45, z46⟩ := S
  rfl
theorem pu_bW9_0_33 (S : bT9) (v : Int64) : (bW9 S).set 0 (.inr (9, (([.int (b9g_told S), .ref 1, .ref 2, .ref 3, .long (b9g_drawn S), .int (b9g_drawnLength S), .ref 4, .int (b9g_taped S), .ref 5, .int (b9g_chosen S), .ref 6, .ref 7, .int (b9g_isLaid S), .ref 8, .ref 9, .ref 10, .int (b9g_nodeMany S), .int (b9g_levelMany S), .int (b9g_upper S), .int (b9g_upperNodes S), .int (b9g_areNodesLaid S), .ref 11, .ref 12, .ref 13, .int (b9g_itemMany S), .ref 14, .ref 15, .int (b9g_places S), .long (b9g_lowKey S), .long (b9g_highKey S), .int (b9g_lowLength S), .int (b9g_highLength S), .long (b9g_fromKey S), .long (b9g_toKey S), .int (b9g_fromLength S), .int (b9g_toLength S), .ref 16, .int (b9g_oneMany S), .int (b9g_rowLong S), .int (b9g_laidFor S), .ref 17, .int (b9g_signMany S), .int (b9g_hasImage S), .ref 18, .ref 19, .ref 20] : List Value).set 33 (.long v)))) = bW9 (b9s_toKey S v) := by
  obtain ⟨z1, z2, z3, z4, z5, z6, z7, z8, z9, z10, z11, z12, z13, z14, z15, z16, z17, z18, z19, z20, z21, z22, z23, z24, z25, z26, z27, z28, z29, z30, z31, z32, z33, z34, z35, z36, z37, z38, z39, z40, z41, z42, z43, z44, z45, z46⟩ := S
  rfl
theorem pu_bW9_0_35 (S : bT9) (v : Int32) : (bW9 S).set 0 (.inr (9, (([.int (b9g_told S), .ref 1, .ref 2, .ref 3, .long (b9g_drawn S), .int (b9g_drawnLength S), .ref 4, .int (b9g_taped S), .ref 5, .int (b9g_chosen S), .ref 6, .ref 7, .int (b9g_isLaid S), .ref 8, .ref 9, .ref 10, .int (b9g_nodeMany S), .int (b9g_levelMany S), .int (b9g_upper S), .int (b9g_upperNodes S), .int (b9g_areNodesLaid S), .ref 11, .ref 12, .ref 13, .int (b9g_itemMany S), .ref 14, .ref 15, .int (b9g_places S), .long (b9g_lowKey S), .long (b9g_highKey S), .int (b9g_lowLength S), .int (b9g_highLength S), .long (b9g_fromKey S), .long (b9g_toKey S), .int (b9g_fromLength S), .int (b9g_toLength S), .ref 16, .int (b9g_oneMany S), .int (b9g_rowLong S), .int (b9g_laidFor S), .ref 17, .int (b9g_signMany S), .int (b9g_hasImage S), .ref 18, .ref 19, .ref 20] : List Value).set 35 (.int v)))) = bW9 (b9s_toLength S v) := by
  obtain ⟨z1, z2, z3, z4, z5, z6, z7, z8, z9, z10, z11, z12, z13, z14, z15, z16, z17, z18, z19, z20, z21, z22, z23, z24, z25, z26, z27, z28, z29, z30, z31, z32, z33, z34, z35, z36, z37, z38, z39, z40, z41, z42, z43, z44, z45, z46⟩ := S
  rfl
theorem ge_bW9_16 (S : bT9) : (bW9 S)[16]? = some (.inl (0, 700, .inl (b9g_ones S))) := rfl
theorem ar_bW9_16 (S : bT9) (v : (Nat → Int32)) : (bW9 S).set 16 (.inl (0, 700, .inl v)) = bW9 (b9s_ones S v) := by
  obtain ⟨z1, z2, z3, z4, z5, z6, z7, z8, z9, z10, z11, z12, z13, z14, z15, z16, z17, z18, z19, z20, z21, z22, z23, z24, z25, z26, z27, z28, z29, z30, z31, z32, z33, z34, z35, z36, z37, z38, z39, z40, z41, z42, z43, z44, z45, z46⟩ := S
  rfl
theorem pu_bW9_0_37 (S : bT9) (v : Int32) : (bW9 S).set 0 (.inr (9, (([.int (b9g_told S), .ref 1, .ref 2, .ref 3, .long (b9g_drawn S), .int (b9g_drawnLength S), .ref 4, .int (b9g_taped S), .ref 5, .int (b9g_chosen S), .ref 6, .ref 7, .int (b9g_isLaid S), .ref 8, .ref 9, .ref 10, .int (b9g_nodeMany S), .int (b9g_levelMany S), .int (b9g_upper S), .int (b9g_upperNodes S), .int (b9g_areNodesLaid S), .ref 11, .ref 12, .ref 13, .int (b9g_itemMany S), .ref 14, .ref 15, .int (b9g_places S), .long (b9g_lowKey S), .long (b9g_highKey S), .int (b9g_lowLength S), .int (b9g_highLength S), .long (b9g_fromKey S), .long (b9g_toKey S), .int (b9g_fromLength S), .int (b9g_toLength S), .ref 16, .int (b9g_oneMany S), .int (b9g_rowLong S), .int (b9g_laidFor S), .ref 17, .int (b9g_signMany S), .int (b9g_hasImage S), .ref 18, .ref 19, .ref 20] : List Value).set 37 (.int v)))) = bW9 (b9s_oneMany S v) := by
  obtain ⟨z1, z2, z3, z4, z5, z6, z7, z8, z9, z10, z11, z12, z13, z14, z15, z16, z17, z18, z19, z20, z21, z22, z23, z24, z25, z26, z27, z28, z29, z30, z31, z32, z33, z34, z35, z36, z37, z38, z39, z40, z41, z42, z43, z44, z45, z46⟩ := S
  rfl
theorem pu_bW9_0_38 (S : bT9) (v : Int32) : (bW9 S).set 0 (.inr (9, (([.int (b9g_told S), .ref 1, .ref 2, .ref 3, .long (b9g_drawn S), .int (b9g_drawnLength S), .ref 4, .int (b9g_taped S), .ref 5, .int (b9g_chosen S), .ref 6, .ref 7, .int (b9g_isLaid S), .ref 8, .ref 9, .ref 10, .int (b9g_nodeMany S), .int (b9g_levelMany S), .int (b9g_upper S), .int (b9g_upperNodes S), .int (b9g_areNodesLaid S), .ref 11, .ref 12, .ref 13, .int (b9g_itemMany S), .ref 14, .ref 15, .int (b9g_places S), .long (b9g_lowKey S), .long (b9g_highKey S), .int (b9g_lowLength S), .int (b9g_highLength S), .long (b9g_fromKey S), .long (b9g_toKey S), .int (b9g_fromLength S), .int (b9g_toLength S), .ref 16, .int (b9g_oneMany S), .int (b9g_rowLong S), .int (b9g_laidFor S), .ref 17, .int (b9g_signMany S), .int (b9g_hasImage S), .ref 18, .ref 19, .ref 20] : List Value).set 38 (.int v)))) = bW9 (b9s_rowLong S v) := by
  obtain ⟨z1, z2, z3, z4, z5, z6, z7, z8, z9, z10, z11, z12, z13, z14, z15, z16, z17, z18, z19, z20, z21, z22, z23, z24, z25, z26, z27, z28, z29, z30, z31, z32, z33, z34, z35, z36, z37, z38, z39, z40, z41, z42, z43, z44, z45, z46⟩ := S
  rfl
theorem ge_bW9_17 (S : bT9) : (bW9 S)[17]? = some (.inl (0, 200, .inl (b9g_signs S))) := rfl
theorem ar_bW9_17 (S : bT9) (v : (Nat → Int32)) : (bW9 S).set 17 (.inl (0, 200, .inl v)) = bW9 (b9s_signs S v) := by
  obtain ⟨z1, z2, z3, z4, z5, z6, z7, z8, z9, z10, z11, z12, z13, z14, z15, z16, z17, z18, z19, z20, z21, z22, z23, z24, z25, z26, z27, z28, z29, z30, z31, z32, z33, z34, z35, z36, z37, z38, z39, z40, z41, z42, z43, z44, z45, z46⟩ := S
  rfl
theorem pu_bW9_0_41 (S : bT9) (v : Int32) : (bW9 S).set 0 (.inr (9, (([.int (b9g_told S), .ref 1, .ref 2, .ref 3, .long (b9g_drawn S), .int (b9g_drawnLength S), .ref 4, .int (b9g_taped S), .ref 5, .int (b9g_chosen S), .ref 6, .ref 7, .int (b9g_isLaid S), .ref 8, .ref 9, .ref 10, .int (b9g_nodeMany S), .int (b9g_levelMany S), .int (b9g_upper S), .int (b9g_upperNodes S), .int (b9g_areNodesLaid S), .ref 11, .ref 12, .ref 13, .int (b9g_itemMany S), .ref 14, .ref 15, .int (b9g_places S), .long (b9g_lowKey S), .long (b9g_highKey S), .int (b9g_lowLength S), .int (b9g_highLength S), .long (b9g_fromKey S), .long (b9g_toKey S), .int (b9g_fromLength S), .int (b9g_toLength S), .ref 16, .int (b9g_oneMany S), .int (b9g_rowLong S), .int (b9g_laidFor S), .ref 17, .int (b9g_signMany S), .int (b9g_hasImage S), .ref 18, .ref 19, .ref 20] : List Value).set 41 (.int v)))) = bW9 (b9s_signMany S v) := by
  obtain ⟨z1, z2, z3, z4, z5, z6, z7, z8, z9, z10, z11, z12, z13, z14, z15, z16, z17, z18, z19, z20, z21, z22, z23, z24, z25, z26, z27, z28, z29, z30, z31, z32, z33, z34, z35, z36, z37, z38, z39, z40, z41, z42, z43, z44, z45, z46⟩ := S
  rfl
theorem ge_bW9_20 (S : bT9) : (bW9 S)[20]? = some (.inl (0, 144, .inl (b9g_lengthImages S))) := rfl
theorem ar_bW9_20 (S : bT9) (v : (Nat → Int32)) : (bW9 S).set 20 (.inl (0, 144, .inl v)) = bW9 (b9s_lengthImages S v) := by
  obtain ⟨z1, z2, z3, z4, z5, z6, z7, z8, z9, z10, z11, z12, z13, z14, z15, z16, z17, z18, z19, z20, z21, z22, z23, z24, z25, z26, z27, z28, z29, z30, z31, z32, z33, z34, z35, z36, z37, z38, z39, z40, z41, z42, z43, z44, z45, z46⟩ := S
  rfl
theorem ge_bW9_19 (S : bT9) : (bW9 S)[19]? = some (.inl (1, 144, .inr (.inl (b9g_keyImages S)))) := rfl
theorem ar_bW9_19 (S : bT9) (v : (Nat → Int64)) : (bW9 S).set 19 (.inl (1, 144, .inr (.inl v))) = bW9 (b9s_keyImages S v) := by
  obtain ⟨z1, z2, z3, z4, z5, z6, z7, z8, z9, z10, z11, z12, z13, z14, z15, z16, z17, z18, z19, z20, z21, z22, z23, z24, z25, z26, z27, z28, z29, z30, z31, z32, z33, z34, z35, z36, z37, z38, z39, z40, z41, z42, z43, z44, z45, z46⟩ := S
  rfl
theorem ge_bW9_18 (S : bT9) : (bW9 S)[18]? = some (.inl (0, 23, .inl (b9g_images S))) := rfl
theorem ar_bW9_18 (S : bT9) (v : (Nat → Int32)) : (bW9 S).set 18 (.inl (0, 23, .inl v)) = bW9 (b9s_images S v) := by
  obtain ⟨z1, z2, z3, z4, z5, z6, z7, z8, z9, z10, z11, z12, z13, z14, z15, z16, z17, z18, z19, z20, z21, z22, z23, z24, z25, z26, z27, z28, z29, z30, z31, z32, z33, z34, z35, z36, z37, z38, z39, z40, z41, z42, z43, z44, z45, z46⟩ := S
  rfl
theorem pu_bW9_0_42 (S : bT9) (v : Int32) : (bW9 S).set 0 (.inr (9, (([.int (b9g_told S), .ref 1, .ref 2, .ref 3, .long (b9g_drawn S), .int (b9g_drawnLength S), .ref 4, .int (b9g_taped S), .ref 5, .int (b9g_chosen S), .ref 6, .ref 7, .int (b9g_isLaid S), .ref 8, .ref 9, .ref 10, .int (b9g_nodeMany S), .int (b9g_levelMany S), .int (b9g_upper S), .int (b9g_upperNodes S), .int (b9g_areNodesLaid S), .ref 11, .ref 12, .ref 13, .int (b9g_itemMany S), .ref 14, .ref 15, .int (b9g_places S), .long (b9g_lowKey S), .long (b9g_highKey S), .int (b9g_lowLength S), .int (b9g_highLength S), .long (b9g_fromKey S), .long (b9g_toKey S), .int (b9g_fromLength S), .int (b9g_toLength S), .ref 16, .int (b9g_oneMany S), .int (b9g_rowLong S), .int (b9g_laidFor S), .ref 17, .int (b9g_signMany S), .int (b9g_hasImage S), .ref 18, .ref 19, .ref 20] : List Value).set 42 (.int v)))) = bW9 (b9s_hasImage S v) := by
  obtain ⟨z1, z2, z3, z4, z5, z6, z7, z8, z9, z10, z11, z12, z13, z14, z15, z16, z17, z18, z19, z20, z21, z22, z23, z24, z25, z26, z27, z28, z29, z30, z31, z32, z33, z34, z35, z36, z37, z38, z39, z40, z41, z42, z43, z44, z45, z46⟩ := S
  rfl
