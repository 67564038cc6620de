theorem ge_bW8_6 (S : bT8) : (bW8 S)[6]? = some (.inl (0, 6, .inl (b3g_values (b2g_told (b8g_now S))))) := rfl
theorem ar_bW8_6 (S : bT8) (v : (Nat → Int32)) : (bW8 S).set 6 (.inl (0, 6, .inl v)) = bW8 (b8s_now S (b2s_told (b8g_now S) (b3s_values (b2g_told (b8g_now S)) v))) := by
  obtain ⟨⟨⟨⟨⟨⟨⟨⟨⟨z1, z2⟩, z3⟩, z4⟩, z5⟩, ⟨z6, z7⟩⟩, z8⟩, z9⟩, ⟨z10, z11⟩⟩, ⟨⟨⟨z12, z13⟩, z14⟩, ⟨z15, z16⟩⟩⟩ := S
  rfl
theorem pu_bW8_0_9 (S : bT8) (v : Int32) : (bW8 S).set 0 (.inr (8, (([.ref 1, .ref 16, .int (b8g_isKept S), .ref 31, .ref 45, .ref 58, .ref 61, .ref 64, .ref 66, .int (b8g_chosenRow S)] : List Value).set 9 (.int v)))) = bW8 (b8s_chosenRow S v) := by
  obtain ⟨⟨⟨⟨z1, z2⟩, z3⟩, ⟨z4, z5⟩⟩, ⟨⟨⟨z6, z7⟩, z8⟩, ⟨z9, z10⟩⟩⟩ := S
  rfl
theorem pu_bW8_2_2 (S : bT8) (v : Int32) : (bW8 S).set 2 (.inr (3, (([.ref 3, .ref 6, .int (b3g_mode (b2g_told (b8g_now S)))] : List Value).set 2 (.int v)))) = bW8 (b8s_now S (b2s_told (b8g_now S) (b3s_mode (b2g_told (b8g_now S)) v))) := by
  obtain ⟨⟨⟨⟨⟨⟨⟨⟨⟨z1, z2⟩, z3⟩, z4⟩, z5⟩, ⟨z6, z7⟩⟩, z8⟩, z9⟩, ⟨z10, z11⟩⟩, ⟨⟨⟨z12, z13⟩, z14⟩, ⟨z15, z16⟩⟩⟩ := S
  rfl
