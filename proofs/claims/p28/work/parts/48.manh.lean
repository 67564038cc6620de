/-! METHODS PROVED BY HAND: set (static arrays), mode and row (String constants) -/
def bf_sp (k : Nat) (T4 : bT4) : Prop := b4g_count T4 = nI (bf_slen.getD k 0) ∧ ∀ j : Nat, j < bf_slen.getD k 0 → b4g_octets T4 j = (bf_sbyt.getD k []).getD j 0
def bf_is (lo n : Nat) (T4 : bT4) (r : Int32) : Prop := (∃ k : Nat, k < n ∧ r = nI k ∧ bf_sp (lo + k) T4 ∧ ∀ j : Nat, k < j → j < n → ¬ bf_sp (lo + j) T4) ∨ (r = -1 ∧ ∀ k : Nat, k < n → ¬ bf_sp (lo + k) T4)
def bf_at6 (f : List Int32) (i : Int32) : Int32 := if i < 0 then -1 else if (6 : Int32) ≤ i then -1 else f.getD i.toNatClampNeg 0
def wp_X8_set (S : bT8) (a1 a2 : Int32) (Q : Int32 → bT8 → Prop) : Prop :=
  (a1 < 0 ∨ (6 : Int32) ≤ a1 ∨ a2 < bf_at6 bf_least a1 ∨ bf_at6 bf_most a1 < a2 → Q 0 S) ∧
  (¬ a1 < 0 → ¬ (6 : Int32) ≤ a1 → ¬ a2 < bf_at6 bf_least a1 → ¬ bf_at6 bf_most a1 < a2 → vp_in a1 6 ∧ ∀ S2 : bT8, S2 = (b8s_now S (b2s_told (b8g_now S) (b3s_values (b2g_told (b8g_now S)) (upd (b3g_values (b2g_told (b8g_now S))) a1.toNatClampNeg a2)))) → Q 1 S2)
def wp_X8_mode (S : bT8) (Q : Int32 → bT8 → Prop) : Prop :=
  ∀ r : Int32, bf_is 0 4 (b8g_tape S) r → ∀ S1 : bT8, S1 = b8s_tape S (b4s_count (b8g_tape S) 0) → (r = -1 → Q r S1) ∧ (¬ r = -1 → ∀ S2 : bT8, S2 = b8s_now S1 (b2s_told (b8g_now S1) (b3s_mode (b2g_told (b8g_now S1)) r)) → Q r S2)
def wp_X8_row (S : bT8) (Q : Int32 → bT8 → Prop) : Prop :=
  ∀ r : Int32, bf_is 4 6 (b8g_tape S) r → ∀ S1 : bT8, S1 = b8s_tape S (b4s_count (b8g_tape S) 0) → (r = -1 → Q r S1) ∧ (¬ r = -1 → ∀ S2 : bT8, S2 = b8s_chosenRow S1 r → Q r S2)

