def wp_X9_isAhead (S : bT9) (a1 : Int64) (a3 : Int32) (Q : Int32 → Prop) : Prop := (wp_X9_isLess S (a1) (a3) ((b9g_lowKey S)) ((b9g_lowLength S)) (fun r1 => (bf_bool r1 ∧ Q r1)))
set_option maxRecDepth 20000 in
theorem t_X9_isAhead {X : bf_X} (C : bf_C X RX9 cX9_isAhead 4 (some .boolean)) (hR : bf_Rm X 1 26) (S : bT9) (a1 : Int64) (a3 : Int32) (Q : Int32 → Prop) (h : wp_X9_isAhead S a1 a3 Q) : bf_A X (bf_Zi X bW9 (fun r u => u = S ∧ Q r)) 4 0 [some (.ref 0), some (.long a1), none, some (.int a3)] [] (bW9 S) := by
  unfold wp_X9_isAhead at h
  refine bs_aload_n C (bf_dk dd_X9_isAhead 0 rfl) rfl ?_
  refine bs_lload_n C (bf_dk dd_X9_isAhead 1 rfl) rfl ?_
  refine bs_iload_n C (bf_dk dd_X9_isAhead 2 rfl) rfl ?_
  refine bs_aload_n C (bf_dk dd_X9_isAhead 3 rfl) rfl ?_
  refine bs_get C (bf_dk dd_X9_isAhead 4 rfl) cl_9 in_9 28 (Nat.le_of_ble_eq_true rfl) rfl f_9_271 (ge_bW9_0 S) rfl ?_
  refine bs_aload_n C (bf_dk dd_X9_isAhead 5 rfl) rfl ?_
  refine bs_get C (bf_dk dd_X9_isAhead 6 rfl) cl_9 in_9 30 (Nat.le_of_ble_eq_true rfl) rfl f_9_274 (ge_bW9_0 S) rfl ?_
  refine bs_selfPV_i C hR (c_X9_isLess _ _ _ _ _ S (a1) (a3) ((b9g_lowKey S)) ((b9g_lowLength S)) _ h) my_X9_isLess m_9_106 rfl cl_9 (ge_bW9_0 _) rfl (Nat.le_of_ble_eq_true rfl) (Nat.le_of_ble_eq_true rfl) (st := []) (Nat.le_of_ble_eq_true rfl) (bf_dk dd_X9_isAhead 7 rfl) rfl (fun r1 h => ?_)
  obtain ⟨hi, h⟩ := h
  exact bs_zret (u := S) C (bf_dk dd_X9_isAhead 8 rfl) hi rfl ⟨rfl, h⟩
theorem c_X9_isAhead (l : Launch) (dC : Nat → ClassId) (dI : Nat → Nat → Nat) (ac : Nat → ClassId) (al : Nat → Nat) (S : bT9) (a1 : Int64) (a3 : Int32) (Q : Int32 → Prop) (h : wp_X9_isAhead S a1 a3 Q) : bf_M l yX9_isAhead cX9_isAhead 4 (some .boolean) 1 26 dC dI ac al [.ref 0, .long a1, .int a3] (bW9 S) (bf_Ki dC dI ac al bW9 (fun r u => u = S ∧ Q r)) := by
  refine bf_start [some (.ref 0), some (.long a1), none, some (.int a3)] (by decide) (Nat.le_of_ble_eq_true rfl) (bf_s1 (bf_s1 (bf_sn (bf_s1 bf_s0)))) ?_
  intro X hl C hR e1 e2 e3 e4
  subst e1; subst e2; subst e3; subst e4
  exact t_X9_isAhead C hR S a1 a3 Q h
def wp_X9_isBehind (S : bT9) (a1 : Int64) (a3 : Int32) (Q : Int32 → Prop) : Prop := (wp_X9_isLess S ((b9g_highKey S)) ((b9g_highLength S)) (a1) (a3) (fun r1 => (bf_bool r1 ∧ Q r1)))
set_option maxRecDepth 20000 in
theorem t_X9_isBehind {X : bf_X} (C : bf_C X RX9 cX9_isBehind 4 (some .boolean)) (hR : bf_Rm X 1 26) (S : bT9) (a1 : Int64) (a3 : Int32) (Q : Int32 → Prop) (h : wp_X9_isBehind S a1 a3 Q) : bf_A X (bf_Zi X bW9 (fun r u => u = S ∧ Q r)) 4 0 [some (.ref 0), some (.long a1), none, some (.int a3)] [] (bW9 S) := by
  unfold wp_X9_isBehind at h
  refine bs_aload_n C (bf_dk dd_X9_isBehind 0 rfl) rfl ?_
  refine bs_aload_n C (bf_dk dd_X9_isBehind 1 rfl) rfl ?_
  refine bs_get C (bf_dk dd_X9_isBehind 2 rfl) cl_9 in_9 29 (Nat.le_of_ble_eq_true rfl) rfl f_9_277 (ge_bW9_0 S) rfl ?_
  refine bs_aload_n C (bf_dk dd_X9_isBehind 3 rfl) rfl ?_
  refine bs_get C (bf_dk dd_X9_isBehind 4 rfl) cl_9 in_9 31 (Nat.le_of_ble_eq_true rfl) rfl f_9_280 (ge_bW9_0 S) rfl ?_
  refine bs_lload_n C (bf_dk dd_X9_isBehind 5 rfl) rfl ?_
  refine bs_iload_n C (bf_dk dd_X9_isBehind 6 rfl) rfl ?_
  refine bs_selfPV_i C hR (c_X9_isLess _ _ _ _ _ S ((b9g_highKey S)) ((b9g_highLength S)) (a1) (a3) _ h) my_X9_isLess m_9_106 rfl cl_9 (ge_bW9_0 _) rfl (Nat.le_of_ble_eq_true rfl) (Nat.le_of_ble_eq_true rfl) (st := []) (Nat.le_of_ble_eq_true rfl) (bf_dk dd_X9_isBehind 7 rfl) rfl (fun r1 h => ?_)
  obtain ⟨hi, h⟩ := h
  exact bs_zret (u := S) C (bf_dk dd_X9_isBehind 8 rfl) hi rfl ⟨rfl, h⟩
theorem c_X9_isBehind (l : Launch) (dC : Nat → ClassId) (dI : Nat → Nat → Nat) (ac : Nat → ClassId) (al : Nat → Nat) (S : bT9) (a1 : Int64) (a3 : Int32) (Q : Int32 → Prop) (h : wp_X9_isBehind S a1 a3 Q) : bf_M l yX9_isBehind cX9_isBehind 4 (some .boolean) 1 26 dC dI ac al [.ref 0, .long a1, .int a3] (bW9 S) (bf_Ki dC dI ac al bW9 (fun r u => u = S ∧ Q r)) := by
  refine bf_start [some (.ref 0), some (.long a1), none, some (.int a3)] (by decide) (Nat.le_of_ble_eq_true rfl) (bf_s1 (bf_s1 (bf_sn (bf_s1 bf_s0)))) ?_
  intro X hl C hR e1 e2 e3 e4
  subst e1; subst e2; subst e3; subst e4
  exact t_X9_isBehind C hR S a1 a3 Q h
def wp_X9_leafFor_41 (S : bT9) (x1 : Int64) (x3 : Int32) (x4 : Int32) (x5 : Int32) (Q : Int32 → (bT9) → Prop) (B3 : Int64 → Int32 → Int32 → Int32 → (bT9) → Prop) : Prop := (B3 (x1) (x3) (x4) ((x5 + (1 : Int32))) S)
set_option maxRecDepth 20000 in
theorem t_X9_leafFor_41 {X : bf_X} (C : bf_C X RX9 cX9_leafFor 6 (some .int)) (hR : bf_Rm X 4 89) (S : bT9) (x1 : Int64) (x3 : Int32) (x4 : Int32) (x5 : Int32) (Q : Int32 → (bT9) → Prop) (B3 : Int64 → Int32 → Int32 → Int32 → (bT9) → Prop) (hB3 : ∀ (x1 : Int64) (x3 : Int32) (x4 : Int32) (x5 : Int32) (S : bT9), B3 x1 x3 x4 x5 S → bf_A X (bf_Zi X bW9 Q) 6 3 [some (.ref 0), some (.long x1), none, some (.int x3), some (.int x4), some (.int x5)] [] (bW9 S)) (h : wp_X9_leafFor_41 S x1 x3 x4 x5 Q B3) : bf_A X (bf_Zi X bW9 Q) 6 41 [some (.ref 0), some (.long x1), none, some (.int x3), some (.int x4), some (.int x5)] [] (bW9 S) := by
  unfold wp_X9_leafFor_41 at h
  refine bs_iinc C (bf_dk dd_X9_leafFor 22 rfl) (x5 + (1 : Int32)) rfl rfl (Nat.le_of_ble_eq_true rfl) (Nat.le_of_ble_eq_true rfl) (lv2 := [some (.ref 0), some (.long x1), none, some (.int x3), some (.int x4), some (.int (x5 + (1 : Int32)))]) rfl ?_
  refine bs_goto C (bf_dk dd_X9_leafFor 23 rfl) (tgt := 3) rfl ?_
  exact bs_weak (bf_s1 (bf_s1 (bf_sn (bf_s1 (bf_s1 (bf_s1 bf_s0)))))) (hB3 (x1) (x3) (x4) ((x5 + (1 : Int32))) S h)
def wp_X9_leafFor_3b (S : bT9) (x1 : Int64) (x3 : Int32) (x4 : Int32) (x5 : Int32) (Q : Int32 → (bT9) → Prop) (B3 : Int64 → Int32 → Int32 → Int32 → (bT9) → Prop) : Prop := (wp_X9_leaves S (fun r1 u2 => ((r1 ≤ x5 → (Q (-1 : Int32) u2)) ∧ (¬ r1 ≤ x5 → (wp_X9_bounds u2 (x5) (x4) (fun u4 => (wp_X9_isAhead u4 (x1) (x3) (fun r5 => ((¬ r5 = 0 → (wp_X9_leafFor_41 u4 (x1) (x3) (x4) (x5) Q B3)) ∧ (r5 = 0 → (wp_X9_isBehind u4 (x1) (x3) (fun r7 => ((¬ r7 = 0 → (wp_X9_leafFor_41 u4 (x1) (x3) (x4) (x5) Q B3)) ∧ (r7 = 0 → (Q x5 u4)))))))))))))))
set_option maxRecDepth 20000 in
theorem t_X9_leafFor_3b {X : bf_X} (C : bf_C X RX9 cX9_leafFor 6 (some .int)) (hR : bf_Rm X 4 89) (S : bT9) (x1 : Int64) (x3 : Int32) (x4 : Int32) (x5 : Int32) (Q : Int32 → (bT9) → Prop) (B3 : Int64 → Int32 → Int32 → Int32 → (bT9) → Prop) (hB3 : ∀ (x1 : Int64) (x3 : Int32) (x4 : Int32) (x5 : Int32) (S : bT9), B3 x1 x3 x4 x5 S → bf_A X (bf_Zi X bW9 Q) 6 3 [some (.ref 0), some (.long x1), none, some (.int x3), some (.int x4), some (.int x5)] [] (bW9 S)) (h : wp_X9_leafFor_3b S x1 x3 x4 x5 Q B3) : bf_A X (bf_Zi X bW9 Q) 6 3 [some (.ref 0), some (.long x1), none, some (.int x3), some (.int x4), some (.int x5)] [] (bW9 S) := by
  unfold wp_X9_leafFor_3b at h
  refine bs_iload C (bf_dk dd_X9_leafFor 2 rfl) rfl ?_
  refine bs_aload_n C (bf_dk dd_X9_leafFor 3 rfl) rfl ?_
  refine bs_selfV_i C hR (c_X9_leaves _ _ _ _ _ S _ h) my_X9_leaves m_9_268 rfl cl_9 (ge_bW9_0 _) rfl (Nat.le_of_ble_eq_true rfl) (Nat.le_of_ble_eq_true rfl) (st := [.int x5]) (Nat.le_of_ble_eq_true rfl) (bf_dk dd_X9_leafFor 4 rfl) rfl (len := 21) (fun _ => rfl) (fun r1 u2 h => ?_)
  refine bs_icmp_ge C (bf_dk dd_X9_leafFor 5 rfl) (tgt := 47) rfl (fun c => ?_) (fun c => ?_)
  · replace h := h.1 c
    refine bs_iconst C (bf_dk dd_X9_leafFor 24 rfl) (-1 : Int32) (by decide) ?_
    exact bs_iret (u := u2) C (bf_dk dd_X9_leafFor 25 rfl) rfl h
  · replace h := h.2 c
    refine bs_aload_n C (bf_dk dd_X9_leafFor 6 rfl) rfl ?_
    refine bs_iload C (bf_dk dd_X9_leafFor 7 rfl) rfl ?_
    refine bs_iload C (bf_dk dd_X9_leafFor 8 rfl) rfl ?_
    refine bs_selfV_v C hR (c_X9_bounds _ _ _ _ _ u2 (x5) (x4) _ h) my_X9_bounds m_9_292 rfl cl_9 (ge_bW9_0 _) rfl (Nat.le_of_ble_eq_true rfl) (Nat.le_of_ble_eq_true rfl) (st := []) (Nat.le_of_ble_eq_true rfl) (bf_dk dd_X9_leafFor 9 rfl) rfl (len := 21) (fun _ => rfl) (fun u4 h => ?_)
    refine bs_aload_n C (bf_dk dd_X9_leafFor 10 rfl) rfl ?_
    refine bs_lload_n C (bf_dk dd_X9_leafFor 11 rfl) rfl ?_
    refine bs_iload_n C (bf_dk dd_X9_leafFor 12 rfl) rfl ?_
    refine bs_selfPV_i C hR (c_X9_isAhead _ _ _ _ _ u4 (x1) (x3) _ h) my_X9_isAhead m_9_296 rfl cl_9 (ge_bW9_0 _) rfl (Nat.le_of_ble_eq_true rfl) (Nat.le_of_ble_eq_true rfl) (st := []) (Nat.le_of_ble_eq_true rfl) (bf_dk dd_X9_leafFor 13 rfl) rfl (fun r5 h => ?_)
    refine bs_if_ne C (bf_dk dd_X9_leafFor 14 rfl) (tgt := 41) rfl (fun c => ?_) (fun c => ?_)
    · replace h := h.1 c
      exact bs_weak (bf_s1 (bf_s1 (bf_sn (bf_s1 (bf_s1 (bf_s1 bf_s0)))))) (t_X9_leafFor_41 C hR u4 (x1) (x3) (x4) (x5) Q B3 hB3 h)
    · replace h := h.2 c
      refine bs_aload_n C (bf_dk dd_X9_leafFor 15 rfl) rfl ?_
      refine bs_lload_n C (bf_dk dd_X9_leafFor 16 rfl) rfl ?_
      refine bs_iload_n C (bf_dk dd_X9_leafFor 17 rfl) rfl ?_
      refine bs_selfPV_i C hR (c_X9_isBehind _ _ _ _ _ u4 (x1) (x3) _ h) my_X9_isBehind m_9_300 rfl cl_9 (ge_bW9_0 _) rfl (Nat.le_of_ble_eq_true rfl) (Nat.le_of_ble_eq_true rfl) (st := []) (Nat.le_of_ble_eq_true rfl) (bf_dk dd_X9_leafFor 18 rfl) rfl (fun r7 h => ?_)
      refine bs_if_ne C (bf_dk dd_X9_leafFor 19 rfl) (tgt := 41) rfl (fun c => ?_) (fun c => ?_)
      · replace h := h.1 c
        exact bs_weak (bf_s1 (bf_s1 (bf_sn (bf_s1 (bf_s1 (bf_s1 bf_s0)))))) (t_X9_leafFor_41 C hR u4 (x1) (x3) (x4) (x5) Q B3 hB3 h)
      · replace h := h.2 c
        refine bs_iload C (bf_dk dd_X9_leafFor 20 rfl) rfl ?_
        exact bs_iret (u := u4) C (bf_dk dd_X9_leafFor 21 rfl) rfl h
def wp_X9_leafFor_3 (S : bT9) (x1 : Int64) (x3 : Int32) (x4 : Int32) (x5 : Int32) (Q : Int32 → (bT9) → Prop) : Prop := ∃ I : Nat → Int64 → Int32 → Int32 → Int32 → (bT9) → Prop, (∃ n : Nat, I n x1 x3 x4 x5 S) ∧ ∀ (n : Nat) (x1 : Int64) (x3 : Int32) (x4 : Int32) (x5 : Int32) (S : bT9), I n x1 x3 x4 x5 S → wp_X9_leafFor_3b S x1 x3 x4 x5 Q (fun x1 x3 x4 x5 S => ∃ n2 : Nat, n2 < n ∧ I n2 x1 x3 x4 x5 S)
theorem t_X9_leafFor_3 {X : bf_X} (C : bf_C X RX9 cX9_leafFor 6 (some .int)) (hR : bf_Rm X 4 89) (S : bT9) (x1 : Int64) (x3 : Int32) (x4 : Int32) (x5 : Int32) (Q : Int32 → (bT9) → Prop) (h : wp_X9_leafFor_3 S x1 x3 x4 x5 Q) : bf_A X (bf_Zi X bW9 Q) 6 3 [some (.ref 0), some (.long x1), none, some (.int x3), some (.int x4), some (.int x5)] [] (bW9 S) := by
  obtain ⟨I, ⟨n0, h0⟩, hI⟩ := h
  have key : ∀ (n : Nat) (x1 : Int64) (x3 : Int32) (x4 : Int32) (x5 : Int32) (S : bT9), I n x1 x3 x4 x5 S → bf_A X (bf_Zi X bW9 Q) 6 3 [some (.ref 0), some (.long x1), none, some (.int x3), some (.int x4), some (.int x5)] [] (bW9 S) := by
    intro n
    induction n using Nat.strongRecOn with
    | _ n ih =>
      intro x1 x3 x4 x5 S hi
      exact t_X9_leafFor_3b C hR S x1 x3 x4 x5 Q _ (fun x1 x3 x4 x5 S hb => by obtain ⟨n2, hn, hi2⟩ := hb; exact ih n2 hn x1 x3 x4 x5 S hi2) (hI n x1 x3 x4 x5 S hi)
  exact key n0 x1 x3 x4 x5 S h0
def wp_X9_leafFor (S : bT9) (a1 : Int64) (a3 : Int32) (a4 : Int32) (Q : Int32 → (bT9) → Prop) : Prop := (wp_X9_leafFor_3 S (a1) (a3) (a4) ((0 : Int32)) Q)
set_option maxRecDepth 20000 in
theorem t_X9_leafFor {X : bf_X} (C : bf_C X RX9 cX9_leafFor 6 (some .int)) (hR : bf_Rm X 4 89) (S : bT9) (a1 : Int64) (a3 : Int32) (a4 : Int32) (Q : Int32 → (bT9) → Prop) (h : wp_X9_leafFor S a1 a3 a4 Q) : bf_A X (bf_Zi X bW9 Q) 6 0 [some (.ref 0), some (.long a1), none, some (.int a3), some (.int a4), none] [] (bW9 S) := by
  unfold wp_X9_leafFor at h
  refine bs_iconst C (bf_dk dd_X9_leafFor 0 rfl) (0 : Int32) (by decide) ?_
  refine bs_istore C (bf_dk dd_X9_leafFor 1 rfl) (Nat.le_of_ble_eq_true rfl) (Nat.le_of_ble_eq_true rfl) (lv2 := [some (.ref 0), some (.long a1), none, some (.int a3), some (.int a4), some (.int (0 : Int32))]) rfl ?_
  exact bs_weak (bf_s1 (bf_s1 (bf_sn (bf_s1 (bf_s1 (bf_s1 bf_s0)))))) (t_X9_leafFor_3 C hR S (a1) (a3) (a4) ((0 : Int32)) Q h)
theorem c_X9_leafFor (l : Launch) (dC : Nat → ClassId) (dI : Nat → Nat → Nat) (ac : Nat → ClassId) (al : Nat → Nat) (S : bT9) (a1 : Int64) (a3 : Int32) (a4 : Int32) (Q : Int32 → (bT9) → Prop) (h : wp_X9_leafFor S a1 a3 a4 Q) : bf_M l yX9_leafFor cX9_leafFor 6 (some .int) 4 89 dC dI ac al [.ref 0, .long a1, .int a3, .int a4] (bW9 S) (bf_Ki dC dI ac al bW9 Q) := by
  refine bf_start [some (.ref 0), some (.long a1), none, some (.int a3), some (.int a4), none] (by decide) (Nat.le_of_ble_eq_true rfl) (bf_s1 (bf_s1 (bf_sn (bf_s1 (bf_s1 (bf_en 1)))))) ?_
  intro X hl C hR e1 e2 e3 e4
  subst e1; subst e2; subst e3; subst e4
  exact t_X9_leafFor C hR S a1 a3 a4 Q h
def wp_X9_hash_12b (S : bT9) (x1 : Int64) (x3 : Int32) (x4 : Int32) (x5 : Int32) (x6 : Int32) (Q : Int32 → Prop) (B12 : Int64 → Int32 → Int32 → Int32 → Int32 → Prop) : Prop := ((x3 ≤ x6 → (∀ v1 : Int32, v1 = (x5 ^^^ (((x5).toUInt32 >>> (((15 : Int32)).toUInt32 &&& Int32.toUInt32 31)).toInt32)) → (Q (v1 &&& (((1 : Int32) <<< (x4 &&& 31)) - (1 : Int32)))))) ∧ (¬ x3 ≤ x6 → (wp_X9_byteOf S (x1) (x6) (fun r2 => (∀ v4 : Int32, v4 = ((x5 ^^^ r2) * (16777619 : Int32)) → (B12 (x1) (x3) (x4) (v4) ((x6 + (1 : Int32)))))))))
set_option maxRecDepth 20000 in
theorem t_X9_hash_12b {X : bf_X} (C : bf_C X RX9 cX9_hash 7 (some .int)) (hR : bf_Rm X 1 23) (S : bT9) (x1 : Int64) (x3 : Int32) (x4 : Int32) (x5 : Int32) (x6 : Int32) (Q : Int32 → Prop) (B12 : Int64 → Int32 → Int32 → Int32 → Int32 → Prop) (hB12 : ∀ (x1 : Int64) (x3 : Int32) (x4 : Int32) (x5 : Int32) (x6 : Int32), B12 x1 x3 x4 x5 x6 → bf_A X (bf_Zi X bW9 (fun r u => u = S ∧ Q r)) 7 12 [some (.ref 0), some (.long x1), none, some (.int x3), some (.int x4), some (.int x5), some (.int x6)] [] (bW9 S)) (h : wp_X9_hash_12b S x1 x3 x4 x5 x6 Q B12) : bf_A X (bf_Zi X bW9 (fun r u => u = S ∧ Q r)) 7 12 [some (.ref 0), some (.long x1), none, some (.int x3), some (.int x4), some (.int x5), some (.int x6)] [] (bW9 S) := by
  unfold wp_X9_hash_12b at h
  refine bs_iload C (bf_dk dd_X9_hash 7 rfl) rfl ?_
  refine bs_iload_n C (bf_dk dd_X9_hash 8 rfl) rfl ?_
  refine bs_icmp_ge C (bf_dk dd_X9_hash 9 rfl) (tgt := 40) rfl (fun c => ?_) (fun c => ?_)
  · replace h := h.1 c
    refine bs_iload C (bf_dk dd_X9_hash 21 rfl) rfl ?_
    refine bs_iload C (bf_dk dd_X9_hash 22 rfl) rfl ?_
    refine bs_bipush C (bf_dk dd_X9_hash 23 rfl) (15 : Int32) (by decide) ?_
    refine bs_iushr C (bf_dk dd_X9_hash 24 rfl) ?_
    refine bs_ixor C (bf_dk dd_X9_hash 25 rfl) ?_
    refine bs_name (fun v1 ev1 => ?_)
    replace h := h v1 ev1
    refine bs_istore C (bf_dk dd_X9_hash 26 rfl) (Nat.le_of_ble_eq_true rfl) (Nat.le_of_ble_eq_true rfl) (lv2 := [some (.ref 0), some (.long x1), none, some (.int x3), some (.int x4), some (.int v1), some (.int x6)]) rfl ?_
    refine bs_iload C (bf_dk dd_X9_hash 27 rfl) rfl ?_
    refine bs_iconst C (bf_dk dd_X9_hash 28 rfl) (1 : Int32) (by decide) ?_
    refine bs_iload C (bf_dk dd_X9_hash 29 rfl) rfl ?_
    refine bs_ishl C (bf_dk dd_X9_hash 30 rfl) ?_
    refine bs_iconst C (bf_dk dd_X9_hash 31 rfl) (1 : Int32) (by decide) ?_
    refine bs_isub C (bf_dk dd_X9_hash 32 rfl) ?_
    refine bs_iand C (bf_dk dd_X9_hash 33 rfl) ?_
    exact bs_iret (u := S) C (bf_dk dd_X9_hash 34 rfl) rfl ⟨rfl, h⟩
  · replace h := h.2 c
    refine bs_iload C (bf_dk dd_X9_hash 10 rfl) rfl ?_
    refine bs_aload_n C (bf_dk dd_X9_hash 11 rfl) rfl ?_
    refine bs_lload_n C (bf_dk dd_X9_hash 12 rfl) rfl ?_
    refine bs_iload C (bf_dk dd_X9_hash 13 rfl) rfl ?_
    refine bs_selfPV_i C hR (c_X9_byteOf _ _ _ _ _ S (x1) (x6) _ h) my_X9_byteOf m_9_181 rfl cl_9 (ge_bW9_0 _) rfl (Nat.le_of_ble_eq_true rfl) (Nat.le_of_ble_eq_true rfl) (st := [.int x5]) (Nat.le_of_ble_eq_true rfl) (bf_dk dd_X9_hash 14 rfl) rfl (fun r2 h => ?_)
    refine bs_ixor C (bf_dk dd_X9_hash 15 rfl) ?_
    refine bs_ldcw C (bf_dk dd_X9_hash 16 rfl) k_9_303 ?_
    refine bs_imul C (bf_dk dd_X9_hash 17 rfl) ?_
    refine bs_name (fun v4 ev4 => ?_)
    replace h := h v4 ev4
    refine bs_istore C (bf_dk dd_X9_hash 18 rfl) (Nat.le_of_ble_eq_true rfl) (Nat.le_of_ble_eq_true rfl) (lv2 := [some (.ref 0), some (.long x1), none, some (.int x3), some (.int x4), some (.int v4), some (.int x6)]) rfl ?_
    refine bs_iinc C (bf_dk dd_X9_hash 19 rfl) (x6 + (1 : Int32)) rfl rfl (Nat.le_of_ble_eq_true rfl) (Nat.le_of_ble_eq_true rfl) (lv2 := [some (.ref 0), some (.long x1), none, some (.int x3), some (.int x4), some (.int v4), some (.int (x6 + (1 : Int32)))]) rfl ?_
    refine bs_goto C (bf_dk dd_X9_hash 20 rfl) (tgt := 12) rfl ?_
    exact bs_weak (bf_s1 (bf_s1 (bf_sn (bf_s1 (bf_s1 (bf_s1 (bf_s1 bf_s0))))))) (hB12 (x1) (x3) (x4) (v4) ((x6 + (1 : Int32))) h)
def wp_X9_hash_12 (S : bT9) (x1 : Int64) (x3 : Int32) (x4 : Int32) (x5 : Int32) (x6 : Int32) (Q : Int32 → Prop) : Prop := ∃ I : Nat → Int64 → Int32 → Int32 → Int32 → Int32 → Prop, (∃ n : Nat, I n x1 x3 x4 x5 x6) ∧ ∀ (n : Nat) (x1 : Int64) (x3 : Int32) (x4 : Int32) (x5 : Int32) (x6 : Int32), I n x1 x3 x4 x5 x6 → wp_X9_hash_12b S x1 x3 x4 x5 x6 Q (fun x1 x3 x4 x5 x6 => ∃ n2 : Nat, n2 < n ∧ I n2 x1 x3 x4 x5 x6)
theorem t_X9_hash_12 {X : bf_X} (C : bf_C X RX9 cX9_hash 7 (some .int)) (hR : bf_Rm X 1 23) (S : bT9) (x1 : Int64) (x3 : Int32) (x4 : Int32) (x5 : Int32) (x6 : Int32) (Q : Int32 → Prop) (h : wp_X9_hash_12 S x1 x3 x4 x5 x6 Q) : bf_A X (bf_Zi X bW9 (fun r u => u = S ∧ Q r)) 7 12 [some (.ref 0), some (.long x1), none, some (.int x3), some (.int x4), some (.int x5), some (.int x6)] [] (bW9 S) := by
  obtain ⟨I, ⟨n0, h0⟩, hI⟩ := h
  have key : ∀ (n : Nat) (x1 : Int64) (x3 : Int32) (x4 : Int32) (x5 : Int32) (x6 : Int32), I n x1 x3 x4 x5 x6 → bf_A X (bf_Zi X bW9 (fun r u => u = S ∧ Q r)) 7 12 [some (.ref 0), some (.long x1), none, some (.int x3), some (.int x4), some (.int x5), some (.int x6)] [] (bW9 S) := by
    intro n
    induction n using Nat.strongRecOn with
    | _ n ih =>
      intro x1 x3 x4 x5 x6 hi
      exact t_X9_hash_12b C hR S x1 x3 x4 x5 x6 Q _ (fun x1 x3 x4 x5 x6 hb => by obtain ⟨n2, hn, hi2⟩ := hb; exact ih n2 hn x1 x3 x4 x5 x6 hi2) (hI n x1 x3 x4 x5 x6 hi)
  exact key n0 x1 x3 x4 x5 x6 h0
def wp_X9_hash (S : bT9) (a1 : Int64) (a3 : Int32) (a4 : Int32) (Q : Int32 → Prop) : Prop := (vp_in (16 : Int32) 23 ∧ (wp_X9_hash_12 S (a1) (a3) (a4) (((b9g_now S) ((16 : Int32)).toNatClampNeg)) ((0 : Int32)) Q))
set_option maxRecDepth 20000 in
theorem t_X9_hash {X : bf_X} (C : bf_C X RX9 cX9_hash 7 (some .int)) (hR : bf_Rm X 1 23) (S : bT9) (a1 : Int64) (a3 : Int32) (a4 : Int32) (Q : Int32 → Prop) (h : wp_X9_hash S a1 a3 a4 Q) : bf_A X (bf_Zi X bW9 (fun r u => u = S ∧ Q r)) 7 0 [some (.ref 0), some (.long a1), none, some (.int a3), some (.int a4), none, none] [] (bW9 S) := by
  unfold wp_X9_hash at h
  refine bs_aload_n C (bf_dk dd_X9_hash 0 rfl) rfl ?_
  refine bs_get C (bf_dk dd_X9_hash 1 rfl) cl_9 in_9 1 (Nat.le_of_ble_eq_true rfl) rfl f_9_7 (ge_bW9_0 S) rfl ?_
  refine bs_bipush C (bf_dk dd_X9_hash 2 rfl) (16 : Int32) (by decide) ?_
  obtain ⟨hi, h⟩ := h
  refine bs_iald C (bf_dk dd_X9_hash 3 rfl) (ge_bW9_1 S) hi ?_
  refine bs_istore C (bf_dk dd_X9_hash 4 rfl) (Nat.le_of_ble_eq_true rfl) (Nat.le_of_ble_eq_true rfl) (lv2 := [some (.ref 0), some (.long a1), none, some (.int a3), some (.int a4), some (.int ((b9g_now S) ((16 : Int32)).toNatClampNeg)), none]) rfl ?_
  refine bs_iconst C (bf_dk dd_X9_hash 5 rfl) (0 : Int32) (by decide) ?_
  refine bs_istore C (bf_dk dd_X9_hash 6 rfl) (Nat.le_of_ble_eq_true rfl) (Nat.le_of_ble_eq_true rfl) (lv2 := [some (.ref 0), some (.long a1), none, some (.int a3), some (.int a4), some (.int ((b9g_now S) ((16 : Int32)).toNatClampNeg)), some (.int (0 : Int32))]) rfl ?_
  exact bs_weak (bf_s1 (bf_s1 (bf_sn (bf_s1 (bf_s1 (bf_s1 (bf_s1 bf_s0))))))) (t_X9_hash_12 C hR S (a1) (a3) (a4) (((b9g_now S) ((16 : Int32)).toNatClampNeg)) ((0 : Int32)) Q h)
theorem c_X9_hash (l : Launch) (dC : Nat → ClassId) (dI : Nat → Nat → Nat) (ac : Nat → ClassId) (al : Nat → Nat) (S : bT9) (a1 : Int64) (a3 : Int32) (a4 : Int32) (Q : Int32 → Prop) (h : wp_X9_hash S a1 a3 a4 Q) : bf_M l yX9_hash cX9_hash 7 (some .int) 1 23 dC dI ac al [.ref 0, .long a1, .int a3, .int a4] (bW9 S) (bf_Ki dC dI ac al bW9 (fun r u => u = S ∧ Q r)) := by
  refine bf_start [some (.ref 0), some (.long a1), none, some (.int a3), some (.int a4), none, none] (by decide) (Nat.le_of_ble_eq_true rfl) (bf_s1 (bf_s1 (bf_sn (bf_s1 (bf_s1 (bf_en 2)))))) ?_
  intro X hl C hR e1 e2 e3 e4
  subst e1; subst e2; subst e3; subst e4
  exact t_X9_hash C hR S a1 a3 a4 Q h
def wp_X9_mayBe (S : bT9) (a1 : Int64) (a3 : Int32) (a4 : Int32) (a5 : Int32) (Q : Int32 → (bT9) → Prop) : Prop := (wp_X9_leafFor S (a1) (a3) (a5) (fun r1 u2 => ((r1 = (-1 : Int32) → (bf_bool (0 : Int32) ∧ Q (0 : Int32) u2)) ∧ (¬ r1 = (-1 : Int32) → (wp_X9_hash u2 (a1) (a3) (a4) (fun r3 => (wp_X9_key u2 (r1) (fun r5 => (wp_X9_lengthOf u2 (r1) (fun r7 => (wp_X9_hash u2 (r5) (r7) (a4) (fun r9 => ((¬ r3 = r9 → (bf_bool (0 : Int32) ∧ Q (0 : Int32) u2)) ∧ (r3 = r9 → (bf_bool (1 : Int32) ∧ Q (1 : Int32) u2)))))))))))))))
set_option maxRecDepth 20000 in
theorem t_X9_mayBe {X : bf_X} (C : bf_C X RX9 cX9_mayBe 7 (some .boolean)) (hR : bf_Rm X 5 114) (S : bT9) (a1 : Int64) (a3 : Int32) (a4 : Int32) (a5 : Int32) (Q : Int32 → (bT9) → Prop) (h : wp_X9_mayBe S a1 a3 a4 a5 Q) : bf_A X (bf_Zi X bW9 Q) 7 0 [some (.ref 0), some (.long a1), none, some (.int a3), some (.int a4), some (.int a5), none] [] (bW9 S) := by
  unfold wp_X9_mayBe at h
  refine bs_aload_n C (bf_dk dd_X9_mayBe 0 rfl) rfl ?_
  refine bs_lload_n C (bf_dk dd_X9_mayBe 1 rfl) rfl ?_
  refine bs_iload_n C (bf_dk dd_X9_mayBe 2 rfl) rfl ?_
  refine bs_iload C (bf_dk dd_X9_mayBe 3 rfl) rfl ?_
  refine bs_selfV_i C hR (c_X9_leafFor _ _ _ _ _ S (a1) (a3) (a5) _ h) my_X9_leafFor m_9_304 rfl cl_9 (ge_bW9_0 _) rfl (Nat.le_of_ble_eq_true rfl) (Nat.le_of_ble_eq_true rfl) (st := []) (Nat.le_of_ble_eq_true rfl) (bf_dk dd_X9_mayBe 4 rfl) rfl (len := 21) (fun _ => rfl) (fun r1 u2 h => ?_)
  refine bs_istore C (bf_dk dd_X9_mayBe 5 rfl) (Nat.le_of_ble_eq_true rfl) (Nat.le_of_ble_eq_true rfl) (lv2 := [some (.ref 0), some (.long a1), none, some (.int a3), some (.int a4), some (.int a5), some (.int r1)]) rfl ?_
  refine bs_iload C (bf_dk dd_X9_mayBe 6 rfl) rfl ?_
  refine bs_iconst C (bf_dk dd_X9_mayBe 7 rfl) (-1 : Int32) (by decide) ?_
  refine bs_icmp_eq C (bf_dk dd_X9_mayBe 8 rfl) (tgt := 49) rfl (fun c => ?_) (fun c => ?_)
  · replace h := h.1 c
    refine bs_iconst C (bf_dk dd_X9_mayBe 26 rfl) (0 : Int32) (by decide) ?_
    obtain ⟨hi, h⟩ := h
    exact bs_zret (u := u2) C (bf_dk dd_X9_mayBe 27 rfl) hi rfl h
  · replace h := h.2 c
    refine bs_aload_n C (bf_dk dd_X9_mayBe 9 rfl) rfl ?_
    refine bs_lload_n C (bf_dk dd_X9_mayBe 10 rfl) rfl ?_
    refine bs_iload_n C (bf_dk dd_X9_mayBe 11 rfl) rfl ?_
    refine bs_iload C (bf_dk dd_X9_mayBe 12 rfl) rfl ?_
    refine bs_selfPV_i C hR (c_X9_hash _ _ _ _ _ u2 (a1) (a3) (a4) _ h) my_X9_hash m_9_307 rfl cl_9 (ge_bW9_0 _) rfl (Nat.le_of_ble_eq_true rfl) (Nat.le_of_ble_eq_true rfl) (st := []) (Nat.le_of_ble_eq_true rfl) (bf_dk dd_X9_mayBe 13 rfl) rfl (fun r3 h => ?_)
    refine bs_aload_n C (bf_dk dd_X9_mayBe 14 rfl) rfl ?_
    refine bs_aload_n C (bf_dk dd_X9_mayBe 15 rfl) rfl ?_
    refine bs_iload C (bf_dk dd_X9_mayBe 16 rfl) rfl ?_
    refine bs_selfPV_l C hR (c_X9_key _ _ _ _ _ u2 (r1) _ h) my_X9_key m_9_178 rfl cl_9 (ge_bW9_0 _) rfl (Nat.le_of_ble_eq_true rfl) (Nat.le_of_ble_eq_true rfl) (st := [.ref 0, .int r3]) (Nat.le_of_ble_eq_true rfl) (bf_dk dd_X9_mayBe 17 rfl) rfl (fun r5 h => ?_)
    refine bs_aload_n C (bf_dk dd_X9_mayBe 18 rfl) rfl ?_
    refine bs_iload C (bf_dk dd_X9_mayBe 19 rfl) rfl ?_
    refine bs_selfPV_i C hR (c_X9_lengthOf _ _ _ _ _ u2 (r1) _ h) my_X9_lengthOf m_9_175 rfl cl_9 (ge_bW9_0 _) rfl (Nat.le_of_ble_eq_true rfl) (Nat.le_of_ble_eq_true rfl) (st := [.long r5, .ref 0, .int r3]) (Nat.le_of_ble_eq_true rfl) (bf_dk dd_X9_mayBe 20 rfl) rfl (fun r7 h => ?_)
    refine bs_iload C (bf_dk dd_X9_mayBe 21 rfl) rfl ?_
    refine bs_selfPV_i C hR (c_X9_hash _ _ _ _ _ u2 (r5) (r7) (a4) _ h) my_X9_hash m_9_307 rfl cl_9 (ge_bW9_0 _) rfl (Nat.le_of_ble_eq_true rfl) (Nat.le_of_ble_eq_true rfl) (st := [.int r3]) (Nat.le_of_ble_eq_true rfl) (bf_dk dd_X9_mayBe 22 rfl) rfl (fun r9 h => ?_)
    refine bs_icmp_ne C (bf_dk dd_X9_mayBe 23 rfl) (tgt := 49) rfl (fun c => ?_) (fun c => ?_)
    · replace h := h.1 c
      refine bs_iconst C (bf_dk dd_X9_mayBe 26 rfl) (0 : Int32) (by decide) ?_
      obtain ⟨hi, h⟩ := h
      exact bs_zret (u := u2) C (bf_dk dd_X9_mayBe 27 rfl) hi rfl h
    · replace h := h.2 c
      refine bs_iconst C (bf_dk dd_X9_mayBe 24 rfl) (1 : Int32) (by decide) ?_
      refine bs_goto C (bf_dk dd_X9_mayBe 25 rfl) (tgt := 50) rfl ?_
      obtain ⟨hi, h⟩ := h
      exact bs_zret (u := u2) C (bf_dk dd_X9_mayBe 27 rfl) hi rfl h
theorem c_X9_mayBe (l : Launch) (dC : Nat → ClassId) (dI : Nat → Nat → Nat) (ac : Nat → ClassId) (al : Nat → Nat) (S : bT9) (a1 : Int64) (a3 : Int32) (a4 : Int32) (a5 : Int32) (Q : Int32 → (bT9) → Prop) (h : wp_X9_mayBe S a1 a3 a4 a5 Q) : bf_M l yX9_mayBe cX9_mayBe 7 (some .boolean) 5 114 dC dI ac al [.ref 0, .long a1, .int a3, .int a4, .int a5] (bW9 S) (bf_Ki dC dI ac al bW9 Q) := by
  refine bf_start [some (.ref 0), some (.long a1), none, some (.int a3), some (.int a4), some (.int a5), none] (by decide) (Nat.le_of_ble_eq_true rfl) (bf_s1 (bf_s1 (bf_sn (bf_s1 (bf_s1 (bf_s1 (bf_en 1))))))) ?_
  intro X hl C hR e1 e2 e3 e4
  subst e1; subst e2; subst e3; subst e4
  exact t_X9_mayBe C hR S a1 a3 a4 a5 Q h
def wp_X9_mayNow (S : bT9) (a1 : Int64) (a3 : Int32) (Q : Int32 → (bT9) → Prop) : Prop := (wp_X9_hashBits S (fun r1 => (wp_X9_nextBits S (fun r3 => (wp_X9_mayBe S (a1) (a3) (r1) (r3) (fun r5 u6 => (bf_bool r5 ∧ Q r5 u6)))))))
set_option maxRecDepth 20000 in
theorem t_X9_mayNow {X : bf_X} (C : bf_C X RX9 cX9_mayNow 4 (some .boolean)) (hR : bf_Rm X 6 140) (S : bT9) (a1 : Int64) (a3 : Int32) (Q : Int32 → (bT9) → Prop) (h : wp_X9_mayNow S a1 a3 Q) : bf_A X (bf_Zi X bW9 Q) 4 0 [some (.ref 0), some (.long a1), none, some (.int a3)] [] (bW9 S) := by
  unfold wp_X9_mayNow at h
  refine bs_aload_n C (bf_dk dd_X9_mayNow 0 rfl) rfl ?_
  refine bs_lload_n C (bf_dk dd_X9_mayNow 1 rfl) rfl ?_
  refine bs_iload_n C (bf_dk dd_X9_mayNow 2 rfl) rfl ?_
  refine bs_aload_n C (bf_dk dd_X9_mayNow 3 rfl) rfl ?_
  refine bs_selfPV_i C hR (c_X9_hashBits _ _ _ _ _ S _ h) my_X9_hashBits m_9_310 rfl cl_9 (ge_bW9_0 _) rfl (Nat.le_of_ble_eq_true rfl) (Nat.le_of_ble_eq_true rfl) (st := [.int a3, .long a1, .ref 0]) (Nat.le_of_ble_eq_true rfl) (bf_dk dd_X9_mayNow 4 rfl) rfl (fun r1 h => ?_)
  refine bs_aload_n C (bf_dk dd_X9_mayNow 5 rfl) rfl ?_
  refine bs_selfPV_i C hR (c_X9_nextBits _ _ _ _ _ S _ h) my_X9_nextBits m_9_313 rfl cl_9 (ge_bW9_0 _) rfl (Nat.le_of_ble_eq_true rfl) (Nat.le_of_ble_eq_true rfl) (st := [.int r1, .int a3, .long a1, .ref 0]) (Nat.le_of_ble_eq_true rfl) (bf_dk dd_X9_mayNow 6 rfl) rfl (fun r3 h => ?_)
  refine bs_selfV_i C hR (c_X9_mayBe _ _ _ _ _ S (a1) (a3) (r1) (r3) _ h) my_X9_mayBe m_9_316 rfl cl_9 (ge_bW9_0 _) rfl (Nat.le_of_ble_eq_true rfl) (Nat.le_of_ble_eq_true rfl) (st := []) (Nat.le_of_ble_eq_true rfl) (bf_dk dd_X9_mayNow 7 rfl) rfl (len := 21) (fun _ => rfl) (fun r5 u6 h => ?_)
  obtain ⟨hi, h⟩ := h
  exact bs_zret (u := u6) C (bf_dk dd_X9_mayNow 8 rfl) hi rfl h
theorem c_X9_mayNow (l : Launch) (dC : Nat → ClassId) (dI : Nat → Nat → Nat) (ac : Nat → ClassId) (al : Nat → Nat) (S : bT9) (a1 : Int64) (a3 : Int32) (Q : Int32 → (bT9) → Prop) (h : wp_X9_mayNow S a1 a3 Q) : bf_M l yX9_mayNow cX9_mayNow 4 (some .boolean) 6 140 dC dI ac al [.ref 0, .long a1, .int a3] (bW9 S) (bf_Ki dC dI ac al bW9 Q) := by
  refine bf_start [some (.ref 0), some (.long a1), none, some (.int a3)] (by decide) (Nat.le_of_ble_eq_true rfl) (bf_s1 (bf_s1 (bf_sn (bf_s1 bf_s0)))) ?_
  intro X hl C hR e1 e2 e3 e4
  subst e1; subst e2; subst e3; subst e4
  exact t_X9_mayNow C hR S a1 a3 Q h
def wp_X9_isOfFilter (S : bT9) (a1 : Int64) (a3 : Int32) (Q : Int32 → Prop) : Prop := (vp_in (9 : Int32) 23 ∧ (wp_X9_find S ((64 : Int32)) (((b9g_now S) ((9 : Int32)).toNatClampNeg)) (a1) (a3) (fun r1 => ((r1 = (-1 : Int32) → (bf_bool (0 : Int32) ∧ Q (0 : Int32))) ∧ (¬ r1 = (-1 : Int32) → (bf_bool (1 : Int32) ∧ Q (1 : Int32)))))))
set_option maxRecDepth 20000 in
theorem t_X9_isOfFilter {X : bf_X} (C : bf_C X RX9 cX9_isOfFilter 4 (some .boolean)) (hR : bf_Rm X 3 78) (S : bT9) (a1 : Int64) (a3 : Int32) (Q : Int32 → Prop) (h : wp_X9_isOfFilter S a1 a3 Q) : bf_A X (bf_Zi X bW9 (fun r u => u = S ∧ Q r)) 4 0 [some (.ref 0), some (.long a1), none, some (.int a3)] [] (bW9 S) := by
  unfold wp_X9_isOfFilter at h
  refine bs_aload_n C (bf_dk dd_X9_isOfFilter 0 rfl) rfl ?_
  refine bs_bipush C (bf_dk dd_X9_isOfFilter 1 rfl) (64 : Int32) (by decide) ?_
  refine bs_aload_n C (bf_dk dd_X9_isOfFilter 2 rfl) rfl ?_
  refine bs_get C (bf_dk dd_X9_isOfFilter 3 rfl) cl_9 in_9 1 (Nat.le_of_ble_eq_true rfl) rfl f_9_7 (ge_bW9_0 S) rfl ?_
  refine bs_bipush C (bf_dk dd_X9_isOfFilter 4 rfl) (9 : Int32) (by decide) ?_
  obtain ⟨hi, h⟩ := h
  refine bs_iald C (bf_dk dd_X9_isOfFilter 5 rfl) (ge_bW9_1 S) hi ?_
  refine bs_lload_n C (bf_dk dd_X9_isOfFilter 6 rfl) rfl ?_
  refine bs_iload_n C (bf_dk dd_X9_isOfFilter 7 rfl) rfl ?_
  refine bs_selfPV_i C hR (c_X9_find _ _ _ _ _ S ((64 : Int32)) (((b9g_now S) ((9 : Int32)).toNatClampNeg)) (a1) (a3) _ h) my_X9_find m_9_114 rfl cl_9 (ge_bW9_0 _) rfl (Nat.le_of_ble_eq_true rfl) (Nat.le_of_ble_eq_true rfl) (st := []) (Nat.le_of_ble_eq_true rfl) (bf_dk dd_X9_isOfFilter 8 rfl) rfl (fun r1 h => ?_)
  refine bs_iconst C (bf_dk dd_X9_isOfFilter 9 rfl) (-1 : Int32) (by decide) ?_
  refine bs_icmp_eq C (bf_dk dd_X9_isOfFilter 10 rfl) (tgt := 23) rfl (fun c => ?_) (fun c => ?_)
  · replace h := h.1 c
    refine bs_iconst C (bf_dk dd_X9_isOfFilter 13 rfl) (0 : Int32) (by decide) ?_
    obtain ⟨hi, h⟩ := h
    exact bs_zret (u := S) C (bf_dk dd_X9_isOfFilter 14 rfl) hi rfl ⟨rfl, h⟩
  · replace h := h.2 c
    refine bs_iconst C (bf_dk dd_X9_isOfFilter 11 rfl) (1 : Int32) (by decide) ?_
    refine bs_goto C (bf_dk dd_X9_isOfFilter 12 rfl) (tgt := 24) rfl ?_
    obtain ⟨hi, h⟩ := h
    exact bs_zret (u := S) C (bf_dk dd_X9_isOfFilter 14 rfl) hi rfl ⟨rfl, h⟩
theorem c_X9_isOfFilter (l : Launch) (dC : Nat → ClassId) (dI : Nat → Nat → Nat) (ac : Nat → ClassId) (al : Nat → Nat) (S : bT9) (a1 : Int64) (a3 : Int32) (Q : Int32 → Prop) (h : wp_X9_isOfFilter S a1 a3 Q) : bf_M l yX9_isOfFilter cX9_isOfFilter 4 (some .boolean) 3 78 dC dI ac al [.ref 0, .long a1, .int a3] (bW9 S) (bf_Ki dC dI ac al bW9 (fun r u => u = S ∧ Q r)) := by
  refine bf_start [some (.ref 0), some (.long a1), none, some (.int a3)] (by decide) (Nat.le_of_ble_eq_true rfl) (bf_s1 (bf_s1 (bf_sn (bf_s1 bf_s0)))) ?_
  intro X hl C hR e1 e2 e3 e4
  subst e1; subst e2; subst e3; subst e4
  exact t_X9_isOfFilter C hR S a1 a3 Q h
def wp_X9_counts_76 (S : bT9) (x3 : Int32) (Q : Int32 → (bT9) → Prop) : Prop := ((x3 = 0 → (Q (0 : Int32) S)) ∧ (¬ x3 = 0 → (Q (1 : Int32) S)))
set_option maxRecDepth 20000 in
theorem t_X9_counts_76 {X : bf_X} (C : bf_C X RX9 cX9_counts 4 (some .int)) (hR : bf_Rm X 0 0) (S : bT9) (x3 : Int32) (Q : Int32 → (bT9) → Prop) (h : wp_X9_counts_76 S x3 Q) : bf_A X (bf_Zi X bW9 Q) 4 76 [none, none, none, some (.int x3)] [] (bW9 S) := by
  unfold wp_X9_counts_76 at h
  refine bs_iload_n C (bf_dk dd_X9_counts 54 rfl) rfl ?_
  refine bs_if_eq C (bf_dk dd_X9_counts 55 rfl) (tgt := 84) rfl (fun c => ?_) (fun c => ?_)
  · replace h := h.1 c
    refine bs_iconst C (bf_dk dd_X9_counts 58 rfl) (0 : Int32) (by decide) ?_
    exact bs_iret (u := S) C (bf_dk dd_X9_counts 59 rfl) rfl h
  · replace h := h.2 c
    refine bs_iconst C (bf_dk dd_X9_counts 56 rfl) (1 : Int32) (by decide) ?_
    refine bs_goto C (bf_dk dd_X9_counts 57 rfl) (tgt := 85) rfl ?_
    exact bs_iret (u := S) C (bf_dk dd_X9_counts 59 rfl) rfl h
def wp_X9_counts_48 (S : bT9) (x1 : Int32) (x3 : Int32) (Q : Int32 → (bT9) → Prop) : Prop := ((x3 = 0 → (wp_X9_counts_76 S (x3) Q)) ∧ (¬ x3 = 0 → (vp_in (((17 : Int32) + x1) + (2 : Int32)) 23 ∧ (∀ v1 : Int32, v1 = (((b9g_now S) ((((17 : Int32) + x1) + (2 : Int32))).toNatClampNeg) + (1 : Int32)) → (vp_in (((17 : Int32) + x1) + (2 : Int32)) 23 ∧ (∀ S2 : bT9, S2 = (b9s_now S (upd (b9g_now S) ((((17 : Int32) + x1) + (2 : Int32))).toNatClampNeg v1)) → (wp_X9_counts_76 S2 (x3) Q)))))))
set_option maxRecDepth 20000 in
theorem t_X9_counts_48 {X : bf_X} (C : bf_C X RX9 cX9_counts 4 (some .int)) (hR : bf_Rm X 0 0) (S : bT9) (x1 : Int32) (x3 : Int32) (Q : Int32 → (bT9) → Prop) (h : wp_X9_counts_48 S x1 x3 Q) : bf_A X (bf_Zi X bW9 Q) 4 48 [some (.ref 0), some (.int x1), none, some (.int x3)] [] (bW9 S) := by
  unfold wp_X9_counts_48 at h
  refine bs_iload_n C (bf_dk dd_X9_counts 34 rfl) rfl ?_
  refine bs_if_eq C (bf_dk dd_X9_counts 35 rfl) (tgt := 76) rfl (fun c => ?_) (fun c => ?_)
  · replace h := h.1 c
    exact bs_weak (bf_sn (bf_sn (bf_sn (bf_s1 bf_s0)))) (t_X9_counts_76 C hR S (x3) Q h)
  · replace h := h.2 c
    refine bs_aload_n C (bf_dk dd_X9_counts 36 rfl) rfl ?_
    refine bs_get C (bf_dk dd_X9_counts 37 rfl) cl_9 in_9 1 (Nat.le_of_ble_eq_true rfl) rfl f_9_7 (ge_bW9_0 S) rfl ?_
    refine bs_bipush C (bf_dk dd_X9_counts 38 rfl) (17 : Int32) (by decide) ?_
    refine bs_iload_n C (bf_dk dd_X9_counts 39 rfl) rfl ?_
    refine bs_iadd C (bf_dk dd_X9_counts 40 rfl) ?_
    refine bs_iconst C (bf_dk dd_X9_counts 41 rfl) (2 : Int32) (by decide) ?_
    refine bs_iadd C (bf_dk dd_X9_counts 42 rfl) ?_
    refine bs_aload_n C (bf_dk dd_X9_counts 43 rfl) rfl ?_
    refine bs_get C (bf_dk dd_X9_counts 44 rfl) cl_9 in_9 1 (Nat.le_of_ble_eq_true rfl) rfl f_9_7 (ge_bW9_0 S) rfl ?_
    refine bs_bipush C (bf_dk dd_X9_counts 45 rfl) (17 : Int32) (by decide) ?_
    refine bs_iload_n C (bf_dk dd_X9_counts 46 rfl) rfl ?_
    refine bs_iadd C (bf_dk dd_X9_counts 47 rfl) ?_
    refine bs_iconst C (bf_dk dd_X9_counts 48 rfl) (2 : Int32) (by decide) ?_
    refine bs_iadd C (bf_dk dd_X9_counts 49 rfl) ?_
    obtain ⟨hi, h⟩ := h
    refine bs_iald C (bf_dk dd_X9_counts 50 rfl) (ge_bW9_1 S) hi ?_
    refine bs_iconst C (bf_dk dd_X9_counts 51 rfl) (1 : Int32) (by decide) ?_
    refine bs_iadd C (bf_dk dd_X9_counts 52 rfl) ?_
    refine bs_name (fun v1 ev1 => ?_)
    replace h := h v1 ev1
    obtain ⟨hi, h⟩ := h
    refine bs_iast C (bf_dk dd_X9_counts 53 rfl) (ge_bW9_1 S) hi (ar_bW9_1 S _) ?_
    refine bs_nameS bW9 (fun S2 eS2 => ?_)
    replace h := h S2 eS2
    exact bs_weak (bf_sn (bf_sn (bf_sn (bf_s1 bf_s0)))) (t_X9_counts_76 C hR S2 (x3) Q h)
def wp_X9_counts (S : bT9) (a1 : Int32) (a2 : Int32) (a3 : Int32) (Q : Int32 → (bT9) → Prop) : Prop := (vp_in ((17 : Int32) + a1) 23 ∧ (∀ v3 : Int32, v3 = (((b9g_now S) (((17 : Int32) + a1)).toNatClampNeg) + (1 : Int32)) → (vp_in ((17 : Int32) + a1) 23 ∧ (∀ S4 : bT9, S4 = (b9s_now S (upd (b9g_now S) (((17 : Int32) + a1)).toNatClampNeg v3)) → ((a2 = 0 → (wp_X9_counts_48 S4 (a1) (a3) Q)) ∧ (¬ a2 = 0 → (vp_in (((17 : Int32) + a1) + (1 : Int32)) 23 ∧ (∀ v5 : Int32, v5 = (((b9g_now S4) ((((17 : Int32) + a1) + (1 : Int32))).toNatClampNeg) + (1 : Int32)) → (vp_in (((17 : Int32) + a1) + (1 : Int32)) 23 ∧ (∀ S6 : bT9, S6 = (b9s_now S4 (upd (b9g_now S4) ((((17 : Int32) + a1) + (1 : Int32))).toNatClampNeg v5)) → (wp_X9_counts_48 S6 (a1) (a3) Q)))))))))))
set_option maxRecDepth 20000 in
theorem t_X9_counts {X : bf_X} (C : bf_C X RX9 cX9_counts 4 (some .int)) (hR : bf_Rm X 0 0) (S : bT9) (a1 : Int32) (a2 : Int32) (a3 : Int32) (Q : Int32 → (bT9) → Prop) (h : wp_X9_counts S a1 a2 a3 Q) : bf_A X (bf_Zi X bW9 Q) 4 0 [some (.ref 0), some (.int a1), some (.int a2), some (.int a3)] [] (bW9 S) := by
  unfold wp_X9_counts at h
  refine bs_aload_n C (bf_dk dd_X9_counts 0 rfl) rfl ?_
  refine bs_get C (bf_dk dd_X9_counts 1 rfl) cl_9 in_9 1 (Nat.le_of_ble_eq_true rfl) rfl f_9_7 (ge_bW9_0 S) rfl ?_
  refine bs_bipush C (bf_dk dd_X9_counts 2 rfl) (17 : Int32) (by decide) ?_
  refine bs_iload_n C (bf_dk dd_X9_counts 3 rfl) rfl ?_
  refine bs_iadd C (bf_dk dd_X9_counts 4 rfl) ?_
  refine bs_aload_n C (bf_dk dd_X9_counts 5 rfl) rfl ?_
  refine bs_get C (bf_dk dd_X9_counts 6 rfl) cl_9 in_9 1 (Nat.le_of_ble_eq_true rfl) rfl f_9_7 (ge_bW9_0 S) rfl ?_
  refine bs_bipush C (bf_dk dd_X9_counts 7 rfl) (17 : Int32) (by decide) ?_
  refine bs_iload_n C (bf_dk dd_X9_counts 8 rfl) rfl ?_
  refine bs_iadd C (bf_dk dd_X9_counts 9 rfl) ?_
  obtain ⟨hi, h⟩ := h
  refine bs_iald C (bf_dk dd_X9_counts 10 rfl) (ge_bW9_1 S) hi ?_
  refine bs_iconst C (bf_dk dd_X9_counts 11 rfl) (1 : Int32) (by decide) ?_
  refine bs_iadd C (bf_dk dd_X9_counts 12 rfl) ?_
  refine bs_name (fun v3 ev3 => ?_)
  replace h := h v3 ev3
  obtain ⟨hi, h⟩ := h
  refine bs_iast C (bf_dk dd_X9_counts 13 rfl) (ge_bW9_1 S) hi (ar_bW9_1 S _) ?_
  refine bs_nameS bW9 (fun S4 eS4 => ?_)
  replace h := h S4 eS4
  refine bs_iload_n C (bf_dk dd_X9_counts 14 rfl) rfl ?_
  refine bs_if_eq C (bf_dk dd_X9_counts 15 rfl) (tgt := 48) rfl (fun c => ?_) (fun c => ?_)
  · replace h := h.1 c
    exact bs_weak (bf_s1 (bf_s1 (bf_sn (bf_s1 bf_s0)))) (t_X9_counts_48 C hR S4 (a1) (a3) Q h)
  · replace h := h.2 c
    refine bs_aload_n C (bf_dk dd_X9_counts 16 rfl) rfl ?_
    refine bs_get C (bf_dk dd_X9_counts 17 rfl) cl_9 in_9 1 (Nat.le_of_ble_eq_true rfl) rfl f_9_7 (ge_bW9_0 S4) rfl ?_
    refine bs_bipush C (bf_dk dd_X9_counts 18 rfl) (17 : Int32) (by decide) ?_
    refine bs_iload_n C (bf_dk dd_X9_counts 19 rfl) rfl ?_
    refine bs_iadd C (bf_dk dd_X9_counts 20 rfl) ?_
    refine bs_iconst C (bf_dk dd_X9_counts 21 rfl) (1 : Int32) (by decide) ?_
    refine bs_iadd C (bf_dk dd_X9_counts 22 rfl) ?_
    refine bs_aload_n C (bf_dk dd_X9_counts 23 rfl) rfl ?_
    refine bs_get C (bf_dk dd_X9_counts 24 rfl) cl_9 in_9 1 (Nat.le_of_ble_eq_true rfl) rfl f_9_7 (ge_bW9_0 S4) rfl ?_
    refine bs_bipush C (bf_dk dd_X9_counts 25 rfl) (17 : Int32) (by decide) ?_
    refine bs_iload_n C (bf_dk dd_X9_counts 26 rfl) rfl ?_
    refine bs_iadd C (bf_dk dd_X9_counts 27 rfl) ?_
    refine bs_iconst C (bf_dk dd_X9_counts 28 rfl) (1 : Int32) (by decide) ?_
    refine bs_iadd C (bf_dk dd_X9_counts 29 rfl) ?_
    obtain ⟨hi, h⟩ := h
    refine bs_iald C (bf_dk dd_X9_counts 30 rfl) (ge_bW9_1 S4) hi ?_
    refine bs_iconst C (bf_dk dd_X9_counts 31 rfl) (1 : Int32) (by decide) ?_
    refine bs_iadd C (bf_dk dd_X9_counts 32 rfl) ?_
    refine bs_name (fun v5 ev5 => ?_)
    replace h := h v5 ev5
    obtain ⟨hi, h⟩ := h
    refine bs_iast C (bf_dk dd_X9_counts 33 rfl) (ge_bW9_1 S4) hi (ar_bW9_1 S4 _) ?_
    refine bs_nameS bW9 (fun S6 eS6 => ?_)
    replace h := h S6 eS6
    exact bs_weak (bf_s1 (bf_s1 (bf_sn (bf_s1 bf_s0)))) (t_X9_counts_48 C hR S6 (a1) (a3) Q h)
theorem c_X9_counts (l : Launch) (dC : Nat → ClassId) (dI : Nat → Nat → Nat) (ac : Nat → ClassId) (al : Nat → Nat) (S : bT9) (a1 : Int32) (a2 : Int32) (a3 : Int32) (Q : Int32 → (bT9) → Prop) (h : wp_X9_counts S a1 a2 a3 Q) : bf_M l yX9_counts cX9_counts 4 (some .int) 0 0 dC dI ac al [.ref 0, .int a1, .int a2, .int a3] (bW9 S) (bf_Ki dC dI ac al bW9 Q) := by
  refine bf_start [some (.ref 0), some (.int a1), some (.int a2), some (.int a3)] (by decide) (Nat.le_of_ble_eq_true rfl) (bf_s1 (bf_s1 (bf_s1 (bf_s1 bf_s0)))) ?_
  intro X hl C hR e1 e2 e3 e4
  subst e1; subst e2; subst e3; subst e4
  exact t_X9_counts C hR S a1 a2 a3 Q h
def wp_X9_asks_31 (S : bT9) (t1 : Int32) (t2 : Int32) (t3 : Int32) (Q : Int32 → (bT9) → Prop) : Prop := (wp_X9_counts S (t1) (t2) (t3) (fun r1 u2 => (Q r1 u2)))
set_option maxRecDepth 20000 in
theorem t_X9_asks_31 {X : bf_X} (C : bf_C X RX9 cX9_asks 5 (some .int)) (hR : bf_Rm X 7 163) (S : bT9) (t1 : Int32) (t2 : Int32) (t3 : Int32) (Q : Int32 → (bT9) → Prop) (h : wp_X9_asks_31 S t1 t2 t3 Q) : bf_A X (bf_Zi X bW9 Q) 5 31 [none, none, none, none, none] [.int t3, .int t2, .int t1, .ref 0] (bW9 S) := by
  unfold wp_X9_asks_31 at h
  refine bs_selfV_i C hR (c_X9_counts _ _ _ _ _ S (t1) (t2) (t3) _ h) my_X9_counts m_9_326 rfl cl_9 (ge_bW9_0 _) rfl (Nat.le_of_ble_eq_true rfl) (Nat.le_of_ble_eq_true rfl) (st := []) (Nat.le_of_ble_eq_true rfl) (bf_dk dd_X9_asks 18 rfl) rfl (len := 21) (fun _ => rfl) (fun r1 u2 h => ?_)
  exact bs_iret (u := u2) C (bf_dk dd_X9_asks 19 rfl) rfl h
def wp_X9_asks_30 (S : bT9) (t1 : Int32) (t2 : Int32) (Q : Int32 → (bT9) → Prop) : Prop := (wp_X9_asks_31 S (t1) (t2) ((0 : Int32)) Q)
set_option maxRecDepth 20000 in
theorem t_X9_asks_30 {X : bf_X} (C : bf_C X RX9 cX9_asks 5 (some .int)) (hR : bf_Rm X 7 163) (S : bT9) (t1 : Int32) (t2 : Int32) (Q : Int32 → (bT9) → Prop) (h : wp_X9_asks_30 S t1 t2 Q) : bf_A X (bf_Zi X bW9 Q) 5 30 [none, none, none, none, none] [.int t2, .int t1, .ref 0] (bW9 S) := by
  unfold wp_X9_asks_30 at h
  refine bs_iconst C (bf_dk dd_X9_asks 17 rfl) (0 : Int32) (by decide) ?_
  exact bs_weak (bf_sn (bf_sn (bf_sn (bf_sn (bf_sn bf_s0))))) (t_X9_asks_31 C hR S (t1) (t2) ((0 : Int32)) Q h)
def wp_X9_asks (S : bT9) (a1 : Int64) (a3 : Int32) (Q : Int32 → (bT9) → Prop) : Prop := (wp_X9_mayNow S (a1) (a3) (fun r3 u4 => ((r3 = 0 → (wp_X9_asks_30 u4 ((0 : Int32)) (r3) Q)) ∧ (¬ r3 = 0 → (wp_X9_isOfFilter u4 (a1) (a3) (fun r5 => ((¬ r5 = 0 → (wp_X9_asks_30 u4 ((0 : Int32)) (r3) Q)) ∧ (r5 = 0 → (wp_X9_asks_31 u4 ((0 : Int32)) (r3) ((1 : Int32)) Q)))))))))
set_option maxRecDepth 20000 in
theorem t_X9_asks {X : bf_X} (C : bf_C X RX9 cX9_asks 5 (some .int)) (hR : bf_Rm X 7 163) (S : bT9) (a1 : Int64) (a3 : Int32) (Q : Int32 → (bT9) → Prop) (h : wp_X9_asks S a1 a3 Q) : bf_A X (bf_Zi X bW9 Q) 5 0 [some (.ref 0), some (.long a1), none, some (.int a3), none] [] (bW9 S) := by
  unfold wp_X9_asks at h
  refine bs_aload_n C (bf_dk dd_X9_asks 0 rfl) rfl ?_
  refine bs_lload_n C (bf_dk dd_X9_asks 1 rfl) rfl ?_
  refine bs_iload_n C (bf_dk dd_X9_asks 2 rfl) rfl ?_
  refine bs_selfV_i C hR (c_X9_mayNow _ _ _ _ _ S (a1) (a3) _ h) my_X9_mayNow m_9_320 rfl cl_9 (ge_bW9_0 _) rfl (Nat.le_of_ble_eq_true rfl) (Nat.le_of_ble_eq_true rfl) (st := []) (Nat.le_of_ble_eq_true rfl) (bf_dk dd_X9_asks 3 rfl) rfl (len := 21) (fun _ => rfl) (fun r3 u4 h => ?_)
  refine bs_istore C (bf_dk dd_X9_asks 4 rfl) (Nat.le_of_ble_eq_true rfl) (Nat.le_of_ble_eq_true rfl) (lv2 := [some (.ref 0), some (.long a1), none, some (.int a3), some (.int r3)]) rfl ?_
  refine bs_aload_n C (bf_dk dd_X9_asks 5 rfl) rfl ?_
  refine bs_iconst C (bf_dk dd_X9_asks 6 rfl) (0 : Int32) (by decide) ?_
  refine bs_iload C (bf_dk dd_X9_asks 7 rfl) rfl ?_
  refine bs_iload C (bf_dk dd_X9_asks 8 rfl) rfl ?_
  refine bs_if_eq C (bf_dk dd_X9_asks 9 rfl) (tgt := 30) rfl (fun c => ?_) (fun c => ?_)
  · replace h := h.1 c
    exact bs_weak (bf_sn (bf_sn (bf_sn (bf_sn (bf_sn bf_s0))))) (t_X9_asks_30 C hR u4 ((0 : Int32)) (r3) Q h)
  · replace h := h.2 c
    refine bs_aload_n C (bf_dk dd_X9_asks 10 rfl) rfl ?_
    refine bs_lload_n C (bf_dk dd_X9_asks 11 rfl) rfl ?_
    refine bs_iload_n C (bf_dk dd_X9_asks 12 rfl) rfl ?_
    refine bs_selfPV_i C hR (c_X9_isOfFilter _ _ _ _ _ u4 (a1) (a3) _ h) my_X9_isOfFilter m_9_323 rfl cl_9 (ge_bW9_0 _) rfl (Nat.le_of_ble_eq_true rfl) (Nat.le_of_ble_eq_true rfl) (st := [.int r3, .int (0 : Int32), .ref 0]) (Nat.le_of_ble_eq_true rfl) (bf_dk dd_X9_asks 13 rfl) rfl (fun r5 h => ?_)
    refine bs_if_ne C (bf_dk dd_X9_asks 14 rfl) (tgt := 30) rfl (fun c => ?_) (fun c => ?_)
    · replace h := h.1 c
      exact bs_weak (bf_sn (bf_sn (bf_sn (bf_sn (bf_sn bf_s0))))) (t_X9_asks_30 C hR u4 ((0 : Int32)) (r3) Q h)
    · replace h := h.2 c
      refine bs_iconst C (bf_dk dd_X9_asks 15 rfl) (1 : Int32) (by decide) ?_
      refine bs_goto C (bf_dk dd_X9_asks 16 rfl) (tgt := 31) rfl ?_
      exact bs_weak (bf_sn (bf_sn (bf_sn (bf_sn (bf_sn bf_s0))))) (t_X9_asks_31 C hR u4 ((0 : Int32)) (r3) ((1 : Int32)) Q h)
theorem c_X9_asks (l : Launch) (dC : Nat → ClassId) (dI : Nat → Nat → Nat) (ac : Nat → ClassId) (al : Nat → Nat) (S : bT9) (a1 : Int64) (a3 : Int32) (Q : Int32 → (bT9) → Prop) (h : wp_X9_asks S a1 a3 Q) : bf_M l yX9_asks cX9_asks 5 (some .int) 7 163 dC dI ac al [.ref 0, .long a1, .int a3] (bW9 S) (bf_Ki dC dI ac al bW9 Q) := by
  refine bf_start [some (.ref 0), some (.long a1), none, some (.int a3), none] (by decide) (Nat.le_of_ble_eq_true rfl) (bf_s1 (bf_s1 (bf_sn (bf_s1 (bf_en 1))))) ?_
  intro X hl C hR e1 e2 e3 e4
  subst e1; subst e2; subst e3; subst e4
  exact t_X9_asks C hR S a1 a3 Q h
def wp_X9_may (S : bT9) (a1 : Int32) (a2 : Int32) (a3 : Int32) (Q : Int32 → (bT9) → Prop) : Prop := (∀ S1 : bT9, S1 = (b9s_told S (0 : Int32)) → (wp_X9_isKey S1 (a3) (fun r2 => ((¬ r2 = 0 → (wp_X9_keyOf S1 (a1) (a2) (a3) (fun r4 => (wp_X9_asks S1 (r4) (a3) (fun r6 u7 => (wp_X9_keyOf u7 (a1) (a2) (a3) (fun r8 => (wp_X9_mayNow u7 (r8) (a3) (fun r10 u11 => ((r10 = 0 → (Q (0 : Int32) u11)) ∧ (¬ r10 = 0 → (Q (1 : Int32) u11)))))))))))) ∧ (r2 = 0 → (Q (-1 : Int32) S1))))))
set_option maxRecDepth 20000 in
theorem t_X9_may {X : bf_X} (C : bf_C X RX9 cX9_may 4 (some .int)) (hR : bf_Rm X 8 187) (S : bT9) (a1 : Int32) (a2 : Int32) (a3 : Int32) (Q : Int32 → (bT9) → Prop) (h : wp_X9_may S a1 a2 a3 Q) : bf_A X (bf_Zi X bW9 Q) 4 0 [some (.ref 0), some (.int a1), some (.int a2), some (.int a3)] [] (bW9 S) := by
  unfold wp_X9_may at h
  refine bs_aload_n C (bf_dk dd_X9_may 0 rfl) rfl ?_
  refine bs_iconst C (bf_dk dd_X9_may 1 rfl) (0 : Int32) (by decide) ?_
  refine bs_put C (bf_dk dd_X9_may 2 rfl) tyX9_ok nmX9 cl_9 in_9 0 (Nat.le_of_ble_eq_true rfl) rfl f_9_75 rfl (ge_bW9_0 S) (Nat.le_of_ble_eq_true rfl) rfl rfl (pu_bW9_0_0 S (0 : Int32)) ?_
  refine bs_nameS bW9 (fun S1 eS1 => ?_)
  replace h := h S1 eS1
  refine bs_aload_n C (bf_dk dd_X9_may 3 rfl) rfl ?_
  refine bs_iload_n C (bf_dk dd_X9_may 4 rfl) rfl ?_
  refine bs_selfPV_i C hR (c_X9_isKey _ _ _ _ _ S1 (a3) _ h) my_X9_isKey m_9_117 rfl cl_9 (ge_bW9_0 _) rfl (Nat.le_of_ble_eq_true rfl) (Nat.le_of_ble_eq_true rfl) (st := []) (Nat.le_of_ble_eq_true rfl) (bf_dk dd_X9_may 5 rfl) rfl (fun r2 h => ?_)
  refine bs_if_ne C (bf_dk dd_X9_may 6 rfl) (tgt := 15) rfl (fun c => ?_) (fun c => ?_)
  · replace h := h.1 c
    refine bs_aload_n C (bf_dk dd_X9_may 9 rfl) rfl ?_
    refine bs_aload_n C (bf_dk dd_X9_may 10 rfl) rfl ?_
    refine bs_iload_n C (bf_dk dd_X9_may 11 rfl) rfl ?_
    refine bs_iload_n C (bf_dk dd_X9_may 12 rfl) rfl ?_
    refine bs_iload_n C (bf_dk dd_X9_may 13 rfl) rfl ?_
    refine bs_selfPV_l C hR (c_X9_keyOf _ _ _ _ _ S1 (a1) (a2) (a3) _ h) my_X9_keyOf m_9_121 rfl cl_9 (ge_bW9_0 _) rfl (Nat.le_of_ble_eq_true rfl) (Nat.le_of_ble_eq_true rfl) (st := [.ref 0]) (Nat.le_of_ble_eq_true rfl) (bf_dk dd_X9_may 14 rfl) rfl (fun r4 h => ?_)
    refine bs_iload_n C (bf_dk dd_X9_may 15 rfl) rfl ?_
    refine bs_selfV_i C hR (c_X9_asks _ _ _ _ _ S1 (r4) (a3) _ h) my_X9_asks m_9_330 rfl cl_9 (ge_bW9_0 _) rfl (Nat.le_of_ble_eq_true rfl) (Nat.le_of_ble_eq_true rfl) (st := []) (Nat.le_of_ble_eq_true rfl) (bf_dk dd_X9_may 16 rfl) rfl (len := 21) (fun _ => rfl) (fun r6 u7 h => ?_)
    refine bs_pop C (bf_dk dd_X9_may 17 rfl) rfl ?_
    refine bs_aload_n C (bf_dk dd_X9_may 18 rfl) rfl ?_
    refine bs_aload_n C (bf_dk dd_X9_may 19 rfl) rfl ?_
    refine bs_iload_n C (bf_dk dd_X9_may 20 rfl) rfl ?_
    refine bs_iload_n C (bf_dk dd_X9_may 21 rfl) rfl ?_
    refine bs_iload_n C (bf_dk dd_X9_may 22 rfl) rfl ?_
    refine bs_selfPV_l C hR (c_X9_keyOf _ _ _ _ _ u7 (a1) (a2) (a3) _ h) my_X9_keyOf m_9_121 rfl cl_9 (ge_bW9_0 _) rfl (Nat.le_of_ble_eq_true rfl) (Nat.le_of_ble_eq_true rfl) (st := [.ref 0]) (Nat.le_of_ble_eq_true rfl) (bf_dk dd_X9_may 23 rfl) rfl (fun r8 h => ?_)
    refine bs_iload_n C (bf_dk dd_X9_may 24 rfl) rfl ?_
    refine bs_selfV_i C hR (c_X9_mayNow _ _ _ _ _ u7 (r8) (a3) _ h) my_X9_mayNow m_9_320 rfl cl_9 (ge_bW9_0 _) rfl (Nat.le_of_ble_eq_true rfl) (Nat.le_of_ble_eq_true rfl) (st := []) (Nat.le_of_ble_eq_true rfl) (bf_dk dd_X9_may 25 rfl) rfl (len := 21) (fun _ => rfl) (fun r10 u11 h => ?_)
    refine bs_if_eq C (bf_dk dd_X9_may 26 rfl) (tgt := 47) rfl (fun c => ?_) (fun c => ?_)
    · replace h := h.1 c
      refine bs_iconst C (bf_dk dd_X9_may 29 rfl) (0 : Int32) (by decide) ?_
      exact bs_iret (u := u11) C (bf_dk dd_X9_may 30 rfl) rfl h
    · replace h := h.2 c
      refine bs_iconst C (bf_dk dd_X9_may 27 rfl) (1 : Int32) (by decide) ?_
      refine bs_goto C (bf_dk dd_X9_may 28 rfl) (tgt := 48) rfl ?_
      exact bs_iret (u := u11) C (bf_dk dd_X9_may 30 rfl) rfl h
  · replace h := h.2 c
    refine bs_iconst C (bf_dk dd_X9_may 7 rfl) (-1 : Int32) (by decide) ?_
    exact bs_iret (u := S1) C (bf_dk dd_X9_may 8 rfl) rfl h
theorem c_X9_may (l : Launch) (dC : Nat → ClassId) (dI : Nat → Nat → Nat) (ac : Nat → ClassId) (al : Nat → Nat) (S : bT9) (a1 : Int32) (a2 : Int32) (a3 : Int32) (Q : Int32 → (bT9) → Prop) (h : wp_X9_may S a1 a2 a3 Q) : bf_M l yX9_may cX9_may 4 (some .int) 8 187 dC dI ac al [.ref 0, .int a1, .int a2, .int a3] (bW9 S) (bf_Ki dC dI ac al bW9 Q) := by
  refine bf_start [some (.ref 0), some (.int a1), some (.int a2), some (.int a3)] (by decide) (Nat.le_of_ble_eq_true rfl) (bf_s1 (bf_s1 (bf_s1 (bf_s1 bf_s0)))) ?_
  intro X hl C hR e1 e2 e3 e4
  subst e1; subst e2; subst e3; subst e4
  exact t_X9_may C hR S a1 a2 a3 Q h
def wp_X9_leafOf (S : bT9) (a1 : Int32) (a2 : Int32) (a3 : Int32) (Q : Int32 → (bT9) → Prop) : Prop := (∀ S1 : bT9, S1 = (b9s_told S (0 : Int32)) → (wp_X9_isKey S1 (a3) (fun r2 => ((r2 = 0 → (Q (-1 : Int32) S1)) ∧ (¬ r2 = 0 → (wp_X9_keyOf S1 (a1) (a2) (a3) (fun r4 => (wp_X9_nextBits S1 (fun r6 => (wp_X9_leafFor S1 (r4) (a3) (r6) (fun r8 u9 => (Q r8 u9))))))))))))
set_option maxRecDepth 20000 in
theorem t_X9_leafOf {X : bf_X} (C : bf_C X RX9 cX9_leafOf 4 (some .int)) (hR : bf_Rm X 5 114) (S : bT9) (a1 : Int32) (a2 : Int32) (a3 : Int32) (Q : Int32 → (bT9) → Prop) (h : wp_X9_leafOf S a1 a2 a3 Q) : bf_A X (bf_Zi X bW9 Q) 4 0 [some (.ref 0), some (.int a1), some (.int a2), some (.int a3)] [] (bW9 S) := by
  unfold wp_X9_leafOf at h
  refine bs_aload_n C (bf_dk dd_X9_leafOf 0 rfl) rfl ?_
  refine bs_iconst C (bf_dk dd_X9_leafOf 1 rfl) (0 : Int32) (by decide) ?_
  refine bs_put C (bf_dk dd_X9_leafOf 2 rfl) tyX9_ok nmX9 cl_9 in_9 0 (Nat.le_of_ble_eq_true rfl) rfl f_9_75 rfl (ge_bW9_0 S) (Nat.le_of_ble_eq_true rfl) rfl rfl (pu_bW9_0_0 S (0 : Int32)) ?_
  refine bs_nameS bW9 (fun S1 eS1 => ?_)
  replace h := h S1 eS1
  refine bs_aload_n C (bf_dk dd_X9_leafOf 3 rfl) rfl ?_
  refine bs_iload_n C (bf_dk dd_X9_leafOf 4 rfl) rfl ?_
  refine bs_selfPV_i C hR (c_X9_isKey _ _ _ _ _ S1 (a3) _ h) my_X9_isKey m_9_117 rfl cl_9 (ge_bW9_0 _) rfl (Nat.le_of_ble_eq_true rfl) (Nat.le_of_ble_eq_true rfl) (st := []) (Nat.le_of_ble_eq_true rfl) (bf_dk dd_X9_leafOf 5 rfl) rfl (fun r2 h => ?_)
  refine bs_if_eq C (bf_dk dd_X9_leafOf 6 rfl) (tgt := 32) rfl (fun c => ?_) (fun c => ?_)
  · replace h := h.1 c
    refine bs_iconst C (bf_dk dd_X9_leafOf 18 rfl) (-1 : Int32) (by decide) ?_
    exact bs_iret (u := S1) C (bf_dk dd_X9_leafOf 19 rfl) rfl h
  · replace h := h.2 c
    refine bs_aload_n C (bf_dk dd_X9_leafOf 7 rfl) rfl ?_
    refine bs_aload_n C (bf_dk dd_X9_leafOf 8 rfl) rfl ?_
    refine bs_iload_n C (bf_dk dd_X9_leafOf 9 rfl) rfl ?_
    refine bs_iload_n C (bf_dk dd_X9_leafOf 10 rfl) rfl ?_
    refine bs_iload_n C (bf_dk dd_X9_leafOf 11 rfl) rfl ?_
    refine bs_selfPV_l C hR (c_X9_keyOf _ _ _ _ _ S1 (a1) (a2) (a3) _ h) my_X9_keyOf m_9_121 rfl cl_9 (ge_bW9_0 _) rfl (Nat.le_of_ble_eq_true rfl) (Nat.le_of_ble_eq_true rfl) (st := [.ref 0]) (Nat.le_of_ble_eq_true rfl) (bf_dk dd_X9_leafOf 12 rfl) rfl (fun r4 h => ?_)
    refine bs_iload_n C (bf_dk dd_X9_leafOf 13 rfl) rfl ?_
    refine bs_aload_n C (bf_dk dd_X9_leafOf 14 rfl) rfl ?_
    refine bs_selfPV_i C hR (c_X9_nextBits _ _ _ _ _ S1 _ h) my_X9_nextBits m_9_313 rfl cl_9 (ge_bW9_0 _) rfl (Nat.le_of_ble_eq_true rfl) (Nat.le_of_ble_eq_true rfl) (st := [.int a3, .long r4, .ref 0]) (Nat.le_of_ble_eq_true rfl) (bf_dk dd_X9_leafOf 15 rfl) rfl (fun r6 h => ?_)
    refine bs_selfV_i C hR (c_X9_leafFor _ _ _ _ _ S1 (r4) (a3) (r6) _ h) my_X9_leafFor m_9_304 rfl cl_9 (ge_bW9_0 _) rfl (Nat.le_of_ble_eq_true rfl) (Nat.le_of_ble_eq_true rfl) (st := []) (Nat.le_of_ble_eq_true rfl) (bf_dk dd_X9_leafOf 16 rfl) rfl (len := 21) (fun _ => rfl) (fun r8 u9 h => ?_)
    refine bs_goto C (bf_dk dd_X9_leafOf 17 rfl) (tgt := 33) rfl ?_
    exact bs_iret (u := u9) C (bf_dk dd_X9_leafOf 19 rfl) rfl h
theorem c_X9_leafOf (l : Launch) (dC : Nat → ClassId) (dI : Nat → Nat → Nat) (ac : Nat → ClassId) (al : Nat → Nat) (S : bT9) (a1 : Int32) (a2 : Int32) (a3 : Int32) (Q : Int32 → (bT9) → Prop) (h : wp_X9_leafOf S a1 a2 a3 Q) : bf_M l yX9_leafOf cX9_leafOf 4 (some .int) 5 114 dC dI ac al [.ref 0, .int a1, .int a2, .int a3] (bW9 S) (bf_Ki dC dI ac al bW9 Q) := by
  refine bf_start [some (.ref 0), some (.int a1), some (.int a2), some (.int a3)] (by decide) (Nat.le_of_ble_eq_true rfl) (bf_s1 (bf_s1 (bf_s1 (bf_s1 bf_s0)))) ?_
  intro X hl C hR e1 e2 e3 e4
  subst e1; subst e2; subst e3; subst e4
  exact t_X9_leafOf C hR S a1 a2 a3 Q h
def wp_X9_ranges (S : bT9) (a1 : Int32) (a2 : Int32) (a3 : Int32) (a4 : Int32) (a5 : Int32) (a6 : Int32) (Q : Int32 → (bT9) → Prop) : Prop := (wp_X9_isKey S (a3) (fun r1 => ((r1 = 0 → (bf_bool (0 : Int32) ∧ Q (0 : Int32) S)) ∧ (¬ r1 = 0 → (wp_X9_isKey S (a6) (fun r3 => ((¬ r3 = 0 → (wp_X9_keyOf S (a1) (a2) (a3) (fun r5 => (∀ S7 : bT9, S7 = (b9s_fromKey S r5) → (∀ S8 : bT9, S8 = (b9s_fromLength S7 a3) → (wp_X9_keyOf S8 (a4) (a5) (a6) (fun r9 => (∀ S11 : bT9, S11 = (b9s_toKey S8 r9) → (∀ S12 : bT9, S12 = (b9s_toLength S11 a6) → (wp_X9_isLess S12 ((b9g_toKey S12)) ((b9g_toLength S12)) ((b9g_fromKey S12)) ((b9g_fromLength S12)) (fun r13 => ((¬ r13 = 0 → (bf_bool (0 : Int32) ∧ Q (0 : Int32) S12)) ∧ (r13 = 0 → (bf_bool (1 : Int32) ∧ Q (1 : Int32) S12)))))))))))))) ∧ (r3 = 0 → (bf_bool (0 : Int32) ∧ Q (0 : Int32) S)))))))))
set_option maxRecDepth 20000 in
theorem t_X9_ranges {X : bf_X} (C : bf_C X RX9 cX9_ranges 7 (some .boolean)) (hR : bf_Rm X 2 46) (S : bT9) (a1 : Int32) (a2 : Int32) (a3 : Int32) (a4 : Int32) (a5 : Int32) (a6 : Int32) (Q : Int32 → (bT9) → Prop) (h : wp_X9_ranges S a1 a2 a3 a4 a5 a6 Q) : bf_A X (bf_Zi X bW9 Q) 7 0 [some (.ref 0), some (.int a1), some (.int a2), some (.int a3), some (.int a4), some (.int a5), some (.int a6)] [] (bW9 S) := by
  unfold wp_X9_ranges at h
  refine bs_aload_n C (bf_dk dd_X9_ranges 0 rfl) rfl ?_
  refine bs_iload_n C (bf_dk dd_X9_ranges 1 rfl) rfl ?_
  refine bs_selfPV_i C hR (c_X9_isKey _ _ _ _ _ S (a3) _ h) my_X9_isKey m_9_117 rfl cl_9 (ge_bW9_0 _) rfl (Nat.le_of_ble_eq_true rfl) (Nat.le_of_ble_eq_true rfl) (st := []) (Nat.le_of_ble_eq_true rfl) (bf_dk dd_X9_ranges 2 rfl) rfl (fun r1 h => ?_)
  refine bs_if_eq C (bf_dk dd_X9_ranges 3 rfl) (tgt := 17) rfl (fun c => ?_) (fun c => ?_)
  · replace h := h.1 c
    refine bs_iconst C (bf_dk dd_X9_ranges 8 rfl) (0 : Int32) (by decide) ?_
    obtain ⟨hi, h⟩ := h
    exact bs_zret (u := S) C (bf_dk dd_X9_ranges 9 rfl) hi rfl h
  · replace h := h.2 c
    refine bs_aload_n C (bf_dk dd_X9_ranges 4 rfl) rfl ?_
    refine bs_iload C (bf_dk dd_X9_ranges 5 rfl) rfl ?_
    refine bs_selfPV_i C hR (c_X9_isKey _ _ _ _ _ S (a6) _ h) my_X9_isKey m_9_117 rfl cl_9 (ge_bW9_0 _) rfl (Nat.le_of_ble_eq_true rfl) (Nat.le_of_ble_eq_true rfl) (st := []) (Nat.le_of_ble_eq_true rfl) (bf_dk dd_X9_ranges 6 rfl) rfl (fun r3 h => ?_)
    refine bs_if_ne C (bf_dk dd_X9_ranges 7 rfl) (tgt := 19) rfl (fun c => ?_) (fun c => ?_)
    · replace h := h.1 c
      refine bs_aload_n C (bf_dk dd_X9_ranges 10 rfl) rfl ?_
      refine bs_aload_n C (bf_dk dd_X9_ranges 11 rfl) rfl ?_
      refine bs_iload_n C (bf_dk dd_X9_ranges 12 rfl) rfl ?_
      refine bs_iload_n C (bf_dk dd_X9_ranges 13 rfl) rfl ?_
      refine bs_iload_n C (bf_dk dd_X9_ranges 14 rfl) rfl ?_
      refine bs_selfPV_l C hR (c_X9_keyOf _ _ _ _ _ S (a1) (a2) (a3) _ h) my_X9_keyOf m_9_121 rfl cl_9 (ge_bW9_0 _) rfl (Nat.le_of_ble_eq_true rfl) (Nat.le_of_ble_eq_true rfl) (st := [.ref 0]) (Nat.le_of_ble_eq_true rfl) (bf_dk dd_X9_ranges 15 rfl) rfl (fun r5 h => ?_)
      refine bs_put C (bf_dk dd_X9_ranges 16 rfl) tyX9_ok nmX9 cl_9 in_9 32 (Nat.le_of_ble_eq_true rfl) rfl f_9_333 rfl (ge_bW9_0 S) (Nat.le_of_ble_eq_true rfl) rfl rfl (pu_bW9_0_32 S r5) ?_
      refine bs_nameS bW9 (fun S7 eS7 => ?_)
      replace h := h S7 eS7
      refine bs_aload_n C (bf_dk dd_X9_ranges 17 rfl) rfl ?_
      refine bs_iload_n C (bf_dk dd_X9_ranges 18 rfl) rfl ?_
      refine bs_put C (bf_dk dd_X9_ranges 19 rfl) tyX9_ok nmX9 cl_9 in_9 34 (Nat.le_of_ble_eq_true rfl) rfl f_9_336 rfl (ge_bW9_0 S7) (Nat.le_of_ble_eq_true rfl) rfl rfl (pu_bW9_0_34 S7 a3) ?_
      refine bs_nameS bW9 (fun S8 eS8 => ?_)
      replace h := h S8 eS8
      refine bs_aload_n C (bf_dk dd_X9_ranges 20 rfl) rfl ?_
      refine bs_aload_n C (bf_dk dd_X9_ranges 21 rfl) rfl ?_
      refine bs_iload C (bf_dk dd_X9_ranges 22 rfl) rfl ?_
      refine bs_iload C (bf_dk dd_X9_ranges 23 rfl) rfl ?_
      refine bs_iload C (bf_dk dd_X9_ranges 24 rfl) rfl ?_
      refine bs_selfPV_l C hR (c_X9_keyOf _ _ _ _ _ S8 (a4) (a5) (a6) _ h) my_X9_keyOf m_9_121 rfl cl_9 (ge_bW9_0 _) rfl (Nat.le_of_ble_eq_true rfl) (Nat.le_of_ble_eq_true rfl) (st := [.ref 0]) (Nat.le_of_ble_eq_true rfl) (bf_dk dd_X9_ranges 25 rfl) rfl (fun r9 h => ?_)
      refine bs_put C (bf_dk dd_X9_ranges 26 rfl) tyX9_ok nmX9 cl_9 in_9 33 (Nat.le_of_ble_eq_true rfl) rfl f_9_339 rfl (ge_bW9_0 S8) (Nat.le_of_ble_eq_true rfl) rfl rfl (pu_bW9_0_33 S8 r9) ?_
      refine bs_nameS bW9 (fun S11 eS11 => ?_)
      replace h := h S11 eS11
      refine bs_aload_n C (bf_dk dd_X9_ranges 27 rfl) rfl ?_
      refine bs_iload C (bf_dk dd_X9_ranges 28 rfl) rfl ?_
      refine bs_put C (bf_dk dd_X9_ranges 29 rfl) tyX9_ok nmX9 cl_9 in_9 35 (Nat.le_of_ble_eq_true rfl) rfl f_9_342 rfl (ge_bW9_0 S11) (Nat.le_of_ble_eq_true rfl) rfl rfl (pu_bW9_0_35 S11 a6) ?_
      refine bs_nameS bW9 (fun S12 eS12 => ?_)
      replace h := h S12 eS12
      refine bs_aload_n C (bf_dk dd_X9_ranges 30 rfl) rfl ?_
      refine bs_aload_n C (bf_dk dd_X9_ranges 31 rfl) rfl ?_
      refine bs_get C (bf_dk dd_X9_ranges 32 rfl) cl_9 in_9 33 (Nat.le_of_ble_eq_true rfl) rfl f_9_339 (ge_bW9_0 S12) rfl ?_
      refine bs_aload_n C (bf_dk dd_X9_ranges 33 rfl) rfl ?_
      refine bs_get C (bf_dk dd_X9_ranges 34 rfl) cl_9 in_9 35 (Nat.le_of_ble_eq_true rfl) rfl f_9_342 (ge_bW9_0 S12) rfl ?_
      refine bs_aload_n C (bf_dk dd_X9_ranges 35 rfl) rfl ?_
      refine bs_get C (bf_dk dd_X9_ranges 36 rfl) cl_9 in_9 32 (Nat.le_of_ble_eq_true rfl) rfl f_9_333 (ge_bW9_0 S12) rfl ?_
      refine bs_aload_n C (bf_dk dd_X9_ranges 37 rfl) rfl ?_
      refine bs_get C (bf_dk dd_X9_ranges 38 rfl) cl_9 in_9 34 (Nat.le_of_ble_eq_true rfl) rfl f_9_336 (ge_bW9_0 S12) rfl ?_
      refine bs_selfPV_i C hR (c_X9_isLess _ _ _ _ _ S12 ((b9g_toKey S12)) ((b9g_toLength S12)) ((b9g_fromKey S12)) ((b9g_fromLength S12)) _ h) my_X9_isLess m_9_106 rfl cl_9 (ge_bW9_0 _) rfl (Nat.le_of_ble_eq_true rfl) (Nat.le_of_ble_eq_true rfl) (st := []) (Nat.le_of_ble_eq_true rfl) (bf_dk dd_X9_ranges 39 rfl) rfl (fun r13 h => ?_)
      refine bs_if_ne C (bf_dk dd_X9_ranges 40 rfl) (tgt := 82) rfl (fun c => ?_) (fun c => ?_)
      · replace h := h.1 c
        refine bs_iconst C (bf_dk dd_X9_ranges 43 rfl) (0 : Int32) (by decide) ?_
        obtain ⟨hi, h⟩ := h
        exact bs_zret (u := S12) C (bf_dk dd_X9_ranges 44 rfl) hi rfl h
      · replace h := h.2 c
        refine bs_iconst C (bf_dk dd_X9_ranges 41 rfl) (1 : Int32) (by decide) ?_
        refine bs_goto C (bf_dk dd_X9_ranges 42 rfl) (tgt := 83) rfl ?_
        obtain ⟨hi, h⟩ := h
        exact bs_zret (u := S12) C (bf_dk dd_X9_ranges 44 rfl) hi rfl h
    · replace h := h.2 c
      refine bs_iconst C (bf_dk dd_X9_ranges 8 rfl) (0 : Int32) (by decide) ?_
      obtain ⟨hi, h⟩ := h
      exact bs_zret (u := S) C (bf_dk dd_X9_ranges 9 rfl) hi rfl h
theorem c_X9_ranges (l : Launch) (dC : Nat → ClassId) (dI : Nat → Nat → Nat) (ac : Nat → ClassId) (al : Nat → Nat) (S : bT9) (a1 : Int32) (a2 : Int32) (a3 : Int32) (a4 : Int32) (a5 : Int32) (a6 : Int32) (Q : Int32 → (bT9) → Prop) (h : wp_X9_ranges S a1 a2 a3 a4 a5 a6 Q) : bf_M l yX9_ranges cX9_ranges 7 (some .boolean) 2 46 dC dI ac al [.ref 0, .int a1, .int a2, .int a3, .int a4, .int a5, .int a6] (bW9 S) (bf_Ki dC dI ac al bW9 Q) := by
  refine bf_start [some (.ref 0), some (.int a1), some (.int a2), some (.int a3), some (.int a4), some (.int a5), some (.int a6)] (by decide) (Nat.le_of_ble_eq_true rfl) (bf_s1 (bf_s1 (bf_s1 (bf_s1 (bf_s1 (bf_s1 (bf_s1 bf_s0))))))) ?_
  intro X hl C hR e1 e2 e3 e4
  subst e1; subst e2; subst e3; subst e4
  exact t_X9_ranges C hR S a1 a2 a3 a4 a5 a6 Q h
def wp_X9_isMet (S : bT9) (Q : Int32 → Prop) : Prop := (wp_X9_isLess S ((b9g_toKey S)) ((b9g_toLength S)) ((b9g_lowKey S)) ((b9g_lowLength S)) (fun r1 => ((¬ r1 = 0 → (bf_bool (0 : Int32) ∧ Q (0 : Int32))) ∧ (r1 = 0 → (wp_X9_isLess S ((b9g_highKey S)) ((b9g_highLength S)) ((b9g_fromKey S)) ((b9g_fromLength S)) (fun r3 => ((¬ r3 = 0 → (bf_bool (0 : Int32) ∧ Q (0 : Int32))) ∧ (r3 = 0 → (bf_bool (1 : Int32) ∧ Q (1 : Int32))))))))))
set_option maxRecDepth 20000 in
theorem t_X9_isMet {X : bf_X} (C : bf_C X RX9 cX9_isMet 1 (some .boolean)) (hR : bf_Rm X 1 26) (S : bT9) (Q : Int32 → Prop) (h : wp_X9_isMet S Q) : bf_A X (bf_Zi X bW9 (fun r u => u = S ∧ Q r)) 1 0 [some (.ref 0)] [] (bW9 S) := by
  unfold wp_X9_isMet at h
  refine bs_aload_n C (bf_dk dd_X9_isMet 0 rfl) rfl ?_
  refine bs_aload_n C (bf_dk dd_X9_isMet 1 rfl) rfl ?_
  refine bs_get C (bf_dk dd_X9_isMet 2 rfl) cl_9 in_9 33 (Nat.le_of_ble_eq_true rfl) rfl f_9_339 (ge_bW9_0 S) rfl ?_
  refine bs_aload_n C (bf_dk dd_X9_isMet 3 rfl) rfl ?_
  refine bs_get C (bf_dk dd_X9_isMet 4 rfl) cl_9 in_9 35 (Nat.le_of_ble_eq_true rfl) rfl f_9_342 (ge_bW9_0 S) rfl ?_
  refine bs_aload_n C (bf_dk dd_X9_isMet 5 rfl) rfl ?_
  refine bs_get C (bf_dk dd_X9_isMet 6 rfl) cl_9 in_9 28 (Nat.le_of_ble_eq_true rfl) rfl f_9_271 (ge_bW9_0 S) rfl ?_
  refine bs_aload_n C (bf_dk dd_X9_isMet 7 rfl) rfl ?_
  refine bs_get C (bf_dk dd_X9_isMet 8 rfl) cl_9 in_9 30 (Nat.le_of_ble_eq_true rfl) rfl f_9_274 (ge_bW9_0 S) rfl ?_
  refine bs_selfPV_i C hR (c_X9_isLess _ _ _ _ _ S ((b9g_toKey S)) ((b9g_toLength S)) ((b9g_lowKey S)) ((b9g_lowLength S)) _ h) my_X9_isLess m_9_106 rfl cl_9 (ge_bW9_0 _) rfl (Nat.le_of_ble_eq_true rfl) (Nat.le_of_ble_eq_true rfl) (st := []) (Nat.le_of_ble_eq_true rfl) (bf_dk dd_X9_isMet 9 rfl) rfl (fun r1 h => ?_)
  refine bs_if_ne C (bf_dk dd_X9_isMet 10 rfl) (tgt := 50) rfl (fun c => ?_) (fun c => ?_)
  · replace h := h.1 c
    refine bs_iconst C (bf_dk dd_X9_isMet 24 rfl) (0 : Int32) (by decide) ?_
    obtain ⟨hi, h⟩ := h
    exact bs_zret (u := S) C (bf_dk dd_X9_isMet 25 rfl) hi rfl ⟨rfl, h⟩
  · replace h := h.2 c
    refine bs_aload_n C (bf_dk dd_X9_isMet 11 rfl) rfl ?_
    refine bs_aload_n C (bf_dk dd_X9_isMet 12 rfl) rfl ?_
    refine bs_get C (bf_dk dd_X9_isMet 13 rfl) cl_9 in_9 29 (Nat.le_of_ble_eq_true rfl) rfl f_9_277 (ge_bW9_0 S) rfl ?_
    refine bs_aload_n C (bf_dk dd_X9_isMet 14 rfl) rfl ?_
    refine bs_get C (bf_dk dd_X9_isMet 15 rfl) cl_9 in_9 31 (Nat.le_of_ble_eq_true rfl) rfl f_9_280 (ge_bW9_0 S) rfl ?_
    refine bs_aload_n C (bf_dk dd_X9_isMet 16 rfl) rfl ?_
    refine bs_get C (bf_dk dd_X9_isMet 17 rfl) cl_9 in_9 32 (Nat.le_of_ble_eq_true rfl) rfl f_9_333 (ge_bW9_0 S) rfl ?_
    refine bs_aload_n C (bf_dk dd_X9_isMet 18 rfl) rfl ?_
    refine bs_get C (bf_dk dd_X9_isMet 19 rfl) cl_9 in_9 34 (Nat.le_of_ble_eq_true rfl) rfl f_9_336 (ge_bW9_0 S) rfl ?_
    refine bs_selfPV_i C hR (c_X9_isLess _ _ _ _ _ S ((b9g_highKey S)) ((b9g_highLength S)) ((b9g_fromKey S)) ((b9g_fromLength S)) _ h) my_X9_isLess m_9_106 rfl cl_9 (ge_bW9_0 _) rfl (Nat.le_of_ble_eq_true rfl) (Nat.le_of_ble_eq_true rfl) (st := []) (Nat.le_of_ble_eq_true rfl) (bf_dk dd_X9_isMet 20 rfl) rfl (fun r3 h => ?_)
    refine bs_if_ne C (bf_dk dd_X9_isMet 21 rfl) (tgt := 50) rfl (fun c => ?_) (fun c => ?_)
    · replace h := h.1 c
      refine bs_iconst C (bf_dk dd_X9_isMet 24 rfl) (0 : Int32) (by decide) ?_
      obtain ⟨hi, h⟩ := h
      exact bs_zret (u := S) C (bf_dk dd_X9_isMet 25 rfl) hi rfl ⟨rfl, h⟩
    · replace h := h.2 c
      refine bs_iconst C (bf_dk dd_X9_isMet 22 rfl) (1 : Int32) (by decide) ?_
      refine bs_goto C (bf_dk dd_X9_isMet 23 rfl) (tgt := 51) rfl ?_
      obtain ⟨hi, h⟩ := h
      exact bs_zret (u := S) C (bf_dk dd_X9_isMet 25 rfl) hi rfl ⟨rfl, h⟩
theorem c_X9_isMet (l : Launch) (dC : Nat → ClassId) (dI : Nat → Nat → Nat) (ac : Nat → ClassId) (al : Nat → Nat) (S : bT9) (Q : Int32 → Prop) (h : wp_X9_isMet S Q) : bf_M l yX9_isMet cX9_isMet 1 (some .boolean) 1 26 dC dI ac al [.ref 0] (bW9 S) (bf_Ki dC dI ac al bW9 (fun r u => u = S ∧ Q r)) := by
  refine bf_start [some (.ref 0)] (by decide) (Nat.le_of_ble_eq_true rfl) (bf_s1 bf_s0) ?_
  intro X hl C hR e1 e2 e3 e4
  subst e1; subst e2; subst e3; subst e4
  exact t_X9_isMet C hR S Q h
def wp_X9_isSure (S : bT9) (Q : Int32 → Prop) : Prop := (wp_X9_isLess S ((b9g_lowKey S)) ((b9g_lowLength S)) ((b9g_fromKey S)) ((b9g_fromLength S)) (fun r1 => ((¬ r1 = 0 → (bf_bool (0 : Int32) ∧ Q (0 : Int32))) ∧ (r1 = 0 → (wp_X9_isLess S ((b9g_toKey S)) ((b9g_toLength S)) ((b9g_highKey S)) ((b9g_highLength S)) (fun r3 => ((¬ r3 = 0 → (bf_bool (0 : Int32) ∧ Q (0 : Int32))) ∧ (r3 = 0 → (bf_bool (1 : Int32) ∧ Q (1 : Int32))))))))))
set_option maxRecDepth 20000 in
theorem t_X9_isSure {X : bf_X} (C : bf_C X RX9 cX9_isSure 1 (some .boolean)) (hR : bf_Rm X 1 26) (S : bT9) (Q : Int32 → Prop) (h : wp_X9_isSure S Q) : bf_A X (bf_Zi X bW9 (fun r u => u = S ∧ Q r)) 1 0 [some (.ref 0)] [] (bW9 S) := by
  unfold wp_X9_isSure at h
  refine bs_aload_n C (bf_dk dd_X9_isSure 0 rfl) rfl ?_
  refine bs_aload_n C (bf_dk dd_X9_isSure 1 rfl) rfl ?_
  refine bs_get C (bf_dk dd_X9_isSure 2 rfl) cl_9 in_9 28 (Nat.le_of_ble_eq_true rfl) rfl f_9_271 (ge_bW9_0 S) rfl ?_
  refine bs_aload_n C (bf_dk dd_X9_isSure 3 rfl) rfl ?_
  refine bs_get C (bf_dk dd_X9_isSure 4 rfl) cl_9 in_9 30 (Nat.le_of_ble_eq_true rfl) rfl f_9_274 (ge_bW9_0 S) rfl ?_
  refine bs_aload_n C (bf_dk dd_X9_isSure 5 rfl) rfl ?_
  refine bs_get C (bf_dk dd_X9_isSure 6 rfl) cl_9 in_9 32 (Nat.le_of_ble_eq_true rfl) rfl f_9_333 (ge_bW9_0 S) rfl ?_
  refine bs_aload_n C (bf_dk dd_X9_isSure 7 rfl) rfl ?_
  refine bs_get C (bf_dk dd_X9_isSure 8 rfl) cl_9 in_9 34 (Nat.le_of_ble_eq_true rfl) rfl f_9_336 (ge_bW9_0 S) rfl ?_
  refine bs_selfPV_i C hR (c_X9_isLess _ _ _ _ _ S ((b9g_lowKey S)) ((b9g_lowLength S)) ((b9g_fromKey S)) ((b9g_fromLength S)) _ h) my_X9_isLess m_9_106 rfl cl_9 (ge_bW9_0 _) rfl (Nat.le_of_ble_eq_true rfl) (Nat.le_of_ble_eq_true rfl) (st := []) (Nat.le_of_ble_eq_true rfl) (bf_dk dd_X9_isSure 9 rfl) rfl (fun r1 h => ?_)
  refine bs_if_ne C (bf_dk dd_X9_isSure 10 rfl) (tgt := 50) rfl (fun c => ?_) (fun c => ?_)
  · replace h := h.1 c
    refine bs_iconst C (bf_dk dd_X9_isSure 24 rfl) (0 : Int32) (by decide) ?_
    obtain ⟨hi, h⟩ := h
    exact bs_zret (u := S) C (bf_dk dd_X9_isSure 25 rfl) hi rfl ⟨rfl, h⟩
  · replace h := h.2 c
    refine bs_aload_n C (bf_dk dd_X9_isSure 11 rfl) rfl ?_
    refine bs_aload_n C (bf_dk dd_X9_isSure 12 rfl) rfl ?_
    refine bs_get C (bf_dk dd_X9_isSure 13 rfl) cl_9 in_9 33 (Nat.le_of_ble_eq_true rfl) rfl f_9_339 (ge_bW9_0 S) rfl ?_
    refine bs_aload_n C (bf_dk dd_X9_isSure 14 rfl) rfl ?_
    refine bs_get C (bf_dk dd_X9_isSure 15 rfl) cl_9 in_9 35 (Nat.le_of_ble_eq_true rfl) rfl f_9_342 (ge_bW9_0 S) rfl ?_
    refine bs_aload_n C (bf_dk dd_X9_isSure 16 rfl) rfl ?_
    refine bs_get C (bf_dk dd_X9_isSure 17 rfl) cl_9 in_9 29 (Nat.le_of_ble_eq_true rfl) rfl f_9_277 (ge_bW9_0 S) rfl ?_
    refine bs_aload_n C (bf_dk dd_X9_isSure 18 rfl) rfl ?_
    refine bs_get C (bf_dk dd_X9_isSure 19 rfl) cl_9 in_9 31 (Nat.le_of_ble_eq_true rfl) rfl f_9_280 (ge_bW9_0 S) rfl ?_
    refine bs_selfPV_i C hR (c_X9_isLess _ _ _ _ _ S ((b9g_toKey S)) ((b9g_toLength S)) ((b9g_highKey S)) ((b9g_highLength S)) _ h) my_X9_isLess m_9_106 rfl cl_9 (ge_bW9_0 _) rfl (Nat.le_of_ble_eq_true rfl) (Nat.le_of_ble_eq_true rfl) (st := []) (Nat.le_of_ble_eq_true rfl) (bf_dk dd_X9_isSure 20 rfl) rfl (fun r3 h => ?_)
    refine bs_if_ne C (bf_dk dd_X9_isSure 21 rfl) (tgt := 50) rfl (fun c => ?_) (fun c => ?_)
    · replace h := h.1 c
      refine bs_iconst C (bf_dk dd_X9_isSure 24 rfl) (0 : Int32) (by decide) ?_
      obtain ⟨hi, h⟩ := h
      exact bs_zret (u := S) C (bf_dk dd_X9_isSure 25 rfl) hi rfl ⟨rfl, h⟩
    · replace h := h.2 c
      refine bs_iconst C (bf_dk dd_X9_isSure 22 rfl) (1 : Int32) (by decide) ?_
      refine bs_goto C (bf_dk dd_X9_isSure 23 rfl) (tgt := 51) rfl ?_
      obtain ⟨hi, h⟩ := h
      exact bs_zret (u := S) C (bf_dk dd_X9_isSure 25 rfl) hi rfl ⟨rfl, h⟩
theorem c_X9_isSure (l : Launch) (dC : Nat → ClassId) (dI : Nat → Nat → Nat) (ac : Nat → ClassId) (al : Nat → Nat) (S : bT9) (Q : Int32 → Prop) (h : wp_X9_isSure S Q) : bf_M l yX9_isSure cX9_isSure 1 (some .boolean) 1 26 dC dI ac al [.ref 0] (bW9 S) (bf_Ki dC dI ac al bW9 (fun r u => u = S ∧ Q r)) := by
  refine bf_start [some (.ref 0)] (by decide) (Nat.le_of_ble_eq_true rfl) (bf_s1 bf_s0) ?_
  intro X hl C hR e1 e2 e3 e4
  subst e1; subst e2; subst e3; subst e4
  exact t_X9_isSure C hR S Q h
def wp_X9_rangeMany_46 (S : bT9) (x1 : Int32) (x2 : Int32) (x3 : Int32) (Q : Int32 → (bT9) → Prop) (B4 : Int32 → Int32 → Int32 → (bT9) → Prop) : Prop := (B4 (x1) (x2) ((x3 + (1 : Int32))) S)
set_option maxRecDepth 20000 in
theorem t_X9_rangeMany_46 {X : bf_X} (C : bf_C X RX9 cX9_rangeMany 4 (some .int)) (hR : bf_Rm X 4 89) (S : bT9) (x1 : Int32) (x2 : Int32) (x3 : Int32) (Q : Int32 → (bT9) → Prop) (B4 : Int32 → Int32 → Int32 → (bT9) → Prop) (hB4 : ∀ (x1 : Int32) (x2 : Int32) (x3 : Int32) (S : bT9), B4 x1 x2 x3 S → bf_A X (bf_Zi X bW9 Q) 4 4 [some (.ref 0), some (.int x1), some (.int x2), some (.int x3)] [] (bW9 S)) (h : wp_X9_rangeMany_46 S x1 x2 x3 Q B4) : bf_A X (bf_Zi X bW9 Q) 4 46 [some (.ref 0), some (.int x1), some (.int x2), some (.int x3)] [] (bW9 S) := by
  unfold wp_X9_rangeMany_46 at h
  refine bs_iinc C (bf_dk dd_X9_rangeMany 26 rfl) (x3 + (1 : Int32)) rfl rfl (Nat.le_of_ble_eq_true rfl) (Nat.le_of_ble_eq_true rfl) (lv2 := [some (.ref 0), some (.int x1), some (.int x2), some (.int (x3 + (1 : Int32)))]) rfl ?_
  refine bs_goto C (bf_dk dd_X9_rangeMany 27 rfl) (tgt := 4) rfl ?_
  exact bs_weak (bf_s1 (bf_s1 (bf_s1 (bf_s1 bf_s0)))) (hB4 (x1) (x2) ((x3 + (1 : Int32))) S h)
def wp_X9_rangeMany_42 (S : bT9) (x1 : Int32) (x2 : Int32) (x3 : Int32) (Q : Int32 → (bT9) → Prop) (B4 : Int32 → Int32 → Int32 → (bT9) → Prop) : Prop := (wp_X9_rangeMany_46 S (x1) ((x2 + (1 : Int32))) (x3) Q B4)
set_option maxRecDepth 20000 in
theorem t_X9_rangeMany_42 {X : bf_X} (C : bf_C X RX9 cX9_rangeMany 4 (some .int)) (hR : bf_Rm X 4 89) (S : bT9) (x1 : Int32) (x2 : Int32) (x3 : Int32) (Q : Int32 → (bT9) → Prop) (B4 : Int32 → Int32 → Int32 → (bT9) → Prop) (hB4 : ∀ (x1 : Int32) (x2 : Int32) (x3 : Int32) (S : bT9), B4 x1 x2 x3 S → bf_A X (bf_Zi X bW9 Q) 4 4 [some (.ref 0), some (.int x1), some (.int x2), some (.int x3)] [] (bW9 S)) (h : wp_X9_rangeMany_42 S x1 x2 x3 Q B4) : bf_A X (bf_Zi X bW9 Q) 4 42 [some (.ref 0), some (.int x1), some (.int x2), some (.int x3)] [] (bW9 S) := by
  unfold wp_X9_rangeMany_42 at h
  refine bs_iload_n C (bf_dk dd_X9_rangeMany 22 rfl) rfl ?_
  refine bs_iconst C (bf_dk dd_X9_rangeMany 23 rfl) (1 : Int32) (by decide) ?_
  refine bs_iadd C (bf_dk dd_X9_rangeMany 24 rfl) ?_
  refine bs_istore_n C (bf_dk dd_X9_rangeMany 25 rfl) rfl (Nat.le_of_ble_eq_true rfl) (Nat.le_of_ble_eq_true rfl) (lv2 := [some (.ref 0), some (.int x1), some (.int (x2 + (1 : Int32))), some (.int x3)]) rfl ?_
  exact bs_weak (bf_s1 (bf_s1 (bf_s1 (bf_s1 bf_s0)))) (t_X9_rangeMany_46 C hR S (x1) ((x2 + (1 : Int32))) (x3) Q B4 hB4 h)
def wp_X9_rangeMany_4b (S : bT9) (x1 : Int32) (x2 : Int32) (x3 : Int32) (Q : Int32 → (bT9) → Prop) (B4 : Int32 → Int32 → Int32 → (bT9) → Prop) : Prop := (wp_X9_leaves S (fun r1 u2 => ((r1 ≤ x3 → (Q x2 u2)) ∧ (¬ r1 ≤ x3 → (wp_X9_nextBits u2 (fun r3 => (wp_X9_bounds u2 (x3) (r3) (fun u6 => ((x1 = 0 → (wp_X9_isMet u6 (fun r7 => ((r7 = 0 → (wp_X9_rangeMany_46 u6 (x1) (x2) (x3) Q B4)) ∧ (¬ r7 = 0 → (wp_X9_rangeMany_42 u6 (x1) (x2) (x3) Q B4)))))) ∧ (¬ x1 = 0 → (wp_X9_isSure u6 (fun r9 => ((r9 = 0 → (wp_X9_rangeMany_46 u6 (x1) (x2) (x3) Q B4)) ∧ (¬ r9 = 0 → (wp_X9_rangeMany_42 u6 (x1) (x2) (x3) Q B4)))))))))))))))
set_option maxRecDepth 20000 in
theorem t_X9_rangeMany_4b {X : bf_X} (C : bf_C X RX9 cX9_rangeMany 4 (some .int)) (hR : bf_Rm X 4 89) (S : bT9) (x1 : Int32) (x2 : Int32) (x3 : Int32) (Q : Int32 → (bT9) → Prop) (B4 : Int32 → Int32 → Int32 → (bT9) → Prop) (hB4 : ∀ (x1 : Int32) (x2 : Int32) (x3 : Int32) (S : bT9), B4 x1 x2 x3 S → bf_A X (bf_Zi X bW9 Q) 4 4 [some (.ref 0), some (.int x1), some (.int x2), some (.int x3)] [] (bW9 S)) (h : wp_X9_rangeMany_4b S x1 x2 x3 Q B4) : bf_A X (bf_Zi X bW9 Q) 4 4 [some (.ref 0), some (.int x1), some (.int x2), some (.int x3)] [] (bW9 S) := by
  unfold wp_X9_rangeMany_4b at h
  refine bs_iload_n C (bf_dk dd_X9_rangeMany 4 rfl) rfl ?_
  refine bs_aload_n C (bf_dk dd_X9_rangeMany 5 rfl) rfl ?_
  refine bs_selfV_i C hR (c_X9_leaves _ _ _ _ _ S _ h) my_X9_leaves m_9_268 rfl cl_9 (ge_bW9_0 _) rfl (Nat.le_of_ble_eq_true rfl) (Nat.le_of_ble_eq_true rfl) (st := [.int x3]) (Nat.le_of_ble_eq_true rfl) (bf_dk dd_X9_rangeMany 6 rfl) rfl (len := 21) (fun _ => rfl) (fun r1 u2 h => ?_)
  refine bs_icmp_ge C (bf_dk dd_X9_rangeMany 7 rfl) (tgt := 52) rfl (fun c => ?_) (fun c => ?_)
  · replace h := h.1 c
    refine bs_iload_n C (bf_dk dd_X9_rangeMany 28 rfl) rfl ?_
    exact bs_iret (u := u2) C (bf_dk dd_X9_rangeMany 29 rfl) rfl h
  · replace h := h.2 c
    refine bs_aload_n C (bf_dk dd_X9_rangeMany 8 rfl) rfl ?_
    refine bs_iload_n C (bf_dk dd_X9_rangeMany 9 rfl) rfl ?_
    refine bs_aload_n C (bf_dk dd_X9_rangeMany 10 rfl) rfl ?_
    refine bs_selfPV_i C hR (c_X9_nextBits _ _ _ _ _ u2 _ h) my_X9_nextBits m_9_313 rfl cl_9 (ge_bW9_0 _) rfl (Nat.le_of_ble_eq_true rfl) (Nat.le_of_ble_eq_true rfl) (st := [.int x3, .ref 0]) (Nat.le_of_ble_eq_true rfl) (bf_dk dd_X9_rangeMany 11 rfl) rfl (fun r3 h => ?_)
    refine bs_selfV_v C hR (c_X9_bounds _ _ _ _ _ u2 (x3) (r3) _ h) my_X9_bounds m_9_292 rfl cl_9 (ge_bW9_0 _) rfl (Nat.le_of_ble_eq_true rfl) (Nat.le_of_ble_eq_true rfl) (st := []) (Nat.le_of_ble_eq_true rfl) (bf_dk dd_X9_rangeMany 12 rfl) rfl (len := 21) (fun _ => rfl) (fun u6 h => ?_)
    refine bs_iload_n C (bf_dk dd_X9_rangeMany 13 rfl) rfl ?_
    refine bs_if_eq C (bf_dk dd_X9_rangeMany 14 rfl) (tgt := 35) rfl (fun c => ?_) (fun c => ?_)
    · replace h := h.1 c
      refine bs_aload_n C (bf_dk dd_X9_rangeMany 19 rfl) rfl ?_
      refine bs_selfPV_i C hR (c_X9_isMet _ _ _ _ _ u6 _ h) my_X9_isMet m_9_349 rfl cl_9 (ge_bW9_0 _) rfl (Nat.le_of_ble_eq_true rfl) (Nat.le_of_ble_eq_true rfl) (st := []) (Nat.le_of_ble_eq_true rfl) (bf_dk dd_X9_rangeMany 20 rfl) rfl (fun r7 h => ?_)
      refine bs_if_eq C (bf_dk dd_X9_rangeMany 21 rfl) (tgt := 46) rfl (fun c => ?_) (fun c => ?_)
      · replace h := h.1 c
        exact bs_weak (bf_s1 (bf_s1 (bf_s1 (bf_s1 bf_s0)))) (t_X9_rangeMany_46 C hR u6 (x1) (x2) (x3) Q B4 hB4 h)
      · replace h := h.2 c
        exact bs_weak (bf_s1 (bf_s1 (bf_s1 (bf_s1 bf_s0)))) (t_X9_rangeMany_42 C hR u6 (x1) (x2) (x3) Q B4 hB4 h)
    · replace h := h.2 c
      refine bs_aload_n C (bf_dk dd_X9_rangeMany 15 rfl) rfl ?_
      refine bs_selfPV_i C hR (c_X9_isSure _ _ _ _ _ u6 _ h) my_X9_isSure m_9_345 rfl cl_9 (ge_bW9_0 _) rfl (Nat.le_of_ble_eq_true rfl) (Nat.le_of_ble_eq_true rfl) (st := []) (Nat.le_of_ble_eq_true rfl) (bf_dk dd_X9_rangeMany 16 rfl) rfl (fun r9 h => ?_)
      refine bs_if_eq C (bf_dk dd_X9_rangeMany 17 rfl) (tgt := 46) rfl (fun c => ?_) (fun c => ?_)
      · replace h := h.1 c
        exact bs_weak (bf_s1 (bf_s1 (bf_s1 (bf_s1 bf_s0)))) (t_X9_rangeMany_46 C hR u6 (x1) (x2) (x3) Q B4 hB4 h)
      · replace h := h.2 c
        refine bs_goto C (bf_dk dd_X9_rangeMany 18 rfl) (tgt := 42) rfl ?_
        exact bs_weak (bf_s1 (bf_s1 (bf_s1 (bf_s1 bf_s0)))) (t_X9_rangeMany_42 C hR u6 (x1) (x2) (x3) Q B4 hB4 h)
def wp_X9_rangeMany_4 (S : bT9) (x1 : Int32) (x2 : Int32) (x3 : Int32) (Q : Int32 → (bT9) → Prop) : Prop := ∃ I : Nat → Int32 → Int32 → Int32 → (bT9) → Prop, (∃ n : Nat, I n x1 x2 x3 S) ∧ ∀ (n : Nat) (x1 : Int32) (x2 : Int32) (x3 : Int32) (S : bT9), I n x1 x2 x3 S → wp_X9_rangeMany_4b S x1 x2 x3 Q (fun x1 x2 x3 S => ∃ n2 : Nat, n2 < n ∧ I n2 x1 x2 x3 S)
theorem t_X9_rangeMany_4 {X : bf_X} (C : bf_C X RX9 cX9_rangeMany 4 (some .int)) (hR : bf_Rm X 4 89) (S : bT9) (x1 : Int32) (x2 : Int32) (x3 : Int32) (Q : Int32 → (bT9) → Prop) (h : wp_X9_rangeMany_4 S x1 x2 x3 Q) : bf_A X (bf_Zi X bW9 Q) 4 4 [some (.ref 0), some (.int x1), some (.int x2), some (.int x3)] [] (bW9 S) := by
  obtain ⟨I, ⟨n0, h0⟩, hI⟩ := h
  have key : ∀ (n : Nat) (x1 : Int32) (x2 : Int32) (x3 : Int32) (S : bT9), I n x1 x2 x3 S → bf_A X (bf_Zi X bW9 Q) 4 4 [some (.ref 0), some (.int x1), some (.int x2), some (.int x3)] [] (bW9 S) := by
    intro n
    induction n using Nat.strongRecOn with
    | _ n ih =>
      intro x1 x2 x3 S hi
      exact t_X9_rangeMany_4b C hR S x1 x2 x3 Q _ (fun x1 x2 x3 S hb => by obtain ⟨n2, hn, hi2⟩ := hb; exact ih n2 hn x1 x2 x3 S hi2) (hI n x1 x2 x3 S hi)
  exact key n0 x1 x2 x3 S h0
def wp_X9_rangeMany (S : bT9) (a1 : Int32) (Q : Int32 → (bT9) → Prop) : Prop := (wp_X9_rangeMany_4 S (a1) ((0 : Int32)) ((0 : Int32)) Q)
set_option maxRecDepth 20000 in
theorem t_X9_rangeMany {X : bf_X} (C : bf_C X RX9 cX9_rangeMany 4 (some .int)) (hR : bf_Rm X 4 89) (S : bT9) (a1 : Int32) (Q : Int32 → (bT9) → Prop) (h : wp_X9_rangeMany S a1 Q) : bf_A X (bf_Zi X bW9 Q) 4 0 [some (.ref 0), some (.int a1), none, none] [] (bW9 S) := by
  unfold wp_X9_rangeMany at h
  refine bs_iconst C (bf_dk dd_X9_rangeMany 0 rfl) (0 : Int32) (by decide) ?_
  refine bs_istore_n C (bf_dk dd_X9_rangeMany 1 rfl) rfl (Nat.le_of_ble_eq_true rfl) (Nat.le_of_ble_eq_true rfl) (lv2 := [some (.ref 0), some (.int a1), some (.int (0 : Int32)), none]) rfl ?_
  refine bs_iconst C (bf_dk dd_X9_rangeMany 2 rfl) (0 : Int32) (by decide) ?_
  refine bs_istore_n C (bf_dk dd_X9_rangeMany 3 rfl) rfl (Nat.le_of_ble_eq_true rfl) (Nat.le_of_ble_eq_true rfl) (lv2 := [some (.ref 0), some (.int a1), some (.int (0 : Int32)), some (.int (0 : Int32))]) rfl ?_
  exact bs_weak (bf_s1 (bf_s1 (bf_s1 (bf_s1 bf_s0)))) (t_X9_rangeMany_4 C hR S (a1) ((0 : Int32)) ((0 : Int32)) Q h)
theorem c_X9_rangeMany (l : Launch) (dC : Nat → ClassId) (dI : Nat → Nat → Nat) (ac : Nat → ClassId) (al : Nat → Nat) (S : bT9) (a1 : Int32) (Q : Int32 → (bT9) → Prop) (h : wp_X9_rangeMany S a1 Q) : bf_M l yX9_rangeMany cX9_rangeMany 4 (some .int) 4 89 dC dI ac al [.ref 0, .int a1] (bW9 S) (bf_Ki dC dI ac al bW9 Q) := by
  refine bf_start [some (.ref 0), some (.int a1), none, none] (by decide) (Nat.le_of_ble_eq_true rfl) (bf_s1 (bf_s1 (bf_en 2))) ?_
  intro X hl C hR e1 e2 e3 e4
  subst e1; subst e2; subst e3; subst e4
  exact t_X9_rangeMany C hR S a1 Q h
def wp_X9_asksRange_94 (S : bT9) (t1 : Int32) (t2 : Int32) (t3 : Int32) (Q : Int32 → (bT9) → Prop) : Prop := (wp_X9_counts S (t1) (t2) (t3) (fun r1 u2 => (Q r1 u2)))
set_option maxRecDepth 20000 in
theorem t_X9_asksRange_94 {X : bf_X} (C : bf_C X RX9 cX9_asksRange 4 (some .int)) (hR : bf_Rm X 5 112) (S : bT9) (t1 : Int32) (t2 : Int32) (t3 : Int32) (Q : Int32 → (bT9) → Prop) (h : wp_X9_asksRange_94 S t1 t2 t3 Q) : bf_A X (bf_Zi X bW9 Q) 4 94 [none, none, none, none] [.int t3, .int t2, .int t1, .ref 0] (bW9 S) := by
  unfold wp_X9_asksRange_94 at h
  refine bs_selfV_i C hR (c_X9_counts _ _ _ _ _ S (t1) (t2) (t3) _ h) my_X9_counts m_9_326 rfl cl_9 (ge_bW9_0 _) rfl (Nat.le_of_ble_eq_true rfl) (Nat.le_of_ble_eq_true rfl) (st := []) (Nat.le_of_ble_eq_true rfl) (bf_dk dd_X9_asksRange 53 rfl) rfl (len := 21) (fun _ => rfl) (fun r1 u2 h => ?_)
  exact bs_iret (u := u2) C (bf_dk dd_X9_asksRange 54 rfl) rfl h
def wp_X9_asksRange_93 (S : bT9) (t1 : Int32) (t2 : Int32) (Q : Int32 → (bT9) → Prop) : Prop := (wp_X9_asksRange_94 S (t1) (t2) ((0 : Int32)) Q)
set_option maxRecDepth 20000 in
theorem t_X9_asksRange_93 {X : bf_X} (C : bf_C X RX9 cX9_asksRange 4 (some .int)) (hR : bf_Rm X 5 112) (S : bT9) (t1 : Int32) (t2 : Int32) (Q : Int32 → (bT9) → Prop) (h : wp_X9_asksRange_93 S t1 t2 Q) : bf_A X (bf_Zi X bW9 Q) 4 93 [none, none, none, none] [.int t2, .int t1, .ref 0] (bW9 S) := by
  unfold wp_X9_asksRange_93 at h
  refine bs_iconst C (bf_dk dd_X9_asksRange 52 rfl) (0 : Int32) (by decide) ?_
  exact bs_weak (bf_sn (bf_sn (bf_sn (bf_sn bf_s0)))) (t_X9_asksRange_94 C hR S (t1) (t2) ((0 : Int32)) Q h)
def wp_X9_asksRange_77 (S : bT9) (x1 : Int32) (t0 : Int32) (Q : Int32 → (bT9) → Prop) : Prop := ((x1 = 0 → (wp_X9_asksRange_93 S ((3 : Int32)) (x1) Q)) ∧ (¬ x1 = 0 → ((¬ t0 = 0 → (wp_X9_asksRange_93 S ((3 : Int32)) (x1) Q)) ∧ (t0 = 0 → (wp_X9_asksRange_94 S ((3 : Int32)) (x1) ((1 : Int32)) Q)))))
set_option maxRecDepth 20000 in
theorem t_X9_asksRange_77 {X : bf_X} (C : bf_C X RX9 cX9_asksRange 4 (some .int)) (hR : bf_Rm X 5 112) (S : bT9) (x1 : Int32) (t0 : Int32) (Q : Int32 → (bT9) → Prop) (h : wp_X9_asksRange_77 S x1 t0 Q) : bf_A X (bf_Zi X bW9 Q) 4 77 [some (.ref 0), some (.int x1), none, none] [.int t0] (bW9 S) := by
  unfold wp_X9_asksRange_77 at h
  refine bs_istore_n C (bf_dk dd_X9_asksRange 42 rfl) rfl (Nat.le_of_ble_eq_true rfl) (Nat.le_of_ble_eq_true rfl) (lv2 := [some (.ref 0), some (.int x1), none, some (.int t0)]) rfl ?_
  refine bs_aload_n C (bf_dk dd_X9_asksRange 43 rfl) rfl ?_
  refine bs_iconst C (bf_dk dd_X9_asksRange 44 rfl) (3 : Int32) (by decide) ?_
  refine bs_iload_n C (bf_dk dd_X9_asksRange 45 rfl) rfl ?_
  refine bs_iload_n C (bf_dk dd_X9_asksRange 46 rfl) rfl ?_
  refine bs_if_eq C (bf_dk dd_X9_asksRange 47 rfl) (tgt := 93) rfl (fun c => ?_) (fun c => ?_)
  · replace h := h.1 c
    exact bs_weak (bf_sn (bf_sn (bf_sn (bf_sn bf_s0)))) (t_X9_asksRange_93 C hR S ((3 : Int32)) (x1) Q h)
  · replace h := h.2 c
    refine bs_iload_n C (bf_dk dd_X9_asksRange 48 rfl) rfl ?_
    refine bs_if_ne C (bf_dk dd_X9_asksRange 49 rfl) (tgt := 93) rfl (fun c => ?_) (fun c => ?_)
    · replace h := h.1 c
      exact bs_weak (bf_sn (bf_sn (bf_sn (bf_sn bf_s0)))) (t_X9_asksRange_93 C hR S ((3 : Int32)) (x1) Q h)
    · replace h := h.2 c
      refine bs_iconst C (bf_dk dd_X9_asksRange 50 rfl) (1 : Int32) (by decide) ?_
      refine bs_goto C (bf_dk dd_X9_asksRange 51 rfl) (tgt := 94) rfl ?_
      exact bs_weak (bf_sn (bf_sn (bf_sn (bf_sn bf_s0)))) (t_X9_asksRange_94 C hR S ((3 : Int32)) (x1) ((1 : Int32)) Q h)
def wp_X9_asksRange_76 (S : bT9) (x1 : Int32) (Q : Int32 → (bT9) → Prop) : Prop := (wp_X9_asksRange_77 S (x1) ((0 : Int32)) Q)
set_option maxRecDepth 20000 in
theorem t_X9_asksRange_76 {X : bf_X} (C : bf_C X RX9 cX9_asksRange 4 (some .int)) (hR : bf_Rm X 5 112) (S : bT9) (x1 : Int32) (Q : Int32 → (bT9) → Prop) (h : wp_X9_asksRange_76 S x1 Q) : bf_A X (bf_Zi X bW9 Q) 4 76 [some (.ref 0), some (.int x1), none, none] [] (bW9 S) := by
  unfold wp_X9_asksRange_76 at h
  refine bs_iconst C (bf_dk dd_X9_asksRange 41 rfl) (0 : Int32) (by decide) ?_
  exact bs_weak (bf_s1 (bf_s1 (bf_sn (bf_sn bf_s0)))) (t_X9_asksRange_77 C hR S (x1) ((0 : Int32)) Q h)
def wp_X9_asksRange_13 (S : bT9) (t0 : Int32) (Q : Int32 → (bT9) → Prop) : Prop := (vp_in (9 : Int32) 23 ∧ (wp_X9_lessMany S ((64 : Int32)) (((b9g_now S) ((9 : Int32)).toNatClampNeg)) ((b9g_fromKey S)) ((b9g_fromLength S)) (fun r3 => (vp_in (9 : Int32) 23 ∧ ((((b9g_now S) ((9 : Int32)).toNatClampNeg) ≤ r3 → (wp_X9_asksRange_76 S (t0) Q)) ∧ (¬ ((b9g_now S) ((9 : Int32)).toNatClampNeg) ≤ r3 → (wp_X9_key S (r3) (fun r5 => (wp_X9_lengthOf S (r3) (fun r7 => (wp_X9_isLess S ((b9g_toKey S)) ((b9g_toLength S)) (r5) (r7) (fun r9 => ((¬ r9 = 0 → (wp_X9_asksRange_76 S (t0) Q)) ∧ (r9 = 0 → (wp_X9_asksRange_77 S (t0) ((1 : Int32)) Q)))))))))))))))
set_option maxRecDepth 20000 in
theorem t_X9_asksRange_13 {X : bf_X} (C : bf_C X RX9 cX9_asksRange 4 (some .int)) (hR : bf_Rm X 5 112) (S : bT9) (t0 : Int32) (Q : Int32 → (bT9) → Prop) (h : wp_X9_asksRange_13 S t0 Q) : bf_A X (bf_Zi X bW9 Q) 4 13 [some (.ref 0), none, none, none] [.int t0] (bW9 S) := by
  unfold wp_X9_asksRange_13 at h
  refine bs_istore_n C (bf_dk dd_X9_asksRange 7 rfl) rfl (Nat.le_of_ble_eq_true rfl) (Nat.le_of_ble_eq_true rfl) (lv2 := [some (.ref 0), some (.int t0), none, none]) rfl ?_
  refine bs_aload_n C (bf_dk dd_X9_asksRange 8 rfl) rfl ?_
  refine bs_bipush C (bf_dk dd_X9_asksRange 9 rfl) (64 : Int32) (by decide) ?_
  refine bs_aload_n C (bf_dk dd_X9_asksRange 10 rfl) rfl ?_
  refine bs_get C (bf_dk dd_X9_asksRange 11 rfl) cl_9 in_9 1 (Nat.le_of_ble_eq_true rfl) rfl f_9_7 (ge_bW9_0 S) rfl ?_
  refine bs_bipush C (bf_dk dd_X9_asksRange 12 rfl) (9 : Int32) (by decide) ?_
  obtain ⟨hi, h⟩ := h
  refine bs_iald C (bf_dk dd_X9_asksRange 13 rfl) (ge_bW9_1 S) hi ?_
  refine bs_aload_n C (bf_dk dd_X9_asksRange 14 rfl) rfl ?_
  refine bs_get C (bf_dk dd_X9_asksRange 15 rfl) cl_9 in_9 32 (Nat.le_of_ble_eq_true rfl) rfl f_9_333 (ge_bW9_0 S) rfl ?_
  refine bs_aload_n C (bf_dk dd_X9_asksRange 16 rfl) rfl ?_
  refine bs_get C (bf_dk dd_X9_asksRange 17 rfl) cl_9 in_9 34 (Nat.le_of_ble_eq_true rfl) rfl f_9_336 (ge_bW9_0 S) rfl ?_
  refine bs_selfPV_i C hR (c_X9_lessMany _ _ _ _ _ S ((64 : Int32)) (((b9g_now S) ((9 : Int32)).toNatClampNeg)) ((b9g_fromKey S)) ((b9g_fromLength S)) _ h) my_X9_lessMany m_9_110 rfl cl_9 (ge_bW9_0 _) rfl (Nat.le_of_ble_eq_true rfl) (Nat.le_of_ble_eq_true rfl) (st := []) (Nat.le_of_ble_eq_true rfl) (bf_dk dd_X9_asksRange 18 rfl) rfl (fun r3 h => ?_)
  refine bs_istore_n C (bf_dk dd_X9_asksRange 19 rfl) rfl (Nat.le_of_ble_eq_true rfl) (Nat.le_of_ble_eq_true rfl) (lv2 := [some (.ref 0), some (.int t0), some (.int r3), none]) rfl ?_
  refine bs_iload_n C (bf_dk dd_X9_asksRange 20 rfl) rfl ?_
  refine bs_aload_n C (bf_dk dd_X9_asksRange 21 rfl) rfl ?_
  refine bs_get C (bf_dk dd_X9_asksRange 22 rfl) cl_9 in_9 1 (Nat.le_of_ble_eq_true rfl) rfl f_9_7 (ge_bW9_0 S) rfl ?_
  refine bs_bipush C (bf_dk dd_X9_asksRange 23 rfl) (9 : Int32) (by decide) ?_
  obtain ⟨hi, h⟩ := h
  refine bs_iald C (bf_dk dd_X9_asksRange 24 rfl) (ge_bW9_1 S) hi ?_
  refine bs_icmp_ge C (bf_dk dd_X9_asksRange 25 rfl) (tgt := 76) rfl (fun c => ?_) (fun c => ?_)
  · replace h := h.1 c
    exact bs_weak (bf_s1 (bf_s1 (bf_sn (bf_sn bf_s0)))) (t_X9_asksRange_76 C hR S (t0) Q h)
  · replace h := h.2 c
    refine bs_aload_n C (bf_dk dd_X9_asksRange 26 rfl) rfl ?_
    refine bs_aload_n C (bf_dk dd_X9_asksRange 27 rfl) rfl ?_
    refine bs_get C (bf_dk dd_X9_asksRange 28 rfl) cl_9 in_9 33 (Nat.le_of_ble_eq_true rfl) rfl f_9_339 (ge_bW9_0 S) rfl ?_
    refine bs_aload_n C (bf_dk dd_X9_asksRange 29 rfl) rfl ?_
    refine bs_get C (bf_dk dd_X9_asksRange 30 rfl) cl_9 in_9 35 (Nat.le_of_ble_eq_true rfl) rfl f_9_342 (ge_bW9_0 S) rfl ?_
    refine bs_aload_n C (bf_dk dd_X9_asksRange 31 rfl) rfl ?_
    refine bs_iload_n C (bf_dk dd_X9_asksRange 32 rfl) rfl ?_
    refine bs_selfPV_l C hR (c_X9_key _ _ _ _ _ S (r3) _ h) my_X9_key m_9_178 rfl cl_9 (ge_bW9_0 _) rfl (Nat.le_of_ble_eq_true rfl) (Nat.le_of_ble_eq_true rfl) (st := [.int (b9g_toLength S), .long (b9g_toKey S), .ref 0]) (Nat.le_of_ble_eq_true rfl) (bf_dk dd_X9_asksRange 33 rfl) rfl (fun r5 h => ?_)
    refine bs_aload_n C (bf_dk dd_X9_asksRange 34 rfl) rfl ?_
    refine bs_iload_n C (bf_dk dd_X9_asksRange 35 rfl) rfl ?_
    refine bs_selfPV_i C hR (c_X9_lengthOf _ _ _ _ _ S (r3) _ h) my_X9_lengthOf m_9_175 rfl cl_9 (ge_bW9_0 _) rfl (Nat.le_of_ble_eq_true rfl) (Nat.le_of_ble_eq_true rfl) (st := [.long r5, .int (b9g_toLength S), .long (b9g_toKey S), .ref 0]) (Nat.le_of_ble_eq_true rfl) (bf_dk dd_X9_asksRange 36 rfl) rfl (fun r7 h => ?_)
    refine bs_selfPV_i C hR (c_X9_isLess _ _ _ _ _ S ((b9g_toKey S)) ((b9g_toLength S)) (r5) (r7) _ h) my_X9_isLess m_9_106 rfl cl_9 (ge_bW9_0 _) rfl (Nat.le_of_ble_eq_true rfl) (Nat.le_of_ble_eq_true rfl) (st := []) (Nat.le_of_ble_eq_true rfl) (bf_dk dd_X9_asksRange 37 rfl) rfl (fun r9 h => ?_)
    refine bs_if_ne C (bf_dk dd_X9_asksRange 38 rfl) (tgt := 76) rfl (fun c => ?_) (fun c => ?_)
    · replace h := h.1 c
      exact bs_weak (bf_s1 (bf_s1 (bf_sn (bf_sn bf_s0)))) (t_X9_asksRange_76 C hR S (t0) Q h)
    · replace h := h.2 c
      refine bs_iconst C (bf_dk dd_X9_asksRange 39 rfl) (1 : Int32) (by decide) ?_
      refine bs_goto C (bf_dk dd_X9_asksRange 40 rfl) (tgt := 77) rfl ?_
      exact bs_weak (bf_s1 (bf_s1 (bf_sn (bf_sn bf_s0)))) (t_X9_asksRange_77 C hR S (t0) ((1 : Int32)) Q h)
def wp_X9_asksRange (S : bT9) (Q : Int32 → (bT9) → Prop) : Prop := (wp_X9_rangeMany S ((0 : Int32)) (fun r11 u12 => ((r11 ≤ 0 → (wp_X9_asksRange_13 u12 ((0 : Int32)) Q)) ∧ (¬ r11 ≤ 0 → (wp_X9_asksRange_13 u12 ((1 : Int32)) Q)))))
set_option maxRecDepth 20000 in
theorem t_X9_asksRange {X : bf_X} (C : bf_C X RX9 cX9_asksRange 4 (some .int)) (hR : bf_Rm X 5 112) (S : bT9) (Q : Int32 → (bT9) → Prop) (h : wp_X9_asksRange S Q) : bf_A X (bf_Zi X bW9 Q) 4 0 [some (.ref 0), none, none, none] [] (bW9 S) := by
  unfold wp_X9_asksRange at h
  refine bs_aload_n C (bf_dk dd_X9_asksRange 0 rfl) rfl ?_
  refine bs_iconst C (bf_dk dd_X9_asksRange 1 rfl) (0 : Int32) (by decide) ?_
  refine bs_selfV_i C hR (c_X9_rangeMany _ _ _ _ _ S ((0 : Int32)) _ h) my_X9_rangeMany m_9_352 rfl cl_9 (ge_bW9_0 _) rfl (Nat.le_of_ble_eq_true rfl) (Nat.le_of_ble_eq_true rfl) (st := []) (Nat.le_of_ble_eq_true rfl) (bf_dk dd_X9_asksRange 2 rfl) rfl (len := 21) (fun _ => rfl) (fun r11 u12 h => ?_)
  refine bs_if_le C (bf_dk dd_X9_asksRange 3 rfl) (tgt := 12) rfl (fun c => ?_) (fun c => ?_)
  · replace h := h.1 c
    refine bs_iconst C (bf_dk dd_X9_asksRange 6 rfl) (0 : Int32) (by decide) ?_
    exact bs_weak (bf_s1 (bf_sn (bf_sn (bf_sn bf_s0)))) (t_X9_asksRange_13 C hR u12 ((0 : Int32)) Q h)
  · replace h := h.2 c
    refine bs_iconst C (bf_dk dd_X9_asksRange 4 rfl) (1 : Int32) (by decide) ?_
    refine bs_goto C (bf_dk dd_X9_asksRange 5 rfl) (tgt := 13) rfl ?_
    exact bs_weak (bf_s1 (bf_sn (bf_sn (bf_sn bf_s0)))) (t_X9_asksRange_13 C hR u12 ((1 : Int32)) Q h)
theorem c_X9_asksRange (l : Launch) (dC : Nat → ClassId) (dI : Nat → Nat → Nat) (ac : Nat → ClassId) (al : Nat → Nat) (S : bT9) (Q : Int32 → (bT9) → Prop) (h : wp_X9_asksRange S Q) : bf_M l yX9_asksRange cX9_asksRange 4 (some .int) 5 112 dC dI ac al [.ref 0] (bW9 S) (bf_Ki dC dI ac al bW9 Q) := by
  refine bf_start [some (.ref 0), none, none, none] (by decide) (Nat.le_of_ble_eq_true rfl) (bf_s1 (bf_en 3)) ?_
  intro X hl C hR e1 e2 e3 e4
  subst e1; subst e2; subst e3; subst e4
  exact t_X9_asksRange C hR S Q h
def wp_X9_range (S : bT9) (a1 : Int32) (a2 : Int32) (a3 : Int32) (a4 : Int32) (a5 : Int32) (a6 : Int32) (Q : Int32 → (bT9) → Prop) : Prop := (∀ S1 : bT9, S1 = (b9s_told S (0 : Int32)) → (wp_X9_ranges S1 (a1) (a2) (a3) (a4) (a5) (a6) (fun r2 u3 => ((¬ r2 = 0 → (wp_X9_asksRange u3 (fun r4 u5 => (wp_X9_rangeMany u5 ((0 : Int32)) (fun r6 u7 => ((r6 ≤ 0 → (Q (0 : Int32) u7)) ∧ (¬ r6 ≤ 0 → (Q (1 : Int32) u7)))))))) ∧ (r2 = 0 → (Q (-1 : Int32) u3))))))
set_option maxRecDepth 20000 in
theorem t_X9_range {X : bf_X} (C : bf_C X RX9 cX9_range 7 (some .int)) (hR : bf_Rm X 6 135) (S : bT9) (a1 : Int32) (a2 : Int32) (a3 : Int32) (a4 : Int32) (a5 : Int32) (a6 : Int32) (Q : Int32 → (bT9) → Prop) (h : wp_X9_range S a1 a2 a3 a4 a5 a6 Q) : bf_A X (bf_Zi X bW9 Q) 7 0 [some (.ref 0), some (.int a1), some (.int a2), some (.int a3), some (.int a4), some (.int a5), some (.int a6)] [] (bW9 S) := by
  unfold wp_X9_range at h
  refine bs_aload_n C (bf_dk dd_X9_range 0 rfl) rfl ?_
  refine bs_iconst C (bf_dk dd_X9_range 1 rfl) (0 : Int32) (by decide) ?_
  refine bs_put C (bf_dk dd_X9_range 2 rfl) tyX9_ok nmX9 cl_9 in_9 0 (Nat.le_of_ble_eq_true rfl) rfl f_9_75 rfl (ge_bW9_0 S) (Nat.le_of_ble_eq_true rfl) rfl rfl (pu_bW9_0_0 S (0 : Int32)) ?_
  refine bs_nameS bW9 (fun S1 eS1 => ?_)
  replace h := h S1 eS1
  refine bs_aload_n C (bf_dk dd_X9_range 3 rfl) rfl ?_
  refine bs_iload_n C (bf_dk dd_X9_range 4 rfl) rfl ?_
  refine bs_iload_n C (bf_dk dd_X9_range 5 rfl) rfl ?_
  refine bs_iload_n C (bf_dk dd_X9_range 6 rfl) rfl ?_
  refine bs_iload C (bf_dk dd_X9_range 7 rfl) rfl ?_
  refine bs_iload C (bf_dk dd_X9_range 8 rfl) rfl ?_
  refine bs_iload C (bf_dk dd_X9_range 9 rfl) rfl ?_
  refine bs_selfV_i C hR (c_X9_ranges _ _ _ _ _ S1 (a1) (a2) (a3) (a4) (a5) (a6) _ h) my_X9_ranges m_9_356 rfl cl_9 (ge_bW9_0 _) rfl (Nat.le_of_ble_eq_true rfl) (Nat.le_of_ble_eq_true rfl) (st := []) (Nat.le_of_ble_eq_true rfl) (bf_dk dd_X9_range 10 rfl) rfl (len := 21) (fun _ => rfl) (fun r2 u3 h => ?_)
  refine bs_if_ne C (bf_dk dd_X9_range 11 rfl) (tgt := 23) rfl (fun c => ?_) (fun c => ?_)
  · replace h := h.1 c
    refine bs_aload_n C (bf_dk dd_X9_range 14 rfl) rfl ?_
    refine bs_selfV_i C hR (c_X9_asksRange _ _ _ _ _ u3 _ h) my_X9_asksRange m_9_360 rfl cl_9 (ge_bW9_0 _) rfl (Nat.le_of_ble_eq_true rfl) (Nat.le_of_ble_eq_true rfl) (st := []) (Nat.le_of_ble_eq_true rfl) (bf_dk dd_X9_range 15 rfl) rfl (len := 21) (fun _ => rfl) (fun r4 u5 h => ?_)
    refine bs_pop C (bf_dk dd_X9_range 16 rfl) rfl ?_
    refine bs_aload_n C (bf_dk dd_X9_range 17 rfl) rfl ?_
    refine bs_iconst C (bf_dk dd_X9_range 18 rfl) (0 : Int32) (by decide) ?_
    refine bs_selfV_i C hR (c_X9_rangeMany _ _ _ _ _ u5 ((0 : Int32)) _ h) my_X9_rangeMany m_9_352 rfl cl_9 (ge_bW9_0 _) rfl (Nat.le_of_ble_eq_true rfl) (Nat.le_of_ble_eq_true rfl) (st := []) (Nat.le_of_ble_eq_true rfl) (bf_dk dd_X9_range 19 rfl) rfl (len := 21) (fun _ => rfl) (fun r6 u7 h => ?_)
    refine bs_if_le C (bf_dk dd_X9_range 20 rfl) (tgt := 40) rfl (fun c => ?_) (fun c => ?_)
    · replace h := h.1 c
      refine bs_iconst C (bf_dk dd_X9_range 23 rfl) (0 : Int32) (by decide) ?_
      exact bs_iret (u := u7) C (bf_dk dd_X9_range 24 rfl) rfl h
    · replace h := h.2 c
      refine bs_iconst C (bf_dk dd_X9_range 21 rfl) (1 : Int32) (by decide) ?_
      refine bs_goto C (bf_dk dd_X9_range 22 rfl) (tgt := 41) rfl ?_
      exact bs_iret (u := u7) C (bf_dk dd_X9_range 24 rfl) rfl h
  · replace h := h.2 c
    refine bs_iconst C (bf_dk dd_X9_range 12 rfl) (-1 : Int32) (by decide) ?_
    exact bs_iret (u := u3) C (bf_dk dd_X9_range 13 rfl) rfl h
theorem c_X9_range (l : Launch) (dC : Nat → ClassId) (dI : Nat → Nat → Nat) (ac : Nat → ClassId) (al : Nat → Nat) (S : bT9) (a1 : Int32) (a2 : Int32) (a3 : Int32) (a4 : Int32) (a5 : Int32) (a6 : Int32) (Q : Int32 → (bT9) → Prop) (h : wp_X9_range S a1 a2 a3 a4 a5 a6 Q) : bf_M l yX9_range cX9_range 7 (some .int) 6 135 dC dI ac al [.ref 0, .int a1, .int a2, .int a3, .int a4, .int a5, .int a6] (bW9 S) (bf_Ki dC dI ac al bW9 Q) := by
  refine bf_start [some (.ref 0), some (.int a1), some (.int a2), some (.int a3), some (.int a4), some (.int a5), some (.int a6)] (by decide) (Nat.le_of_ble_eq_true rfl) (bf_s1 (bf_s1 (bf_s1 (bf_s1 (bf_s1 (bf_s1 (bf_s1 bf_s0))))))) ?_
  intro X hl C hR e1 e2 e3 e4
  subst e1; subst e2; subst e3; subst e4
  exact t_X9_range C hR S a1 a2 a3 a4 a5 a6 Q h
def wp_X9_meets (S : bT9) (a1 : Int32) (a2 : Int32) (a3 : Int32) (a4 : Int32) (a5 : Int32) (a6 : Int32) (Q : Int32 → (bT9) → Prop) : Prop := (∀ S1 : bT9, S1 = (b9s_told S (0 : Int32)) → (wp_X9_ranges S1 (a1) (a2) (a3) (a4) (a5) (a6) (fun r2 u3 => ((r2 = 0 → (Q (-1 : Int32) u3)) ∧ (¬ r2 = 0 → (wp_X9_rangeMany u3 ((0 : Int32)) (fun r4 u5 => (Q r4 u5))))))))
set_option maxRecDepth 20000 in
theorem t_X9_meets {X : bf_X} (C : bf_C X RX9 cX9_meets 7 (some .int)) (hR : bf_Rm X 5 112) (S : bT9) (a1 : Int32) (a2 : Int32) (a3 : Int32) (a4 : Int32) (a5 : Int32) (a6 : Int32) (Q : Int32 → (bT9) → Prop) (h : wp_X9_meets S a1 a2 a3 a4 a5 a6 Q) : bf_A X (bf_Zi X bW9 Q) 7 0 [some (.ref 0), some (.int a1), some (.int a2), some (.int a3), some (.int a4), some (.int a5), some (.int a6)] [] (bW9 S) := by
  unfold wp_X9_meets at h
  refine bs_aload_n C (bf_dk dd_X9_meets 0 rfl) rfl ?_
  refine bs_iconst C (bf_dk dd_X9_meets 1 rfl) (0 : Int32) (by decide) ?_
  refine bs_put C (bf_dk dd_X9_meets 2 rfl) tyX9_ok nmX9 cl_9 in_9 0 (Nat.le_of_ble_eq_true rfl) rfl f_9_75 rfl (ge_bW9_0 S) (Nat.le_of_ble_eq_true rfl) rfl rfl (pu_bW9_0_0 S (0 : Int32)) ?_
  refine bs_nameS bW9 (fun S1 eS1 => ?_)
  replace h := h S1 eS1
  refine bs_aload_n C (bf_dk dd_X9_meets 3 rfl) rfl ?_
  refine bs_iload_n C (bf_dk dd_X9_meets 4 rfl) rfl ?_
  refine bs_iload_n C (bf_dk dd_X9_meets 5 rfl) rfl ?_
  refine bs_iload_n C (bf_dk dd_X9_meets 6 rfl) rfl ?_
  refine bs_iload C (bf_dk dd_X9_meets 7 rfl) rfl ?_
  refine bs_iload C (bf_dk dd_X9_meets 8 rfl) rfl ?_
  refine bs_iload C (bf_dk dd_X9_meets 9 rfl) rfl ?_
  refine bs_selfV_i C hR (c_X9_ranges _ _ _ _ _ S1 (a1) (a2) (a3) (a4) (a5) (a6) _ h) my_X9_ranges m_9_356 rfl cl_9 (ge_bW9_0 _) rfl (Nat.le_of_ble_eq_true rfl) (Nat.le_of_ble_eq_true rfl) (st := []) (Nat.le_of_ble_eq_true rfl) (bf_dk dd_X9_meets 10 rfl) rfl (len := 21) (fun _ => rfl) (fun r2 u3 h => ?_)
  refine bs_if_eq C (bf_dk dd_X9_meets 11 rfl) (tgt := 29) rfl (fun c => ?_) (fun c => ?_)
  · replace h := h.1 c
    refine bs_iconst C (bf_dk dd_X9_meets 16 rfl) (-1 : Int32) (by decide) ?_
    exact bs_iret (u := u3) C (bf_dk dd_X9_meets 17 rfl) rfl h
  · replace h := h.2 c
    refine bs_aload_n C (bf_dk dd_X9_meets 12 rfl) rfl ?_
    refine bs_iconst C (bf_dk dd_X9_meets 13 rfl) (0 : Int32) (by decide) ?_
    refine bs_selfV_i C hR (c_X9_rangeMany _ _ _ _ _ u3 ((0 : Int32)) _ h) my_X9_rangeMany m_9_352 rfl cl_9 (ge_bW9_0 _) rfl (Nat.le_of_ble_eq_true rfl) (Nat.le_of_ble_eq_true rfl) (st := []) (Nat.le_of_ble_eq_true rfl) (bf_dk dd_X9_meets 14 rfl) rfl (len := 21) (fun _ => rfl) (fun r4 u5 h => ?_)
    refine bs_goto C (bf_dk dd_X9_meets 15 rfl) (tgt := 30) rfl ?_
    exact bs_iret (u := u5) C (bf_dk dd_X9_meets 17 rfl) rfl h
theorem c_X9_meets (l : Launch) (dC : Nat → ClassId) (dI : Nat → Nat → Nat) (ac : Nat → ClassId) (al : Nat → Nat) (S : bT9) (a1 : Int32) (a2 : Int32) (a3 : Int32) (a4 : Int32) (a5 : Int32) (a6 : Int32) (Q : Int32 → (bT9) → Prop) (h : wp_X9_meets S a1 a2 a3 a4 a5 a6 Q) : bf_M l yX9_meets cX9_meets 7 (some .int) 5 112 dC dI ac al [.ref 0, .int a1, .int a2, .int a3, .int a4, .int a5, .int a6] (bW9 S) (bf_Ki dC dI ac al bW9 Q) := by
  refine bf_start [some (.ref 0), some (.int a1), some (.int a2), some (.int a3), some (.int a4), some (.int a5), some (.int a6)] (by decide) (Nat.le_of_ble_eq_true rfl) (bf_s1 (bf_s1 (bf_s1 (bf_s1 (bf_s1 (bf_s1 (bf_s1 bf_s0))))))) ?_
  intro X hl C hR e1 e2 e3 e4
  subst e1; subst e2; subst e3; subst e4
  exact t_X9_meets C hR S a1 a2 a3 a4 a5 a6 Q h
def wp_X9_holds (S : bT9) (a1 : Int32) (a2 : Int32) (a3 : Int32) (a4 : Int32) (a5 : Int32) (a6 : Int32) (Q : Int32 → (bT9) → Prop) : Prop := (∀ S1 : bT9, S1 = (b9s_told S (0 : Int32)) → (wp_X9_ranges S1 (a1) (a2) (a3) (a4) (a5) (a6) (fun r2 u3 => ((r2 = 0 → (Q (-1 : Int32) u3)) ∧ (¬ r2 = 0 → (wp_X9_rangeMany u3 ((1 : Int32)) (fun r4 u5 => (Q r4 u5))))))))
set_option maxRecDepth 20000 in
theorem t_X9_holds {X : bf_X} (C : bf_C X RX9 cX9_holds 7 (some .int)) (hR : bf_Rm X 5 112) (S : bT9) (a1 : Int32) (a2 : Int32) (a3 : Int32) (a4 : Int32) (a5 : Int32) (a6 : Int32) (Q : Int32 → (bT9) → Prop) (h : wp_X9_holds S a1 a2 a3 a4 a5 a6 Q) : bf_A X (bf_Zi X bW9 Q) 7 0 [some (.ref 0), some (.int a1), some (.int a2), some (.int a3), some (.int a4), some (.int a5), some (.int a6)] [] (bW9 S) := by
  unfold wp_X9_holds at h
  refine bs_aload_n C (bf_dk dd_X9_holds 0 rfl) rfl ?_
  refine bs_iconst C (bf_dk dd_X9_holds 1 rfl) (0 : Int32) (by decide) ?_
  refine bs_put C (bf_dk dd_X9_holds 2 rfl) tyX9_ok nmX9 cl_9 in_9 0 (Nat.le_of_ble_eq_true rfl) rfl f_9_75 rfl (ge_bW9_0 S) (Nat.le_of_ble_eq_true rfl) rfl rfl (pu_bW9_0_0 S (0 : Int32)) ?_
  refine bs_nameS bW9 (fun S1 eS1 => ?_)
  replace h := h S1 eS1
  refine bs_aload_n C (bf_dk dd_X9_holds 3 rfl) rfl ?_
  refine bs_iload_n C (bf_dk dd_X9_holds 4 rfl) rfl ?_
  refine bs_iload_n C (bf_dk dd_X9_holds 5 rfl) rfl ?_
  refine bs_iload_n C (bf_dk dd_X9_holds 6 rfl) rfl ?_
  refine bs_iload C (bf_dk dd_X9_holds 7 rfl) rfl ?_
  refine bs_iload C (bf_dk dd_X9_holds 8 rfl) rfl ?_
  refine bs_iload C (bf_dk dd_X9_holds 9 rfl) rfl ?_
  refine bs_selfV_i C hR (c_X9_ranges _ _ _ _ _ S1 (a1) (a2) (a3) (a4) (a5) (a6) _ h) my_X9_ranges m_9_356 rfl cl_9 (ge_bW9_0 _) rfl (Nat.le_of_ble_eq_true rfl) (Nat.le_of_ble_eq_true rfl) (st := []) (Nat.le_of_ble_eq_true rfl) (bf_dk dd_X9_holds 10 rfl) rfl (len := 21) (fun _ => rfl) (fun r2 u3 h => ?_)
  refine bs_if_eq C (bf_dk dd_X9_holds 11 rfl) (tgt := 29) rfl (fun c => ?_) (fun c => ?_)
  · replace h := h.1 c
    refine bs_iconst C (bf_dk dd_X9_holds 16 rfl) (-1 : Int32) (by decide) ?_
    exact bs_iret (u := u3) C (bf_dk dd_X9_holds 17 rfl) rfl h
  · replace h := h.2 c
    refine bs_aload_n C (bf_dk dd_X9_holds 12 rfl) rfl ?_
    refine bs_iconst C (bf_dk dd_X9_holds 13 rfl) (1 : Int32) (by decide) ?_
    refine bs_selfV_i C hR (c_X9_rangeMany _ _ _ _ _ u3 ((1 : Int32)) _ h) my_X9_rangeMany m_9_352 rfl cl_9 (ge_bW9_0 _) rfl (Nat.le_of_ble_eq_true rfl) (Nat.le_of_ble_eq_true rfl) (st := []) (Nat.le_of_ble_eq_true rfl) (bf_dk dd_X9_holds 14 rfl) rfl (len := 21) (fun _ => rfl) (fun r4 u5 h => ?_)
    refine bs_goto C (bf_dk dd_X9_holds 15 rfl) (tgt := 30) rfl ?_
    exact bs_iret (u := u5) C (bf_dk dd_X9_holds 17 rfl) rfl h
theorem c_X9_holds (l : Launch) (dC : Nat → ClassId) (dI : Nat → Nat → Nat) (ac : Nat → ClassId) (al : Nat → Nat) (S : bT9) (a1 : Int32) (a2 : Int32) (a3 : Int32) (a4 : Int32) (a5 : Int32) (a6 : Int32) (Q : Int32 → (bT9) → Prop) (h : wp_X9_holds S a1 a2 a3 a4 a5 a6 Q) : bf_M l yX9_holds cX9_holds 7 (some .int) 5 112 dC dI ac al [.ref 0, .int a1, .int a2, .int a3, .int a4, .int a5, .int a6] (bW9 S) (bf_Ki dC dI ac al bW9 Q) := by
  refine bf_start [some (.ref 0), some (.int a1), some (.int a2), some (.int a3), some (.int a4), some (.int a5), some (.int a6)] (by decide) (Nat.le_of_ble_eq_true rfl) (bf_s1 (bf_s1 (bf_s1 (bf_s1 (bf_s1 (bf_s1 (bf_s1 bf_s0))))))) ?_
  intro X hl C hR e1 e2 e3 e4
  subst e1; subst e2; subst e3; subst e4
  exact t_X9_holds C hR S a1 a2 a3 a4 a5 a6 Q h
def wp_X9_seek_18b (S : bT9) (x1 : Int32) (x2 : Int32) (x3 : Int32) (x4 : Int32) (Q : Int32 → (bT9) → Prop) (B18 : Int32 → Int32 → Int32 → Int32 → (bT9) → Prop) : Prop := (wp_X9_leaves S (fun r1 u2 => ((r1 ≤ x4 → (Q (-1 : Int32) u2)) ∧ (¬ r1 ≤ x4 → (wp_X9_nextBits u2 (fun r3 => (wp_X9_bounds u2 (x4) (r3) (fun u6 => (wp_X9_keyOf u6 (x1) (x2) (x3) (fun r7 => (wp_X9_isBehind u6 (r7) (x3) (fun r9 => ((¬ r9 = 0 → (B18 (x1) (x2) (x3) ((x4 + (1 : Int32))) u6)) ∧ (r9 = 0 → (Q x4 u6)))))))))))))))
set_option maxRecDepth 20000 in
theorem t_X9_seek_18b {X : bf_X} (C : bf_C X RX9 cX9_seek 5 (some .int)) (hR : bf_Rm X 4 89) (S : bT9) (x1 : Int32) (x2 : Int32) (x3 : Int32) (x4 : Int32) (Q : Int32 → (bT9) → Prop) (B18 : Int32 → Int32 → Int32 → Int32 → (bT9) → Prop) (hB18 : ∀ (x1 : Int32) (x2 : Int32) (x3 : Int32) (x4 : Int32) (S : bT9), B18 x1 x2 x3 x4 S → bf_A X (bf_Zi X bW9 Q) 5 18 [some (.ref 0), some (.int x1), some (.int x2), some (.int x3), some (.int x4)] [] (bW9 S)) (h : wp_X9_seek_18b S x1 x2 x3 x4 Q B18) : bf_A X (bf_Zi X bW9 Q) 5 18 [some (.ref 0), some (.int x1), some (.int x2), some (.int x3), some (.int x4)] [] (bW9 S) := by
  unfold wp_X9_seek_18b at h
  refine bs_iload C (bf_dk dd_X9_seek 11 rfl) rfl ?_
  refine bs_aload_n C (bf_dk dd_X9_seek 12 rfl) rfl ?_
  refine bs_selfV_i C hR (c_X9_leaves _ _ _ _ _ S _ h) my_X9_leaves m_9_268 rfl cl_9 (ge_bW9_0 _) rfl (Nat.le_of_ble_eq_true rfl) (Nat.le_of_ble_eq_true rfl) (st := [.int x4]) (Nat.le_of_ble_eq_true rfl) (bf_dk dd_X9_seek 13 rfl) rfl (len := 21) (fun _ => rfl) (fun r1 u2 h => ?_)
  refine bs_icmp_ge C (bf_dk dd_X9_seek 14 rfl) (tgt := 61) rfl (fun c => ?_) (fun c => ?_)
  · replace h := h.1 c
    refine bs_iconst C (bf_dk dd_X9_seek 33 rfl) (-1 : Int32) (by decide) ?_
    exact bs_iret (u := u2) C (bf_dk dd_X9_seek 34 rfl) rfl h
  · replace h := h.2 c
    refine bs_aload_n C (bf_dk dd_X9_seek 15 rfl) rfl ?_
    refine bs_iload C (bf_dk dd_X9_seek 16 rfl) rfl ?_
    refine bs_aload_n C (bf_dk dd_X9_seek 17 rfl) rfl ?_
    refine bs_selfPV_i C hR (c_X9_nextBits _ _ _ _ _ u2 _ h) my_X9_nextBits m_9_313 rfl cl_9 (ge_bW9_0 _) rfl (Nat.le_of_ble_eq_true rfl) (Nat.le_of_ble_eq_true rfl) (st := [.int x4, .ref 0]) (Nat.le_of_ble_eq_true rfl) (bf_dk dd_X9_seek 18 rfl) rfl (fun r3 h => ?_)
    refine bs_selfV_v C hR (c_X9_bounds _ _ _ _ _ u2 (x4) (r3) _ h) my_X9_bounds m_9_292 rfl cl_9 (ge_bW9_0 _) rfl (Nat.le_of_ble_eq_true rfl) (Nat.le_of_ble_eq_true rfl) (st := []) (Nat.le_of_ble_eq_true rfl) (bf_dk dd_X9_seek 19 rfl) rfl (len := 21) (fun _ => rfl) (fun u6 h => ?_)
    refine bs_aload_n C (bf_dk dd_X9_seek 20 rfl) rfl ?_
    refine bs_aload_n C (bf_dk dd_X9_seek 21 rfl) rfl ?_
    refine bs_iload_n C (bf_dk dd_X9_seek 22 rfl) rfl ?_
    refine bs_iload_n C (bf_dk dd_X9_seek 23 rfl) rfl ?_
    refine bs_iload_n C (bf_dk dd_X9_seek 24 rfl) rfl ?_
    refine bs_selfPV_l C hR (c_X9_keyOf _ _ _ _ _ u6 (x1) (x2) (x3) _ h) my_X9_keyOf m_9_121 rfl cl_9 (ge_bW9_0 _) rfl (Nat.le_of_ble_eq_true rfl) (Nat.le_of_ble_eq_true rfl) (st := [.ref 0]) (Nat.le_of_ble_eq_true rfl) (bf_dk dd_X9_seek 25 rfl) rfl (fun r7 h => ?_)
    refine bs_iload_n C (bf_dk dd_X9_seek 26 rfl) rfl ?_
    refine bs_selfPV_i C hR (c_X9_isBehind _ _ _ _ _ u6 (r7) (x3) _ h) my_X9_isBehind m_9_300 rfl cl_9 (ge_bW9_0 _) rfl (Nat.le_of_ble_eq_true rfl) (Nat.le_of_ble_eq_true rfl) (st := []) (Nat.le_of_ble_eq_true rfl) (bf_dk dd_X9_seek 27 rfl) rfl (fun r9 h => ?_)
    refine bs_if_ne C (bf_dk dd_X9_seek 28 rfl) (tgt := 55) rfl (fun c => ?_) (fun c => ?_)
    · replace h := h.1 c
      refine bs_iinc C (bf_dk dd_X9_seek 31 rfl) (x4 + (1 : Int32)) rfl rfl (Nat.le_of_ble_eq_true rfl) (Nat.le_of_ble_eq_true rfl) (lv2 := [some (.ref 0), some (.int x1), some (.int x2), some (.int x3), some (.int (x4 + (1 : Int32)))]) rfl ?_
      refine bs_goto C (bf_dk dd_X9_seek 32 rfl) (tgt := 18) rfl ?_
      exact bs_weak (bf_s1 (bf_s1 (bf_s1 (bf_s1 (bf_s1 bf_s0))))) (hB18 (x1) (x2) (x3) ((x4 + (1 : Int32))) u6 h)
    · replace h := h.2 c
      refine bs_iload C (bf_dk dd_X9_seek 29 rfl) rfl ?_
      exact bs_iret (u := u6) C (bf_dk dd_X9_seek 30 rfl) rfl h
def wp_X9_seek_18 (S : bT9) (x1 : Int32) (x2 : Int32) (x3 : Int32) (x4 : Int32) (Q : Int32 → (bT9) → Prop) : Prop := ∃ I : Nat → Int32 → Int32 → Int32 → Int32 → (bT9) → Prop, (∃ n : Nat, I n x1 x2 x3 x4 S) ∧ ∀ (n : Nat) (x1 : Int32) (x2 : Int32) (x3 : Int32) (x4 : Int32) (S : bT9), I n x1 x2 x3 x4 S → wp_X9_seek_18b S x1 x2 x3 x4 Q (fun x1 x2 x3 x4 S => ∃ n2 : Nat, n2 < n ∧ I n2 x1 x2 x3 x4 S)
theorem t_X9_seek_18 {X : bf_X} (C : bf_C X RX9 cX9_seek 5 (some .int)) (hR : bf_Rm X 4 89) (S : bT9) (x1 : Int32) (x2 : Int32) (x3 : Int32) (x4 : Int32) (Q : Int32 → (bT9) → Prop) (h : wp_X9_seek_18 S x1 x2 x3 x4 Q) : bf_A X (bf_Zi X bW9 Q) 5 18 [some (.ref 0), some (.int x1), some (.int x2), some (.int x3), some (.int x4)] [] (bW9 S) := by
  obtain ⟨I, ⟨n0, h0⟩, hI⟩ := h
  have key : ∀ (n : Nat) (x1 : Int32) (x2 : Int32) (x3 : Int32) (x4 : Int32) (S : bT9), I n x1 x2 x3 x4 S → bf_A X (bf_Zi X bW9 Q) 5 18 [some (.ref 0), some (.int x1), some (.int x2), some (.int x3), some (.int x4)] [] (bW9 S) := by
    intro n
    induction n using Nat.strongRecOn with
    | _ n ih =>
      intro x1 x2 x3 x4 S hi
      exact t_X9_seek_18b C hR S x1 x2 x3 x4 Q _ (fun x1 x2 x3 x4 S hb => by obtain ⟨n2, hn, hi2⟩ := hb; exact ih n2 hn x1 x2 x3 x4 S hi2) (hI n x1 x2 x3 x4 S hi)
  exact key n0 x1 x2 x3 x4 S h0
def wp_X9_seek (S : bT9) (a1 : Int32) (a2 : Int32) (a3 : Int32) (Q : Int32 → (bT9) → Prop) : Prop := (∀ S11 : bT9, S11 = (b9s_told S (0 : Int32)) → (wp_X9_isKey S11 (a3) (fun r12 => ((¬ r12 = 0 → (wp_X9_seek_18 S11 (a1) (a2) (a3) ((0 : Int32)) Q)) ∧ (r12 = 0 → (Q (-1 : Int32) S11))))))
set_option maxRecDepth 20000 in
theorem t_X9_seek {X : bf_X} (C : bf_C X RX9 cX9_seek 5 (some .int)) (hR : bf_Rm X 4 89) (S : bT9) (a1 : Int32) (a2 : Int32) (a3 : Int32) (Q : Int32 → (bT9) → Prop) (h : wp_X9_seek S a1 a2 a3 Q) : bf_A X (bf_Zi X bW9 Q) 5 0 [some (.ref 0), some (.int a1), some (.int a2), some (.int a3), none] [] (bW9 S) := by
  unfold wp_X9_seek at h
  refine bs_aload_n C (bf_dk dd_X9_seek 0 rfl) rfl ?_
  refine bs_iconst C (bf_dk dd_X9_seek 1 rfl) (0 : Int32) (by decide) ?_
  refine bs_put C (bf_dk dd_X9_seek 2 rfl) tyX9_ok nmX9 cl_9 in_9 0 (Nat.le_of_ble_eq_true rfl) rfl f_9_75 rfl (ge_bW9_0 S) (Nat.le_of_ble_eq_true rfl) rfl rfl (pu_bW9_0_0 S (0 : Int32)) ?_
  refine bs_nameS bW9 (fun S11 eS11 => ?_)
  replace h := h S11 eS11
  refine bs_aload_n C (bf_dk dd_X9_seek 3 rfl) rfl ?_
  refine bs_iload_n C (bf_dk dd_X9_seek 4 rfl) rfl ?_
  refine bs_selfPV_i C hR (c_X9_isKey _ _ _ _ _ S11 (a3) _ h) my_X9_isKey m_9_117 rfl cl_9 (ge_bW9_0 _) rfl (Nat.le_of_ble_eq_true rfl) (Nat.le_of_ble_eq_true rfl) (st := []) (Nat.le_of_ble_eq_true rfl) (bf_dk dd_X9_seek 5 rfl) rfl (fun r12 h => ?_)
  refine bs_if_ne C (bf_dk dd_X9_seek 6 rfl) (tgt := 15) rfl (fun c => ?_) (fun c => ?_)
  · replace h := h.1 c
    refine bs_iconst C (bf_dk dd_X9_seek 9 rfl) (0 : Int32) (by decide) ?_
    refine bs_istore C (bf_dk dd_X9_seek 10 rfl) (Nat.le_of_ble_eq_true rfl) (Nat.le_of_ble_eq_true rfl) (lv2 := [some (.ref 0), some (.int a1), some (.int a2), some (.int a3), some (.int (0 : Int32))]) rfl ?_
    exact bs_weak (bf_s1 (bf_s1 (bf_s1 (bf_s1 (bf_s1 bf_s0))))) (t_X9_seek_18 C hR S11 (a1) (a2) (a3) ((0 : Int32)) Q h)
  · replace h := h.2 c
    refine bs_iconst C (bf_dk dd_X9_seek 7 rfl) (-1 : Int32) (by decide) ?_
    exact bs_iret (u := S11) C (bf_dk dd_X9_seek 8 rfl) rfl h
theorem c_X9_seek (l : Launch) (dC : Nat → ClassId) (dI : Nat → Nat → Nat) (ac : Nat → ClassId) (al : Nat → Nat) (S : bT9) (a1 : Int32) (a2 : Int32) (a3 : Int32) (Q : Int32 → (bT9) → Prop) (h : wp_X9_seek S a1 a2 a3 Q) : bf_M l yX9_seek cX9_seek 5 (some .int) 4 89 dC dI ac al [.ref 0, .int a1, .int a2, .int a3] (bW9 S) (bf_Ki dC dI ac al bW9 Q) := by
  refine bf_start [some (.ref 0), some (.int a1), some (.int a2), some (.int a3), none] (by decide) (Nat.le_of_ble_eq_true rfl) (bf_s1 (bf_s1 (bf_s1 (bf_s1 (bf_en 1))))) ?_
  intro X hl C hR e1 e2 e3 e4
  subst e1; subst e2; subst e3; subst e4
  exact t_X9_seek C hR S a1 a2 a3 Q h
def wp_X9_seekBack_23b (S : bT9) (x1 : Int32) (x2 : Int32) (x3 : Int32) (x4 : Int32) (Q : Int32 → (bT9) → Prop) (B23 : Int32 → Int32 → Int32 → Int32 → (bT9) → Prop) : Prop := ((x4 < 0 → (Q (-1 : Int32) S)) ∧ (¬ x4 < 0 → (wp_X9_nextBits S (fun r1 => (wp_X9_bounds S (x4) (r1) (fun u4 => (wp_X9_keyOf u4 (x1) (x2) (x3) (fun r5 => (wp_X9_isAhead u4 (r5) (x3) (fun r7 => ((¬ r7 = 0 → (B23 (x1) (x2) (x3) ((x4 + (-1 : Int32))) u4)) ∧ (r7 = 0 → (Q x4 u4)))))))))))))
set_option maxRecDepth 20000 in
theorem t_X9_seekBack_23b {X : bf_X} (C : bf_C X RX9 cX9_seekBack 5 (some .int)) (hR : bf_Rm X 4 89) (S : bT9) (x1 : Int32) (x2 : Int32) (x3 : Int32) (x4 : Int32) (Q : Int32 → (bT9) → Prop) (B23 : Int32 → Int32 → Int32 → Int32 → (bT9) → Prop) (hB23 : ∀ (x1 : Int32) (x2 : Int32) (x3 : Int32) (x4 : Int32) (S : bT9), B23 x1 x2 x3 x4 S → bf_A X (bf_Zi X bW9 Q) 5 23 [some (.ref 0), some (.int x1), some (.int x2), some (.int x3), some (.int x4)] [] (bW9 S)) (h : wp_X9_seekBack_23b S x1 x2 x3 x4 Q B23) : bf_A X (bf_Zi X bW9 Q) 5 23 [some (.ref 0), some (.int x1), some (.int x2), some (.int x3), some (.int x4)] [] (bW9 S) := by
  unfold wp_X9_seekBack_23b at h
  refine bs_iload C (bf_dk dd_X9_seekBack 14 rfl) rfl ?_
  refine bs_if_lt C (bf_dk dd_X9_seekBack 15 rfl) (tgt := 62) rfl (fun c => ?_) (fun c => ?_)
  · replace h := h.1 c
    refine bs_iconst C (bf_dk dd_X9_seekBack 34 rfl) (-1 : Int32) (by decide) ?_
    exact bs_iret (u := S) C (bf_dk dd_X9_seekBack 35 rfl) rfl h
  · replace h := h.2 c
    refine bs_aload_n C (bf_dk dd_X9_seekBack 16 rfl) rfl ?_
    refine bs_iload C (bf_dk dd_X9_seekBack 17 rfl) rfl ?_
    refine bs_aload_n C (bf_dk dd_X9_seekBack 18 rfl) rfl ?_
    refine bs_selfPV_i C hR (c_X9_nextBits _ _ _ _ _ S _ h) my_X9_nextBits m_9_313 rfl cl_9 (ge_bW9_0 _) rfl (Nat.le_of_ble_eq_true rfl) (Nat.le_of_ble_eq_true rfl) (st := [.int x4, .ref 0]) (Nat.le_of_ble_eq_true rfl) (bf_dk dd_X9_seekBack 19 rfl) rfl (fun r1 h => ?_)
    refine bs_selfV_v C hR (c_X9_bounds _ _ _ _ _ S (x4) (r1) _ h) my_X9_bounds m_9_292 rfl cl_9 (ge_bW9_0 _) rfl (Nat.le_of_ble_eq_true rfl) (Nat.le_of_ble_eq_true rfl) (st := []) (Nat.le_of_ble_eq_true rfl) (bf_dk dd_X9_seekBack 20 rfl) rfl (len := 21) (fun _ => rfl) (fun u4 h => ?_)
    refine bs_aload_n C (bf_dk dd_X9_seekBack 21 rfl) rfl ?_
    refine bs_aload_n C (bf_dk dd_X9_seekBack 22 rfl) rfl ?_
    refine bs_iload_n C (bf_dk dd_X9_seekBack 23 rfl) rfl ?_
    refine bs_iload_n C (bf_dk dd_X9_seekBack 24 rfl) rfl ?_
    refine bs_iload_n C (bf_dk dd_X9_seekBack 25 rfl) rfl ?_
    refine bs_selfPV_l C hR (c_X9_keyOf _ _ _ _ _ u4 (x1) (x2) (x3) _ h) my_X9_keyOf m_9_121 rfl cl_9 (ge_bW9_0 _) rfl (Nat.le_of_ble_eq_true rfl) (Nat.le_of_ble_eq_true rfl) (st := [.ref 0]) (Nat.le_of_ble_eq_true rfl) (bf_dk dd_X9_seekBack 26 rfl) rfl (fun r5 h => ?_)
    refine bs_iload_n C (bf_dk dd_X9_seekBack 27 rfl) rfl ?_
    refine bs_selfPV_i C hR (c_X9_isAhead _ _ _ _ _ u4 (r5) (x3) _ h) my_X9_isAhead m_9_296 rfl cl_9 (ge_bW9_0 _) rfl (Nat.le_of_ble_eq_true rfl) (Nat.le_of_ble_eq_true rfl) (st := []) (Nat.le_of_ble_eq_true rfl) (bf_dk dd_X9_seekBack 28 rfl) rfl (fun r7 h => ?_)
    refine bs_if_ne C (bf_dk dd_X9_seekBack 29 rfl) (tgt := 56) rfl (fun c => ?_) (fun c => ?_)
    · replace h := h.1 c
      refine bs_iinc C (bf_dk dd_X9_seekBack 32 rfl) (x4 + (-1 : Int32)) rfl rfl (Nat.le_of_ble_eq_true rfl) (Nat.le_of_ble_eq_true rfl) (lv2 := [some (.ref 0), some (.int x1), some (.int x2), some (.int x3), some (.int (x4 + (-1 : Int32)))]) rfl ?_
      refine bs_goto C (bf_dk dd_X9_seekBack 33 rfl) (tgt := 23) rfl ?_
      exact bs_weak (bf_s1 (bf_s1 (bf_s1 (bf_s1 (bf_s1 bf_s0))))) (hB23 (x1) (x2) (x3) ((x4 + (-1 : Int32))) u4 h)
    · replace h := h.2 c
      refine bs_iload C (bf_dk dd_X9_seekBack 30 rfl) rfl ?_
      exact bs_iret (u := u4) C (bf_dk dd_X9_seekBack 31 rfl) rfl h
def wp_X9_seekBack_23 (S : bT9) (x1 : Int32) (x2 : Int32) (x3 : Int32) (x4 : Int32) (Q : Int32 → (bT9) → Prop) : Prop := ∃ I : Nat → Int32 → Int32 → Int32 → Int32 → (bT9) → Prop, (∃ n : Nat, I n x1 x2 x3 x4 S) ∧ ∀ (n : Nat) (x1 : Int32) (x2 : Int32) (x3 : Int32) (x4 : Int32) (S : bT9), I n x1 x2 x3 x4 S → wp_X9_seekBack_23b S x1 x2 x3 x4 Q (fun x1 x2 x3 x4 S => ∃ n2 : Nat, n2 < n ∧ I n2 x1 x2 x3 x4 S)
theorem t_X9_seekBack_23 {X : bf_X} (C : bf_C X RX9 cX9_seekBack 5 (some .int)) (hR : bf_Rm X 4 89) (S : bT9) (x1 : Int32) (x2 : Int32) (x3 : Int32) (x4 : Int32) (Q : Int32 → (bT9) → Prop) (h : wp_X9_seekBack_23 S x1 x2 x3 x4 Q) : bf_A X (bf_Zi X bW9 Q) 5 23 [some (.ref 0), some (.int x1), some (.int x2), some (.int x3), some (.int x4)] [] (bW9 S) := by
  obtain ⟨I, ⟨n0, h0⟩, hI⟩ := h
  have key : ∀ (n : Nat) (x1 : Int32) (x2 : Int32) (x3 : Int32) (x4 : Int32) (S : bT9), I n x1 x2 x3 x4 S → bf_A X (bf_Zi X bW9 Q) 5 23 [some (.ref 0), some (.int x1), some (.int x2), some (.int x3), some (.int x4)] [] (bW9 S) := by
    intro n
    induction n using Nat.strongRecOn with
    | _ n ih =>
      intro x1 x2 x3 x4 S hi
      exact t_X9_seekBack_23b C hR S x1 x2 x3 x4 Q _ (fun x1 x2 x3 x4 S hb => by obtain ⟨n2, hn, hi2⟩ := hb; exact ih n2 hn x1 x2 x3 x4 S hi2) (hI n x1 x2 x3 x4 S hi)
  exact key n0 x1 x2 x3 x4 S h0
def wp_X9_seekBack (S : bT9) (a1 : Int32) (a2 : Int32) (a3 : Int32) (Q : Int32 → (bT9) → Prop) : Prop := (∀ S9 : bT9, S9 = (b9s_told S (0 : Int32)) → (wp_X9_isKey S9 (a3) (fun r10 => ((¬ r10 = 0 → (wp_X9_leaves S9 (fun r12 u13 => (wp_X9_seekBack_23 u13 (a1) (a2) (a3) ((r12 - (1 : Int32))) Q)))) ∧ (r10 = 0 → (Q (-1 : Int32) S9))))))
set_option maxRecDepth 20000 in
theorem t_X9_seekBack {X : bf_X} (C : bf_C X RX9 cX9_seekBack 5 (some .int)) (hR : bf_Rm X 4 89) (S : bT9) (a1 : Int32) (a2 : Int32) (a3 : Int32) (Q : Int32 → (bT9) → Prop) (h : wp_X9_seekBack S a1 a2 a3 Q) : bf_A X (bf_Zi X bW9 Q) 5 0 [some (.ref 0), some (.int a1), some (.int a2), some (.int a3), none] [] (bW9 S) := by
  unfold wp_X9_seekBack at h
  refine bs_aload_n C (bf_dk dd_X9_seekBack 0 rfl) rfl ?_
  refine bs_iconst C (bf_dk dd_X9_seekBack 1 rfl) (0 : Int32) (by decide) ?_
  refine bs_put C (bf_dk dd_X9_seekBack 2 rfl) tyX9_ok nmX9 cl_9 in_9 0 (Nat.le_of_ble_eq_true rfl) rfl f_9_75 rfl (ge_bW9_0 S) (Nat.le_of_ble_eq_true rfl) rfl rfl (pu_bW9_0_0 S (0 : Int32)) ?_
  refine bs_nameS bW9 (fun S9 eS9 => ?_)
  replace h := h S9 eS9
  refine bs_aload_n C (bf_dk dd_X9_seekBack 3 rfl) rfl ?_
  refine bs_iload_n C (bf_dk dd_X9_seekBack 4 rfl) rfl ?_
  refine bs_selfPV_i C hR (c_X9_isKey _ _ _ _ _ S9 (a3) _ h) my_X9_isKey m_9_117 rfl cl_9 (ge_bW9_0 _) rfl (Nat.le_of_ble_eq_true rfl) (Nat.le_of_ble_eq_true rfl) (st := []) (Nat.le_of_ble_eq_true rfl) (bf_dk dd_X9_seekBack 5 rfl) rfl (fun r10 h => ?_)
  refine bs_if_ne C (bf_dk dd_X9_seekBack 6 rfl) (tgt := 15) rfl (fun c => ?_) (fun c => ?_)
  · replace h := h.1 c
    refine bs_aload_n C (bf_dk dd_X9_seekBack 9 rfl) rfl ?_
    refine bs_selfV_i C hR (c_X9_leaves _ _ _ _ _ S9 _ h) my_X9_leaves m_9_268 rfl cl_9 (ge_bW9_0 _) rfl (Nat.le_of_ble_eq_true rfl) (Nat.le_of_ble_eq_true rfl) (st := []) (Nat.le_of_ble_eq_true rfl) (bf_dk dd_X9_seekBack 10 rfl) rfl (len := 21) (fun _ => rfl) (fun r12 u13 h => ?_)
    refine bs_iconst C (bf_dk dd_X9_seekBack 11 rfl) (1 : Int32) (by decide) ?_
    refine bs_isub C (bf_dk dd_X9_seekBack 12 rfl) ?_
    refine bs_istore C (bf_dk dd_X9_seekBack 13 rfl) (Nat.le_of_ble_eq_true rfl) (Nat.le_of_ble_eq_true rfl) (lv2 := [some (.ref 0), some (.int a1), some (.int a2), some (.int a3), some (.int (r12 - (1 : Int32)))]) rfl ?_
    exact bs_weak (bf_s1 (bf_s1 (bf_s1 (bf_s1 (bf_s1 bf_s0))))) (t_X9_seekBack_23 C hR u13 (a1) (a2) (a3) ((r12 - (1 : Int32))) Q h)
  · replace h := h.2 c
    refine bs_iconst C (bf_dk dd_X9_seekBack 7 rfl) (-1 : Int32) (by decide) ?_
    exact bs_iret (u := S9) C (bf_dk dd_X9_seekBack 8 rfl) rfl h
theorem c_X9_seekBack (l : Launch) (dC : Nat → ClassId) (dI : Nat → Nat → Nat) (ac : Nat → ClassId) (al : Nat → Nat) (S : bT9) (a1 : Int32) (a2 : Int32) (a3 : Int32) (Q : Int32 → (bT9) → Prop) (h : wp_X9_seekBack S a1 a2 a3 Q) : bf_M l yX9_seekBack cX9_seekBack 5 (some .int) 4 89 dC dI ac al [.ref 0, .int a1, .int a2, .int a3] (bW9 S) (bf_Ki dC dI ac al bW9 Q) := by
  refine bf_start [some (.ref 0), some (.int a1), some (.int a2), some (.int a3), none] (by decide) (Nat.le_of_ble_eq_true rfl) (bf_s1 (bf_s1 (bf_s1 (bf_s1 (bf_en 1))))) ?_
  intro X hl C hR e1 e2 e3 e4
  subst e1; subst e2; subst e3; subst e4
  exact t_X9_seekBack C hR S a1 a2 a3 Q h
def wp_X9_hashOf (S : bT9) (a1 : Int32) (Q : Int32 → Prop) : Prop := (wp_X9_key S (a1) (fun r1 => (wp_X9_lengthOf S (a1) (fun r3 => (wp_X9_hashBits S (fun r5 => (wp_X9_hash S (r1) (r3) (r5) (fun r7 => (Q r7)))))))))
set_option maxRecDepth 20000 in
theorem t_X9_hashOf {X : bf_X} (C : bf_C X RX9 cX9_hashOf 2 (some .int)) (hR : bf_Rm X 2 49) (S : bT9) (a1 : Int32) (Q : Int32 → Prop) (h : wp_X9_hashOf S a1 Q) : bf_A X (bf_Zi X bW9 (fun r u => u = S ∧ Q r)) 2 0 [some (.ref 0), some (.int a1)] [] (bW9 S) := by
  unfold wp_X9_hashOf at h
  refine bs_aload_n C (bf_dk dd_X9_hashOf 0 rfl) rfl ?_
  refine bs_aload_n C (bf_dk dd_X9_hashOf 1 rfl) rfl ?_
  refine bs_iload_n C (bf_dk dd_X9_hashOf 2 rfl) rfl ?_
  refine bs_selfPV_l C hR (c_X9_key _ _ _ _ _ S (a1) _ h) my_X9_key m_9_178 rfl cl_9 (ge_bW9_0 _) rfl (Nat.le_of_ble_eq_true rfl) (Nat.le_of_ble_eq_true rfl) (st := [.ref 0]) (Nat.le_of_ble_eq_true rfl) (bf_dk dd_X9_hashOf 3 rfl) rfl (fun r1 h => ?_)
  refine bs_aload_n C (bf_dk dd_X9_hashOf 4 rfl) rfl ?_
  refine bs_iload_n C (bf_dk dd_X9_hashOf 5 rfl) rfl ?_
  refine bs_selfPV_i C hR (c_X9_lengthOf _ _ _ _ _ S (a1) _ h) my_X9_lengthOf m_9_175 rfl cl_9 (ge_bW9_0 _) rfl (Nat.le_of_ble_eq_true rfl) (Nat.le_of_ble_eq_true rfl) (st := [.long r1, .ref 0]) (Nat.le_of_ble_eq_true rfl) (bf_dk dd_X9_hashOf 6 rfl) rfl (fun r3 h => ?_)
  refine bs_aload_n C (bf_dk dd_X9_hashOf 7 rfl) rfl ?_
  refine bs_selfPV_i C hR (c_X9_hashBits _ _ _ _ _ S _ h) my_X9_hashBits m_9_310 rfl cl_9 (ge_bW9_0 _) rfl (Nat.le_of_ble_eq_true rfl) (Nat.le_of_ble_eq_true rfl) (st := [.int r3, .long r1, .ref 0]) (Nat.le_of_ble_eq_true rfl) (bf_dk dd_X9_hashOf 8 rfl) rfl (fun r5 h => ?_)
  refine bs_selfPV_i C hR (c_X9_hash _ _ _ _ _ S (r1) (r3) (r5) _ h) my_X9_hash m_9_307 rfl cl_9 (ge_bW9_0 _) rfl (Nat.le_of_ble_eq_true rfl) (Nat.le_of_ble_eq_true rfl) (st := []) (Nat.le_of_ble_eq_true rfl) (bf_dk dd_X9_hashOf 9 rfl) rfl (fun r7 h => ?_)
  exact bs_iret (u := S) C (bf_dk dd_X9_hashOf 10 rfl) rfl ⟨rfl, h⟩
theorem c_X9_hashOf (l : Launch) (dC : Nat → ClassId) (dI : Nat → Nat → Nat) (ac : Nat → ClassId) (al : Nat → Nat) (S : bT9) (a1 : Int32) (Q : Int32 → Prop) (h : wp_X9_hashOf S a1 Q) : bf_M l yX9_hashOf cX9_hashOf 2 (some .int) 2 49 dC dI ac al [.ref 0, .int a1] (bW9 S) (bf_Ki dC dI ac al bW9 (fun r u => u = S ∧ Q r)) := by
  refine bf_start [some (.ref 0), some (.int a1)] (by decide) (Nat.le_of_ble_eq_true rfl) (bf_s1 (bf_s1 bf_s0)) ?_
  intro X hl C hR e1 e2 e3 e4
  subst e1; subst e2; subst e3; subst e4
  exact t_X9_hashOf C hR S a1 Q h
def wp_X9_nodeOf_67 (S : bT9) (x1 : Int32) (x2 : Int32) (x3 : Int32) (Q : Int32 → Prop) (B28 : Int32 → Int32 → Int32 → Prop) : Prop := (B28 (x1) (x2) ((x3 + (1 : Int32))))
set_option maxRecDepth 20000 in
theorem t_X9_nodeOf_67 {X : bf_X} (C : bf_C X RX9 cX9_nodeOf 4 (some .int)) (hR : bf_Rm X 2 42) (S : bT9) (x1 : Int32) (x2 : Int32) (x3 : Int32) (Q : Int32 → Prop) (B28 : Int32 → Int32 → Int32 → Prop) (hB28 : ∀ (x1 : Int32) (x2 : Int32) (x3 : Int32), B28 x1 x2 x3 → bf_A X (bf_Zi X bW9 (fun r u => u = S ∧ Q r)) 4 28 [some (.ref 0), some (.int x1), some (.int x2), some (.int x3)] [] (bW9 S)) (h : wp_X9_nodeOf_67 S x1 x2 x3 Q B28) : bf_A X (bf_Zi X bW9 (fun r u => u = S ∧ Q r)) 4 67 [some (.ref 0), some (.int x1), some (.int x2), some (.int x3)] [] (bW9 S) := by
  unfold wp_X9_nodeOf_67 at h
  refine bs_iinc C (bf_dk dd_X9_nodeOf 41 rfl) (x3 + (1 : Int32)) rfl rfl (Nat.le_of_ble_eq_true rfl) (Nat.le_of_ble_eq_true rfl) (lv2 := [some (.ref 0), some (.int x1), some (.int x2), some (.int (x3 + (1 : Int32)))]) rfl ?_
  refine bs_goto C (bf_dk dd_X9_nodeOf 42 rfl) (tgt := 28) rfl ?_
  exact bs_weak (bf_s1 (bf_s1 (bf_s1 (bf_s1 bf_s0)))) (hB28 (x1) (x2) ((x3 + (1 : Int32))) h)
def wp_X9_nodeOf_28b (S : bT9) (x1 : Int32) (x2 : Int32) (x3 : Int32) (Q : Int32 → Prop) (B28 : Int32 → Int32 → Int32 → Prop) : Prop := (((b9g_nodeMany S) ≤ x3 → (Q (-1 : Int32))) ∧ (¬ (b9g_nodeMany S) ≤ x3 → (vp_in x3 512 ∧ ((¬ ((b9g_nodeLevel S) (x3).toNatClampNeg) = x2 → (wp_X9_nodeOf_67 S (x1) (x2) (x3) Q B28)) ∧ (((b9g_nodeLevel S) (x3).toNatClampNeg) = x2 → (vp_in x3 512 ∧ ((x1 < ((b9g_nodeLeaf S) (x3).toNatClampNeg) → (wp_X9_nodeOf_67 S (x1) (x2) (x3) Q B28)) ∧ (¬ x1 < ((b9g_nodeLeaf S) (x3).toNatClampNeg) → (wp_X9_lastOf S (x3) (fun r1 => ((r1 < x1 → (wp_X9_nodeOf_67 S (x1) (x2) (x3) Q B28)) ∧ (¬ r1 < x1 → (Q x3)))))))))))))
set_option maxRecDepth 20000 in
theorem t_X9_nodeOf_28b {X : bf_X} (C : bf_C X RX9 cX9_nodeOf 4 (some .int)) (hR : bf_Rm X 2 42) (S : bT9) (x1 : Int32) (x2 : Int32) (x3 : Int32) (Q : Int32 → Prop) (B28 : Int32 → Int32 → Int32 → Prop) (hB28 : ∀ (x1 : Int32) (x2 : Int32) (x3 : Int32), B28 x1 x2 x3 → bf_A X (bf_Zi X bW9 (fun r u => u = S ∧ Q r)) 4 28 [some (.ref 0), some (.int x1), some (.int x2), some (.int x3)] [] (bW9 S)) (h : wp_X9_nodeOf_28b S x1 x2 x3 Q B28) : bf_A X (bf_Zi X bW9 (fun r u => u = S ∧ Q r)) 4 28 [some (.ref 0), some (.int x1), some (.int x2), some (.int x3)] [] (bW9 S) := by
  unfold wp_X9_nodeOf_28b at h
  refine bs_iload_n C (bf_dk dd_X9_nodeOf 18 rfl) rfl ?_
  refine bs_aload_n C (bf_dk dd_X9_nodeOf 19 rfl) rfl ?_
  refine bs_get C (bf_dk dd_X9_nodeOf 20 rfl) cl_9 in_9 16 (Nat.le_of_ble_eq_true rfl) rfl f_9_198 (ge_bW9_0 S) rfl ?_
  refine bs_icmp_ge C (bf_dk dd_X9_nodeOf 21 rfl) (tgt := 73) rfl (fun c => ?_) (fun c => ?_)
  · replace h := h.1 c
    refine bs_iconst C (bf_dk dd_X9_nodeOf 43 rfl) (-1 : Int32) (by decide) ?_
    exact bs_iret (u := S) C (bf_dk dd_X9_nodeOf 44 rfl) rfl ⟨rfl, h⟩
  · replace h := h.2 c
    refine bs_aload_n C (bf_dk dd_X9_nodeOf 22 rfl) rfl ?_
    refine bs_get C (bf_dk dd_X9_nodeOf 23 rfl) cl_9 in_9 13 (Nat.le_of_ble_eq_true rfl) rfl f_9_32 (ge_bW9_0 S) rfl ?_
    refine bs_iload_n C (bf_dk dd_X9_nodeOf 24 rfl) rfl ?_
    obtain ⟨hi, h⟩ := h
    refine bs_iald C (bf_dk dd_X9_nodeOf 25 rfl) (ge_bW9_8 S) hi ?_
    refine bs_iload_n C (bf_dk dd_X9_nodeOf 26 rfl) rfl ?_
    refine bs_icmp_ne C (bf_dk dd_X9_nodeOf 27 rfl) (tgt := 67) rfl (fun c => ?_) (fun c => ?_)
    · replace h := h.1 c
      exact bs_weak (bf_s1 (bf_s1 (bf_s1 (bf_s1 bf_s0)))) (t_X9_nodeOf_67 C hR S (x1) (x2) (x3) Q B28 hB28 h)
    · replace h := h.2 c
      refine bs_iload_n C (bf_dk dd_X9_nodeOf 28 rfl) rfl ?_
      refine bs_aload_n C (bf_dk dd_X9_nodeOf 29 rfl) rfl ?_
      refine bs_get C (bf_dk dd_X9_nodeOf 30 rfl) cl_9 in_9 14 (Nat.le_of_ble_eq_true rfl) rfl f_9_35 (ge_bW9_0 S) rfl ?_
      refine bs_iload_n C (bf_dk dd_X9_nodeOf 31 rfl) rfl ?_
      obtain ⟨hi, h⟩ := h
      refine bs_iald C (bf_dk dd_X9_nodeOf 32 rfl) (ge_bW9_9 S) hi ?_
      refine bs_icmp_lt C (bf_dk dd_X9_nodeOf 33 rfl) (tgt := 67) rfl (fun c => ?_) (fun c => ?_)
      · replace h := h.1 c
        exact bs_weak (bf_s1 (bf_s1 (bf_s1 (bf_s1 bf_s0)))) (t_X9_nodeOf_67 C hR S (x1) (x2) (x3) Q B28 hB28 h)
      · replace h := h.2 c
        refine bs_iload_n C (bf_dk dd_X9_nodeOf 34 rfl) rfl ?_
        refine bs_aload_n C (bf_dk dd_X9_nodeOf 35 rfl) rfl ?_
        refine bs_iload_n C (bf_dk dd_X9_nodeOf 36 rfl) rfl ?_
        refine bs_selfPV_i C hR (c_X9_lastOf _ _ _ _ _ S (x3) _ h) my_X9_lastOf m_9_222 rfl cl_9 (ge_bW9_0 _) rfl (Nat.le_of_ble_eq_true rfl) (Nat.le_of_ble_eq_true rfl) (st := [.int x1]) (Nat.le_of_ble_eq_true rfl) (bf_dk dd_X9_nodeOf 37 rfl) rfl (fun r1 h => ?_)
        refine bs_icmp_gt C (bf_dk dd_X9_nodeOf 38 rfl) (tgt := 67) rfl (fun c => ?_) (fun c => ?_)
        · replace h := h.1 c
          exact bs_weak (bf_s1 (bf_s1 (bf_s1 (bf_s1 bf_s0)))) (t_X9_nodeOf_67 C hR S (x1) (x2) (x3) Q B28 hB28 h)
        · replace h := h.2 c
          refine bs_iload_n C (bf_dk dd_X9_nodeOf 39 rfl) rfl ?_
          exact bs_iret (u := S) C (bf_dk dd_X9_nodeOf 40 rfl) rfl ⟨rfl, h⟩
def wp_X9_nodeOf_28 (S : bT9) (x1 : Int32) (x2 : Int32) (x3 : Int32) (Q : Int32 → Prop) : Prop := ∃ I : Nat → Int32 → Int32 → Int32 → Prop, (∃ n : Nat, I n x1 x2 x3) ∧ ∀ (n : Nat) (x1 : Int32) (x2 : Int32) (x3 : Int32), I n x1 x2 x3 → wp_X9_nodeOf_28b S x1 x2 x3 Q (fun x1 x2 x3 => ∃ n2 : Nat, n2 < n ∧ I n2 x1 x2 x3)
theorem t_X9_nodeOf_28 {X : bf_X} (C : bf_C X RX9 cX9_nodeOf 4 (some .int)) (hR : bf_Rm X 2 42) (S : bT9) (x1 : Int32) (x2 : Int32) (x3 : Int32) (Q : Int32 → Prop) (h : wp_X9_nodeOf_28 S x1 x2 x3 Q) : bf_A X (bf_Zi X bW9 (fun r u => u = S ∧ Q r)) 4 28 [some (.ref 0), some (.int x1), some (.int x2), some (.int x3)] [] (bW9 S) := by
  obtain ⟨I, ⟨n0, h0⟩, hI⟩ := h
  have key : ∀ (n : Nat) (x1 : Int32) (x2 : Int32) (x3 : Int32), I n x1 x2 x3 → bf_A X (bf_Zi X bW9 (fun r u => u = S ∧ Q r)) 4 28 [some (.ref 0), some (.int x1), some (.int x2), some (.int x3)] [] (bW9 S) := by
    intro n
    induction n using Nat.strongRecOn with
    | _ n ih =>
      intro x1 x2 x3 hi
      exact t_X9_nodeOf_28b C hR S x1 x2 x3 Q _ (fun x1 x2 x3 hb => by obtain ⟨n2, hn, hi2⟩ := hb; exact ih n2 hn x1 x2 x3 hi2) (hI n x1 x2 x3 hi)
  exact key n0 x1 x2 x3 h0
def wp_X9_nodeOf_25 (S : bT9) (x1 : Int32) (t0 : Int32) (Q : Int32 → Prop) : Prop := (wp_X9_nodeOf_28 S (x1) (t0) ((0 : Int32)) Q)
set_option maxRecDepth 20000 in
theorem t_X9_nodeOf_25 {X : bf_X} (C : bf_C X RX9 cX9_nodeOf 4 (some .int)) (hR : bf_Rm X 2 42) (S : bT9) (x1 : Int32) (t0 : Int32) (Q : Int32 → Prop) (h : wp_X9_nodeOf_25 S x1 t0 Q) : bf_A X (bf_Zi X bW9 (fun r u => u = S ∧ Q r)) 4 25 [some (.ref 0), some (.int x1), none, none] [.int t0] (bW9 S) := by
  unfold wp_X9_nodeOf_25 at h
  refine bs_istore_n C (bf_dk dd_X9_nodeOf 15 rfl) rfl (Nat.le_of_ble_eq_true rfl) (Nat.le_of_ble_eq_true rfl) (lv2 := [some (.ref 0), some (.int x1), some (.int t0), none]) rfl ?_
  refine bs_iconst C (bf_dk dd_X9_nodeOf 16 rfl) (0 : Int32) (by decide) ?_
  refine bs_istore_n C (bf_dk dd_X9_nodeOf 17 rfl) rfl (Nat.le_of_ble_eq_true rfl) (Nat.le_of_ble_eq_true rfl) (lv2 := [some (.ref 0), some (.int x1), some (.int t0), some (.int (0 : Int32))]) rfl ?_
  exact bs_weak (bf_s1 (bf_s1 (bf_s1 (bf_s1 bf_s0)))) (t_X9_nodeOf_28 C hR S (x1) (t0) ((0 : Int32)) Q h)
def wp_X9_nodeOf (S : bT9) (a1 : Int32) (Q : Int32 → Prop) : Prop := (wp_X9_isEnded S (a1) (fun r3 => ((r3 = 0 → (vp_in a1 64 ∧ (wp_X9_nodeOf_25 S (a1) ((((b9g_beginning S) (a1).toNatClampNeg) - (1 : Int32))) Q))) ∧ (¬ r3 = 0 → (vp_in a1 64 ∧ (wp_X9_nodeOf_25 S (a1) (((b9g_beginning S) (a1).toNatClampNeg)) Q))))))
set_option maxRecDepth 20000 in
theorem t_X9_nodeOf {X : bf_X} (C : bf_C X RX9 cX9_nodeOf 4 (some .int)) (hR : bf_Rm X 2 42) (S : bT9) (a1 : Int32) (Q : Int32 → Prop) (h : wp_X9_nodeOf S a1 Q) : bf_A X (bf_Zi X bW9 (fun r u => u = S ∧ Q r)) 4 0 [some (.ref 0), some (.int a1), none, none] [] (bW9 S) := by
  unfold wp_X9_nodeOf at h
  refine bs_aload_n C (bf_dk dd_X9_nodeOf 0 rfl) rfl ?_
  refine bs_iload_n C (bf_dk dd_X9_nodeOf 1 rfl) rfl ?_
  refine bs_selfPV_i C hR (c_X9_isEnded _ _ _ _ _ S (a1) _ h) my_X9_isEnded m_9_283 rfl cl_9 (ge_bW9_0 _) rfl (Nat.le_of_ble_eq_true rfl) (Nat.le_of_ble_eq_true rfl) (st := []) (Nat.le_of_ble_eq_true rfl) (bf_dk dd_X9_nodeOf 2 rfl) rfl (fun r3 h => ?_)
  refine bs_if_eq C (bf_dk dd_X9_nodeOf 3 rfl) (tgt := 17) rfl (fun c => ?_) (fun c => ?_)
  · replace h := h.1 c
    refine bs_aload_n C (bf_dk dd_X9_nodeOf 9 rfl) rfl ?_
    refine bs_get C (bf_dk dd_X9_nodeOf 10 rfl) cl_9 in_9 11 (Nat.le_of_ble_eq_true rfl) rfl f_9_29 (ge_bW9_0 S) rfl ?_
    refine bs_iload_n C (bf_dk dd_X9_nodeOf 11 rfl) rfl ?_
    obtain ⟨hi, h⟩ := h
    refine bs_iald C (bf_dk dd_X9_nodeOf 12 rfl) (ge_bW9_7 S) hi ?_
    refine bs_iconst C (bf_dk dd_X9_nodeOf 13 rfl) (1 : Int32) (by decide) ?_
    refine bs_isub C (bf_dk dd_X9_nodeOf 14 rfl) ?_
    exact bs_weak (bf_s1 (bf_s1 (bf_sn (bf_sn bf_s0)))) (t_X9_nodeOf_25 C hR S (a1) ((((b9g_beginning S) (a1).toNatClampNeg) - (1 : Int32))) Q h)
  · replace h := h.2 c
    refine bs_aload_n C (bf_dk dd_X9_nodeOf 4 rfl) rfl ?_
    refine bs_get C (bf_dk dd_X9_nodeOf 5 rfl) cl_9 in_9 11 (Nat.le_of_ble_eq_true rfl) rfl f_9_29 (ge_bW9_0 S) rfl ?_
    refine bs_iload_n C (bf_dk dd_X9_nodeOf 6 rfl) rfl ?_
    obtain ⟨hi, h⟩ := h
    refine bs_iald C (bf_dk dd_X9_nodeOf 7 rfl) (ge_bW9_7 S) hi ?_
    refine bs_goto C (bf_dk dd_X9_nodeOf 8 rfl) (tgt := 25) rfl ?_
    exact bs_weak (bf_s1 (bf_s1 (bf_sn (bf_sn bf_s0)))) (t_X9_nodeOf_25 C hR S (a1) (((b9g_beginning S) (a1).toNatClampNeg)) Q h)
theorem c_X9_nodeOf (l : Launch) (dC : Nat → ClassId) (dI : Nat → Nat → Nat) (ac : Nat → ClassId) (al : Nat → Nat) (S : bT9) (a1 : Int32) (Q : Int32 → Prop) (h : wp_X9_nodeOf S a1 Q) : bf_M l yX9_nodeOf cX9_nodeOf 4 (some .int) 2 42 dC dI ac al [.ref 0, .int a1] (bW9 S) (bf_Ki dC dI ac al bW9 (fun r u => u = S ∧ Q r)) := by
  refine bf_start [some (.ref 0), some (.int a1), none, none] (by decide) (Nat.le_of_ble_eq_true rfl) (bf_s1 (bf_s1 (bf_en 2))) ?_
  intro X hl C hR e1 e2 e3 e4
  subst e1; subst e2; subst e3; subst e4
  exact t_X9_nodeOf C hR S a1 Q h
def wp_X9_leaf (S : bT9) (a1 : Int32) (a2 : Int32) (Q : Int32 → (bT9) → Prop) : Prop := (∀ S1 : bT9, S1 = (b9s_told S (0 : Int32)) → (wp_X9_isLeaf S1 (a1) (fun r2 u3 => ((¬ r2 = 0 → (wp_X9_laysNodes u3 (fun u5 => ((¬ a2 = 0 → ((¬ a2 = (1 : Int32) → ((¬ a2 = (2 : Int32) → ((¬ a2 = (3 : Int32) → ((¬ a2 = (4 : Int32) → ((¬ a2 = (5 : Int32) → ((¬ a2 = (6 : Int32) → (vp_in a1 64 ∧ (wp_X9_isIn u5 (a2) ((10 : Int32)) (((9 : Int32) + ((b9g_beginning u5) (a1).toNatClampNeg))) (fun r6 => ((r6 = 0 → (Q (-1 : Int32) u5)) ∧ (¬ r6 = 0 → (wp_X9_key u5 (a1) (fun r8 => (wp_X9_byteOf u5 (r8) ((a2 - (10 : Int32))) (fun r10 => (Q r10 u5))))))))))) ∧ (a2 = (6 : Int32) → (vp_in a1 64 ∧ (Q ((b9g_common u5) (a1).toNatClampNeg) u5))))) ∧ (a2 = (5 : Int32) → (wp_X9_nodeOf u5 (a1) (fun r12 => (Q r12 u5)))))) ∧ (a2 = (4 : Int32) → (vp_in a1 64 ∧ (Q ((b9g_placeOf u5) (a1).toNatClampNeg) u5))))) ∧ (a2 = (3 : Int32) → (wp_X9_key u5 (a1) (fun r14 => (vp_in a1 64 ∧ (wp_X9_nextBits u5 (fun r16 => (wp_X9_nextOf u5 (r14) (((b9g_beginning u5) (a1).toNatClampNeg)) (r16) (fun r18 => (Q r18 u5))))))))))) ∧ (a2 = (2 : Int32) → (wp_X9_hashOf u5 (a1) (fun r20 => (Q r20 u5)))))) ∧ (a2 = (1 : Int32) → (wp_X9_isEnded u5 (a1) (fun r22 => ((r22 = 0 → (Q (0 : Int32) u5)) ∧ (¬ r22 = 0 → (Q (1 : Int32) u5)))))))) ∧ (a2 = 0 → (vp_in a1 64 ∧ (Q ((b9g_beginning u5) (a1).toNatClampNeg) u5))))))) ∧ (r2 = 0 → (Q (-1 : Int32) u3))))))
set_option maxRecDepth 20000 in
theorem t_X9_leaf {X : bf_X} (C : bf_C X RX9 cX9_leaf 3 (some .int)) (hR : bf_Rm X 8 182) (S : bT9) (a1 : Int32) (a2 : Int32) (Q : Int32 → (bT9) → Prop) (h : wp_X9_leaf S a1 a2 Q) : bf_A X (bf_Zi X bW9 Q) 3 0 [some (.ref 0), some (.int a1), some (.int a2)] [] (bW9 S) := by
  unfold wp_X9_leaf at h
  refine bs_aload_n C (bf_dk dd_X9_leaf 0 rfl) rfl ?_
  refine bs_iconst C (bf_dk dd_X9_leaf 1 rfl) (0 : Int32) (by decide) ?_
  refine bs_put C (bf_dk dd_X9_leaf 2 rfl) tyX9_ok nmX9 cl_9 in_9 0 (Nat.le_of_ble_eq_true rfl) rfl f_9_75 rfl (ge_bW9_0 S) (Nat.le_of_ble_eq_true rfl) rfl rfl (pu_bW9_0_0 S (0 : Int32)) ?_
  refine bs_nameS bW9 (fun S1 eS1 => ?_)
  replace h := h S1 eS1
  refine bs_aload_n C (bf_dk dd_X9_leaf 3 rfl) rfl ?_
  refine bs_iload_n C (bf_dk dd_X9_leaf 4 rfl) rfl ?_
  refine bs_selfV_i C hR (c_X9_isLeaf _ _ _ _ _ S1 (a1) _ h) my_X9_isLeaf m_9_363 rfl cl_9 (ge_bW9_0 _) rfl (Nat.le_of_ble_eq_true rfl) (Nat.le_of_ble_eq_true rfl) (st := []) (Nat.le_of_ble_eq_true rfl) (bf_dk dd_X9_leaf 5 rfl) rfl (len := 21) (fun _ => rfl) (fun r2 u3 h => ?_)
  refine bs_if_ne C (bf_dk dd_X9_leaf 6 rfl) (tgt := 15) rfl (fun c => ?_) (fun c => ?_)
  · replace h := h.1 c
    refine bs_aload_n C (bf_dk dd_X9_leaf 9 rfl) rfl ?_
    refine bs_selfV_v C hR (c_X9_laysNodes _ _ _ _ _ u3 _ h) my_X9_laysNodes m_9_262 rfl cl_9 (ge_bW9_0 _) rfl (Nat.le_of_ble_eq_true rfl) (Nat.le_of_ble_eq_true rfl) (st := []) (Nat.le_of_ble_eq_true rfl) (bf_dk dd_X9_leaf 10 rfl) rfl (len := 21) (fun _ => rfl) (fun u5 h => ?_)
    refine bs_iload_n C (bf_dk dd_X9_leaf 11 rfl) rfl ?_
    refine bs_if_ne C (bf_dk dd_X9_leaf 12 rfl) (tgt := 30) rfl (fun c => ?_) (fun c => ?_)
    · replace h := h.1 c
      refine bs_iload_n C (bf_dk dd_X9_leaf 18 rfl) rfl ?_
      refine bs_iconst C (bf_dk dd_X9_leaf 19 rfl) (1 : Int32) (by decide) ?_
      refine bs_icmp_ne C (bf_dk dd_X9_leaf 20 rfl) (tgt := 49) rfl (fun c => ?_) (fun c => ?_)
      · replace h := h.1 c
        refine bs_iload_n C (bf_dk dd_X9_leaf 29 rfl) rfl ?_
        refine bs_iconst C (bf_dk dd_X9_leaf 30 rfl) (2 : Int32) (by decide) ?_
        refine bs_icmp_ne C (bf_dk dd_X9_leaf 31 rfl) (tgt := 60) rfl (fun c => ?_) (fun c => ?_)
        · replace h := h.1 c
          refine bs_iload_n C (bf_dk dd_X9_leaf 36 rfl) rfl ?_
          refine bs_iconst C (bf_dk dd_X9_leaf 37 rfl) (3 : Int32) (by decide) ?_
          refine bs_icmp_ne C (bf_dk dd_X9_leaf 38 rfl) (tgt := 85) rfl (fun c => ?_) (fun c => ?_)
          · replace h := h.1 c
            refine bs_iload_n C (bf_dk dd_X9_leaf 51 rfl) rfl ?_
            refine bs_iconst C (bf_dk dd_X9_leaf 52 rfl) (4 : Int32) (by decide) ?_
            refine bs_icmp_ne C (bf_dk dd_X9_leaf 53 rfl) (tgt := 97) rfl (fun c => ?_) (fun c => ?_)
            · replace h := h.1 c
              refine bs_iload_n C (bf_dk dd_X9_leaf 59 rfl) rfl ?_
              refine bs_iconst C (bf_dk dd_X9_leaf 60 rfl) (5 : Int32) (by decide) ?_
              refine bs_icmp_ne C (bf_dk dd_X9_leaf 61 rfl) (tgt := 108) rfl (fun c => ?_) (fun c => ?_)
              · replace h := h.1 c
                refine bs_iload_n C (bf_dk dd_X9_leaf 66 rfl) rfl ?_
                refine bs_bipush C (bf_dk dd_X9_leaf 67 rfl) (6 : Int32) (by decide) ?_
                refine bs_icmp_ne C (bf_dk dd_X9_leaf 68 rfl) (tgt := 121) rfl (fun c => ?_) (fun c => ?_)
                · replace h := h.1 c
                  refine bs_aload_n C (bf_dk dd_X9_leaf 74 rfl) rfl ?_
                  refine bs_iload_n C (bf_dk dd_X9_leaf 75 rfl) rfl ?_
                  refine bs_bipush C (bf_dk dd_X9_leaf 76 rfl) (10 : Int32) (by decide) ?_
                  refine bs_bipush C (bf_dk dd_X9_leaf 77 rfl) (9 : Int32) (by decide) ?_
                  refine bs_aload_n C (bf_dk dd_X9_leaf 78 rfl) rfl ?_
                  refine bs_get C (bf_dk dd_X9_leaf 79 rfl) cl_9 in_9 11 (Nat.le_of_ble_eq_true rfl) rfl f_9_29 (ge_bW9_0 u5) rfl ?_
                  refine bs_iload_n C (bf_dk dd_X9_leaf 80 rfl) rfl ?_
                  obtain ⟨hi, h⟩ := h
                  refine bs_iald C (bf_dk dd_X9_leaf 81 rfl) (ge_bW9_7 u5) hi ?_
                  refine bs_iadd C (bf_dk dd_X9_leaf 82 rfl) ?_
                  refine bs_selfPV_i C hR (c_X9_isIn _ _ _ _ _ u5 (a2) ((10 : Int32)) (((9 : Int32) + ((b9g_beginning u5) (a1).toNatClampNeg))) _ h) my_X9_isIn m_9_82 rfl cl_9 (ge_bW9_0 _) rfl (Nat.le_of_ble_eq_true rfl) (Nat.le_of_ble_eq_true rfl) (st := []) (Nat.le_of_ble_eq_true rfl) (bf_dk dd_X9_leaf 83 rfl) rfl (fun r6 h => ?_)
                  refine bs_if_eq C (bf_dk dd_X9_leaf 84 rfl) (tgt := 156) rfl (fun c => ?_) (fun c => ?_)
                  · replace h := h.1 c
                    refine bs_iconst C (bf_dk dd_X9_leaf 94 rfl) (-1 : Int32) (by decide) ?_
                    exact bs_iret (u := u5) C (bf_dk dd_X9_leaf 95 rfl) rfl h
                  · replace h := h.2 c
                    refine bs_aload_n C (bf_dk dd_X9_leaf 85 rfl) rfl ?_
                    refine bs_aload_n C (bf_dk dd_X9_leaf 86 rfl) rfl ?_
                    refine bs_iload_n C (bf_dk dd_X9_leaf 87 rfl) rfl ?_
                    refine bs_selfPV_l C hR (c_X9_key _ _ _ _ _ u5 (a1) _ h) my_X9_key m_9_178 rfl cl_9 (ge_bW9_0 _) rfl (Nat.le_of_ble_eq_true rfl) (Nat.le_of_ble_eq_true rfl) (st := [.ref 0]) (Nat.le_of_ble_eq_true rfl) (bf_dk dd_X9_leaf 88 rfl) rfl (fun r8 h => ?_)
                    refine bs_iload_n C (bf_dk dd_X9_leaf 89 rfl) rfl ?_
                    refine bs_bipush C (bf_dk dd_X9_leaf 90 rfl) (10 : Int32) (by decide) ?_
                    refine bs_isub C (bf_dk dd_X9_leaf 91 rfl) ?_
                    refine bs_selfPV_i C hR (c_X9_byteOf _ _ _ _ _ u5 (r8) ((a2 - (10 : Int32))) _ h) my_X9_byteOf m_9_181 rfl cl_9 (ge_bW9_0 _) rfl (Nat.le_of_ble_eq_true rfl) (Nat.le_of_ble_eq_true rfl) (st := []) (Nat.le_of_ble_eq_true rfl) (bf_dk dd_X9_leaf 92 rfl) rfl (fun r10 h => ?_)
                    refine bs_goto C (bf_dk dd_X9_leaf 93 rfl) (tgt := 157) rfl ?_
                    exact bs_iret (u := u5) C (bf_dk dd_X9_leaf 95 rfl) rfl h
                · replace h := h.2 c
                  refine bs_aload_n C (bf_dk dd_X9_leaf 69 rfl) rfl ?_
                  refine bs_get C (bf_dk dd_X9_leaf 70 rfl) cl_9 in_9 10 (Nat.le_of_ble_eq_true rfl) rfl f_9_26 (ge_bW9_0 u5) rfl ?_
                  refine bs_iload_n C (bf_dk dd_X9_leaf 71 rfl) rfl ?_
                  obtain ⟨hi, h⟩ := h
                  refine bs_iald C (bf_dk dd_X9_leaf 72 rfl) (ge_bW9_6 u5) hi ?_
                  exact bs_iret (u := u5) C (bf_dk dd_X9_leaf 73 rfl) rfl h
              · replace h := h.2 c
                refine bs_aload_n C (bf_dk dd_X9_leaf 62 rfl) rfl ?_
                refine bs_iload_n C (bf_dk dd_X9_leaf 63 rfl) rfl ?_
                refine bs_selfPV_i C hR (c_X9_nodeOf _ _ _ _ _ u5 (a1) _ h) my_X9_nodeOf m_9_369 rfl cl_9 (ge_bW9_0 _) rfl (Nat.le_of_ble_eq_true rfl) (Nat.le_of_ble_eq_true rfl) (st := []) (Nat.le_of_ble_eq_true rfl) (bf_dk dd_X9_leaf 64 rfl) rfl (fun r12 h => ?_)
                exact bs_iret (u := u5) C (bf_dk dd_X9_leaf 65 rfl) rfl h
            · replace h := h.2 c
              refine bs_aload_n C (bf_dk dd_X9_leaf 54 rfl) rfl ?_
              refine bs_get C (bf_dk dd_X9_leaf 55 rfl) cl_9 in_9 25 (Nat.le_of_ble_eq_true rfl) rfl f_9_50 (ge_bW9_0 u5) rfl ?_
              refine bs_iload_n C (bf_dk dd_X9_leaf 56 rfl) rfl ?_
              obtain ⟨hi, h⟩ := h
              refine bs_iald C (bf_dk dd_X9_leaf 57 rfl) (ge_bW9_14 u5) hi ?_
              exact bs_iret (u := u5) C (bf_dk dd_X9_leaf 58 rfl) rfl h
          · replace h := h.2 c
            refine bs_aload_n C (bf_dk dd_X9_leaf 39 rfl) rfl ?_
            refine bs_aload_n C (bf_dk dd_X9_leaf 40 rfl) rfl ?_
            refine bs_iload_n C (bf_dk dd_X9_leaf 41 rfl) rfl ?_
            refine bs_selfPV_l C hR (c_X9_key _ _ _ _ _ u5 (a1) _ h) my_X9_key m_9_178 rfl cl_9 (ge_bW9_0 _) rfl (Nat.le_of_ble_eq_true rfl) (Nat.le_of_ble_eq_true rfl) (st := [.ref 0]) (Nat.le_of_ble_eq_true rfl) (bf_dk dd_X9_leaf 42 rfl) rfl (fun r14 h => ?_)
            refine bs_aload_n C (bf_dk dd_X9_leaf 43 rfl) rfl ?_
            refine bs_get C (bf_dk dd_X9_leaf 44 rfl) cl_9 in_9 11 (Nat.le_of_ble_eq_true rfl) rfl f_9_29 (ge_bW9_0 u5) rfl ?_
            refine bs_iload_n C (bf_dk dd_X9_leaf 45 rfl) rfl ?_
            obtain ⟨hi, h⟩ := h
            refine bs_iald C (bf_dk dd_X9_leaf 46 rfl) (ge_bW9_7 u5) hi ?_
            refine bs_aload_n C (bf_dk dd_X9_leaf 47 rfl) rfl ?_
            refine bs_selfPV_i C hR (c_X9_nextBits _ _ _ _ _ u5 _ h) my_X9_nextBits m_9_313 rfl cl_9 (ge_bW9_0 _) rfl (Nat.le_of_ble_eq_true rfl) (Nat.le_of_ble_eq_true rfl) (st := [.int ((b9g_beginning u5) (a1).toNatClampNeg), .long r14, .ref 0]) (Nat.le_of_ble_eq_true rfl) (bf_dk dd_X9_leaf 48 rfl) rfl (fun r16 h => ?_)
            refine bs_selfPV_i C hR (c_X9_nextOf _ _ _ _ _ u5 (r14) (((b9g_beginning u5) (a1).toNatClampNeg)) (r16) _ h) my_X9_nextOf m_9_286 rfl cl_9 (ge_bW9_0 _) rfl (Nat.le_of_ble_eq_true rfl) (Nat.le_of_ble_eq_true rfl) (st := []) (Nat.le_of_ble_eq_true rfl) (bf_dk dd_X9_leaf 49 rfl) rfl (fun r18 h => ?_)
            exact bs_iret (u := u5) C (bf_dk dd_X9_leaf 50 rfl) rfl h
        · replace h := h.2 c
          refine bs_aload_n C (bf_dk dd_X9_leaf 32 rfl) rfl ?_
          refine bs_iload_n C (bf_dk dd_X9_leaf 33 rfl) rfl ?_
          refine bs_selfPV_i C hR (c_X9_hashOf _ _ _ _ _ u5 (a1) _ h) my_X9_hashOf m_9_366 rfl cl_9 (ge_bW9_0 _) rfl (Nat.le_of_ble_eq_true rfl) (Nat.le_of_ble_eq_true rfl) (st := []) (Nat.le_of_ble_eq_true rfl) (bf_dk dd_X9_leaf 34 rfl) rfl (fun r20 h => ?_)
          exact bs_iret (u := u5) C (bf_dk dd_X9_leaf 35 rfl) rfl h
      · replace h := h.2 c
        refine bs_aload_n C (bf_dk dd_X9_leaf 21 rfl) rfl ?_
        refine bs_iload_n C (bf_dk dd_X9_leaf 22 rfl) rfl ?_
        refine bs_selfPV_i C hR (c_X9_isEnded _ _ _ _ _ u5 (a1) _ h) my_X9_isEnded m_9_283 rfl cl_9 (ge_bW9_0 _) rfl (Nat.le_of_ble_eq_true rfl) (Nat.le_of_ble_eq_true rfl) (st := []) (Nat.le_of_ble_eq_true rfl) (bf_dk dd_X9_leaf 23 rfl) rfl (fun r22 h => ?_)
        refine bs_if_eq C (bf_dk dd_X9_leaf 24 rfl) (tgt := 47) rfl (fun c => ?_) (fun c => ?_)
        · replace h := h.1 c
          refine bs_iconst C (bf_dk dd_X9_leaf 27 rfl) (0 : Int32) (by decide) ?_
          exact bs_iret (u := u5) C (bf_dk dd_X9_leaf 28 rfl) rfl h
        · replace h := h.2 c
          refine bs_iconst C (bf_dk dd_X9_leaf 25 rfl) (1 : Int32) (by decide) ?_
          refine bs_goto C (bf_dk dd_X9_leaf 26 rfl) (tgt := 48) rfl ?_
          exact bs_iret (u := u5) C (bf_dk dd_X9_leaf 28 rfl) rfl h
    · replace h := h.2 c
      refine bs_aload_n C (bf_dk dd_X9_leaf 13 rfl) rfl ?_
      refine bs_get C (bf_dk dd_X9_leaf 14 rfl) cl_9 in_9 11 (Nat.le_of_ble_eq_true rfl) rfl f_9_29 (ge_bW9_0 u5) rfl ?_
      refine bs_iload_n C (bf_dk dd_X9_leaf 15 rfl) rfl ?_
      obtain ⟨hi, h⟩ := h
      refine bs_iald C (bf_dk dd_X9_leaf 16 rfl) (ge_bW9_7 u5) hi ?_
      exact bs_iret (u := u5) C (bf_dk dd_X9_leaf 17 rfl) rfl h
  · replace h := h.2 c
    refine bs_iconst C (bf_dk dd_X9_leaf 7 rfl) (-1 : Int32) (by decide) ?_
    exact bs_iret (u := u3) C (bf_dk dd_X9_leaf 8 rfl) rfl h
theorem c_X9_leaf (l : Launch) (dC : Nat → ClassId) (dI : Nat → Nat → Nat) (ac : Nat → ClassId) (al : Nat → Nat) (S : bT9) (a1 : Int32) (a2 : Int32) (Q : Int32 → (bT9) → Prop) (h : wp_X9_leaf S a1 a2 Q) : bf_M l yX9_leaf cX9_leaf 3 (some .int) 8 182 dC dI ac al [.ref 0, .int a1, .int a2] (bW9 S) (bf_Ki dC dI ac al bW9 Q) := by
  refine bf_start [some (.ref 0), some (.int a1), some (.int a2)] (by decide) (Nat.le_of_ble_eq_true rfl) (bf_s1 (bf_s1 (bf_s1 bf_s0))) ?_
  intro X hl C hR e1 e2 e3 e4
  subst e1; subst e2; subst e3; subst e4
  exact t_X9_leaf C hR S a1 a2 Q h
