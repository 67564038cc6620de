def wp_X9_isAhead (S : bT9) (a1 : Int64) (a3 : Int32) (Q : Int32 → Prop) : Prop := (wp_X9_isLess S (a1) (a3) ((b9g_lowKey S)) ((b9g_lowLength S)) (fun r1 => (bf_bool r1 ∧ Q r1)))
set_option maxRecDepth 20000 in
theorem t_X9_isAhead {X : bf_X} (C : bf_C X RX9 cX9_isAhead 4 (some .boolean)) (hR : bf_Rm X 1 26) (S : bT9) (a1 : Int64) (a3 : Int32) (Q : Int32 → Prop) (h : wp_X9_isAhead S a1 a3 Q) : bf_A X (bf_Zi X bW9 (fun r u => u = S ∧ Q r)) 4 0 [some (.ref 0), some (.long a1), none, some (.int a3)] [] (bW9 S) := by
  unfold wp_X9_isAhead at h
  refine bs_aload_n C (bf_dk dd_X9_isAhead 0 rfl) rfl ?_
  refine bs_lload_n C (bf_dk dd_X9_isAhead 1 rfl) rfl ?_
  refine bs_iload_n C (bf_dk dd_X9_isAhead 2 rfl) rfl ?_
  refine bs_aload_n C (bf_dk dd_X9_isAhead 3 rfl) rfl ?_
  refine bs_get C (bf_dk dd_X9_isAhead 4 rfl) cl_9 in_9 28 (Nat.le_of_ble_eq_true rfl) rfl f_9_271 (ge_bW9_0 S) rfl ?_
  refine bs_aload_n C (bf_dk dd_X9_isAhead 5 rfl) rfl ?_
  refine bs_get C (bf_dk dd_X9_isAhead 6 rfl) cl_9 in_9 30 (Nat.le_of_ble_eq_true rfl) rfl f_9_274 (ge_bW9_0 S) rfl ?_
  refine bs_selfPV_i C hR (c_X9_isLess _ _ _ _ _ S (a1) (a3) ((b9g_lowKey S)) ((b9g_lowLength S)) _ h) my_X9_isLess m_9_106 rfl cl_9 (ge_bW9_0 _) rfl (Nat.le_of_ble_eq_true rfl) (Nat.le_of_ble_eq_true rfl) (st := []) (Nat.le_of_ble_eq_true rfl) (bf_dk dd_X9_isAhead 7 rfl) rfl (fun r1 h => ?_)
  obtain ⟨hi, h⟩ := h
  exact bs_zret (u := S) C (bf_dk dd_X9_isAhead 8 rfl) hi rfl ⟨rfl, h⟩
theorem c_X9_isAhead (l : Launch) (dC : Nat → ClassId) (dI : Nat → Nat → Nat) (ac : Nat → ClassId) (al : Nat → Nat) (S : bT9) (a1 : Int64) (a3 : Int32) (Q : Int32 → Prop) (h : wp_X9_isAhead S a1 a3 Q) : bf_M l yX9_isAhead cX9_isAhead 4 (some .boolean) 1 26 dC dI ac al [.ref 0, .long a1, .int a3] (bW9 S) (bf_Ki dC dI ac al bW9 (fun r u => u = S ∧ Q r)) := by
  refine bf_start [some (.ref 0), some (.long a1), none, some (.int a3)] (by decide) (Nat.le_of_ble_eq_true rfl) (bf_s1 (bf_s1 (bf_sn (bf_s1 bf_s0)))) ?_
  intro X hl C hR e1 e2 e3 e4
  subst e1; subst e2; subst e3; subst e4
  exact t_X9_isAhead C hR S a1 a3 Q h
def wp_X9_isBehind (S : bT9) (a1 : Int64) (a3 : Int32) (Q : Int32 → Prop) : Prop := (wp_X9_isLess S ((b9g_highKey S)) ((b9g_highLength S)) (a1) (a3) (fun r1 => (bf_bool r1 ∧ Q r1)))
set_option maxRecDepth 20000 in
theorem t_X9_isBehind {X : bf_X} (C : bf_C X RX9 cX9_isBehind 4 (some .boolean)) (hR : bf_Rm X 1 26) (S : bT9) (a1 : Int64) (a3 : Int32) (Q : Int32 → Prop) (h : wp_X9_isBehind S a1 a3 Q) : bf_A X (bf_Zi X bW9 (fun r u => u = S ∧ Q r)) 4 0 [some (.ref 0), some (.long a1), none, some (.int a3)] [] (bW9 S) := by
  unfold wp_X9_isBehind at h
  refine bs_aload_n C (bf_dk dd_X9_isBehind 0 rfl) rfl ?_
  refine bs_aload_n C (bf_dk dd_X9_isBehind 1 rfl) rfl ?_
  refine bs_get C (bf_dk dd_X9_isBehind 2 rfl) cl_9 in_9 29 (Nat.le_of_ble_eq_true rfl) rfl f_9_277 (ge_bW9_0 S) rfl ?_
  refine bs_aload_n C (bf_dk dd_X9_isBehind 3 rfl) rfl ?_
  refine bs_get C (bf_dk dd_X9_isBehind 4 rfl) cl_9 in_9 31 (Nat.le_of_ble_eq_true rfl) rfl f_9_280 (ge_bW9_0 S) rfl ?_
  refine bs_lload_n C (bf_dk dd_X9_isBehind 5 rfl) rfl ?_
  refine bs_iload_n C (bf_dk dd_X9_isBehind 6 rfl) rfl ?_
  refine bs_selfPV_i C hR (c_X9_isLess _ _ _ _ _ S ((b9g_highKey S)) ((b9g_highLength S)) (a1) (a3) _ h) my_X9_isLess m_9_106 rfl cl_9 (ge_bW9_0 _) rfl (Nat.le_of_ble_eq_true rfl) (Nat.le_of_ble_eq_true rfl) (st := []) (Nat.le_of_ble_eq_true rfl) (bf_dk dd_X9_isBehind 7 rfl) rfl (fun r1 h => ?_)
  obtain ⟨hi, h⟩ := h
  exact bs_zret (u := S) C (bf_dk dd_X9_isBehind 8 rfl) hi rfl ⟨rfl, h⟩
theorem c_X9_isBehind (l : Launch) (dC : Nat → ClassId) (dI : Nat → Nat → Nat) (ac : Nat → ClassId) (al : Nat → Nat) (S : bT9) (a1 : Int64) (a3 : Int32) (Q : Int32 → Prop) (h : wp_X9_isBehind S a1 a3 Q) : bf_M l yX9_isBehind cX9_isBehind 4 (some .boolean) 1 26 dC dI ac al [.ref 0, .long a1, .int a3] (bW9 S) (bf_Ki dC dI ac al bW9 (fun r u => u = S ∧ Q r)) := by
  refine bf_start [some (.ref 0), some (.long a1), none, some (.int a3)] (by decide) (Nat.le_of_ble_eq_true rfl) (bf_s1 (bf_s1 (bf_sn (bf_s1 bf_s0)))) ?_
  intro X hl C hR e1 e2 e3 e4
  subst e1; subst e2; subst e3; subst e4
  exact t_X9_isBehind C hR S a1 a3 Q h
def wp_X9_leafFor_41 (S : bT9) (x1 : Int64) (x3 : Int32) (x4 : Int32) (x5 : Int32) (Q : Int32 → (bT9) → Prop) (B3 : Int64 → Int32 → Int32 → Int32 → (bT9) → Prop) : Prop := (B3 (x1) (x3) (x4) ((x5 + (1 : Int32))) S)
set_option maxRecDepth 20000 in
theorem t_X9_leafFor_41 {X : bf_X} (C : bf_C X RX9 cX9_leafFor 6 (some .int)) (hR : bf_Rm X 4 89) (S : bT9) (x1 : Int64) (x3 : Int32) (x4 : Int32) (x5 : Int32) (Q : Int32 → (bT9) → Prop) (B3 : Int64 → Int32 → Int32 → Int32 → (bT9) → Prop) (hB3 : ∀ (x1 : Int64) (x3 : Int32) (x4 : Int32) (x5 : Int32) (S : bT9), B3 x1 x3 x4 x5 S → bf_A X (bf_Zi X bW9 Q) 6 3 [some (.ref 0), some (.long x1), none, some (.int x3), some (.int x4), some (.int x5)] [] (bW9 S)) (h : wp_X9_leafFor_41 S x1 x3 x4 x5 Q B3) : bf_A X (bf_Zi X bW9 Q) 6 41 [some (.ref 0), some (.long x1), none, some (.int x3), some (.int x4), some (.int x5)] [] (bW9 S) := by
  unfold wp_X9_leafFor_41 at h
  refine bs_iinc C (bf_dk dd_X9_leafFor 22 rfl) (x5 + (1 : Int32)) rfl rfl (Nat.le_of_ble_eq_true rfl) (Nat.le_of_ble_eq_true rfl) (lv2 := [some (.ref 0), some (.long x1), none, some (.int x3), some (.int x4), some (.int (x5 + (1 : Int32)))]) rfl ?_
  refine bs_goto C (bf_dk dd_X9_leafFor 23 rfl) (tgt := 3) rfl ?_
  exact bs_weak (bf_s1 (bf_s1 (bf_sn (bf_s1 (bf_s1 (bf_s1 bf_s0)))))) (hB3 (x1) (x3) (x4) ((x5 + (1 : Int32))) S h)
def wp_X9_leafFor_3b (S : bT9) (x1 : Int64) (x3 : Int32) (x4 : Int32) (x5 : Int32) (Q : Int32 → (bT9) → Prop) (B3 : Int64 → Int32 → Int32 → Int32 → (bT9) → Prop) : Prop := (wp_X9_leaves S (fun r1 u2 => ((r1 ≤ x5 → (Q (-1 : Int32) u2)) ∧ (¬ r1 ≤ x5 → (wp_X9_bounds u2 (x5) (x4) (fun u4 => (wp_X9_isAhead u4 (x1) (x3) (fun r5 => ((¬ r5 = 0 → (wp_X9_leafFor_41 u4 (x1) (x3) (x4) (x5) Q B3)) ∧ (r5 = 0 → (wp_X9_isBehind u4 (x1) (x3) (fun r7 => ((¬ r7 = 0 → (wp_X9_leafFor_41 u4 (x1) (x3) (x4) (x5) Q B3)) ∧ (r7 = 0 → (Q x5 u4)))))))))))))))
set_option maxRecDepth 20000 in
theorem t_X9_leafFor_3b {X : bf_X} (C : bf_C X RX9 cX9_leafFor 6 (some .int)) (hR : bf_Rm X 4 89) (S : bT9) (x1 : Int64) (x3 : Int32) (x4 : Int32) (x5 : Int32) (Q : Int32 → (bT9) → Prop) (B3 : Int64 → Int32 → Int32 → Int32 → (bT9) → Prop) (hB3 : ∀ (x1 : Int64) (x3 : Int32) (x4 : Int32) (x5 : Int32) (S : bT9), B3 x1 x3 x4 x5 S → bf_A X (bf_Zi X bW9 Q) 6 3 [some (.ref 0), some (.long x1), none, some (.int x3), some (.int x4), some (.int x5)] [] (bW9 S)) (h : wp_X9_leafFor_3b S x1 x3 x4 x5 Q B3) : bf_A X (bf_Zi X bW9 Q) 6 3 [some (.ref 0), some (.long x1), none, some (.int x3), some (.int x4), some (.int x5)] [] (bW9 S) := by
  unfold wp_X9_leafFor_3b at h
  refine bs_iload C (bf_dk dd_X9_leafFor 2 rfl) rfl ?_
  refine bs_aload_n C (bf_dk dd_X9_leafFor 3 rfl) rfl ?_
  refine bs_selfV_i C hR (c_X9_leaves _ _ _ _ _ S _ h) my_X9_leaves m_9_268 rfl cl_9 (ge_bW9_0 _) rfl (Nat.le_of_ble_eq_true rfl) (Nat.le_of_ble_eq_true rfl) (st := [.int x5]) (Nat.le_of_ble_eq_true rfl) (bf_dk dd_X9_leafFor 4 rfl) rfl (len := 21) (fun _ => rfl) (fun r1 u2 h => ?_)
  refine bs_icmp_ge C (bf_dk dd_X9_leafFor 5 rfl) (tgt := 47) rfl (fun c => ?_) (fun c => ?_)
  · replace h := h.1 c
    refine bs_iconst C (bf_dk dd_X9_leafFor 24 rfl) (-1 : Int32) (by decide) ?_
    exact bs_iret (u := u2) C (bf_dk dd_X9_leafFor 25 rfl) rfl h
  · replace h := h.2 c
    refine bs_aload_n C (bf_dk dd_X9_leafFor 6 rfl) rfl ?_
    refine bs_iload C (bf_dk dd_X9_leafFor 7 rfl) rfl ?_
    refine bs_iload C (bf_dk dd_X9_leafFor 8 rfl) rfl ?_
    refine bs_selfV_v C hR (c_X9_bounds _ _ _ _ _ u2 (x5) (x4) _ h) my_X9_bounds m_9_292 rfl cl_9 (ge_bW9_0 _) rfl (Nat.le_of_ble_eq_true rfl) (Nat.le_of_ble_eq_true rfl) (st := []) (Nat.le_of_ble_eq_true rfl) (bf_dk dd_X9_leafFor 9 rfl) rfl (len := 21) (fun _ => rfl) (fun u4 h => ?_)
    refine bs_aload_n C (bf_dk dd_X9_leafFor 10 rfl) rfl ?_
    refine bs_lload_n C (bf_dk dd_X9_leafFor 11 rfl) rfl ?_
    refine bs_iload_n C (bf_dk dd_X9_leafFor 12 rfl) rfl ?_
    refine bs_selfPV_i C hR (c_X9_isAhead _ _ _ _ _ u4 (x1) (x3) _ h) my_X9_isAhead m_9_296 rfl cl_9 (ge_bW9_0 _) rfl (Nat.le_of_ble_eq_true rfl) (Nat.le_of_ble_eq_true rfl) (st := []) (Nat.le_of_ble_eq_true rfl) (bf_dk dd_X9_leafFor 13 rfl) rfl (fun r5 h => ?_)
    refine bs_if_ne C (bf_dk dd_X9_leafFor 14 rfl) (tgt := 41) rfl (fun c => ?_) (fun c => ?_)
    · replace h := h.1 c
      exact bs_weak (bf_s1 (bf_s1 (bf_sn (bf_s1 (bf_s1 (bf_s1 bf_s0)))))) (t_X9_leafFor_41 C hR u4 (x1) (x3) (x4) (x5) Q B3 hB3 h)
    · replace h := h.2 c
      refine bs_aload_n C (bf_dk dd_X9_leafFor 15 rfl) rfl ?_
      refine bs_lload_n C (bf_dk dd_X9_leafFor 16 rfl) rfl ?_
      refine bs_iload_n C (bf_dk dd_X9_leafFor 17 rfl) rfl ?_
      refine bs_selfPV_i C hR (c_X9_isBehind _ _ _ _ _ u4 (x1) (x3) _ h) my_X9_isBehind m_9_300 rfl cl_9 (ge_bW9_0 _) rfl (Nat.le_of_ble_eq_true rfl) (Nat.le_of_ble_eq_true rfl) (st := []) (Nat.le_of_ble_eq_true rfl) (bf_dk dd_X9_leafFor 18 rfl) rfl (fun r7 h => ?_)
      refine bs_if_ne C (bf_dk dd_X9_leafFor 19 rfl) (tgt := 41) rfl (fun c => ?_) (fun c => ?_)
      · replace h := h.1 c
        exact bs_weak (bf_s1 (bf_s1 (bf_sn (bf_s1 (bf_s1 (bf_s1 bf_s0)))))) (t_X9_leafFor_41 C hR u4 (x1) (x3) (x4) (x5) Q B3 hB3 h)
      · replace h := h.2 c
        refine bs_iload C (bf_dk dd_X9_leafFor 20 rfl) rfl ?_
        exact bs_iret (u := u4) C (bf_dk dd_X9_leafFor 21 rfl) rfl h
def wp_X9_leafFor_3 (S : bT9) (x1 : Int64) (x3 : Int32) (x4 : Int32) (x5 : Int32) (Q : Int32 → (bT9) → Prop) : Prop := ∃ I : Nat → Int64 → Int32 → Int32 → Int32 → (bT9) → Prop, (∃ n : Nat, I n x1 x3 x4 x5 S) ∧ ∀ (n : Nat) (x1 : Int64) (x3 : Int32) (x4 : Int32) (x5 : Int32) (S : bT9), I n x1 x3 x4 x5 S → wp_X9_leafFor_3b S x1 x3 x4 x5 Q (fun x1 x3 x4 x5 S => ∃ n2 : Nat, n2 < n ∧ I n2 x1 x3 x4 x5 S)
theorem t_X9_leafFor_3 {X : bf_X} (C : bf_C X RX9 cX9_leafFor 6 (some .int)) (hR : bf_Rm X 4 89) (S : bT9) (x1 : Int64) (x3 : Int32) (x4 : Int32) (x5 : Int32) (Q : Int32 → (bT9) → Prop) (h : wp_X9_leafFor_3 S x1 x3 x4 x5 Q) : bf_A X (bf_Zi X bW9 Q) 6 3 [some (.ref 0), some (.long x1), none, some (.int x3), some (.int x4), some (.int x5)] [] (bW9 S) := by
  obtain ⟨I, ⟨n0, h0⟩, hI⟩ := h
  have key : ∀ (n : Nat) (x1 : Int64) (x3 : Int32) (x4 : Int32) (x5 : Int32) (S : bT9), I n x1 x3 x4 x5 S → bf_A X (bf_Zi X bW9 Q) 6 3 [some (.ref 0), some (.long x1), none, some (.int x3), some (.int x4), some (.int x5)] [] (bW9 S) := by
    intro n
    induction n using Nat.strongRecOn with
    | _ n ih =>
      intro x1 x3 x4 x5 S hi
      exact t_X9_leafFor_3b C hR S x1 x3 x4 x5 Q _ (fun x1 x3 x4 x5 S hb => by obtain ⟨n2, hn, hi2⟩ := hb; exact ih n2 hn x1 x3 x4 x5 S hi2) (hI n x1 x3 x4 x5 S hi)
  exact key n0 x1 x3 x4 x5 S h0
def wp_X9_leafFor (S : bT9) (a1 : Int64) (a3 : Int32) (a4 : Int32) (Q : Int32 → (bT9) → Prop) : Prop := (wp_X9_leafFor_3 S (a1) (a3) (a4) ((0 : Int32)) Q)
set_option maxRecDepth 20000 in
theorem t_X9_leafFor {X : bf_X} (C : bf_C X RX9 cX9_leafFor 6 (some .int)) (hR : bf_Rm X 4 89) (S : bT9) (a1 : Int64) (a3 : Int32) (a4 : Int32) (Q : Int32 → (bT9) → Prop) (h : wp_X9_leafFor S a1 a3 a4 Q) : bf_A X (bf_Zi X bW9 Q) 6 0 [some (.ref 0), some (.long a1), none, some (.int a3), some (.int a4), none] [] (bW9 S) := by
  unfold wp_X9_leafFor at h
  refine bs_iconst C (bf_dk dd_X9_leafFor 0 rfl) (0 : Int32) (by decide) ?_
  refine bs_istore C (bf_dk dd_X9_leafFor 1 rfl) (Nat.le_of_ble_eq_true rfl) (Nat.le_of_ble_eq_true rfl) (lv2 := [some (.ref 0), some (.long a1), none, some (.int a3), some (.int a4), some (.int (0 : Int32))]) rfl ?_
  exact bs_weak (bf_s1 (bf_s1 (bf_sn (bf_s1 (bf_s1 (bf_s1 bf_s0)))))) (t_X9_leafFor_3 C hR S (a1) (a3) (a4) ((0 : Int32)) Q h)
theorem c_X9_leafFor (l : Launch) (dC : Nat → ClassId) (dI : Nat → Nat → Nat) (ac : Nat → ClassId) (al : Nat → Nat) (S : bT9) (a1 : Int64) (a3 : Int32) (a4 : Int32) (Q : Int32 → (bT9) → Prop) (h : wp_X9_leafFor S a1 a3 a4 Q) : bf_M l yX9_leafFor cX9_leafFor 6 (some .int) 4 89 dC dI ac al [.ref 0, .long a1, .int a3, .int a4] (bW9 S) (bf_Ki dC dI ac al bW9 Q) := by
  refine bf_start [some (.ref 0), some (.long a1), none, some (.int a3), some (.int a4), none] (by decide) (Nat.le_of_ble_eq_true rfl) (bf_s1 (bf_s1 (bf_sn (bf_s1 (bf_s1 (bf_en 1)))))) ?_
  intro X hl C hR e1 e2 e3 e4
  subst e1; subst e2; subst e3; subst e4
  exact t_X9_leafFor C hR S a1 a3 a4 Q h
def wp_X9_hash_12b (S : bT9) (x1 : Int64) (x3 : Int32) (x4 : Int32) (x5 : Int32) (x6 : Int32) (Q : Int32 → Prop) (B12 : Int64 → Int32 → Int32 → Int32 → Int32 → Prop) : Prop := ((x3 ≤ x6 → (∀ v1 : Int32, v1 = (x5 ^^^ (((x5).toUInt32 >>> (((15 : Int32)).toUInt32 &&& Int32.toUInt32 31)).toInt32)) → (Q (v1 &&& (((1 : Int32) <<< (x4 &&& 31)) - (1 : Int32)))))) ∧ (¬ x3 ≤ x6 → (wp_X9_byteOf S (x1) (x6) (fun r2 => (∀ v4 : Int32, v4 = ((x5 ^^^ r2) * (16777619 : Int32)) → (B12 (x1) (x3) (x4) (v4) ((x6 + (1 : Int32)))))))))
set_option maxRecDepth 20000 in
theorem t_X9_hash_12b {X : bf_X} (C : bf_C X RX9 cX9_hash 7 (some .int)) (hR : bf_Rm X 1 23) (S : bT9) (x1 : Int64) (x3 : Int32) (x4 : Int32) (x5 : Int32) (x6 : Int32) (Q : Int32 → Prop) (B12 : Int64 → Int32 → Int32 → Int32 → Int32 → Prop) (hB12 : ∀ (x1 : Int64) (x3 : Int32) (x4 : Int32) (x5 : Int32) (x6 : Int32), B12 x1 x3 x4 x5 x6 → bf_A X (bf_Zi X bW9 (fun r u => u = S ∧ Q r)) 7 12 [some (.ref 0), some (.long x1), none, some (.int x3), some (.int x4), some (.int x5), some (.int x6)] [] (bW9 S)) (h : wp_X9_hash_12b S x1 x3 x4 x5 x6 Q B12) : bf_A X (bf_Zi X bW9 (fun r u => u = S ∧ Q r)) 7 12 [some (.ref 0), some (.long x1), none, some (.int x3), some (.int x4), some (.int x5), some (.int x6)] [] (bW9 S) := by
  unfold wp_X9_hash_12b at h
  refine bs_iload C (bf_dk dd_X9_hash 7 rfl) rfl ?_
  refine bs_iload_n C (bf_dk dd_X9_hash 8 rfl) rfl ?_
  refine bs_icmp_ge C (bf_dk dd_X9_hash 9 rfl) (tgt := 40) rfl (fun c => ?_) (fun c => ?_)
  · replace h := h.1 c
    refine bs_iload C (bf_dk dd_X9_hash 21 rfl) rfl ?_
    refine bs_iload C (bf_dk dd_X9_hash 22 rfl) rfl ?_
    refine bs_bipush C (bf_dk dd_X9_hash 23 rfl) (15 : Int32) (by decide) ?_
    refine bs_iushr C (bf_dk dd_X9_hash 24 rfl) ?_
    refine bs_ixor C (bf_dk dd_X9_hash 25 rfl) ?_
    refine bs_name (fun v1 ev1 => ?_)
    replace h := h v1 ev1
    refine bs_istore C (bf_dk dd_X9_hash 26 rfl) (Nat.le_of_ble_eq_true rfl) (Nat.le_of_ble_eq_true rfl) (lv2 := [some (.ref 0), some (.long x1), none, some (.int x3), some (.int x4), some (.int v1), some (.int x6)]) rfl ?_
    refine bs_iload C (bf_dk dd_X9_hash 27 rfl) rfl ?_
    refine bs_iconst C (bf_dk dd_X9_hash 28 rfl) (1 : Int32) (by decide) ?_
    refine bs_iload C (bf_dk dd_X9_hash 29 rfl) rfl ?_
    refine bs_ishl C (bf_dk dd_X9_hash 30 rfl) ?_
    refine bs_iconst C (bf_dk dd_X9_hash 31 rfl) (1 : Int32) (by decide) ?_
    refine bs_isub C (bf_dk dd_X9_hash 32 rfl) ?_
    refine bs_iand C (bf_dk dd_X9_hash 33 rfl) ?_
    exact bs_iret (u := S) C (bf_dk dd_X9_hash 34 rfl) rfl ⟨rfl, h⟩
  · replace h := h.2 c
    refine bs_iload C (bf_dk dd_X9_hash 10 rfl) rfl ?_
    refine bs_aload_n C (bf_dk dd_X9_hash 11 rfl) rfl ?_
    refine bs_lload_n C (bf_dk dd_X9_hash 12 rfl) rfl ?_
    refine bs_iload C (bf_dk dd_X9_hash 13 rfl) rfl ?_
    refine bs_selfPV_i C hR (c_X9_byteOf _ _ _ _ _ S (x1) (x6) _ h) my_X9_byteOf m_9_181 rfl cl_9 (ge_bW9_0 _) rfl (Nat.le_of_ble_eq_true rfl) (Nat.le_of_ble_eq_true rfl) (st := [.int x5]) (Nat.le_of_ble_eq_true rfl) (bf_dk dd_X9_hash 14 rfl) rfl (fun r2 h => ?_)
    refine bs_ixor C (bf_dk dd_X9_hash 15 rfl) ?_
    refine bs_ldcw C (bf_dk dd_X9_hash 16 rfl) k_9_303 ?_
    refine bs_imul C (bf_dk dd_X9_hash 17 rfl) ?_
    refine bs_name (fun v4 ev4 => ?_)
    replace h := h v4 ev4
    refine bs_istore C (bf_dk dd_X9_hash 18 rfl) (Nat.le_of_ble_eq_true rfl) (Nat.le_of_ble_eq_true rfl) (lv2 := [some (.ref 0), some (.long x1), none, some (.int x3), some (.int x4), some (.int v4), some (.int x6)]) rfl ?_
    refine bs_iinc C (bf_dk dd_X9_hash 19 rfl) (x6 + (1 : Int32)) rfl rfl (Nat.le_of_ble_eq_true rfl) (Nat.le_of_ble_eq_true rfl) (lv2 := [some (.ref 0), some (.long x1), none, some (.int x3), some (.int x4), some (.int v4), some (.int (x6 + (1 : Int32)))]) rfl ?_
    refine bs_goto C (bf_dk dd_X9_hash 20 rfl) (tgt := 12) rfl ?_
    exact bs_weak (bf_s1 (bf_s1 (bf_sn (bf_s1 (bf_s1 (bf_s1 (bf_s1 bf_s0))))))) (hB12 (x1) (x3) (x4) (v4) ((x6 + (1 : Int32))) h)
def wp_X9_hash_12 (S : bT9) (x1 : Int64) (x3 : Int32) (x4 : Int32) (x5 : Int32) (x6 : Int32) (Q : Int32 → Prop) : Prop := ∃ I : Nat → Int64 → Int32 → Int32 → Int32 → Int32 → Prop, (∃ n : Nat, I n x1 x3 x4 x5 x6) ∧ ∀ (n : Nat) (x1 : Int64) (x3 : Int32) (x4 : Int32) (x5 : Int32) (x6 : Int32), I n x1 x3 x4 x5 x6 → wp_X9_hash_12b S x1 x3 x4 x5 x6 Q (fun x1 x3 x4 x5 x6 => ∃ n2 : Nat, n2 < n ∧ I n2 x1 x3 x4 x5 x6)
theorem t_X9_hash_12 {X : bf_X} (C : bf_C X RX9 cX9_hash 7 (some .int)) (hR : bf_Rm X 1 23) (S : bT9) (x1 : Int64) (x3 : Int32) (x4 : Int32) (x5 : Int32) (x6 : Int32) (Q : Int32 → Prop) (h : wp_X9_hash_12 S x1 x3 x4 x5 x6 Q) : bf_A X (bf_Zi X bW9 (fun r u => u = S ∧ Q r)) 7 12 [some (.ref 0), some (.long x1), none, some (.int x3), some (.int x4), some (.int x5), some (.int x6)] [] (bW9 S) := by
  obtain ⟨I, ⟨n0, h0⟩, hI⟩ := h
  have key : ∀ (n : Nat) (x1 : Int64) (x3 : Int32) (x4 : Int32) (x5 : Int32) (x6 : Int32), I n x1 x3 x4 x5 x6 → bf_A X (bf_Zi X bW9 (fun r u => u = S ∧ Q r)) 7 12 [some (.ref 0), some (.long x1), none, some (.int x3), some (.int x4), some (.int x5), some (.int x6)] [] (bW9 S) := by
    intro n
    induction n using Nat.strongRecOn with
    | _ n ih =>
      intro x1 x3 x4 x5 x6 hi
      exact t_X9_hash_12b C hR S x1 x3 x4 x5 x6 Q _ (fun x1 x3 x4 x5 x6 hb => by obtain ⟨n2, hn, hi2⟩ := hb; exact ih n2 hn x1 x3 x4 x5 x6 hi2) (hI n x1 x3 x4 x5 x6 hi)
  exact key n0 x1 x3 x4 x5 x6 h0
def wp_X9_hash (S : bT9) (a1 : Int64) (a3 : Int32) (a4 : Int32) (Q : Int32 → Prop) : Prop := (vp_in (16 : Int32) 23 ∧ (wp_X9_hash_12 S (a1) (a3) (a4) (((b9g_now S) ((16 : Int32)).toNatClampNeg)) ((0 : Int32)) Q))
set_option maxRecDepth 20000 in
theorem t_X9_hash {X : bf_X} (C : bf_C X RX9 cX9_hash 7 (some .int)) (hR : bf_Rm X 1 23) (S : bT9) (a1 : Int64) (a3 : Int32) (a4 : Int32) (Q : Int32 → Prop) (h : wp_X9_hash S a1 a3 a4 Q) : bf_A X (bf_Zi X bW9 (fun r u => u = S ∧ Q r)) 7 0 [some (.ref 0), some (.long a1), none, some (.int a3), some (.int a4), none, none] [] (bW9 S) := by
  unfold wp_X9_hash at h
  refine bs_aload_n C (bf_dk dd_X9_hash 0 rfl) rfl ?_
  refine bs_get C (bf_dk dd_X9_hash 1 rfl) cl_9 in_9 1 (Nat.le_of_ble_eq_true rfl) rfl f_9_7 (ge_bW9_0 S) rfl ?_
  refine bs_bipush C (bf_dk dd_X9_hash 2 rfl) (16 : Int32) (by decide) ?_
  obtain ⟨hi, h⟩ := h
  refine bs_iald C (bf_dk dd_X9_hash 3 rfl) (ge_bW9_1 S) hi ?_
  refine bs_istore C (bf_dk dd_X9_hash 4 rfl) (Nat.le_of_ble_eq_true rfl) (Nat.le_of_ble_eq_true rfl) (lv2 := [some (.ref 0), some (.long a1), none, some (.int a3), some (.int a4), some (.int ((b9g_now S) ((16 : Int32)).toNatClampNeg)), none]) rfl ?_
  refine bs_iconst C (bf_dk dd_X9_hash 5 rfl) (0 : Int32) (by decide) ?_
  refine bs_istore C (bf_dk dd_X9_hash 6 rfl) (Nat.le_of_ble_eq_true rfl) (Nat.le_of_ble_eq_true rfl) (lv2 := [some (.ref 0), some (.long a1), none, some (.int a3), some (.int a4), some (.int ((b9g_now S) ((16 : Int32)).toNatClampNeg)), some (.int (0 : Int32))]) rfl ?_
  exact bs_weak (bf_s1 (bf_s1 (bf_sn (bf_s1 (bf_s1 (bf_s1 (bf_s1 bf_s0))))))) (t_X9_hash_12 C hR S (a1) (a3) (a4) (((b9g_now S) ((16 : Int32)).toNatClampNeg)) ((0 : Int32)) Q h)
theorem c_X9_hash (l : Launch) (dC : Nat → ClassId) (dI : Nat → Nat → Nat) (ac : Nat → ClassId) (al : Nat → Nat) (S : bT9) (a1 : Int64) (a3 : Int32) (a4 : Int32) (Q : Int32 → Prop) (h : wp_X9_hash S a1 a3 a4 Q) : bf_M l yX9_hash cX9_hash 7 (some .int) 1 23 dC dI ac al [.ref 0, .long a1, .int a3, .int a4] (bW9 S) (bf_Ki dC dI ac al bW9 (fun r u => u = S ∧ Q r)) := by
  refine bf_start [some (.ref 0), some (.long a1), none, some (.int a3), some (.int a4), none, none] (by decide) (Nat.le_of_ble_eq_true rfl) (bf_s1 (bf_s1 (bf_sn (bf_s1 (bf_s1 (bf_en 2)))))) ?_
  intro X hl C hR e1 e2 e3 e4
  subst e1; subst e2; subst e3; subst e4
  exact t_X9_hash C hR S a1 a3 a4 Q h
def wp_X9_mayBe (S : bT9) (a1 : Int64) (a3 : Int32) (a4 : Int32) (a5 : Int32) (Q : Int32 → (bT9) → Prop) : Prop := (wp_X9_leafFor S (a1) (a3) (a5) (fun r1 u2 => ((r1 = (-1 : Int32) → (bf_bool (0 : Int32) ∧ Q (0 : Int32) u2)) ∧ (¬ r1 = (-1 : Int32) → (wp_X9_hash u2 (a1) (a3) (a4) (fun r3 => (wp_X9_key u2 (r1) (fun r5 => (wp_X9_lengthOf u2 (r1) (fun r7 => (wp_X9_hash u2 (r5) (r7) (a4) (fun r9 => ((¬ r3 = r9 → (bf_bool (0 : Int32) ∧ Q (0 : Int32) u2)) ∧ (r3 = r9 → (bf_bool (1 : Int32) ∧ Q (1 : Int32) u2)))))))))))))))
set_option maxRecDepth 20000 in
theorem t_X9_mayBe {X : bf_X} (C : bf_C X RX9 cX9_mayBe 7 (some .boolean)) (hR : bf_Rm X 5 114) (S : bT9) (a1 : Int64) (a3 : Int32) (a4 : Int32) (a5 : Int32) (Q : Int32 → (bT9) → Prop) (h : wp_X9_mayBe S a1 a3 a4 a5 Q) : bf_A X (bf_Zi X bW9 Q) 7 0 [some (.ref 0), some (.long a1), none, some (.int a3), some (.int a4), some (.int a5), none] [] (bW9 S) := by
  unfold wp_X9_mayBe at h
  refine bs_aload_n C (bf_dk dd_X9_mayBe 0 rfl) rfl ?_
  refine bs_lload_n C (bf_dk dd_X9_mayBe 1 rfl) rfl ?_
  refine bs_iload_n C (bf_dk dd_X9_mayBe 2 rfl) rfl ?_
  refine bs_iload C (bf_dk dd_X9_mayBe 3 rfl) rfl ?_
  refine bs_selfV_i C hR (c_X9_leafFor _ _ _ _ _ S (a1) (a3) (a5) _ h) my_X9_leafFor m_9_304 rfl cl_9 (ge_bW9_0 _) rfl (Nat.le_of_ble_eq_true rfl) (Nat.le_of_ble_eq_true rfl) (st := []) (Nat.le_of_ble_eq_true rfl) (bf_dk dd_X9_mayBe 4 rfl) rfl (len := 21) (fun _ => rfl) (fun r1 u2 h => ?_)
  refine bs_istore C (bf_dk dd_X9_mayBe 5 rfl) (Nat.le_of_ble_eq_true rfl) (Nat.le_of_ble_eq_true rfl) (lv2 := [some (.ref 0), some (.long a1), none, some (.int a3), some (.int a4), some (.int a5), some (.int r1)]) rfl ?_
  refine bs_iload C (bf_dk dd_X9_mayBe 6 rfl) rfl ?_
  refine bs_iconst C (bf_dk dd_X9_mayBe 7 rfl) (-1 : Int32) (by decide) ?_
  refine bs_icmp_eq C (bf_dk dd_X9_mayBe 8 rfl) (tgt := 49) rfl (fun c => ?_) (fun c => ?_)
  · replace h := h.1 c
    refine bs_iconst C (bf_dk dd_X9_mayBe 26 rfl) (0 : Int32) (by decide) ?_
    obtain ⟨hi, h⟩ := h
    exact bs_zret (u := u2) C (bf_dk dd_X9_mayBe 27 rfl) hi rfl h
  · replace h := h.2 c
    refine bs_aload_n C (bf_dk dd_X9_mayBe 9 rfl) rfl ?_
    refine bs_lload_n C (bf_dk dd_X9_mayBe 10 rfl) rfl ?_
    refine bs_iload_n C (bf_dk dd_X9_mayBe 11 rfl) rfl ?_
    refine bs_iload C (bf_dk dd_X9_mayBe 12 rfl) rfl ?_
    refine bs_selfPV_i C hR (c_X9_hash _ _ _ _ _ u2 (a1) (a3) (a4) _ h) my_X9_hash m_9_307 rfl cl_9 (ge_bW9_0 _) rfl (Nat.le_of_ble_eq_true rfl) (Nat.le_of_ble_eq_true rfl) (st := []) (Nat.le_of_ble_eq_true rfl) (bf_dk dd_X9_mayBe 13 rfl) rfl (fun r3 h => ?_)
    refine bs_aload_n C (bf_dk dd_X9_mayBe 14 rfl) rfl ?_
    refine bs_aload_n C (bf_dk dd_X9_mayBe 15 rfl) rfl ?_
    refine bs_iload C (bf_dk dd_X9_mayBe 16 rfl) rfl ?_
    refine bs_selfPV_l C hR (c_X9_key _ _ _ _ _ u2 (r1) _ h) my_X9_key m_9_178 rfl cl_9 (ge_bW9_0 _) rfl (Nat.le_of_ble_eq_true rfl) (Nat.le_of_ble_eq_true rfl) (st := [.ref 0, .int r3]) (Nat.le_of_ble_eq_true rfl) (bf_dk dd_X9_mayBe 17 rfl) rfl (fun r5 h => ?_)
    refine bs_aload_n C (bf_dk dd_X9_mayBe 18 rfl) rfl ?_
    refine bs_iload C (bf_dk dd_X9_mayBe 19 rfl) rfl ?_
    refine bs_selfPV_i C hR (c_X9_lengthOf _ _ _ _ _ u2 (r1) _ h) my_X9_lengthOf m_9_175 rfl cl_9 (ge_bW9_0 _) rfl (Nat.le_of_ble_eq_true rfl) (Nat.le_of_ble_eq_true rfl) (st := [.long r5, .ref 0, .int r3]) (Nat.le_of_ble_eq_true rfl) (bf_dk dd_X9_mayBe 20 rfl) rfl (fun r7 h => ?_)
    refine bs_iload C (bf_dk dd_X9_mayBe 21 rfl) rfl ?_
    refine bs_selfPV_i C hR (c_X9_hash _ _ _ _ _ u2 (r5) (r7) (a4) _ h) my_X9_hash m_9_307 rfl cl_9 (ge_bW9_0 _) rfl (Nat.le_of_ble_eq_true rfl) (Nat.le_of_ble_eq_true rfl) (st := [.int r3]) (Nat.le_of_ble_eq_true rfl) (bf_dk dd_X9_mayBe 22 rfl) rfl (fun r9 h => ?_)
    refine bs_icmp_ne C (bf_dk dd_X9_mayBe 23 rfl) (tgt := 49) rfl (fun c => ?_) (fun c => ?_)
    · replace h := h.1 c
      refine bs_iconst C (bf_dk dd_X9_mayBe 26 rfl) (0 : Int32) (by decide) ?_
      obtain ⟨hi, h⟩ := h
      exact bs_zret (u := u2) C (bf_dk dd_X9_mayBe 27 rfl) hi rfl h
    · replace h := h.2 c
      refine bs_iconst C (bf_dk dd_X9_mayBe 24 rfl) (1 : Int32) (by decide) ?_
      refine bs_goto C (bf_dk dd_X9_mayBe 25 rfl) (tgt := 50) rfl ?_
      obtain ⟨hi, h⟩ := h
      exact bs_zret (u := u2) C (bf_dk dd_X9_mayBe 27 rfl) hi rfl h
theorem c_X9_mayBe (l : Launch) (dC : Nat → ClassId) (dI : Nat → Nat → Nat) (ac : Nat → ClassId) (al : Nat → Nat) (S : bT9) (a1 : Int64) (a3 : Int32) (a4 : Int32) (a5 : Int32) (Q : Int32 → (bT9) → Prop) (h : wp_X9_mayBe S a1 a3 a4 a5 Q) : bf_M l yX9_mayBe cX9_mayBe 7 (some .boolean) 5 114 dC dI ac al [.ref 0, .long a1, .int a3, .int a4, .int a5] (bW9 S) (bf_Ki dC dI ac al bW9 Q) := by
  refine bf_start [some (.ref 0), some (.long a1), none, some (.int a3), some (.int a4), some (.int a5), none] (by decide) (Nat.le_of_ble_eq_true rfl) (bf_s1 (bf_s1 (bf_sn (bf_s1 (bf_s1 (bf_s1 (bf_en 1))))))) ?_
  intro X hl C hR e1 e2 e3 e4
  subst e1; subst e2; subst e3; subst e4
  exact t_X9_mayBe C hR S a1 a3 a4 a5 Q h
def wp_X9_mayNow (S : bT9) (a1 : Int64) (a3 : Int32) (Q : Int32 → (bT9) → Prop) : Prop := (wp_X9_hashBits S (fun r1 => (wp_X9_nextBits S (fun r3 => (wp_X9_mayBe S (a1) (a3) (r1) (r3) (fun r5 u6 => (bf_bool r5 ∧ Q r5 u6)))))))
set_option maxRecDepth 20000 in
theorem t_X9_mayNow {X : bf_X} (C : bf_C X RX9 cX9_mayNow 4 (some .boolean)) (hR : bf_Rm X 6 140) (S : bT9) (a1 : Int64) (a3 : Int32) (Q : Int32 → (bT9) → Prop) (h : wp_X9_mayNow S a1 a3 Q) : bf_A X (bf_Zi X bW9 Q) 4 0 [some (.ref 0), some (.long a1), none, some (.int a3)] [] (bW9 S) := by
  unfold wp_X9_mayNow at h
  refine bs_aload_n C (bf_dk dd_X9_mayNow 0 rfl) rfl ?_
  refine bs_lload_n C (bf_dk dd_X9_mayNow 1 rfl) rfl ?_
  refine bs_iload_n C (bf_dk dd_X9_mayNow 2 rfl) rfl ?_
  refine bs_aload_n C (bf_dk dd_X9_mayNow 3 rfl) rfl ?_
  refine bs_selfPV_i C hR (c_X9_hashBits _ _ _ _ _ S _ h) my_X9_hashBits m_9_310 rfl cl_9 (ge_bW9_0 _) rfl (Nat.le_of_ble_eq_true rfl) (Nat.le_of_ble_eq_true rfl) (st := [.int a3, .long a1, .ref 0]) (Nat.le_of_ble_eq_true rfl) (bf_dk dd_X9_mayNow 4 rfl) rfl (fun r1 h => ?_)
  refine bs_aload_n C (bf_dk dd_X9_mayNow 5 rfl) rfl ?_
  refine bs_selfPV_i C hR (c_X9_nextBits _ _ _ _ _ S _ h) my_X9_nextBits m_9_313 rfl cl_9 (ge_bW9_0 _) rfl (Nat.le_of_ble_eq_true rfl) (Nat.le_of_ble_eq_true rfl) (st := [.int r1, .int a3, .long a1, .ref 0]) (Nat.le_of_ble_eq_true rfl) (bf_dk dd_X9_mayNow 6 rfl) rfl (fun r3 h => ?_)
  refine bs_selfV_i C hR (c_X9_mayBe _ _ _ _ _ S (a1) (a3) (r1) (r3) _ h) my_X9_mayBe m_9_316 rfl cl_9 (ge_bW9_0 _) rfl (Nat.le_of_ble_eq_true rfl) (Nat.le_of_ble_eq_true rfl) (st := []) (Nat.le_of_ble_eq_true rfl) (bf_dk dd_X9_mayNow 7 rfl) rfl (len := 21) (fun _ => rfl) (fun r5 u6 h => ?_)
  obtain ⟨hi, h⟩ := h
  exact bs_zret (u := u6) C (bf_dk dd_X9_mayNow 8 rfl) hi rfl h
theorem c_X9_mayNow (l : Launch) (dC : Nat → ClassId) (dI : Nat → Nat → Nat) (ac : Nat → ClassId) (al : Nat → Nat) (S : bT9) (a1 : Int64) (a3 : Int32) (Q : Int32 → (bT9) → Prop) (h : wp_X9_mayNow S a1 a3 Q) : bf_M l yX9_mayNow cX9_mayNow 4 (some .boolean) 6 140 dC dI ac al [.ref 0, .long a1, .int a3] (bW9 S) (bf_Ki dC dI ac al bW9 Q) := by
  refine bf_start [some (.ref 0), some (.long a1), none, some (.int a3)] (by decide) (Nat.le_of_ble_eq_true rfl) (bf_s1 (bf_s1 (bf_sn (bf_s1 bf_s0)))) ?_
  intro X hl C hR e1 e2 e3 e4
  subst e1; subst e2; subst e3; subst e4
  exact t_X9_mayNow C hR S a1 a3 Q h
def wp_X9_isOfFilter (S : bT9) (a1 : Int64) (a3 : Int32) (Q : Int32 → Prop) : Prop := (vp_in (9 : Int32) 23 ∧ (wp_X9_find S ((64 : Int32)) (((b9g_now S) ((9 : Int32)).toNatClampNeg)) (a1) (a3) (fun r1 => ((r1 = (-1 : Int32) → (bf_bool (0 : Int32) ∧ Q (0 : Int32))) ∧ (¬ r1 = (-1 : Int32) → (bf_bool (1 : Int32) ∧ Q (1 : Int32)))))))
set_option maxRecDepth 20000 in
theorem t_X9_isOfFilter {X : bf_X} (C : bf_C X RX9 cX9_isOfFilter 4 (some .boolean)) (hR : bf_Rm X 3 78) (S : bT9) (a1 : Int64) (a3 : Int32) (Q : Int32 → Prop) (h : wp_X9_isOfFilter S a1 a3 Q) : bf_A X (bf_Zi X bW9 (fun r u => u = S ∧ Q r)) 4 0 [some (.ref 0), some (.long a1), none, some (.int a3)] [] (bW9 S) := by
  unfold wp_X9_isOfFilter at h
  refine bs_aload_n C (bf_dk dd_X9_isOfFilter 0 rfl) rfl ?_
  refine bs_bipush C (bf_dk dd_X9_isOfFilter 1 rfl) (64 : Int32) (by decide) ?_
  refine bs_aload_n C (bf_dk dd_X9_isOfFilter 2 rfl) rfl ?_
  refine bs_get C (bf_dk dd_X9_isOfFilter 3 rfl) cl_9 in_9 1 (Nat.le_of_ble_eq_true rfl) rfl f_9_7 (ge_bW9_0 S) rfl ?_
  refine bs_bipush C (bf_dk dd_X9_isOfFilter 4 rfl) (9 : Int32) (by decide) ?_
  obtain ⟨hi, h⟩ := h
  refine bs_iald C (bf_dk dd_X9_isOfFilter 5 rfl) (ge_bW9_1 S) hi ?_
  refine bs_lload_n C (bf_dk dd_X9_isOfFilter 6 rfl) rfl ?_
  refine bs_iload_n C (bf_dk dd_X9_isOfFilter 7 rfl) rfl ?_
  refine bs_selfPV_i C hR (c_X9_find _ _ _ _ _ S ((64 : Int32)) (((b9g_now S) ((9 : Int32)).toNatClampNeg)) (a1) (a3) _ h) my_X9_find m_9_114 rfl cl_9 (ge_bW9_0 _) rfl (Nat.le_of_ble_eq_true rfl) (Nat.le_of_ble_eq_true rfl) (st := []) (Nat.le_of_ble_eq_true rfl) (bf_dk dd_X9_isOfFilter 8 rfl) rfl (fun r1 h => ?_)
  refine bs_iconst C (bf_dk dd_X9_isOfFilter 9 rfl) (-1 : Int32) (by decide) ?_
  refine bs_icmp_eq C (bf_dk dd_X9_isOfFilter 10 rfl) (tgt := 23) rfl (fun c => ?_) (fun c => ?_)
  · replace h := h.1 c
    refine bs_iconst C (bf_dk dd_X9_isOfFilter 13 rfl) (0 : Int32) (by decide) ?_
    obtain ⟨hi, h⟩ := h
    exact bs_zret (u := S) C (bf_dk dd_X9_isOfFilter 14 rfl) hi rfl ⟨rfl, h⟩
  · replace h := h.2 c
    refine bs_iconst C (bf_dk dd_X9_isOfFilter 11 rfl) (1 : Int32) (by decide) ?_
    refine bs_goto C (bf_dk dd_X9_isOfFilter 12 rfl) (tgt := 24) rfl ?_
    obtain ⟨hi, h⟩ := h
    exact bs_zret (u := S) C (bf_dk dd_X9_isOfFilter 14 rfl) hi rfl ⟨rfl, h⟩
theorem c_X9_isOfFilter (l : Launch) (dC : Nat → ClassId) (dI : Nat → Nat → Nat) (ac : Nat → ClassId) (al : Nat → Nat) (S : bT9) (a1 : Int64) (a3 : Int32) (Q : Int32 → Prop) (h : wp_X9_isOfFilter S a1 a3 Q) : bf_M l yX9_isOfFilter cX9_isOfFilter 4 (some .boolean) 3 78 dC dI ac al [.ref 0, .long a1, .int a3] (bW9 S) (bf_Ki dC dI ac al bW9 (fun r u => u = S ∧ Q r)) := by
  refine bf_start [some (.ref 0), some (.long a1), none, some (.int a3)] (by decide) (Nat.le_of_ble_eq_true rfl) (bf_s1 (bf_s1 (bf_sn (bf_s1 bf_s0)))) ?_
  intro X hl C hR e1 e2 e3 e4
  subst e1; subst e2; subst e3; subst e4
  exact t_X9_isOfFilter C hR S a1 a3 Q h
def wp_X9_counts_76 (S : bT9) (x3 : Int32) (Q : Int32 → (bT9) → Prop) : Prop := ((x3 = 0 → (Q (0 : Int32) S)) ∧ (¬ x3 = 0 → (Q (1 : Int32) S)))
set_option maxRecDepth 20000 in
theorem t_X9_counts_76 {X : bf_X} (C : bf_C X RX9 cX9_counts 4 (some .int)) (hR : bf_Rm X 0 0) (S : bT9) (x3 : Int32) (Q : Int32 → (bT9) → Prop) (h : wp_X9_counts_76 S x3 Q) : bf_A X (bf_Zi X bW9 Q) 4 76 [none, none, none, some (.int x3)] [] (bW9 S) := by
  unfold wp_X9_counts_76 at h
  refine bs_iload_n C (bf_dk dd_X9_counts 54 rfl) rfl ?_
  refine bs_if_eq C (bf_dk dd_X9_counts 55 rfl) (tgt := 84) rfl (fun c => ?_) (fun c => ?_)
  · replace h := h.1 c
    refine bs_iconst C (bf_dk dd_X9_counts 58 rfl) (0 : Int32) (by decide) ?_
    exact bs_iret (u := S) C (bf_dk dd_X9_counts 59 rfl) rfl h
  · replace h := h.2 c
    refine bs_iconst C (bf_dk dd_X9_counts 56 rfl) (1 : Int32) (by decide) ?_
    refine bs_goto C (bf_dk dd_X9_counts 57 rfl) (tgt := 85) rfl ?_
    exact bs_iret (u := S) C (bf_dk dd_X9_counts 59 rfl) rfl h
def wp_X9_counts_48 (S : bT9) (x1 : Int32) (x3 : Int32) (Q : Int32 → (bT9) → Prop) : Prop := ((x3 = 0 → (wp_X9_counts_76 S (x3) Q)) ∧ (¬ x3 = 0 → (vp_in (((17 : Int32) + x1) + (2 : Int32)) 23 ∧ (∀ v1 : Int32, v1 = (((b9g_now S) ((((17 : Int32) + x1) + (2 : Int32))).toNatClampNeg) + (1 : Int32)) → (vp_in (((17 : Int32) + x1) + (2 : Int32)) 23 ∧ (∀ S2 : bT9, S2 = (b9s_now S (upd (b9g_now S) ((((17 : Int32) + x1) + (2 : Int32))).toNatClampNeg v1)) → (wp_X9_counts_76 S2 (x3) Q)))))))
set_option maxRecDepth 20000 in
theorem t_X9_counts_48 {X : bf_X} (C : bf_C X RX9 cX9_counts 4 (some .int)) (hR : bf_Rm X 0 0) (S : bT9) (x1 : Int32) (x3 : Int32) (Q : Int32 → (bT9) → Prop) (h : wp_X9_counts_48 S x1 x3 Q) : bf_A X (bf_Zi X bW9 Q) 4 48 [some (.ref 0), some (.int x1), none, some (.int x3)] [] (bW9 S) := by
  unfold wp_X9_counts_48 at h
  refine bs_iload_n C (bf_dk dd_X9_counts 34 rfl) rfl ?_
  refine bs_if_eq C (bf_dk dd_X9_counts 35 rfl) (tgt := 76) rfl (fun c => ?_) (fun c => ?_)
  · replace h := h.1 c
    exact bs_weak (bf_sn (bf_sn (bf_sn (bf_s1 bf_s0)))) (t_X9_counts_76 C hR S (x3) Q h)
  · replace h := h.2 c
    refine bs_aload_n C (bf_dk dd_X9_counts 36 rfl) rfl ?_
    refine bs_get C (bf_dk dd_X9_counts 37 rfl) cl_9 in_9 1 (Nat.le_of_ble_eq_true rfl) rfl f_9_7 (ge_bW9_0 S) rfl ?_
    refine bs_bipush C (bf_dk dd_X9_counts 38 rfl) (17 : Int32) (by decide) ?_
    refine bs_iload_n C (bf_dk dd_X9_counts 39 rfl) rfl ?_
    refine bs_iadd C (bf_dk dd_X9_counts 40 rfl) ?_
    refine bs_iconst C (bf_dk dd_X9_counts 41 rfl) (2 : Int32) (by decide) ?_
    refine bs_iadd C (bf_dk dd_X9_counts 42 rfl) ?_
    refine bs_aload_n C (bf_dk dd_X9_counts 43 rfl) rfl ?_
    refine bs_get C (bf_dk dd_X9_counts 44 rfl) cl_9 in_9 1 (Nat.le_of_ble_eq_true rfl) rfl f_9_7 (ge_bW9_0 S) rfl ?_
    refine bs_bipush C (bf_dk dd_X9_counts 45 rfl) (17 : Int32) (by decide) ?_
    refine bs_iload_n C (bf_dk dd_X9_counts 46 rfl) rfl ?_
    refine bs_iadd C (bf_dk dd_X9_counts 47 rfl) ?_
    refine bs_iconst C (bf_dk dd_X9_counts 48 rfl) (2 : Int32) (by decide) ?_
    refine bs_iadd C (bf_dk dd_X9_counts 49 rfl) ?_
    obtain ⟨hi, h⟩ := h
    refine bs_iald C (bf_dk dd_X9_counts 50 rfl) (ge_bW9_1 S) hi ?_
    refine bs_iconst C (bf_dk dd_X9_counts 51 rfl) (1 : Int32) (by decide) ?_
    refine bs_iadd C (bf_dk dd_X9_counts 52 rfl) ?_
    refine bs_name (fun v1 ev1 => ?_)
    replace h := h v1 ev1
    obtain ⟨hi, h⟩ := h
    refine bs_iast C (bf_dk dd_X9_counts 53 rfl) (ge_bW9_1 S) hi (ar_bW9_1 S _) ?_
    refine bs_nameS bW9 (fun S2 eS2 => ?_)
    replace h := h S2 eS2
    exact bs_weak (bf_sn (bf_sn (bf_sn (bf_s1 bf_s0)))) (t_X9_counts_76 C hR S2 (x3) Q h)
def wp_X9_counts (S : bT9) (a1 : Int32) (a2 : Int32) (a3 : Int32) (Q : Int32 → (bT9) → Prop) : Prop := (vp_in ((17 : Int32) + a1) 23 ∧ (∀ v3 : Int32, v3 = (((b9g_now S) (((17 : Int32) + a1)).toNatClampNeg) + (1 : Int32)) → (vp_in ((17 : Int32) + a1) 23 ∧ (∀ S4 : bT9, S4 = (b9s_now S (upd (b9g_now S) (((17 : Int32) + a1)).toNatClampNeg v3)) → ((a2 = 0 → (wp_X9_counts_48 S4 (a1) (a3) Q)) ∧ (¬ a2 = 0 → (vp_in (((17 : Int32) + a1) + (1 : Int32)) 23 ∧ (∀ v5 : Int32, v5 = (((b9g_now S4) ((((17 : Int32) + a1) + (1 : Int32))).toNatClampNeg) + (1 : Int32)) → (vp_in (((17 : Int32) + a1) + (1 : Int32)) 23 ∧ (∀ S6 : bT9, S6 = (b9s_now S4 (upd (b9g_now S4) ((((17 : Int32) + a1) + (1 : Int32))).toNatClampNeg v5)) → (wp_X9_counts_48 S6 (a1) (a3) Q)))))))))))
set_option maxRecDepth 20000 in
theorem t_X9_counts {X : bf_X} (C : bf_C X RX9 cX9_counts 4 (some .int)) (hR : bf_Rm X 0 0) (S : bT9) (a1 : Int32) (a2 : Int32) (a3 : Int32) (Q : Int32 → (bT9) → Prop) (h : wp_X9_counts S a1 a2 a3 Q) : bf_A X (bf_Zi X bW9 Q) 4 0 [some (.ref 0), some (.int a1), some (.int a2), some (.int a3)] [] (bW9 S) := by
  unfold wp_X9_counts at h
  refine bs_aload_n C (bf_dk dd_X9_counts 0 rfl) rfl ?_
  refine bs_get C (bf_dk dd_X9_counts 1 rfl) cl_9 in_9 1 (Nat.le_of_ble_eq_true rfl) rfl f_9_7 (ge_bW9_0 S) rfl ?_
  refine bs_bipush C (bf_dk dd_X9_counts 2 rfl) (17 : Int32) (by decide) ?_
  refine bs_iload_n C (bf_dk dd_X9_counts 3 rfl) rfl ?_
  refine bs_iadd C (bf_dk dd_X9_counts 4 rfl) ?_
  refine bs_aload_n C (bf_dk dd_X9_counts 5 rfl) rfl ?_
  refine bs_get C (bf_dk dd_X9_counts 6 rfl) cl_9 in_9 1 (Nat.le_of_ble_eq_true rfl) rfl f_9_7 (ge_bW9_0 S) rfl ?_
  refine bs_bipush C (bf_dk dd_X9_counts 7 rfl) (17 : Int32) (by decide) ?_
  refine bs_iload_n C (bf_dk dd_X9_counts 8 rfl) rfl ?_
  refine bs_iadd C (bf_dk dd_X9_counts 9 rfl) ?_
  obtain ⟨hi, h⟩ := h
  refine bs_iald C (bf_dk dd_X9_counts 10 rfl) (ge_bW9_1 S) hi ?_
  refine bs_iconst C (bf_dk dd_X9_counts 11 rfl) (1 : Int32) (by decide) ?_
  refine bs_iadd C (bf_dk dd_X9_counts 12 rfl) ?_
  refine bs_name (fun v3 ev3 => ?_)
  replace h := h v3 ev3
  obtain ⟨hi, h⟩ := h
  refine bs_iast C (bf_dk dd_X9_counts 13 rfl) (ge_bW9_1 S) hi (ar_bW9_1 S _) ?_
  refine bs_nameS bW9 (fun S4 eS4 => ?_)
  replace h := h S4 eS4
  refine bs_iload_n C (bf_dk dd_X9_counts 14 rfl) rfl ?_
  refine bs_if_eq C (bf_dk dd_X9_counts 15 rfl) (tgt := 48) rfl (fun c => ?_) (fun c => ?_)
  · replace h := h.1 c
    exact bs_weak (bf_s1 (bf_s1 (bf_sn (bf_s1 bf_s0)))) (t_X9_counts_48 C hR S4 (a1) (a3) Q h)
  · replace h := h.2 c
    refine bs_aload_n C (bf_dk dd_X9_counts 16 rfl) rfl ?_
    refine bs_get C (bf_dk dd_X9_counts 17 rfl) cl_9 in_9 1 (Nat.le_of_ble_eq_true rfl) rfl f_9_7 (ge_bW9_0 S4) rfl ?_
    refine bs_bipush C (bf_dk dd_X9_counts 18 rfl) (17 : Int32) (by decide) ?_
    refine bs_iload_n C (bf_dk dd_X9_counts 19 rfl) rfl ?_
    refine bs_iadd C (bf_dk dd_X9_counts 20 rfl) ?_
    refine bs_iconst C (bf_dk dd_X9_counts 21 rfl) (1 : Int32) (by decide) ?_
    refine bs_iadd C (bf_dk dd_X9_counts 22 rfl) ?_
    refine bs_aload_n C (bf_dk dd_X9_counts 23 rfl) rfl ?_
    refine bs_get C (bf_dk dd_X9_counts 24 rfl) cl_9 in_9 1 (Nat.le_of_ble_eq_true rfl) rfl f_9_7 (ge_bW9_0 S4) rfl ?_
    refine bs_bipush C (bf_dk dd_X9_counts 25 rfl) (17 : Int32) (by decide) ?_
    refine bs_iload_n C (bf_dk dd_X9_counts 26 rfl) rfl ?_
    refine bs_iadd C (bf_dk dd_X9_counts 27 rfl) ?_
    refine bs_iconst C (bf_dk dd_X9_counts 28 rfl) (1 : Int32) (by decide) ?_
    refine bs_iadd C (bf_dk dd_X9_counts 29 rfl) ?_
    obtain ⟨hi, h⟩ := h
    refine bs_iald C (bf_dk dd_X9_counts 30 rfl) (ge_bW9_1 S4) hi ?_
    refine bs_iconst C (bf_dk dd_X9_counts 31 rfl) (1 : Int32) (by decide) ?_
    refine bs_iadd C (bf_dk dd_X9_counts 32 rfl) ?_
    refine bs_name (fun v5 ev5 => ?_)
    replace h := h v5 ev5
    obtain ⟨hi, h⟩ := h
    refine bs_iast C (bf_dk dd_X9_counts 33 rfl) (ge_bW9_1 S4) hi (ar_bW9_1 S4 _) ?_
    refine bs_nameS bW9 (fun S6 eS6 => ?_)
    replace h := h S6 eS6
    exact bs_weak (bf_s1 (bf_s1 (bf_sn (bf_s1 bf_s0)))) (t_X9_counts_48 C hR S6 (a1) (a3) Q h)
theorem c_X9_counts (l : Launch) (dC : Nat → ClassId) (dI : Nat → Nat → Nat) (ac : Nat → ClassId) (al : Nat → Nat) (S : bT9) (a1 : Int32) (a2 : Int32) (a3 : Int32) (Q : Int32 → (bT9) → Prop) (h : wp_X9_counts S a1 a2 a3 Q) : bf_M l yX9_counts cX9_counts 4 (some .int) 0 0 dC dI ac al [.ref 0, .int a1, .int a2, .int a3] (bW9 S) (bf_Ki dC dI ac al bW9 Q) := by
  refine bf_start [some (.ref 0), some (.int a1), some (.int a2), some (.int a3)] (by decide) (Nat.le_of_ble_eq_true rfl) (bf_s1 (bf_s1 (bf_s1 (bf_s1 bf_s0)))) ?_
  intro X hl C hR e1 e2 e3 e4
  subst e1; subst e2; subst e3; subst e4
  exact t_X9_counts C hR S a1 a2 a3 Q h
def wp_X9_asks_31 (S : bT9) (t1 : Int32) (t2 : Int32) (t3 : Int32) (Q : Int32 → (bT9) → Prop) : Prop := (wp_X9_counts S (t1) (t2) (t3) (fun r1 u2 => (Q r1 u2)))
set_option maxRecDepth 20000 in
theorem t_X9_asks_31 {X : bf_X} (C : bf_C X RX9 cX9_asks 5 (some .int)) (hR : bf_Rm X 7 163) (S : bT9) (t1 : Int32) (t2 : Int32) (t3 : Int32) (Q : Int32 → (bT9) → Prop) (h : wp_X9_asks_31 S t1 t2 t3 Q) : bf_A X (bf_Zi X bW9 Q) 5 31 [none, none, none, none, none] [.int t3, .int t2, .int t1, .ref 0] (bW9 S) := by
  unfold wp_X9_asks_31 at h
  refine bs_selfV_i C hR (c_X9_counts _ _ _ _ _ S (t1) (t2) (t3) _ h) my_X9_counts m_9_326 rfl cl_9 (ge_bW9_0 _) rfl (Nat.le_of_ble_eq_true rfl) (Nat.le_of_ble_eq_true rfl) (st := []) (Nat.le_of_ble_eq_true rfl) (bf_dk dd_X9_asks 18 rfl) rfl (len := 21) (fun _ => rfl) (fun r1 u2 h => ?_)
  exact bs_iret (u := u2) C (bf_dk dd_X9_asks 19 rfl) rfl h
def wp_X9_asks_30 (S : bT9) (t1 : Int32) (t2 : Int32) (Q : Int32 → (bT9) → Prop) : Prop := (wp_X9_asks_31 S (t1) (t2) ((0 : Int32)) Q)
set_option maxRecDepth 20000 in
theorem t_X9_asks_30 {X : bf_X} (C : bf_C X RX9 cX9_asks 5 (some .int)) (hR : bf_Rm X 7 163) (S : bT9) (t1 : Int32) (t2 : Int32) (Q : Int32 → (bT9) → Prop) (h : wp_X9_asks_30 S t1 t2 Q) : bf_A X (bf_Zi X bW9 Q) 5 30 [none, none, none, none, none] [.int t2, .int t1, .ref 0] (bW9 S) := by
  unfold wp_X9_asks_30 at h
  refine bs_iconst C (bf_dk dd_X9_asks 17 rfl) (0 : Int32) (by decide) ?_
  exact bs_weak (bf_sn (bf_sn (bf_sn (bf_sn (bf_sn bf_s0))))) (t_X9_asks_31 C hR S (t1) (t2) ((0 : Int32)) Q h)
def wp_X9_asks (S : bT9) (a1 : Int64) (a3 : Int32) (Q : Int32 → (bT9) → Prop) : Prop := (wp_X9_mayNow S (a1) (a3) (fun r3 u4 => ((r3 = 0 → (wp_X9_asks_30 u4 ((0 : Int32)) (r3) Q)) ∧ (¬ r3 = 0 → (wp_X9_isOfFilter u4 (a1) (a3) (fun r5 => ((¬ r5 = 0 → (wp_X9_asks_30 u4 ((0 : Int32)) (r3) Q)) ∧ (r5 = 0 → (wp_X9_asks_31 u4 ((0 : Int32)) (r3) ((1 : Int32)) Q)))))))))
set_option maxRecDepth 20000 in
theorem t_X9_asks {X : bf_X} (C : bf_C X RX9 cX9_asks 5 (some .int)) (hR : bf_Rm X 7 163) (S : bT9) (a1 : Int64) (a3 : Int32) (Q : Int32 → (bT9) → Prop) (h : wp_X9_asks S a1 a3 Q) : bf_A X (bf_Zi X bW9 Q) 5 0 [some (.ref 0), some (.long a1), none, some (.int a3), none] [] (bW9 S) := by
  unfold wp_X9_asks at h
  refine bs_aload_n C (bf_dk dd_X9_asks 0 rfl) rfl ?_
  refine bs_lload_n C (bf_dk dd_X9_asks 1 rfl) rfl ?_
  refine bs_iload_n C (bf_dk dd_X9_asks 2 rfl) rfl ?_
  refine bs_selfV_i C hR (c_X9_mayNow _ _ _ _ _ S (a1) (a3) _ h) my_X9_mayNow m_9_320 rfl cl_9 (ge_bW9_0 _) rfl (Nat.le_of_ble_eq_true rfl) (Nat.le_of_ble_eq_true rfl) (st := []) (Nat.le_of_ble_eq_true rfl) (bf_dk dd_X9_asks 3 rfl) rfl (len := 21) (fun _ => rfl) (fun r3 u4 h => ?_)
  refine bs_istore C (bf_dk dd_X9_asks 4 rfl) (Nat.le_of_ble_eq_true rfl) (Nat.le_of_ble_eq_true rfl) (lv2 := [some (.ref 0), some (.long a1), none, some (.int a3), some (.int r3)]) rfl ?_
  refine bs_aload_n C (bf_dk dd_X9_asks 5 rfl) rfl ?_
  refine bs_iconst C (bf_dk dd_X9_asks 6 rfl) (0 : Int32) (by decide) ?_
  refine bs_iload C (bf_dk dd_X9_asks 7 rfl) rfl ?_
  refine bs_iload C (bf_dk dd_X9_asks 8 rfl) rfl ?_
  refine bs_if_eq C (bf_dk dd_X9_asks 9 rfl) (tgt := 30) rfl (fun c => ?_) (fun c => ?_)
  · replace h := h.1 c
    exact bs_weak (bf_sn (bf_sn (bf_sn (bf_sn (bf_sn bf_s0))))) (t_X9_asks_30 C hR u4 ((0 : Int32)) (r3) Q h)
  · replace h := h.2 c
    refine bs_aload_n C (bf_dk dd_X9_asks 10 rfl) rfl ?_
    refine bs_lload_n C (bf_dk dd_X9_asks 11 rfl) rfl ?_
    refine bs_iload_n C (bf_dk dd_X9_asks 12 rfl) rfl ?_
    refine bs_selfPV_i C hR (c_X9_isOfFilter _ _ _ _ _ u4 (a1) (a3) _ h) my_X9_isOfFilter m_9_323 rfl cl_9 (ge_bW9_0 _) rfl (Nat.le_of_ble_eq_true rfl) (Nat.le_of_ble_eq_true rfl) (st := [.int r3, .int (0 : Int32), .ref 0]) (Nat.le_of_ble_eq_true rfl) (bf_dk dd_X9_asks 13 rfl) rfl (fun r5 h => ?_)
    refine bs_if_ne C (bf_dk dd_X9_asks 14 rfl) (tgt := 30) rfl (fun c => ?_) (fun c => ?_)
    · replace h := h.1 c
      exact bs_weak (bf_sn (bf_sn (bf_sn (bf_sn (bf_sn bf_s0))))) (t_X9_asks_30 C hR u4 ((0 : Int32)) (r3) Q h)
    · replace h := h.2 c
      refine bs_iconst C (bf_dk dd_X9_asks 15 rfl) (1 : Int32) (by decide) ?_
      refine bs_goto C (bf_dk dd_X9_asks 16 rfl) (tgt := 31) rfl ?_
      exact bs_weak (bf_sn (bf_sn (bf_sn (bf_sn (bf_sn bf_s0))))) (t_X9_asks_31 C hR u4 ((0 : Int32)) (r3) ((1 : Int32)) Q h)
theorem c_X9_asks (l : Launch) (dC : Nat → ClassId) (dI : Nat → Nat → Nat) (ac : Nat → ClassId) (al : Nat → Nat) (S : bT9) (a1 : Int64) (a3 : Int32) (Q : Int32 → (bT9) → Prop) (h : wp_X9_asks S a1 a3 Q) : bf_M l yX9_asks cX9_asks 5 (some .int) 7 163 dC dI ac al [.ref 0, .long a1, .int a3] (bW9 S) (bf_Ki dC dI ac al bW9 Q) := by
  refine bf_start [some (.ref 0), some (.long a1), none, some (.int a3), none] (by decide) (Nat.le_of_ble_eq_true rfl) (bf_s1 (bf_s1 (bf_sn (bf_s1 (bf_en 1))))) ?_
  intro X hl C hR e1 e2 e3 e4
  subst e1; subst e2; subst e3; subst e4
  exact t_X9_asks C hR S a1 a3 Q h
def wp_X9_may (S : bT9) (a1 : Int32) (a2 : Int32) (a3 : Int32) (Q : Int32 → (bT9) → Prop) : Prop := (∀ S1 : bT9, S1 = (b9s_told S (0 : Int32)) → (wp_X9_isKey S1 (a3) (fun r2 => ((¬ r2 = 0 → (wp_X9_keyOf S1 (a1) (a2) (a3) (fun r4 => (wp_X9_asks S1 (r4) (a3) (fun r6 u7 => (wp_X9_keyOf u7 (a1) (a2) (a3) (fun r8 => (wp_X9_mayNow u7 (r8) (a3) (fun r10 u11 => ((r10 = 0 → (Q (0 : Int32) u11)) ∧ (¬ r10 = 0 → (Q (1 : Int32) u11)))))))))))) ∧ (r2 = 0 → (Q (-1 : Int32) S1))))))
set_option maxRecDepth 20000 in
theorem t_X9_may {X : bf_X} (C : bf_C X RX9 cX9_may 4 (some .int)) (hR : bf_Rm X 8 187) (S : bT9) (a1 : Int32) (a2 : Int32) (a3 : Int32) (Q : Int32 → (bT9) → Prop) (h : wp_X9_may S a1 a2 a3 Q) : bf_A X (bf_Zi X bW9 Q) 4 0 [some (.ref 0), some (.int a1), some (.int a2), some (.int a3)] [] (bW9 S) := by
  unfold wp_X9_may at h
  refine bs_aload_n C (bf_dk dd_X9_may 0 rfl) rfl ?_
  refine bs_iconst C (bf_dk dd_X9_may 1 rfl) (0 : Int32) (by decide) ?_
  refine bs_put C (bf_dk dd_X9_may 2 rfl) tyX9_ok nmX9 cl_9 in_9 0 (Nat.le_of_ble_eq_true rfl) rfl f_9_75 rfl (ge_bW9_0 S) (Nat.le_of_ble_eq_true rfl) rfl rfl (pu_bW9_0_0 S (0 : Int32)) ?_
  refine bs_nameS bW9 (fun S1 eS1 => ?_)
  replace h := h S1 eS1
  refine bs_aload_n C (bf_dk dd_X9_may 3 rfl) rfl ?_
  refine bs_iload_n C (bf_dk dd_X9_may 4 rfl) rfl ?_
  refine bs_selfPV_i C hR (c_X9_isKey _ _ _ _ _ S1 (a3) _ h) my_X9_isKey m_9_117 rfl cl_9 (ge_bW9_0 _) rfl (Nat.le_of_ble_eq_true rfl) (Nat.le_of_ble_eq_true rfl) (st := []) (Nat.le_of_ble_eq_true rfl) (bf_dk dd_X9_may 5 rfl) rfl (fun r2 h => ?_)
  refine bs_if_ne C (bf_dk dd_X9_may 6 rfl) (tgt := 15) rfl (fun c => ?_) (fun c => ?_)
  · replace h := h.1 c
    refine bs_aload_n C (bf_dk dd_X9_may 9 rfl) rfl ?_
    refine bs_aload_n C (bf_dk dd_X9_may 10 rfl) rfl ?_
    refine bs_iload_n C (bf_dk dd_X9_may 11 rfl) rfl ?_
    refine bs_iload_n C (bf_dk dd_X9_may 12 rfl) rfl ?_
    refine bs_iload_n C (bf_dk dd_X9_may 13 rfl) rfl ?_
    refine bs_selfPV_l C hR (c_X9_keyOf _ _ _ _ _ S1 (a1) (a2) (a3) _ h) my_X9_keyOf m_9_121 rfl cl_9 (ge_bW9_0 _) rfl (Nat.le_of_ble_eq_true rfl) (Nat.le_of_ble_eq_true rfl) (st := [.ref 0]) (Nat.le_of_ble_eq_true rfl) (bf_dk dd_X9_may 14 rfl) rfl (fun r4 h => ?_)
    refine bs_iload_n C (bf_dk dd_X9_may 15 rfl) rfl ?_
    refine bs_selfV_i C hR (c_X9_asks _ _ _ _ _ S1 (r4) (a3) _ h) my_X9_asks m_9_330 rfl cl_9 (ge_bW9_0 _) rfl (Nat.le_of_ble_eq_true rfl) (Nat.le_of_ble_eq_true rfl) (st := []) (Nat.le_of_ble_eq_true rfl) (bf_dk dd_X9_may 16 rfl) rfl (len := 21) (fun _ => rfl) (fun r6 u7 h => ?_)
    refine bs_pop C (bf_dk dd_X9_may 17 rfl) rfl ?_
    refine bs_aload_n C (bf_dk dd_X9_may 18 rfl) rfl ?_
    refine bs_aload_n C (bf_dk dd_X9_may 19 rfl) rfl ?_
    refine bs_iload_n C (bf_dk dd_X9_may 20 rfl) rfl ?_
    refine bs_iload_n C (bf_dk dd_X9_may 21 rfl) rfl ?_
    refine bs_iload_n C (bf_dk dd_X9_may 22 rfl) rfl ?_
    refine bs_selfPV_l C hR (c_X9_keyOf _ _ _ _ _ u7 (a1) (a2) (a3) _ h) my_X9_keyOf m_9_121 rfl cl_9 (ge_bW9_0 _) rfl (Nat.le_of_ble_eq_true rfl) (Nat.le_of_ble_eq_true rfl) (st := [.ref 0]) (Nat.le_of_ble_eq_true rfl) (bf_dk dd_X9_may 23 rfl) rfl (fun r8 h => ?_)
    refine bs_iload_n C (bf_dk dd_X9_may 24 rfl) rfl ?_
    refine bs_selfV_i C hR (c_X9_mayNow _ _ _ _ _ u7 (r8) (a3) _ h) my_X9_mayNow m_9_320 rfl cl_9 (ge_bW9_0 _) rfl (Nat.le_of_ble_eq_true rfl) (Nat.le_of_ble_eq_true rfl) (st := []) (Nat.le_of_ble_eq_true rfl) (bf_dk dd_X9_may 25 rfl) rfl (len := 21) (fun _ => rfl) (fun r10 u11 h => ?_)
    refine bs_if_eq C (bf_dk dd_X9_may 26 rfl) (tgt := 47) rfl (fun c => ?_) (fun c => ?_)
    · replace h := h.1 c
      refine bs_iconst C (bf_dk dd_X9_may 29 rfl) (0 : Int32) (by decide) ?_
      exact bs_iret (u := u11) C (bf_dk dd_X9_may 30 rfl) rfl h
    · replace h := h.2 c
      refine bs_iconst C (bf_dk dd_X9_may 27 rfl) (1 : Int32) (by decide) ?_
      refine bs_goto C (bf_dk dd_X9_may 28 rfl) (tgt := 48) rfl ?_
      exact bs_iret (u := u11) C (bf_dk dd_X9_may 30 rfl) rfl h
  · replace h := h.2 c
    refine bs_iconst C (bf_dk dd_X9_may 7 rfl) (-1 : Int32) (by decide) ?_
    exact bs_iret (u := S1) C (bf_dk dd_X9_may 8 rfl) rfl h
theorem c_X9_may (l : Launch) (dC : Nat → ClassId) (dI : Nat → Nat → Nat) (ac : Nat → ClassId) (al : Nat → Nat) (S : bT9) (a1 : Int32) (a2 : Int32) (a3 : Int32) (Q : Int32 → (bT9) → Prop) (h : wp_X9_may S a1 a2 a3 Q) : bf_M l yX9_may cX9_may 4 (some .int) 8 187 dC dI ac al [.ref 0, .int a1, .int a2, .int a3] (bW9 S) (bf_Ki dC dI ac al bW9 Q) := by
  refine bf_start [some (.ref 0), some (.int a1), some (.int a2), some (.int a3)] (by decide) (Nat.le_of_ble_eq_true rfl) (bf_s1 (bf_s1 (bf_s1 (bf_s1 bf_s0)))) ?_
  intro X hl C hR e1 e2 e3 e4
  subst e1; subst e2; subst e3; subst e4
  exact t_X9_may C hR S a1 a2 a3 Q h
def wp_X9_leafOf (S : bT9) (a1 : Int32) (a2 : Int32) (a3 : Int32) (Q : Int32 → (bT9) → Prop) : Prop := (∀ S1 : bT9, S1 = (b9s_told S (0 : Int32)) → (wp_X9_isKey S1 (a3) (fun r2 => ((r2 = 0 → (Q (-1 : Int32) S1)) ∧ (¬ r2 = 0 → (wp_X9_keyOf S1 (a1) (a2) (a3) (fun r4 => (wp_X9_nextBits S1 (fun r6 => (wp_X9_leafFor S1 (r4) (a3) (r6) (fun r8 u9 => (Q r8 u9))))))))))))
set_option maxRecDepth 20000 in
theorem t_X9_leafOf {X : bf_X} (C : bf_C X RX9 cX9_leafOf 4 (some .int)) (hR : bf_Rm X 5 114) (S : bT9) (a1 : Int32) (a2 : Int32) (a3 : Int32) (Q : Int32 → (bT9) → Prop) (h : wp_X9_leafOf S a1 a2 a3 Q) : bf_A X (bf_Zi X bW9 Q) 4 0 [some (.ref 0), some (.int a1), some (.int a2), some (.int a3)] [] (bW9 S) := by
  unfold wp_X9_leafOf at h
  refine bs_aload_n C (bf_dk dd_X9_leafOf 0 rfl) rfl ?_
  refine bs_iconst C (bf_dk dd_X9_leafOf 1 rfl) (0 : Int32) (by decide) ?_
  refine bs_put C (bf_dk dd_X9_leafOf 2 rfl) tyX9_ok nmX9 cl_9 in_9 0 (Nat.le_of_ble_eq_true rfl) rfl f_9_75 rfl (ge_bW9_0 S) (Nat.le_of_ble_eq_true rfl) rfl rfl (pu_bW9_0_0 S (0 : Int32)) ?_
  refine bs_nameS bW9 (fun S1 eS1 => ?_)
  replace h := h S1 eS1
  refine bs_aload_n C (bf_dk dd_X9_leafOf 3 rfl) rfl ?_
  refine bs_iload_n C (bf_dk dd_X9_leafOf 4 rfl) rfl ?_
  refine bs_selfPV_i C hR (c_X9_isKey _ _ _ _ _ S1 (a3) _ h) my_X9_isKey m_9_117 rfl cl_9 (ge_bW9_0 _) rfl (Nat.le_of_ble_eq_true rfl) (Nat.le_of_ble_eq_true rfl) (st := []) (Nat.le_of_ble_eq_true rfl) (bf_dk dd_X9_leafOf 5 rfl) rfl (fun r2 h => ?_)
  refine bs_if_eq C (bf_dk dd_X9_leafOf 6 rfl) (tgt := 32) rfl (fun c => ?_) (fun c => ?_)
  · replace h := h.1 c
    refine bs_iconst C (bf_dk dd_X9_leafOf 18 rfl) (-1 : Int32) (by decide) ?_
    exact bs_iret (u := S1) C (bf_dk dd_X9_leafOf 19 rfl) rfl h
  · replace h := h.2 c
    refine bs_aload_n C (bf_dk dd_X9_leafOf 7 rfl) rfl ?_
    refine bs_aload_n C (bf_dk dd_X9_leafOf 8 rfl) rfl ?_
    refine bs_iload_n C (bf_dk dd_X9_leafOf 9 rfl) rfl ?_
    refine bs_iload_n C (bf_dk dd_X9_leafOf 10 rfl) rfl ?_
    refine bs_iload_n C (bf_dk dd_X9_leafOf 11 rfl) rfl ?_
    refine bs_selfPV_l C hR (c_X9_keyOf _ _ _ _ _ S1 (a1) (a2) (a3) _ h) my_X9_keyOf m_9_121 rfl cl_9 (ge_bW9_0 _) rfl (Nat.le_of_ble_eq_true rfl) (Nat.le_of_ble_eq_true rfl) (st := [.ref 0]) (Nat.le_of_ble_eq_true rfl) (bf_dk dd_X9_leafOf 12 rfl) rfl (fun r4 h => ?_)
    refine bs_iload_n C (bf_dk dd_X9_leafOf 13 rfl) rfl ?_
    refine bs_aload_n C (bf_dk dd_X9_leafOf 14 rfl) rfl ?_
    refine bs_selfPV_i C hR (c_X9_nextBits _ _ _ _ _ S1 _ h) my_X9_nextBits m_9_313 rfl cl_9 (ge_bW9_0 _) rfl (Nat.le_of_ble_eq_true rfl) (Nat.le_of_ble_eq_true rfl) (st := [.int a3, .long r4, .ref 0]) (Nat.le_of_ble_eq_true rfl) (bf_dk dd_X9_leafOf 15 rfl) rfl (fun r6 h => ?_)
    refine bs_selfV_i C hR (c_X9_leafFor _ _ _ _ _ S1 (r4) (a3) (r6) _ h) my_X9_leafFor m_9_304 rfl cl_9 (ge_bW9_0 _) rfl (Nat.le_of_ble_eq_true rfl) (Nat.le_of_ble_eq_true rfl) (st := []) (Nat.le_of_ble_eq_true rfl) (bf_dk dd_X9_leafOf 16 rfl) rfl (len := 21) (fun _ => rfl) (fun r8 u9 h => ?_)
    refine bs_goto C (bf_dk dd_X9_leafOf 17 rfl) (tgt := 33) rfl ?_
    exact bs_iret (u := u9) C (bf_dk dd_X9_leafOf 19 rfl) rfl h
theorem c_X9_leafOf (l : Launch) (dC : Nat → ClassId) (dI : Nat → Nat → Nat) (ac : Nat → ClassId) (al : Nat → Nat) (S : bT9) (a1 : Int32) (a2 : Int32) (a3 : Int32) (Q : Int32 → (bT9) → Prop) (h : wp_X9_leafOf S a1 a2 a3 Q) : bf_M l yX9_leafOf cX9_leafOf 4 (some .int) 5 114 dC dI ac al [.ref 0, .int a1, .int a2, .int a3] (bW9 S) (bf_Ki dC dI ac al bW9 Q) := by
  refine bf_start [some (.ref 0), some (.int a1), some (.int a2), some (.int a3)] (by decide) (Nat.le_of_ble_eq_true rfl) (bf_s1 (bf_s1 (bf_s1 (bf_s1 bf_s0)))) ?_
  intro X hl C hR e1 e2 e3 e4
  subst e1; subst e2; subst e3; subst e4
  exact t_X9_leafOf C hR S a1 a2 a3 Q h
def wp_X9_ranges (S : bT9) (a1 : Int32) (a2 : Int32) (a3 : Int32) (a4 : Int32) (a5 : Int32) (a6 : Int32) (Q : Int32 → (bT9) → Prop) : Prop := (wp_X9_isKey S (a3) (fun r1 => ((r1 = 0 → (bf_bool (0 : Int32) ∧ Q (0 : Int32) S)) ∧ (¬ r1 = 0 → (wp_X9_isKey S (a6) (fun r3 => ((¬ r3 = 0 → (wp_X9_keyOf S (a1) (a2) (a3) (fun r5 => (∀ S7 : bT9, S7 = (b9s_fromKey S r5) → (∀ S8 : bT9, S8 = (b9s_fromLength S7 a3) → (wp_X9_keyOf S8 (a4) (a5) (a6) (fun r9 => (∀ S11 : bT9, S11 = (b9s_toKey S8 r9) → (∀ S12 : bT9, S12 = (b9s_toLength S11 a6) → (wp_X9_isLess S12 ((b9g_toKey S12)) ((b9g_toLength S12)) ((b9g_fromKey S12)) ((b9g_fromLength S12)) (fun r13 => ((¬ r13 = 0 → (bf_bool (0 : Int32) ∧ Q (0 : Int32) S12)) ∧ (r13 = 0 → (bf_bool (1 : Int32) ∧ Q (1 : Int32) S12)))))))))))))) ∧ (r3 = 0 → (bf_bool (0 : Int32) ∧ Q (0 : Int32) S)))))))))
set_option maxRecDepth 20000 in
theorem t_X9_ranges {X : bf_X} (C : bf_C X RX9 cX9_ranges 7 (some .boolean)) (hR : bf_Rm X 2 46) (S : bT9) (a1 : Int32) (a2 : Int32) (a3 : Int32) (a4 : Int32) (a5 : Int32) (a6 : Int32) (Q : Int32 → (bT9) → Prop) (h : wp_X9_ranges S a1 a2 a3 a4 a5 a6 Q) : bf_A X (bf_Zi X bW9 Q) 7 0 [some (.ref 0), some (.int a1), some (.int a2), some (.int a3), some (.int a4), some (.int a5), some (.int a6)] [] (bW9 S) := by
  unfold wp_X9_ranges at h
  refine bs_aload_n C (bf_dk dd_X9_ranges 0 rfl) rfl ?_
  refine bs_iload_n C (bf_dk dd_X9_ranges 1 rfl) rfl ?_
  refine bs_selfPV_i C hR (c_X9_isKey _ _ _ _ _ S (a3) _ h) my_X9_isKey m_9_117 rfl cl_9 (ge_bW9_0 _) rfl (Nat.le_of_ble_eq_true rfl) (Nat.le_of_ble_eq_true rfl) (st := []) (Nat.le_of_ble_eq_true rfl) (bf_dk dd_X9_ranges 2 rfl) rfl (fun r1 h => ?_)
  refine bs_if_eq C (bf_dk dd_X9_ranges 3 rfl) (tgt := 17) rfl (fun c => ?_) (fun c => ?_)
  · replace h := h.1 c
    refine bs_iconst C (bf_dk dd_X9_ranges 8 rfl) (0 : Int32) (by decide) ?_
    obtain ⟨hi, h⟩ := h
    exact bs_zret (u := S) C (bf_dk dd_X9_ranges 9 rfl) hi rfl h
  · replace h := h.2 c
    refine bs_aload_n C (bf_dk dd_X9_ranges 4 rfl) rfl ?_
    refine bs_iload C (bf_dk dd_X9_ranges 5 rfl) rfl ?_
    refine bs_selfPV_i C hR (c_X9_isKey _ _ _ _ _ S (a6) _ h) my_X9_isKey m_9_117 rfl cl_9 (ge_bW9_0 _) rfl (Nat.le_of_ble_eq_true rfl) (Nat.le_of_ble_eq_true rfl) (st := []) (Nat.le_of_ble_eq_true rfl) (bf_dk dd_X9_ranges 6 rfl) rfl (fun r3 h => ?_)
    refine bs_if_ne C (bf_dk dd_X9_ranges 7 rfl) (tgt := 19) rfl (fun c => ?_) (fun c => ?_)
    · replace h := h.1 c
      refine bs_aload_n C (bf_dk dd_X9_ranges 10 rfl) rfl ?_
      refine bs_aload_n C (bf_dk dd_X9_ranges 11 rfl) rfl ?_
      refine bs_iload_n C (bf_dk dd_X9_ranges 12 rfl) rfl ?_
      refine bs_iload_n C (bf_dk dd_X9_ranges 13 rfl) rfl ?_
      refine bs_iload_n C (bf_dk dd_X9_ranges 14 rfl) rfl ?_
      refine bs_selfPV_l C hR (c_X9_keyOf _ _ _ _ _ S (a1) (a2) (a3) _ h) my_X9_keyOf m_9_121 rfl cl_9 (ge_bW9_0 _) rfl (Nat.le_of_ble_eq_true rfl) (Nat.le_of_ble_eq_true rfl) (st := [.ref 0]) (Nat.le_of_ble_eq_true rfl) (bf_dk dd_X9_ranges 15 rfl) rfl (fun r5 h => ?_)
      refine bs_put C (bf_dk dd_X9_ranges 16 rfl) tyX9_ok nmX9 cl_9 in_9 32 (Nat.le_of_ble_eq_true rfl) rfl f_9_333 rfl (ge_bW9_0 S) (Nat.le_of_ble_eq_true rfl) rfl rfl (pu_bW9_0_32 S r5) ?_
      refine bs_nameS bW9 (fun S7 eS7 => ?_)
      replace h := h S7 eS7
      refine bs_aload_n C (bf_dk dd_X9_ranges 17 rfl) rfl ?_
      refine bs_iload_n C (bf_dk dd_X9_ranges 18 rfl) rfl ?_
      refine bs_put C (bf_dk dd_X9_ranges 19 rfl) tyX9_ok nmX9 cl_9 in_9 34 (Nat.le_of_ble_eq_true rfl) rfl f_9_336 rfl (ge_bW9_0 S7) (Nat.le_of_ble_eq_true rfl) rfl rfl (pu_bW9_0_34 S7 a3) ?_
      refine bs_nameS bW9 (fun S8 eS8 => ?_)
      replace h := h S8 eS8
      refine bs_aload_n C (bf_dk dd_X9_ranges 20 rfl) rfl ?_
      refine bs_aload_n C (bf_dk dd_X9_ranges 21 rfl) rfl ?_
      refine bs_iload C (bf_dk dd_X9_ranges 22 rfl) rfl ?_
      refine bs_iload C (bf_dk dd_X9_ranges 23 rfl) rfl ?_
      refine bs_iload C (bf_dk dd_X9_ranges 24 rfl) rfl ?_
      refine bs_selfPV_l C hR (c_X9_keyOf _ _ _ _ _ S8 (a4) (a5) (a6) _ h) my_X9_keyOf m_9_121 rfl cl_9 (ge_bW9_0 _) rfl (Nat.le_of_ble_eq_true rfl) (Nat.le_of_ble_eq_true rfl) (st := [.ref 0]) (Nat.le_of_ble_eq_true rfl) (bf_dk dd_X9_ranges 25 rfl) rfl (fun r9 h => ?_)
      refine bs_put C (bf_dk dd_X9_ranges 26 rfl) tyX9_ok nmX9 cl_9 in_9 33 (Nat.le_of_ble_eq_true rfl) rfl f_9_339 rfl (ge_bW9_0 S8) (Nat.le_of_ble_eq_true rfl) rfl rfl (pu_bW9_0_33 S8 r9) ?_
      refine bs_nameS bW9 (fun S11 eS11 => ?_)
      replace h := h S11 eS11
      refine bs_aload_n C (bf_dk dd_X9_ranges 27 rfl) rfl ?_
      refine bs_iload C (bf_dk dd_X9_ranges 28 rfl) rfl ?_
      refine bs_put C (bf_dk dd_X9_ranges 29 rfl) tyX9_ok nmX9 cl_9 in_9 35 (Nat.le_of_ble_eq_true rfl) rfl f_9_342 rfl (ge_bW9_0 S11) (Nat.le_of_ble_eq_true rfl) rfl rfl (pu_bW9_0_35 S11 a6) ?_
      refine bs_nameS bW9 (fun S12 eS12 => ?_)
      replace h := h S12 eS12
      refine bs_aload_n C (bf_dk dd_X9_ranges 30 rfl) rfl ?_
      refine bs_aload_n C (bf_dk dd_X9_ranges 31 rfl) rfl ?_
      refine bs_get C (bf_dk dd_X9_ranges 32 rfl) cl_9 in_9 33 (Nat.le_of_ble_eq_true rfl) rfl f_9_339 (ge_bW9_0 S12) rfl ?_
      refine bs_aload_n C (bf_dk dd_X9_ranges 33 rfl) rfl ?_
      refine bs_get C (bf_dk dd_X9_ranges 34 rfl) cl_9 in_9 35 (Nat.le_of_ble_eq_true rfl) rfl f_9_342 (ge_bW9_0 S12) rfl ?_
      refine bs_aload_n C (bf_dk dd_X9_ranges 35 rfl) rfl ?_
      refine bs_get C (bf_dk dd_X9_ranges 36 rfl) cl_9 in_9 32 (Nat.le_of_ble_eq_true rfl) rfl f_9_333 (ge_bW9_0 S12) rfl ?_
      refine bs_aload_n C (bf_dk dd_X9_ranges 37 rfl) rfl ?_
      refine bs_get C (bf_dk dd_X9_ranges 38 rfl) cl_9 in_9 34 (Nat.le_of_ble_eq_true rfl) rfl f_9_336 (ge_bW9_0 S12) rfl ?_
      refine bs_selfPV_i C hR (c_X9_isLess _ _ _ _ _ S12 ((b9g_toKey S12)) ((b9g_toLength S12)) ((b9g_fromKey S12)) ((b9g_fromLength S12)) _ h) my_X9_isLess m_9_106 rfl cl_9 (ge_bW9_0 _) rfl (Nat.le_of_ble_eq_true rfl) (Nat.le_of_ble_eq_true rfl) (st := []) (Nat.le_of_ble_eq_true rfl) (bf_dk dd_X9_ranges 39 rfl) rfl (fun r13 h => ?_)
      refine bs_if_ne C (bf_dk dd_X9_ranges 40 rfl) (tgt := 82) rfl (fun c => ?_) (fun c => ?_)
      · replace h := h.1 c
        refine bs_iconst C (bf_dk dd_X9_ranges 43 rfl) (0 : Int32) (by decide) ?_
        obtain ⟨hi, h⟩ := h
        exact bs_zret (u := S12) C (bf_dk dd_X9_ranges 44 rfl) hi rfl h
      · replace h := h.2 c
        refine bs_iconst C (bf_dk dd_X9_ranges 41 rfl) (1 : Int32) (by decide) ?_
        refine bs_goto C (bf_dk dd_X9_ranges 42 rfl) (tgt := 83) rfl ?_
        obtain ⟨hi, h⟩ := h
        exact bs_zret (u := S12) C (bf_dk dd_X9_ranges 44 rfl) hi rfl h
    · replace h := h.2 c
      refine bs_iconst C (bf_dk dd_X9_ranges 8 rfl) (0 : Int32) (by decide) ?_
      obtain ⟨hi, h⟩ := h
      exact bs_zret (u := S) C (bf_dk dd_X9_ranges 9 rfl) hi rfl h
theorem c_X9_ranges (l : Launch) (dC : Nat → ClassId) (dI : Nat → Nat → Nat) (ac : Nat → ClassId) (al : Nat → Nat) (S : bT9) (a1 : Int32) (a2 : Int32) (a3 : Int32) (a4 : Int32) (a5 : Int32) (a6 : Int32) (Q : Int32 → (bT9) → Prop) (h : wp_X9_ranges S a1 a2 a3 a4 a5 a6 Q) : bf_M l yX9_ranges cX9_ranges 7 (some .boolean) 2 46 dC dI ac al [.ref 0, .int a1, .int a2, .int a3, .int a4, .int a5, .int a6] (bW9 S) (bf_Ki dC dI ac al bW9 Q) := by
  refine bf_start [some (.ref 0), some (.int a1), some (.int a2), some (.int a3), some (.int a4), some (.int a5), some (.int a6)] (by decide) (Nat.le_of_ble_eq_true rfl) (bf_s1 (bf_s1 (bf_s1 (bf_s1 (bf_s1 (bf_s1 (bf_s1 bf_s0))))))) ?_
  intro X hl C hR e1 e2 e3 e4
  subst e1; subst e2; subst e3; subst e4
  exact t_X9_ranges C hR S a1 a2 a3 a4 a5 a6 Q h
def wp_X9_isMet (S : bT9) (Q : Int32 → Prop) : Prop := (wp_X9_isLess S ((b9g_toKey S)) ((b9g_toLength S)) ((b9g_lowKey S)) ((b9g_lowLength S)) (fun r1 => ((¬ r1 = 0 → (bf_bool (0 : Int32) ∧ Q (0 : Int32))) ∧ (r1 = 0 → (wp_X9_isLess S ((b9g_highKey S)) ((b9g_highLength S)) ((b9g_fromKey S)) ((b9g_fromLength S)) (fun r3 => ((¬ r3 = 0 → (bf_bool (0 : Int32) ∧ Q (0 : Int32))) ∧ (r3 = 0 → (bf_bool (1 : Int32) ∧ Q (1 : Int32))))))))))
set_option maxRecDepth 20000 in
theorem t_X9_isMet {X : bf_X} (C : bf_C X RX9 cX9_isMet 1 (some .boolean)) (hR : bf_Rm X 1 26) (S : bT9) (Q : Int32 → Prop) (h : wp_X9_isMet S Q) : bf_A X (bf_Zi X bW9 (fun r u => u = S ∧ Q r)) 1 0 [some (.ref 0)] [] (bW9 S) := by
  unfold wp_X9_isMet at h
  refine bs_aload_n C (bf_dk dd_X9_isMet 0 rfl) rfl ?_
  refine bs_aload_n C (bf_dk dd_X9_isMet 1 rfl) rfl ?_
  refine bs_get C (bf_dk dd_X9_isMet 2 rfl) cl_9 in_9 33 (Nat.le_of_ble_eq_true rfl) rfl f_9_339 (ge_bW9_0 S) rfl ?_
  refine bs_aload_n C (bf_dk dd_X9_isMet 3 rfl) rfl ?_
  refine bs_get C (bf_dk dd_X9_isMet 4 rfl) cl_9 in_9 35 (Nat.le_of_ble_eq_true rfl) rfl f_9_342 (ge_bW9_0 S) rfl ?_
  refine bs_aload_n C (bf_dk dd_X9_isMet 5 rfl) rfl ?_
  refine bs_get C (bf_dk dd_X9_isMet 6 rfl) cl_9 in_9 28 (Nat.le_of_ble_eq_true rfl) rfl f_9_271 (ge_bW9_0 S) rfl ?_
  refine bs_aload_n C (bf_dk dd_X9_isMet 7 rfl) rfl ?_
  refine bs_get C (bf_dk dd_X9_isMet 8 rfl) cl_9 in_9 30 (Nat.le_of_ble_eq_true rfl) rfl f_9_274 (ge_bW9_0 S) rfl ?_
  refine bs_selfPV_i C hR (c_X9_isLess _ _ _ _ _ S ((b9g_toKey S)) ((b9g_toLength S)) ((b9g_lowKey S)) ((b9g_lowLength S)) _ h) my_X9_isLess m_9_106 rfl cl_9 (ge_bW9_0 _) rfl (Nat.le_of_ble_eq_true rfl) (Nat.le_of_ble_eq_true rfl) (st := []) (Nat.le_of_ble_eq_true rfl) (bf_dk dd_X9_isMet 9 rfl) rfl (fun r1 h => ?_)
  refine bs_if_ne C (bf_dk dd_X9_isMet 10 rfl) (tgt := 50) rfl (fun c => ?_) (fun c => ?_)
  · replace h := h.1 c
    refine bs_iconst C (bf_dk dd_X9_isMet 24 rfl) (0 : Int32) (by decide) ?_
    obtain ⟨hi, h⟩ := h
    exact bs_zret (u := S) C (bf_dk dd_X9_isMet 25 rfl) hi rfl ⟨rfl, h⟩
  · replace h := h.2 c
    refine bs_aload_n C (bf_dk dd_X9_isMet 11 rfl) rfl ?_
    refine bs_aload_n C (bf_dk dd_X9_isMet 12 rfl) rfl ?_
    refine bs_get C (bf_dk dd_X9_isMet 13 rfl) cl_9 in_9 29 (Nat.le_of_ble_eq_true rfl) rfl f_9_277 (ge_bW9_0 S) rfl ?_
    refine bs_aload_n C (bf_dk dd_X9_isMet 14 rfl) rfl ?_
    refine bs_get C (bf_dk dd_X9_isMet 15 rfl) cl_9 in_9 31 (Nat.le_of_ble_eq_true rfl) rfl f_9_280 (ge_bW9_0 S) rfl ?_
    refine bs_aload_n C (bf_dk dd_X9_isMet 16 rfl) rfl ?_
    refine bs_get C (bf_dk dd_X9_isMet 17 rfl) cl_9 in_9 32 (Nat.le_of_ble_eq_true rfl) rfl f_9_333 (ge_bW9_0 S) rfl ?_
    refine bs_aload_n C (bf_dk dd_X9_isMet 18 rfl) rfl ?_
    refine bs_get C (bf_dk dd_X9_isMet 19 rfl) cl_9 in_9 34 (Nat.le_of_ble_eq_true rfl) rfl f_9_336 (ge_bW9_0 S) rfl ?_
    refine bs_selfPV_i C hR (c_X9_isLess _ _ _ _ _ S ((b9g_highKey S)) ((b9g_highLength S)) ((b9g_fromKey S)) ((b9g_fromLength S)) _ h) my_X9_isLess m_9_106 rfl cl_9 (ge_bW9_0 _) rfl (Nat.le_of_ble_eq_true rfl) (Nat.le_of_ble_eq_true rfl) (st := []) (Nat.le_of_ble_eq_true rfl) (bf_dk dd_X9_isMet 20 rfl) rfl (fun r3 h => ?_)
    refine bs_if_ne C (bf_dk dd_X9_isMet 21 rfl) (tgt := 50) rfl (fun c => ?_) (fun c => ?_)
    · replace h := h.1 c
      refine bs_iconst C (bf_dk dd_X9_isMet 24 rfl) (0 : Int32) (by decide) ?_
      obtain ⟨hi, h⟩ := h
      exact bs_zret (u := S) C (bf_dk dd_X9_isMet 25 rfl) hi rfl ⟨rfl, h⟩
    · replace h := h.2 c
      refine bs_iconst C (bf_dk dd_X9_isMet 22 rfl) (1 : Int32) (by decide) ?_
      refine bs_goto C (bf_dk dd_X9_isMet 23 rfl) (tgt := 51) rfl ?_
      obtain ⟨hi, h⟩ := h
      exact bs_zret (u := S) C (bf_dk dd_X9_isMet 25 rfl) hi rfl ⟨rfl, h⟩
theorem c_X9_isMet (l : Launch) (dC : Nat → ClassId) (dI : Nat → Nat → Nat) (ac : Nat → ClassId) (al : Nat → Nat) (S : bT9) (Q : Int32 → Prop) (h : wp_X9_isMet S Q) : bf_M l yX9_isMet cX9_isMet 1 (some .boolean) 1 26 dC dI ac al [.ref 0] (bW9 S) (bf_Ki dC dI ac al bW9 (fun r u => u = S ∧ Q r)) := by
  refine bf_start [some (.ref 0)] (by decide) (Nat.le_of_ble_eq_true rfl) (bf_s1 bf_s0) ?_
  intro X hl C hR e1 e2 e3 e4
  subst e1; subst e2; subst e3; subst e4
  exact t_X9_isMet C hR S Q h
def wp_X9_isSure (S : bT9) (Q : Int32 → Prop) : Prop := (wp_X9_isLess S ((b9g_lowKey S)) ((b9g_lowLength S)) ((b9g_fromKey S)) ((b9g_fromLength S)) (fun r1 => ((¬ r1 = 0 → (bf_bool (0 : Int32) ∧ Q (0 : Int32))) ∧ (r1 = 0 → (wp_X9_isLess S ((b9g_toKey S)) ((b9g_toLength S)) ((b9g_highKey S)) ((b9g_highLength S)) (fun r3 => ((¬ r3 = 0 → (bf_bool (0 : Int32) ∧ Q (0 : Int32))) ∧ (r3 = 0 → (bf_bool (1 : Int32) ∧ Q (1 : Int32))))))))))
set_option maxRecDepth 20000 in
theorem t_X9_isSure {X : bf_X} (C : bf_C X RX9 cX9_isSure 1 (some .boolean)) (hR : bf_Rm X 1 26) (S : bT9) (Q : Int32 → Prop) (h : wp_X9_isSure S Q) : bf_A X (bf_Zi X bW9 (fun r u => u = S ∧ Q r)) 1 0 [some (.ref 0)] [] (bW9 S) := by
  unfold wp_X9_isSure at h
  refine bs_aload_n C (bf_dk dd_X9_isSure 0 rfl) rfl ?_
  refine bs_aload_n C (bf_dk dd_X9_isSure 1 rfl) rfl ?_
  refine bs_get C (bf_dk dd_X9_isSure 2 rfl) cl_9 in_9 28 (Nat.le_of_ble_eq_true rfl) rfl f_9_271 (ge_bW9_0 S) rfl ?_
  refine bs_aload_n C (bf_dk dd_X9_isSure 3 rfl) rfl ?_
  refine bs_get C (bf_dk dd_X9_isSure 4 rfl) cl_9 in_9 30 (Nat.le_of_ble_eq_true rfl) rfl f_9_274 (ge_bW9_0 S) rfl ?_
  refine bs_aload_n C (bf_dk dd_X9_isSure 5 rfl) rfl ?_
  refine bs_get C (bf_dk dd_X9_isSure 6 rfl) cl_9 in_9 32 (Nat.le_of_ble_eq_true rfl) rfl f_9_333 (ge_bW9_0 S) rfl ?_
  refine bs_aload_n C (bf_dk dd_X9_isSure 7 rfl) rfl ?_
  refine bs_get C (bf_dk dd_X9_isSure 8 rfl) cl_9 in_9 34 (Nat.le_of_ble_eq_true rfl) rfl f_9_336 (ge_bW9_0 S) rfl ?_
  refine bs_selfPV_i C hR (c_X9_isLess _ _ _ _ _ S ((b9g_lowKey S)) ((b9g_lowLength S)) ((b9g_fromKey S)) ((b9g_fromLength S)) _ h) my_X9_isLess m_9_106 rfl cl_9 (ge_bW9_0 _) rfl (Nat.le_of_ble_eq_true rfl) (Nat.le_of_ble_eq_true rfl) (st := []) (Nat.le_of_ble_eq_true rfl) (bf_dk dd_X9_isSure 9 rfl) rfl (fun r1 h => ?_)
  refine bs_if_ne C (bf_dk dd_X9_isSure 10 rfl) (tgt := 50) rfl (fun c => ?_) (fun c => ?_)
  · replace h := h.1 c
    refine bs_iconst C (bf_dk dd_X9_isSure 24 rfl) (0 : Int32) (by decide) ?_
    obtain ⟨hi, h⟩ := h
    exact bs_zret (u := S) C (bf_dk dd_X9_isSure 25 rfl) hi rfl ⟨rfl, h⟩
  · replace h := h.2 c
    refine bs_aload_n C (bf_dk dd_X9_isSure 11 rfl) rfl ?_
    refine bs_aload_n C (bf_dk dd_X9_isSure 12 rfl) rfl ?_
    refine bs_get C (bf_dk dd_X9_isSure 13 rfl) cl_9 in_9 33 (Nat.le_of_ble_eq_true rfl) rfl f_9_339 (ge_bW9_0 S) rfl ?_
    refine bs_aload_n C (bf_dk dd_X9_isSure 14 rfl) rfl ?_
    refine bs_get C (bf_dk dd_X9_isSure 15 rfl) cl_9 in_9 35 (Nat.le_of_ble_eq_true rfl) rfl f_9_342 (ge_bW9_0 S) rfl ?_
    refine bs_aload_n C (bf_dk dd_X9_isSure 16 rfl) rfl ?_
    refine bs_get C (bf_dk dd_X9_isSure 17 rfl) cl_9 in_9 29 (Nat.le_of_ble_eq_true rfl) rfl f_9_277 (ge_bW9_0 S) rfl ?_
    refine bs_aload_n C (bf_dk dd_X9_isSure 18 rfl) rfl ?_
    refine bs_get C (bf_dk dd_X9_isSure 19 rfl) cl_9 in_9 31 (Nat.le_of_ble_eq_true rfl) rfl f_9_280 (ge_bW9_0 S) rfl ?_
    refine bs_selfPV_i C hR (c_X9_isLess _ _ _ _ _ S ((b9g_toKey S)) ((b9g_toLength S)) ((b9g_highKey S)) ((b9g_highLength S)) _ h) my_X9_isLess m_9_106 rfl cl_9 (ge_bW9_0 _) rfl (Nat.le_of_ble_eq_true rfl) (Nat.le_of_ble_eq_true rfl) (st := []) (Nat.le_of_ble_eq_true rfl) (bf_dk dd_X9_isSure 20 rfl) rfl (fun r3 h => ?_)
    refine bs_if_ne C (bf_dk dd_X9_isSure 21 rfl) (tgt := 50) rfl (fun c => ?_) (fun c => ?_)
    · replace h := h.1 c
      refine bs_iconst C (bf_dk dd_X9_isSure 24 rfl) (0 : Int32) (by decide) ?_
      obtain ⟨hi, h⟩ := h
      exact bs_zret (u := S) C (bf_dk dd_X9_isSure 25 rfl) hi rfl ⟨rfl, h⟩
    · replace h := h.2 c
      refine bs_iconst C (bf_dk dd_X9_isSure 22 rfl) (1 : Int32) (by decide) ?_
      refine bs_goto C (bf_dk dd_X9_isSure 23 rfl) (tgt := 51) rfl ?_
      obtain ⟨hi, h⟩ := h
      exact bs_zret (u := S) C (bf_dk dd_X9_isSure 25 rfl) hi rfl ⟨rfl, h⟩
theorem c_X9_isSure (l : Launch) (dC : Nat → ClassId) (dI : Nat → Nat → Nat) (ac : Nat → ClassId) (al : Nat → Nat) (S : bT9) (Q : Int32 → Prop) (h : wp_X9_isSure S Q) : bf_M l yX9_isSure cX9_isSure 1 (some .boolean) 1 26 dC dI ac al [.ref 0] (bW9 S) (bf_Ki dC dI ac al bW9 (fun r u => u = S ∧ Q r)) := by
  refine bf_start [some (.ref 0)] (by decide) (Nat.le_of_ble_eq_true rfl) (bf_s1 bf_s0) ?_
  intro X hl C hR e1 e2 e3 e4
  subst e1; subst e2; subst e3; subst e4
  exact t_X9_isSure C hR S Q h
def wp_X9_rangeMany_46 (S : bT9) (x1 : Int32) (x2 : Int32) (x3 : Int32) (Q : Int32 → (bT9) → Prop) (B4 : Int32 → Int32 → Int32 → (bT9) → Prop) : Prop := (B4 (x1) (x2) ((x3 + (1 : Int32))) S)
set_option maxRecDepth 20000 in
theorem t_X9_rangeMany_46 {X : bf_X} (C : bf_C X RX9 cX9_rangeMany 4 (some .int)) (hR : bf_Rm X 4 89) (S : bT9) (x1 : Int32) (x2 : Int32) (x3 : Int32) (Q : Int32 → (bT9) → Prop) (B4 : Int32 → Int32 → Int32 → (bT9) → Prop) (hB4 : ∀ (x1 : Int32) (x2 : Int32) (x3 : Int32) (S : bT9), B4 x1 x2 x3 S → bf_A X (bf_Zi X bW9 Q) 4 4 [some (.ref 0), some (.int x1), some (.int x2), some (.int x3)] [] (bW9 S)) (h : wp_X9_rangeMany_46 S x1 x2 x3 Q B4) : bf_A X (bf_Zi X bW9 Q) 4 46 [some (.ref 0), some (.int x1), some (.int x2), some (.int x3)] [] (bW9 S) := by
  unfold wp_X9_rangeMany_46 at h
  refine bs_iinc C (bf_dk dd_X9_rangeMany 26 rfl) (x3 + (1 : Int32)) rfl rfl (Nat.le_of_ble_eq_true rfl) (Nat.le_of_ble_eq_true rfl) (lv2 := [some (.ref 0), some (.int x1), some (.int x2), some (.int (x3 + (1 : Int32)))]) rfl ?_
  refine bs_goto C (bf_dk dd_X9_rangeMany 27 rfl) (tgt := 4) rfl ?_
  exact bs_weak (bf_s1 (bf_s1 (bf_s1 (bf_s1 bf_s0)))) (hB4 (x1) (x2) ((x3 + (1 : Int32))) S h)
def wp_X9_rangeMany_42 (S : bT9) (x1 : Int32) (x2 : Int32) (x3 : Int32) (Q : Int32 → (bT9) → Prop) (B4 : Int32 → Int32 → Int32 → (bT9) → Prop) : Prop := (wp_X9_rangeMany_46 S (x1) ((x2 + (1 : Int32))) (x3) Q B4)
set_option maxRecDepth 20000 in
theorem t_X9_rangeMany_42 {X : bf_X} (C : bf_C X RX9 cX9_rangeMany 4 (some .int)) (hR : bf_Rm X 4 89) (S : bT9) (x1 : Int32) (x2 : Int32) (x3 : Int32) (Q : Int32 → (bT9) → Prop) (B4 : Int32 → Int32 → Int32 → (bT9) → Prop) (hB4 : ∀ (x1 : Int32) (x2 : Int32) (x3 : Int32) (S : bT9), B4 x1 x2 x3 S → bf_A X (bf_Zi X bW9 Q) 4 4 [some (.ref 0), some (.int x1), some (.int x2), some (.int x3)] [] (bW9 S)) (h : wp_X9_rangeMany_42 S x1 x2 x3 Q B4) : bf_A X (bf_Zi X bW9 Q) 4 42 [some (.ref 0), some (.int x1), some (.int x2), some (.int x3)] [] (bW9 S) := by
  unfold wp_X9_rangeMany_42 at h
  refine bs_iload_n C (bf_dk dd_X9_rangeMany 22 rfl) rfl ?_
  refine bs_iconst C (bf_dk dd_X9_rangeMany 23 rfl) (1 : Int32) (by decide) ?_
  refine bs_iadd C (bf_dk dd_X9_rangeMany 24 rfl) ?_
  refine bs_istore_n C (bf_dk dd_X9_rangeMany 25 rfl) rfl (Nat.le_of_ble_eq_true rfl) (Nat.le_of_ble_eq_true rfl) (lv2 := [some (.ref 0), some (.int x1), some (.int (x2 + (1 : Int32))), some (.int x3)]) rfl ?_
  exact bs_weak (bf_s1 (bf_s1 (bf_s1 (bf_s1 bf_s0)))) (t_X9_rangeMany_46 C hR S (x1) ((x2 + (1 : Int32))) (x3) Q B4 hB4 h)
def wp_X9_rangeMany_4b (S : bT9) (x1 : Int32) (x2 : Int32) (x3 : Int32) (Q : Int32 → (bT9) → Prop) (B4 : Int32 → Int32 → Int32 → (bT9) → Prop) : Prop := (wp_X9_leaves S (fun r1 u2 => ((r1 ≤ x3 → (Q x2 u2)) ∧ (¬ r1 ≤ x3 → (wp_X9_nextBits u2 (fun r3 => (wp_X9_bounds u2 (x3) (r3) (fun u6 => ((x1 = 0 → (wp_X9_isMet u6 (fun r7 => ((r7 = 0 → (wp_X9_rangeMany_46 u6 (x1) (x2) (x3) Q B4)) ∧ (¬ r7 = 0 → (wp_X9_rangeMany_42 u6 (x1) (x2) (x3) Q B4)))))) ∧ (¬ x1 = 0 → (wp_X9_isSure u6 (fun r9 => ((r9 = 0 → (wp_X9_rangeMany_46 u6 (x1) (x2) (x3) Q B4)) ∧ (¬ r9 = 0 → (wp_X9_rangeMany_42 u6 (x1) (x2) (x3) Q B4)))))))))))))))
set_option maxRecDepth 20000 in
theorem t_X9_rangeMany_4b {X : bf_X} (C : bf_C X RX9 cX9_rangeMany 4 (some .int)) (hR : bf_Rm X 4 89) (S : bT9) (x1 : Int32) (x2 : Int32) (x3 : Int32) (Q : Int32 → (bT9) → Prop) (B4 : Int32 → Int32 → Int32 → (bT9) → Prop) (hB4 : ∀ (x1 : Int32) (x2 : Int32) (x3 : Int32) (S : bT9), B4 x1 x2 x3 S → bf_A X (bf_Zi X bW9 Q) 4 4 [some (.ref 0), some (.int x1), some (.int x2), some (.int x3)] [] (bW9 S)) (h : wp_X9_rangeMany_4b S x1 x2 x3 Q B4) : bf_A X (bf_Zi X bW9 Q) 4 4 [some (.ref 0), some (.int x1), some (.int x2), some (.int x3)] [] (bW9 S) := by
  unfold wp_X9_rangeMany_4b at h
  refine bs_iload_n C (bf_dk dd_X9_rangeMany 4 rfl) rfl ?_
  refine bs_aload_n C (bf_dk dd_X9_rangeMany 5 rfl) rfl ?_
  refine bs_selfV_i C hR (c_X9_leaves _ _ _ _ _ S _ h) my_X9_leaves m_9_268 rfl cl_9 (ge_bW9_0 _) rfl (Nat.le_of_ble_eq_true rfl) (Nat.le_of_ble_eq_true rfl) (st := [.int x3]) (Nat.le_of_ble_eq_true rfl) (bf_dk dd_X9_rangeMany 6 rfl) rfl (len := 21) (fun _ => rfl) (fun r1 u2 h => ?_)
  refine bs_icmp_ge C (bf_dk dd_X9_rangeMany 7 rfl) (tgt := 52) rfl (fun c => ?_) (fun c => ?_)
  · replace h := h.1 c
    refine bs_iload_n C (bf_dk dd_X9_rangeMany 28 rfl) rfl ?_
    exact bs_iret (u := u2) C (bf_dk dd_X9_rangeMany 29 rfl) rfl h
  · replace h := h.2 c
    refine bs_aload_n C (bf_dk dd_X9_rangeMany 8 rfl) rfl ?_
    refine bs_iload_n C (bf_dk dd_X9_rangeMany 9 rfl) rfl ?_
    refine bs_aload_n C (bf_dk dd_X9_rangeMany 10 rfl) rfl ?_
    refine bs_selfPV_i C hR (c_X9_nextBits _ _ _ _ _ u2 _ h) my_X9_nextBits m_9_313 rfl cl_9 (ge_bW9_0 _) rfl (Nat.le_of_ble_eq_true rfl) (Nat.le_of_ble_eq_true rfl) (st := [.int x3, .ref 0]) (Nat.le_of_ble_eq_true rfl) (bf_dk dd_X9_rangeMany 11 rfl) rfl (fun r3 h => ?_)
    refine bs_selfV_v C hR (c_X9_bounds _ _ _ _ _ u2 (x3) (r3) _ h) my_X9_bounds m_9_292 rfl cl_9 (ge_bW9_0 _) rfl (Nat.le_of_ble_eq_true rfl) (Nat.le_of_ble_eq_true rfl) (st := []) (Nat.le_of_ble_eq_true rfl) (bf_dk dd_X9_rangeMany 12 rfl) rfl (len := 21) (fun _ => rfl) (fun u6 h => ?_)
    refine bs_iload_n C (bf_dk dd_X9_rangeMany 13 rfl) rfl ?_
    refine bs_if_eq C (bf_dk dd_X9_rangeMany 14 rfl) (tgt := 35) rfl (fun c => ?_) (fun c => ?_)
    · replace h := h.1 c
      refine bs_aload_n C (bf_dk dd_X9_rangeMany 19 rfl) rfl ?_
      refine bs_selfPV_i C hR (c_X9_isMet _ _ _ _ _ u6 _ h) my_X9_isMet m_9_349 rfl cl_9 (ge_bW9_0 _) rfl (Nat.le_of_ble_eq_true rfl) (Nat.le_of_ble_eq_true rfl) (st := []) (Nat.le_of_ble_eq_true rfl) (bf_dk dd_X9_rangeMany 20 rfl) rfl (fun r7 h => ?_)
      refine bs_if_eq C (bf_dk dd_X9_rangeMany 21 rfl) (tgt := 46) rfl (fun c => ?_) (fun c => ?_)
      · replace h := h.1 c
        exact bs_weak (bf_s1 (bf_s1 (bf_s1 (bf_s1 bf_s0)))) (t_X9_rangeMany_46 C hR u6 (x1) (x2) (x3) Q B4 hB4 h)
      · replace h := h.2 c
        exact bs_weak (bf_s1 (bf_s1 (bf_s1 (bf_s1 bf_s0)))) (t_X9_rangeMany_42 C hR u6 (x1) (x2) (x3) Q B4 hB4 h)
    · replace h := h.2 c
      refine bs_aload_n C (bf_dk dd_X9_rangeMany 15 rfl) rfl ?_
      refine bs_selfPV_i C hR (c_X9_isSure _ _ _ _ _ u6 _ h) my_X9_isSure m_9_345 rfl cl_9 (ge_bW9_0 _) rfl (Nat.le_of_ble_eq_true rfl) (Nat.le_of_ble_eq_true rfl) (st := []) (Nat.le_of_ble_eq_true rfl) (bf_dk dd_X9_rangeMany 16 rfl) rfl (fun r9 h => ?_)
      refine bs_if_eq C (bf_dk dd_X9_rangeMany 17 rfl) (tgt := 46) rfl (fun c => ?_) (fun c => ?_)
      · replace h := h.1 c
        exact bs_weak (bf_s1 (bf_s1 (bf_s1 (bf_s1 bf_s0)))) (t_X9_rangeMany_46 C hR u6 (x1) (x2) (x3) Q B4 hB4 h)
      · replace h := h.2 c
        refine bs_goto C (bf_dk dd_X9_rangeMany 18 rfl) (tgt := 42) rfl ?_
        exact bs_weak (bf_s1 (bf_s1 (bf_s1 (bf_s1 bf_s0)))) (t_X9_rangeMany_42 C hR u6 (x1) (x2) (x3) Q B4 hB4 h)
def wp_X9_rangeMany_4 (S : bT9) (x1 : Int32) (x2 : Int32) (x3 : Int32) (Q : Int32 → (bT9) → Prop) : Prop := ∃ I : Nat → Int32 → Int32 → Int32 → (bT9) → Prop, (∃ n : Nat, I n x1 x2 x3 S) ∧ ∀ (n : Nat) (x1 : Int32) (x2 : Int32) (x3 : Int32) (S : bT9), I n x1 x2 x3 S → wp_X9_rangeMany_4b S x1 x2 x3 Q (fun x1 x2 x3 S => ∃ n2 : Nat, n2 < n ∧ I n2 x1 x2 x3 S)
theorem t_X9_rangeMany_4 {X : bf_X} (C : bf_C X RX9 cX9_rangeMany 4 (some .int)) (hR : bf_Rm X 4 89) (S : bT9) (x1 : Int32) (x2 : Int32) (x3 : Int32) (Q : Int32 → (bT9) → Prop) (h : wp_X9_rangeMany_4 S x1 x2 x3 Q) : bf_A X (bf_Zi X bW9 Q) 4 4 [some (.ref 0), some (.int x1), some (.int x2), some (.int x3)] [] (bW9 S) := by
  obtain ⟨I, ⟨n0, h0⟩, hI⟩ := h
  have key : ∀ (n : Nat) (x1 : Int32) (x2 : Int32) (x3 : Int32) (S : bT9), I n x1 x2 x3 S → bf_A X (bf_Zi X bW9 Q) 4 4 [some (.ref 0), some (.int x1), some (.int x2), some (.int x3)] [] (bW9 S) := by
    intro n
    induction n using Nat.strongRecOn with
    | _ n ih =>
      intro x1 x2 x3 S hi
      exact t_X9_rangeMany_4b C hR S x1 x2 x3 Q _ (fun x1 x2 x3 S hb => by obtain ⟨n2, hn, hi2⟩ := hb; exact ih n2 hn x1 x2 x3 S hi2) (hI n x1 x2 x3 S hi)
  exact key n0 x1 x2 x3 S h0
def wp_X9_rangeMany (S : bT9) (a1 : Int32) (Q : Int32 → (bT9) → Prop) : Prop := (wp_X9_rangeMany_4 S (a1) ((0 : Int32)) ((0 : Int32)) Q)
set_option maxRecDepth 20000 in
theorem t_X9_rangeMany {X : bf_X} (C : bf_C X RX9 cX9_rangeMany 4 (some .int)) (hR : bf_Rm X 4 89) (S : bT9) (a1 : Int32) (Q : Int32 → (bT9) → Prop) (h : wp_X9_rangeMany S a1 Q) : bf_A X (bf_Zi X bW9 Q) 4 0 [some (.ref 0), some (.int a1), none, none] [] (bW9 S) := by
  unfold wp_X9_rangeMany at h
  refine bs_iconst C (bf_dk dd_X9_rangeMany 0 rfl) (0 : Int32) (by decide) ?_
  refine bs_istore_n C (bf_dk dd_X9_rangeMany 1 rfl) rfl (Nat.le_of_ble_eq_true rfl) (Nat.le_of_ble_eq_true rfl) (lv2 := [some (.ref 0), some (.int a1), some (.int (0 : Int32)), none]) rfl ?_
  refine bs_iconst C (bf_dk dd_X9_rangeMany 2 rfl) (0 : Int32) (by decide) ?_
  refine bs_istore_n C (bf_dk dd_X9_rangeMany 3 rfl) rfl (Nat.le_of_ble_eq_true rfl) (Nat.le_of_ble_eq_true rfl) (lv2 := [some (.ref 0), some (.int a1), some (.int (0 : Int32)), some (.int (0 : Int32))]) rfl ?_
  exact bs_weak (bf_s1 (bf_s1 (bf_s1 (bf_s1 bf_s0)))) (t_X9_rangeMany_4 C hR S (a1) ((0 : Int32)) ((0 : Int32)) Q h)
theorem c_X9_rangeMany (l : Launch) (dC : Nat → ClassId) (dI : Nat → Nat → Nat) (ac : Nat → ClassId) (al : Nat → Nat) (S : bT9) (a1 : Int32) (Q : Int32 → (bT9) → Prop) (h : wp_X9_rangeMany S a1 Q) : bf_M l yX9_rangeMany cX9_rangeMany 4 (some .int) 4 89 dC dI ac al [.ref 0, .int a1] (bW9 S) (bf_Ki dC dI ac al bW9 Q) := by
  refine bf_start [some (.ref 0), some (.int a1), none, none] (by decide) (Nat.le_of_ble_eq_true rfl) (bf_s1 (bf_s1 (bf_en 2))) ?_
  intro X hl C hR e1 e2 e3 e4
  subst e1; subst e2; subst e3; subst e4
  exact t_X9_rangeMany C hR S a1 Q h
def wp_X9_asksRange_94 (S : bT9) (t1 : Int32) (t2 : Int32) (t3 : Int32) (Q : Int32 → (bT9) → Prop) : Prop := (wp_X9_counts S (t1) (t2) (t3) (fun r1 u2 => (Q r1 u2)))
set_option maxRecDepth 20000 in
theorem t_X9_asksRange_94 {X : bf_X} (C : bf_C X RX9 cX9_asksRange 4 (some .int)) (hR : bf_Rm X 5 112) (S : bT9) (t1 : Int32) (t2 : Int32) (t3 : Int32) (Q : Int32 → (bT9) → Prop) (h : wp_X9_asksRange_94 S t1 t2 t3 Q) : bf_A X (bf_Zi X bW9 Q) 4 94 [none, none, none, none] [.int t3, .int t2, .int t1, .ref 0] (bW9 S) := by
  unfold wp_X9_asksRange_94 at h
  refine bs_selfV_i C hR (c_X9_counts _ _ _ _ _ S (t1) (t2) (t3) _ h) my_X9_counts m_9_326 rfl cl_9 (ge_bW9_0 _) rfl (Nat.le_of_ble_eq_true rfl) (Nat.le_of_ble_eq_true rfl) (st := []) (Nat.le_of_ble_eq_true rfl) (bf_dk dd_X9_asksRange 53 rfl) rfl (len := 21) (fun _ => rfl) (fun r1 u2 h => ?_)
  exact bs_iret (u := u2) C (bf_dk dd_X9_asksRange 54 rfl) rfl h
def wp_X9_asksRange_93 (S : bT9) (t1 : Int32) (t2 : Int32) (Q : Int32 → (bT9) → Prop) : Prop := (wp_X9_asksRange_94 S (t1) (t2) ((0 : Int32)) Q)
set_option maxRecDepth 20000 in
theorem t_X9_asksRange_93 {X : bf_X} (C : bf_C X RX9 cX9_asksRange 4 (some .int)) (hR : bf_Rm X 5 112) (S : bT9) (t1 : Int32) (t2 : Int32) (Q : Int32 → (bT9) → Prop) (h : wp_X9_asksRange_93 S t1 t2 Q) : bf_A X (bf_Zi X bW9 Q) 4 93 [none, none, none, none] [.int t2, .int t1, .ref 0] (bW9 S) := by
  unfold wp_X9_asksRange_93 at h
  refine bs_iconst C (bf_dk dd_X9_asksRange 52 rfl) (0 : Int32) (by decide) ?_
  exact bs_weak (bf_sn (bf_sn (bf_sn (bf_sn bf_s0)))) (t_X9_asksRange_94 C hR S (t1) (t2) ((0 : Int32)) Q h)
def wp_X9_asksRange_77 (S : bT9) (x1 : Int32) (t0 : Int32) (Q : Int32 → (bT9) → Prop) : Prop := ((x1 = 0 → (wp_X9_asksRange_93 S ((3 : Int32)) (x1) Q)) ∧ (¬ x1 = 0 → ((¬ t0 = 0 → (wp_X9_asksRange_93 S ((3 : Int32)) (x1) Q)) ∧ (t0 = 0 → (wp_X9_asksRange_94 S ((3 : Int32)) (x1) ((1 : Int32)) Q)))))
set_option maxRecDepth 20000 in
theorem t_X9_asksRange_77 {X : bf_X} (C : bf_C X RX9 cX9_asksRange 4 (some .int)) (hR : bf_Rm X 5 112) (S : bT9) (x1 : Int32) (t0 : Int32) (Q : Int32 → (bT9) → Prop) (h : wp_X9_asksRange_77 S x1 t0 Q) : bf_A X (bf_Zi X bW9 Q) 4 77 [some (.ref 0), some (.int x1), none, none] [.int t0] (bW9 S) := by
  unfold wp_X9_asksRange_77 at h
  refine bs_istore_n C (bf_dk dd_X9_asksRange 42 rfl) rfl (Nat.le_of_ble_eq_true rfl) (Nat.le_of_ble_eq_true rfl) (lv2 := [some (.ref 0), some (.int x1), none, some (.int t0)]) rfl ?_
  refine bs_aload_n C (bf_dk dd_X9_asksRange 43 rfl) rfl ?_
  refine bs_iconst C (bf_dk dd_X9_asksRange 44 rfl) (3 : Int32) (by decide) ?_
  refine bs_iload_n C (bf_dk dd_X9_asksRange 45 rfl) rfl ?_
  refine bs_iload_n C (bf_dk dd_X9_asksRange 46 rfl) rfl ?_
  refine bs_if_eq C (bf_dk dd_X9_asksRange 47 rfl) (tgt := 93) rfl (fun c => ?_) (fun c => ?_)
  · replace h := h.1 c
    exact bs_weak (bf_sn (bf_sn (bf_sn (bf_sn bf_s0)))) (t_X9_asksRange_93 C hR S ((3 : Int32)) (x1) Q h)
  · replace h := h.2 c
    refine bs_iload_n C (bf_dk dd_X9_asksRange 48 rfl) rfl ?_
    refine bs_if_ne C (bf_dk dd_X9_asksRange 49 rfl) (tgt := 93) rfl (fun c => ?_) (fun c => ?_)
    · replace h := h.1 c
      exact bs_weak (bf_sn (bf_sn (bf_sn (bf_sn bf_s0)))) (t_X9_asksRange_93 C hR S ((3 : Int32)) (x1) Q h)
    · replace h := h.2 c
      refine bs_iconst C (bf_dk dd_X9_asksRange 50 rfl) (1 : Int32) (by decide) ?_
      refine bs_goto C (bf_dk dd_X9_asksRange 51 rfl) (tgt := 94) rfl ?_
      exact bs_weak (bf_sn (bf_sn (bf_sn (bf_sn bf_s0)))) (t_X9_asksRange_94 C hR S ((3 : Int32)) (x1) ((1 : Int32)) Q h)
def wp_X9_asksRange_76 (S : bT9) (x1 : Int32) (Q : Int32 → (bT9) → Prop) : Prop := (wp_X9_asksRange_77 S (x1) ((0 : Int32)) Q)
set_option maxRecDepth 20000 in
theorem t_X9_asksRange_76 {X : bf_X} (C : bf_C X RX9 cX9_asksRange 4 (some .int)) (hR : bf_Rm X 5 112) (S : bT9) (x1 : Int32) (Q : Int32 → (bT9) → Prop) (h : wp_X9_asksRange_76 S x1 Q) : bf_A X (bf_Zi X bW9 Q) 4 76 [some (.ref 0), some (.int x1), none, none] [] (bW9 S) := by
  unfold wp_X9_asksRange_76 at h
  refine bs_iconst C (bf_dk dd_X9_asksRange 41 rfl) (0 : Int32) (by decide) ?_
  exact bs_weak (bf_s1 (bf_s1 (bf_sn (bf_sn bf_s0)))) (t_X9_asksRange_77 C hR S (x1) ((0 : Int32)) Q h)
def wp_X9_asksRange_13 (S : bT9) (t0 : Int32) (Q : Int32 → (bT9) → Prop) : Prop := (vp_in (9 : Int32) 23 ∧ (wp_X9_lessMany S ((64 : Int32)) (((b9g_now S) ((9 : Int32)).toNatClampNeg)) ((b9g_fromKey S)) ((b9g_fromLength S)) (fun r3 => (vp_in (9 : Int32) 23 ∧ ((((b9g_now S) ((9 : Int32)).toNatClampNeg) ≤ r3 → (wp_X9_asksRange_76 S (t0) Q)) ∧ (¬ ((b9g_now S) ((9 : Int32)).toNatClampNeg) ≤ r3 → (wp_X9_key S (r3) (fun r5 => (wp_X9_lengthOf S (r3) (fun r7 => (wp_X9_isLess S ((b9g_toKey S)) ((b9g_toLength S)) (r5) (r7) (fun r9 => ((¬ r9 = 0 → (wp_X9_asksRange_76 S (t0) Q)) ∧ (r9 = 0 → (wp_X9_asksRange_77 S (t0) ((1 : Int32)) Q)))))))))))))))
set_option maxRecDepth 20000 in
theorem t_X9_asksRange_13 {X : bf_X} (C : bf_C X RX9 cX9_asksRange 4 (some .int)) (hR : bf_Rm X 5 112) (S : bT9) (t0 : Int32) (Q : Int32 → (bT9) → Prop) (h : wp_X9_asksRange_13 S t0 Q) : bf_A X (bf_Zi X bW9 Q) 4 13 [some (.ref 0), none, none, none] [.int t0] (bW9 S) := by
  unfold wp_X9_asksRange_13 at h
  refine bs_istore_n C (bf_dk dd_X9_asksRange 7 rfl) rfl (Nat.le_of_ble_eq_true rfl) (Nat.le_of_ble_eq_true rfl) (lv2 := [some (.ref 0), some (.int t0), none, none]) rfl ?_
  refine bs_aload_n C (bf_dk dd_X9_asksRange 8 rfl) rfl ?_
  refine bs_bipush C (bf_dk dd_X9_asksRange 9 rfl) (64 : Int32) (by decide) ?_
  refine bs_aload_n C (bf_dk dd_X9_asksRange 10 rfl) rfl ?_
  refine bs_get C (bf_dk dd_X9_asksRange 11 rfl) cl_9 in_9 1 (Nat.le_of_ble_eq_true rfl) rfl f_9_7 (ge_bW9_0 S) rfl ?_
  refine bs_bipush C (bf_dk dd_X9_asksRange 12 rfl) (9 : Int32) (by decide) ?_
  obtain ⟨hi, h⟩ := h
  refine bs_iald C (bf_dk dd_X9_asksRange 13 rfl) (ge_bW9_1 S) hi ?_
  refine bs_aload_n C (bf_dk dd_X9_asksRange 14 rfl) rfl ?_
  refine bs_get C (bf_dk dd_X9_asksRange 15 rfl) cl_9 in_9 32 (Nat.le_of_ble_eq_true rfl) rfl f_9_333 (ge_bW9_0 S) rfl ?_
  refine bs_aload_n C (bf_dk dd_X9_asksRange 16 rfl) rfl ?_
  refine bs_get C (bf_dk dd_X9_asksRange 17 rfl) cl_9 in_9 34 (Nat.le_of_ble_eq_true rfl) rfl f_9_336 (ge_bW9_0 S) rfl ?_
  refine bs_selfPV_i C hR (c_X9_lessMany _ _ _ _ _ S ((64 : Int32)) (((b9g_now S) ((9 : Int32)).toNatClampNeg)) ((b9g_fromKey S)) ((b9g_fromLength S)) _ h) my_X9_lessMany m_9_110 rfl cl_9 (ge_bW9_0 _) rfl (Nat.le_of_ble_eq_true rfl) (Nat.le_of_ble_eq_true rfl) (st := []) (Nat.le_of_ble_eq_true rfl) (bf_dk dd_X9_asksRange 18 rfl) rfl (fun r3 h => ?_)
  refine bs_istore_n C (bf_dk dd_X9_asksRange 19 rfl) rfl (Nat.le_of_ble_eq_true rfl) (Nat.le_of_ble_eq_true rfl) (lv2 := [some (.ref 0), some (.int t0), some (.int r3), none]) rfl ?_
  refine bs_iload_n C (bf_dk dd_X9_asksRange 20 rfl) rfl ?_
  refine bs_aload_n C (bf_dk dd_X9_asksRange 21 rfl) rfl ?_
  refine bs_get C (bf_dk dd_X9_asksRange 22 rfl) cl_9 in_9 1 (Nat.le_of_ble_eq_true rfl) rfl f_9_7 (ge_bW9_0 S) rfl ?_
  refine bs_bipush C (bf_dk dd_X9_asksRange 23 rfl) (9 : Int32) (by decide) ?_
  obtain ⟨hi, h⟩ := h
  refine bs_iald C (bf_dk dd_X9_asksRange 24 rfl) (ge_bW9_1 S) hi ?_
  refine bs_icmp_ge C (bf_dk dd_X9_asksRange 25 rfl) (tgt := 76) rfl (fun c => ?_) (fun c => ?_)
  · replace h := h.1 c
    exact bs_weak (bf_s1 (bf_s1 (bf_sn (bf_sn bf_s0)))) (t_X9_asksRange_76 C hR S (t0) Q h)
  · replace h := h.2 c
    refine bs_aload_n C (bf_dk dd_X9_asksRange 26 rfl) rfl ?_
    refine bs_aload_n C (bf_dk dd_X9_asksRange 27 rfl) rfl ?_
    refine bs_get C (bf_dk dd_X9_asksRange 28 rfl) cl_9 in_9 33 (Nat.le_of_ble_eq_true rfl) rfl f_9_339 (ge_bW9_0 S) rfl ?_
    refine bs_aload_n C (bf_dk dd_X9_asksRange 29 rfl) rfl ?_
    refine bs_get C (bf_dk dd_X9_asksRange 30 rfl) cl_9 in_9 35 (Nat.le_of_ble_eq_true rfl) rfl f_9_342 (ge_bW9_0 S) rfl ?_
    refine bs_aload_n C (bf_dk dd_X9_asksRange 31 rfl) rfl ?_
    refine bs_iload_n C (bf_dk dd_X9_asksRange 32 rfl) rfl ?_
    refine bs_selfPV_l C hR (c_X9_key _ _ _ _ _ S (r3) _ h) my_X9_key m_9_178 rfl cl_9 (ge_bW9_0 _) rfl (Nat.le_of_ble_eq_true rfl) (Nat.le_of_ble_eq_true rfl) (st := [.int (b9g_toLength S), .long (b9g_toKey S), .ref 0]) (Nat.le_of_ble_eq_true rfl) (bf_dk dd_X9_asksRange 33 rfl) rfl (fun r5 h => ?_)
    refine bs_aload_n C (bf_dk dd_X9_asksRange 34 rfl) rfl ?_
    refine bs_iload_n C (bf_dk dd_X9_asksRange 35 rfl) rfl ?_
    refine bs_selfPV_i C hR (c_X9_lengthOf _ _ _ _ _ S (r3) _ h) my_X9_lengthOf m_9_175 rfl cl_9 (ge_bW9_0 _) rfl (Nat.le_of_ble_eq_true rfl) (Nat.le_of_ble_eq_true rfl) (st := [.long r5, .int (b9g_toLength S), .long (b9g_toKey S), .ref 0]) (Nat.le_of_ble_eq_true rfl) (bf_dk dd_X9_asksRange 36 rfl) rfl (fun r7 h => ?_)
    refine bs_selfPV_i C hR (c_X9_isLess _ _ _ _ _ S ((b9g_toKey S)) ((b9g_toLength S)) (r5) (r7) _ h) my_X9_isLess m_9_106 rfl cl_9 (ge_bW9_0 _) rfl (Nat.le_of_ble_eq_true rfl) (Nat.le_of_ble_eq_true rfl) (st := []) (Nat.le_of_ble_eq_true rfl) (bf_dk dd_X9_asksRange 37 rfl) rfl (fun r9 h => ?_)
    refine bs_if_ne C (bf_dk dd_X9_asksRange 38 rfl) (tgt := 76) rfl (fun c => ?_) (fun c => ?_)
    · replace h := h.1 c
      exact bs_weak (bf_s1 (bf_s1 (bf_sn (bf_sn bf_s0)))) (t_X9_asksRange_76 C hR S (t0) Q h)
    · replace h := h.2 c
      refine bs_iconst C (bf_dk dd_X9_asksRange 39 rfl) (1 : Int32) (by decide) ?_
      refine bs_goto C (bf_dk dd_X9_asksRange 40 rfl) (tgt := 77) rfl ?_
      exact bs_weak (bf_s1 (bf_s1 (bf_sn (bf_sn bf_s0)))) (t_X9_asksRange_77 C hR S (t0) ((1 : Int32)) Q h)
def wp_X9_asksRange (S : bT9) (Q : Int32 → (bT9) → Prop) : Prop := (wp_X9_rangeMany S ((0 : Int32)) (fun r11 u12 => ((r11 ≤ 0 → (wp_X9_asksRange_13 u12 ((0 : Int32)) Q)) ∧ (¬ r11 ≤ 0 → (wp_X9_asksRange_13 u12 ((1 : Int32)) Q)))))
set_option maxRecDepth 20000 in
theorem t_X9_asksRange {X : bf_X} (C : bf_C X RX9 cX9_asksRange 4 (some .int)) (hR : bf_Rm X 5 112) (S : bT9) (Q : Int32 → (bT9) → Prop) (h : wp_X9_asksRange S Q) : bf_A X (bf_Zi X bW9 Q) 4 0 [some (.ref 0), none, none, none] [] (bW9 S) := by
  unfold wp_X9_asksRange at h
  refine bs_aload_n C (bf_dk dd_X9_asksRange 0 rfl) rfl ?_
  refine bs_iconst C (bf_dk dd_X9_asksRange 1 rfl) (0 : Int32) (by decide) ?_
  refine bs_selfV_i C hR (c_X9_rangeMany _ _ _ _ _ S ((0 : Int32)) _ h) my_X9_rangeMany m_9_352 rfl cl_9 (ge_bW9_0 _) rfl (Nat.le_of_ble_eq_true rfl) (Nat.le_of_ble_eq_true rfl) (st := []) (Nat.le_of_ble_eq_true rfl) (bf_dk dd_X9_asksRange 2 rfl) rfl (len := 21) (fun _ => rfl) (fun r11 u12 h => ?_)
  refine bs_if_le C (bf_dk dd_X9_asksRange 3 rfl) (tgt := 12) rfl (fun c => ?_) (fun c => ?_)
  · replace h := h.1 c
    refine bs_iconst C (bf_dk dd_X9_asksRange 6 rfl) (0 : Int32) (by decide) ?_
    exact bs_weak (bf_s1 (bf_sn (bf_sn (bf_sn bf_s0)))) (t_X9_asksRange_13 C hR u12 ((0 : Int32)) Q h)
  · replace h := h.2 c
    refine bs_iconst C (bf_dk dd_X9_asksRange 4 rfl) (1 : Int32) (by decide) ?_
    refine bs_goto C (bf_dk dd_X9_asksRange 5 rfl) (tgt := 13) rfl ?_
    exact bs_weak (bf_s1 (bf_sn (bf_sn (bf_sn bf_s0)))) (t_X9_asksRange_13 C hR u12 ((1 : Int32)) Q h)
theorem c_X9_asksRange (l : Launch) (dC : Nat → ClassId) (dI : Nat → Nat → Nat) (ac : Nat → ClassId) (al : Nat → Nat) (S : bT9) (Q : Int32 → (bT9) → Prop) (h : wp_X9_asksRange S Q) : bf_M l yX9_asksRange cX9_asksRange 4 (some .int) 5 112 dC dI ac al [.ref 0] (bW9 S) (bf_Ki dC dI ac al bW9 Q) := by
  refine bf_start [some (.ref 0), none, none, none] (by decide) (Nat.le_of_ble_eq_true rfl) (bf_s1 (bf_en 3)) ?_
  intro X hl C hR e1 e2 e3 e4
  subst e1; subst e2; subst e3; subst e4
  exact t_X9_asksRange C hR S Q h
def wp_X9_range (S : bT9) (a1 : Int32) (a2 : Int32) (a3 : Int32) (a4 : Int32) (a5 : Int32) (a6 : Int32) (Q : Int32 → (bT9) → Prop) : Prop := (∀ S1 : bT9, S1 = (b9s_told S (0 : Int32)) → (wp_X9_ranges S1 (a1) (a2) (a3) (a4) (a5) (a6) (fun r2 u3 => ((¬ r2 = 0 → (wp_X9_asksRange u3 (fun r4 u5 => (wp_X9_rangeMany u5 ((0 : Int32)) (fun r6 u7 => ((r6 ≤ 0 → (Q (0 : Int32) u7)) ∧ (¬ r6 ≤ 0 → (Q (1 : Int32) u7)))))))) ∧ (r2 = 0 → (Q (-1 : Int32) u3))))))
set_option maxRecDepth 20000 in
theorem t_X9_range {X : bf_X} (C : bf_C X RX9 cX9_range 7 (some .int)) (hR : bf_Rm X 6 135) (S : bT9) (a1 : Int32) (a2 : Int32) (a3 : Int32) (a4 : Int32) (a5 : Int32) (a6 : Int32) (Q : Int32 → (bT9) → Prop) (h : wp_X9_range S a1 a2 a3 a4 a5 a6 Q) : bf_A X (bf_Zi X bW9 Q) 7 0 [some (.ref 0), some (.int a1), some (.int a2), some (.int a3), some (.int a4), some (.int a5), some (.int a6)] [] (bW9 S) := by
  unfold wp_X9_range at h
  refine bs_aload_n C (bf_dk dd_X9_range 0 rfl) rfl ?_
  refine bs_iconst C (bf_dk dd_X9_range 1 rfl) (0 : Int32) (by decide) ?_
  refine bs_put C (bf_dk dd_X9_range 2 rfl) tyX9_ok nmX9 cl_9 in_9 0 (Nat.le_of_ble_eq_true rfl) rfl f_9_75 rfl (ge_bW9_0 S) (Nat.le_of_ble_eq_true rfl) rfl rfl (pu_bW9_0_0 S (0 : Int32)) ?_
  refine bs_nameS bW9 (fun S1 eS1 => ?_)
  replace h := h S1 eS1
  refine bs_aload_n C (bf_dk dd_X9_range 3 rfl) rfl ?_
  refine bs_iload_n C (bf_dk dd_X9_range 4 rfl) rfl ?_
  refine bs_iload_n C (bf_dk dd_X9_range 5 rfl) rfl ?_
  refine bs_iload_n C (bf_dk dd_X9_range 6 rfl) rfl ?_
  refine bs_iload C (bf_dk dd_X9_range 7 rfl) rfl ?_
  refine bs_iload C (bf_dk dd_X9_range 8 rfl) rfl ?_
  refine bs_iload C (bf_dk dd_X9_range 9 rfl) rfl ?_
  refine bs_selfV_i C hR (c_X9_ranges _ _ _ _ _ S1 (a1) (a2) (a3) (a4) (a5) (a6) _ h) my_X9_ranges m_9_356 rfl cl_9 (ge_bW9_0 _) rfl (Nat.le_of_ble_eq_true rfl) (Nat.le_of_ble_eq_true rfl) (st := []) (Nat.le_of_ble_eq_true rfl) (bf_dk dd_X9_range 10 rfl) rfl (len := 21) (fun _ => rfl) (fun r2 u3 h => ?_)
  refine bs_if_ne C (bf_dk dd_X9_range 11 rfl) (tgt := 23) rfl (fun c => ?_) (fun c => ?_)
  · replace h := h.1 c
    refine bs_aload_n C (bf_dk dd_X9_range 14 rfl) rfl ?_
    refine bs_selfV_i C hR (c_X9_asksRange _ _ _ _ _ u3 _ h) my_X9_asksRange m_9_360 rfl cl_9 (ge_bW9_0 _) rfl (Nat.le_of_ble_eq_true rfl) (Nat.le_of_ble_eq_true rfl) (st := []) (Nat.le_of_ble_eq_true rfl) (bf_dk dd_X9_range 15 rfl) rfl (len := 21) (fun _ => rfl) (fun r4 u5 h => ?_)
    refine bs_pop C (bf_dk dd_X9_range 16 rfl) rfl ?_
    refine bs_aload_n C (bf_dk dd_X9_range 17 rfl) rfl ?_
    refine bs_iconst C (bf_dk dd_X9_range 18 rfl) (0 : Int32) (by decide) ?_
    refine bs_selfV_i C hR (c_X9_rangeMany _ _ _ _ _ u5 ((0 : Int32)) _ h) my_X9_rangeMany m_9_352 rfl cl_9 (ge_bW9_0 _) rfl (Nat.le_of_ble_eq_true rfl) (Nat.le_of_ble_eq_true rfl) (st := []) (Nat.le_of_ble_eq_true rfl) (bf_dk dd_X9_range 19 rfl) rfl (len := 21) (fun _ => rfl) (fun r6 u7 h => ?_)
    refine bs_if_le C (bf_dk dd_X9_range 20 rfl) (tgt := 40) rfl (fun c => ?_) (fun c => ?_)
    · replace h := h.1 c
      refine bs_iconst C (bf_dk dd_X9_range 23 rfl) (0 : Int32) (by decide) ?_
      exact bs_iret (u := u7) C (bf_dk dd_X9_range 24 rfl) rfl h
    · replace h := h.2 c
      refine bs_iconst C (bf_dk dd_X9_range 21 rfl) (1 : Int32) (by decide) ?_
      refine bs_goto C (bf_dk dd_X9_range 22 rfl) (tgt := 41) rfl ?_
      exact bs_iret (u := u7) C (bf_dk dd_X9_range 24 rfl) rfl h
  · replace h := h.2 c
    refine bs_iconst C (bf_dk dd_X9_range 12 rfl) (-1 : Int32) (by decide) ?_
    exact bs_iret (u := u3) C (bf_dk dd_X9_range 13 rfl) rfl h
theorem c_X9_range (l : Launch) (dC : Nat → ClassId) (dI : Nat → Nat → Nat) (ac : Nat → ClassId) (al : Nat → Nat) (S : bT9) (a1 : Int32) (a2 : Int32) (a3 : Int32) (a4 : Int32) (a5 : Int32) (a6 : Int32) (Q : Int32 → (bT9) → Prop) (h : wp_X9_range S a1 a2 a3 a4 a5 a6 Q) : bf_M l yX9_range cX9_range 7 (some .int) 6 135 dC dI ac al [.ref 0, .int a1, .int a2, .int a3, .int a4, .int a5, .int a6] (bW9 S) (bf_Ki dC dI ac al bW9 Q) := by
  refine bf_start [some (.ref 0), some (.int a1), some (.int a2), some (.int a3), some (.int a4), some (.int a5), some (.int a6)] (by decide) (Nat.le_of_ble_eq_true rfl) (bf_s1 (bf_s1 (bf_s1 (bf_s1 (bf_s1 (bf_s1 (bf_s1 bf_s0))))))) ?_
  intro X hl C hR e1 e2 e3 e4
  subst e1; subst e2; subst e3; subst e4
  exact t_X9_range C hR S a1 a2 a3 a4 a5 a6 Q h
def wp_X9_meets (S : bT9) (a1 : Int32) (a2 : Int32) (a3 : Int32) (a4 : Int32) (a5 : Int32) (a6 : Int32) (Q : Int32 → (bT9) → Prop) : Prop := (∀ S1 : bT9, S1 = (b9s_told S (0 : Int32)) → (wp_X9_ranges S1 (a1) (a2) (a3) (a4) (a5) (a6) (fun r2 u3 => ((r2 = 0 → (Q (-1 : Int32) u3)) ∧ (¬ r2 = 0 → (wp_X9_rangeMany u3 ((0 : Int32)) (fun r4 u5 => (Q r4 u5))))))))
set_option maxRecDepth 20000 in
theorem t_X9_meets {X : bf_X} (C : bf_C X RX9 cX9_meets 7 (some .int)) (hR : bf_Rm X 5 112) (S : bT9) (a1 : Int32) (a2 : Int32) (a3 : Int32) (a4 : Int32) (a5 : Int32) (a6 : Int32) (Q : Int32 → (bT9) → Prop) (h : wp_X9_meets S a1 a2 a3 a4 a5 a6 Q) : bf_A X (bf_Zi X bW9 Q) 7 0 [some (.ref 0), some (.int a1), some (.int a2), some (.int a3), some (.int a4), some (.int a5), some (.int a6)] [] (bW9 S) := by
  unfold wp_X9_meets at h
  refine bs_aload_n C (bf_dk dd_X9_meets 0 rfl) rfl ?_
  refine bs_iconst C (bf_dk dd_X9_meets 1 rfl) (0 : Int32) (by decide) ?_
  refine bs_put C (bf_dk dd_X9_meets 2 rfl) tyX9_ok nmX9 cl_9 in_9 0 (Nat.le_of_ble_eq_true rfl) rfl f_9_75 rfl (ge_bW9_0 S) (Nat.le_of_ble_eq_true rfl) rfl rfl (pu_bW9_0_0 S (0 : Int32)) ?_
  refine bs_nameS bW9 (fun S1 eS1 => ?_)
  replace h := h S1 eS1
  refine bs_aload_n C (bf_dk dd_X9_meets 3 rfl) rfl ?_
  refine bs_iload_n C (bf_dk dd_X9_meets 4 rfl) rfl ?_
  refine bs_iload_n C (bf_dk dd_X9_meets 5 rfl) rfl ?_
  refine bs_iload_n C (bf_dk dd_X9_meets 6 rfl) rfl ?_
  refine bs_iload C (bf_dk dd_X9_meets 7 rfl) rfl ?_
  refine bs_iload C (bf_dk dd_X9_meets 8 rfl) rfl ?_
  refine bs_iload C (bf_dk dd_X9_meets 9 rfl) rfl ?_
  refine bs_selfV_i C hR (c_X9_ranges _ _ _ _ _ S1 (a1) (a2) (a3) (a4) (a5) (a6) _ h) my_X9_ranges m_9_356 rfl cl_9 (ge_bW9_0 _) rfl (Nat.le_of_ble_eq_true rfl) (Nat.le_of_ble_eq_true rfl) (st := []) (Nat.le_of_ble_eq_true rfl) (bf_dk dd_X9_meets 10 rfl) rfl (len := 21) (fun _ => rfl) (fun r2 u3 h => ?_)
  refine bs_if_eq C (bf_dk dd_X9_meets 11 rfl) (tgt := 29) rfl (fun c => ?_) (fun c => ?_)
  · replace h := h.1 c
    refine bs_iconst C (bf_dk dd_X9_meets 16 rfl) (-1 : Int32) (by decide) ?_
    exact bs_iret (u := u3) C (bf_dk dd_X9_meets 17 rfl) rfl h
  · replace h := h.2 c
    refine bs_aload_n C (bf_dk dd_X9_meets 12 rfl) rfl ?_
    refine bs_iconst C (bf_dk dd_X9_meets 13 rfl) (0 : Int32) (by decide) ?_
    refine bs_selfV_i C hR (c_X9_rangeMany _ _ _ _ _ u3 ((0 : Int32)) _ h) my_X9_rangeMany m_9_352 rfl cl_9 (ge_bW9_0 _) rfl (Nat.le_of_ble_eq_true rfl) (Nat.le_of_ble_eq_true rfl) (st := []) (Nat.le_of_ble_eq_true rfl) (bf_dk dd_X9_meets 14 rfl) rfl (len := 21) (fun _ => rfl) (fun r4 u5 h => ?_)
    refine bs_goto C (bf_dk dd_X9_meets 15 rfl) (tgt := 30) rfl ?_
    exact bs_iret (u := u5) C (bf_dk dd_X9_meets 17 rfl) rfl h
theorem c_X9_meets (l : Launch) (dC : Nat → ClassId) (dI : Nat → Nat → Nat) (ac : Nat → ClassId) (al : Nat → Nat) (S : bT9) (a1 : Int32) (a2 : Int32) (a3 : Int32) (a4 : Int32) (a5 : Int32) (a6 : Int32) (Q : Int32 → (bT9) → Prop) (h : wp_X9_meets S a1 a2 a3 a4 a5 a6 Q) : bf_M l yX9_meets cX9_meets 7 (some .int) 5 112 dC dI ac al [.ref 0, .int a1, .int a2, .int a3, .int a4, .int a5, .int a6] (bW9 S) (bf_Ki dC dI ac al bW9 Q) := by
  refine bf_start [some (.ref 0), some (.int a1), some (.int a2), some (.int a3), some (.int a4), some (.int a5), some (.int a6)] (by decide) (Nat.le_of_ble_eq_true rfl) (bf_s1 (bf_s1 (bf_s1 (bf_s1 (bf_s1 (bf_s1 (bf_s1 bf_s0))))))) ?_
  intro X hl C hR e1 e2 e3 e4
  subst e1; subst e2; subst e3; subst e4
  exact t_X9_meets C hR S a1 a2 a3 a4 a5 a6 Q h
def wp_X9_holds (S : bT9) (a1 : Int32) (a2 : Int32) (a3 : Int32) (a4 : Int32) (a5 : Int32) (a6 : Int32) (Q : Int32 → (bT9) → Prop) : Prop := (∀ S1 : bT9, S1 = (b9s_told S (0 : Int32)) → (wp_X9_ranges S1 (a1) (a2) (a3) (a4) (a5) (a6) (fun r2 u3 => ((r2 = 0 → (Q (-1 : Int32) u3)) ∧ (¬ r2 = 0 → (wp_X9_rangeMany u3 ((1 : Int32)) (fun r4 u5 => (Q r4 u5))))))))
set_option maxRecDepth 20000 in
theorem t_X9_holds {X : bf_X} (C : bf_C X RX9 cX9_holds 7 (some .int)) (hR : bf_Rm X 5 112) (S : bT9) (a1 : Int32) (a2 : Int32) (a3 : Int32) (a4 : Int32) (a5 : Int32) (a6 : Int32) (Q : Int32 → (bT9) → Prop) (h : wp_X9_holds S a1 a2 a3 a4 a5 a6 Q) : bf_A X (bf_Zi X bW9 Q) 7 0 [some (.ref 0), some (.int a1), some (.int a2), some (.int a3), some (.int a4), some (.int a5), some (.int a6)] [] (bW9 S) := by
  unfold wp_X9_holds at h
  refine bs_aload_n C (bf_dk dd_X9_holds 0 rfl) rfl ?_
  refine bs_iconst C (bf_dk dd_X9_holds 1 rfl) (0 : Int32) (by decide) ?_
  refine bs_put C (bf_dk dd_X9_holds 2 rfl) tyX9_ok nmX9 cl_9 in_9 0 (Nat.le_of_ble_eq_true rfl) rfl f_9_75 rfl (ge_bW9_0 S) (Nat.le_of_ble_eq_true rfl) rfl rfl (pu_bW9_0_0 S (0 : Int32)) ?_
  refine bs_nameS bW9 (fun S1 eS1 => ?_)
  replace h := h S1 eS1
  refine bs_aload_n C (bf_dk dd_X9_holds 3 rfl) rfl ?_
  refine bs_iload_n C (bf_dk dd_X9_holds 4 rfl) rfl ?_
  refine bs_iload_n C (bf_dk dd_X9_holds 5 rfl) rfl ?_
  refine bs_iload_n C (bf_dk dd_X9_holds 6 rfl) rfl ?_
  refine bs_iload C (bf_dk dd_X9_holds 7 rfl) rfl ?_
  refine bs_iload C (bf_dk dd_X9_holds 8 rfl) rfl ?_
  refine bs_iload C (bf_dk dd_X9_holds 9 rfl) rfl ?_
  refine bs_selfV_i C hR (c_X9_ranges _ _ _ _ _ S1 (a1) (a2) (a3) (a4) (a5) (a6) _ h) my_X9_ranges m_9_356 rfl cl_9 (ge_bW9_0 _) rfl (Nat.le_of_ble_eq_true rfl) (Nat.le_of_ble_eq_true rfl) (st := []) (Nat.le_of_ble_eq_true rfl) (bf_dk dd_X9_holds 10 rfl) rfl (len := 21) (fun _ => rfl) (fun r2 u3 h => ?_)
  refine bs_if_eq C (bf_dk dd_X9_holds 11 rfl) (tgt := 29) rfl (fun c => ?_) (fun c => ?_)
  · replace h := h.1 c
    refine bs_iconst C (bf_dk dd_X9_holds 16 rfl) (-1 : Int32) (by decide) ?_
    exact bs_iret (u := u3) C (bf_dk dd_X9_holds 17 rfl) rfl h
  · replace h := h.2 c
    refine bs_aload_n C (bf_dk dd_X9_holds 12 rfl) rfl ?_
    refine bs_iconst C (bf_dk dd_X9_holds 13 rfl) (1 : Int32) (by decide) ?_
    refine bs_selfV_i C hR (c_X9_rangeMany _ _ _ _ _ u3 ((1 : Int32)) _ h) my_X9_rangeMany m_9_352 rfl cl_9 (ge_bW9_0 _) rfl (Nat.le_of_ble_eq_true rfl) (Nat.le_of_ble_eq_true rfl) (st := []) (Nat.le_of_ble_eq_true rfl) (bf_dk dd_X9_holds 14 rfl) rfl (len := 21) (fun _ => rfl) (fun r4 u5 h => ?_)
    refine bs_goto C (bf_dk dd_X9_holds 15 rfl) (tgt := 30) rfl ?_
    exact bs_iret (u := u5) C (bf_dk dd_X9_holds 17 rfl) rfl h
theorem c_X9_holds (l : Launch) (dC : Nat → ClassId) (dI : Nat → Nat → Nat) (ac : Nat → ClassId) (al : Nat → Nat) (S : bT9) (a1 : Int32) (a2 : Int32) (a3 : Int32) (a4 : Int32) (a5 : Int32) (a6 : Int32) (Q : Int32 → (bT9) → Prop) (h : wp_X9_holds S a1 a2 a3 a4 a5 a6 Q) : bf_M l yX9_holds cX9_holds 7 (some .int) 5 112 dC dI ac al [.ref 0, .int a1, .int a2, .int a3, .int a4, .int a5, .int a6] (bW9 S) (bf_Ki dC dI ac al bW9 Q) := by
  refine bf_start [some (.ref 0), some (.int a1), some (.int a2), some (.int a3), some (.int a4), some (.int a5), some (.int a6)] (by decide) (Nat.le_of_ble_eq_true rfl) (bf_s1 (bf_s1 (bf_s1 (bf_s1 (bf_s1 (bf_s1 (bf_s1 bf_s0))))))) ?_
  intro X hl C hR e1 e2 e3 e4
  subst e1; subst e2; subst e3; subst e4
  exact t_X9_holds C hR S a1 a2 a3 a4 a5 a6 Q h
def wp_X9_seek_18b (S : bT9) (x1 : Int32) (x2 : Int32) (x3 : Int32) (x4 : Int32) (Q : Int32 → (bT9) → Prop) (B18 : Int32 → Int32 → Int32 → Int32 → (bT9) → Prop) : Prop := (wp_X9_leaves S (fun r1 u2 => ((r1 ≤ x4 → (Q (-1 : Int32) u2)) ∧ (¬ r1 ≤ x4 → (wp_X9_nextBits u2 (fun r3 => (wp_X9_bounds u2 (x4) (r3) (fun u6 => (wp_X9_keyOf u6 (x1) (x2) (x3) (fun r7 => (wp_X9_isBehind u6 (r7) (x3) (fun r9 => ((¬ r9 = 0 → (B18 (x1) (x2) (x3) ((x4 + (1 : Int32))) u6)) ∧ (r9 = 0 → (Q x4 u6)))))))))))))))
set_option maxRecDepth 20000 in
theorem t_X9_seek_18b {X : bf_X} (C : bf_C X RX9 cX9_seek 5 (some .int)) (hR : bf_Rm X 4 89) (S : bT9) (x1 : Int32) (x2 : Int32) (x3 : Int32) (x4 : Int32) (Q : Int32 → (bT9) → Prop) (B18 : Int32 → Int32 → Int32 → Int32 → (bT9) → Prop) (hB18 : ∀ (x1 : Int32) (x2 : Int32) (x3 : Int32) (x4 : Int32) (S : bT9), B18 x1 x2 x3 x4 S → bf_A X (bf_Zi X bW9 Q) 5 18 [some (.ref 0), some (.int x1), some (.int x2), some (.int x3), some (.int x4)] [] (bW9 S)) (h : wp_X9_seek_18b S x1 x2 x3 x4 Q B18) : bf_A X (bf_Zi X bW9 Q) 5 18 [some (.ref 0), some (.int x1), some (.int x2), some (.int x3), some (.int x4)] [] (bW9 S) := by
  unfold wp_X9_seek_18b at h
  refine bs_iload C (bf_dk dd_X9_seek 11 rfl) rfl ?_
  refine bs_aload_n C (bf_dk dd_X9_seek 12 rfl) rfl ?_
  refine bs_selfV_i C hR (c_X9_leaves _ _ _ _ _ S _ h) my_X9_leaves m_9_268 rfl cl_9 (ge_bW9_0 _) rfl (Nat.le_of_ble_eq_true rfl) (Nat.le_of_ble_eq_true rfl) (st := [.int x4]) (Nat.le_of_ble_eq_true rfl) (bf_dk dd_X9_seek 13 rfl) rfl (len := 21) (fun _ => rfl) (fun r1 u2 h => ?_)
  refine bs_icmp_ge C (bf_dk dd_X9_seek 14 rfl) (tgt := 61) rfl (fun c => ?_) (fun c => ?_)
  · replace h := h.1 c
    refine bs_iconst C (bf_dk dd_X9_seek 33 rfl) (-1 : Int32) (by decide) ?_
    exact bs_iret (u := u2) C (bf_dk dd_X9_seek 34 rfl) rfl h
  · replace h := h.2 c
    refine bs_aload_n C (bf_dk dd_X9_seek 15 rfl) rfl ?_
    refine bs_iload C (bf_dk dd_X9_seek 16 rfl) rfl ?_
    refine bs_aload_n C (bf_dk dd_X9_seek 17 rfl) rfl ?_
    refine bs_selfPV_i C hR (c_X9_nextBits _ _ _ _ _ u2 _ h) my_X9_nextBits m_9_313 rfl cl_9 (ge_bW9_0 _) rfl (Nat.le_of_ble_eq_true rfl) (Nat.le_of_ble_eq_true rfl) (st := [.int x4, .ref 0]) (Nat.le_of_ble_eq_true rfl) (bf_dk dd_X9_seek 18 rfl) rfl (fun r3 h => ?_)
    refine bs_selfV_v C hR (c_X9_bounds _ _ _ _ _ u2 (x4) (r3) _ h) my_X9_bounds m_9_292 rfl cl_9 (ge_bW9_0 _) rfl (Nat.le_of_ble_eq_true rfl) (Nat.le_of_ble_eq_true rfl) (st := []) (Nat.le_of_ble_eq_true rfl) (bf_dk dd_X9_seek 19 rfl) rfl (len := 21) (fun _ => rfl) (fun u6 h => ?_)
    refine bs_aload_n C (bf_dk dd_X9_seek 20 rfl) rfl ?_
    refine bs_aload_n C (bf_dk dd_X9_seek 21 rfl) rfl ?_
    refine bs_iload_n C (bf_dk dd_X9_seek 22 rfl) rfl ?_
    refine bs_iload_n C (bf_dk dd_X9_seek 23 rfl) rfl ?_
    refine bs_iload_n C (bf_dk dd_X9_seek 24 rfl) rfl ?_
    refine bs_selfPV_l C hR (c_X9_keyOf _ _ _ _ _ u6 (x1) (x2) (x3) _ h) my_X9_keyOf m_9_121 rfl cl_9 (ge_bW9_0 _) rfl (Nat.le_of_ble_eq_true rfl) (Nat.le_of_ble_eq_true rfl) (st := [.ref 0]) (Nat.le_of_ble_eq_true rfl) (bf_dk dd_X9_seek 25 rfl) rfl (fun r7 h => ?_)
    refine bs_iload_n C (bf_dk dd_X9_seek 26 rfl) rfl ?_
    refine bs_selfPV_i C hR (c_X9_isBehind _ _ _ _ _ u6 (r7) (x3) _ h) my_X9_isBehind m_9_300 rfl cl_9 (ge_bW9_0 _) rfl (Nat.le_of_ble_eq_true rfl) (Nat.le_of_ble_eq_true rfl) (st := []) (Nat.le_of_ble_eq_true rfl) (bf_dk dd_X9_seek 27 rfl) rfl (fun r9 h => ?_)
    refine bs_if_ne C (bf_dk dd_X9_seek 28 rfl) (tgt := 55) rfl (fun c => ?_) (fun c => ?_)
    · replace h := h.1 c
      refine bs_iinc C (bf_dk dd_X9_seek 31 rfl) (x4 + (1 : Int32)) rfl rfl (Nat.le_of_ble_eq_true rfl) (Nat.le_of_ble_eq_true rfl) (lv2 := [some (.ref 0), some (.int x1), some (.int x2), some (.int x3), some (.int (x4 + (1 : Int32)))]) rfl ?_
      refine bs_goto C (bf_dk dd_X9_seek 32 rfl) (tgt := 18) rfl ?_
      exact bs_weak (bf_s1 (bf_s1 (bf_s1 (bf_s1 (bf_s1 bf_s0))))) (hB18 (x1) (x2) (x3) ((x4 + (1 : Int32))) u6 h)
    · replace h := h.2 c
      refine bs_iload C (bf_dk dd_X9_seek 29 rfl) rfl ?_
      exact bs_iret (u := u6) C (bf_dk dd_X9_seek 30 rfl) rfl h
def wp_X9_seek_18 (S : bT9) (x1 : Int32) (x2 : Int32) (x3 : Int32) (x4 : Int32) (Q : Int32 → (bT9) → Prop) : Prop := ∃ I : Nat → Int32 → Int32 → Int32 → Int32 → (bT9) → Prop, (∃ n : Nat, I n x1 x2 x3 x4 S) ∧ ∀ (n : Nat) (x1 : Int32) (x2 : Int32) (x3 : Int32) (x4 : Int32) (S : bT9), I n x1 x2 x3 x4 S → wp_X9_seek_18b S x1 x2 x3 x4 Q (fun x1 x2 x3 x4 S => ∃ n2 : Nat, n2 < n ∧ I n2 x1 x2 x3 x4 S)
theorem t_X9_seek_18 {X : bf_X} (C : bf_C X RX9 cX9_seek 5 (some .int)) (hR : bf_Rm X 4 89) (S : bT9) (x1 : Int32) (x2 : Int32) (x3 : Int32) (x4 : Int32) (Q : Int32 → (bT9) → Prop) (h : wp_X9_seek_18 S x1 x2 x3 x4 Q) : bf_A X (bf_Zi X bW9 Q) 5 18 [some (.ref 0), some (.int x1), some (.int x2), some (.int x3), some (.int x4)] [] (bW9 S) := by
  obtain ⟨I, ⟨n0, h0⟩, hI⟩ := h
  have key : ∀ (n : Nat) (x1 : Int32) (x2 : Int32) (x3 : Int32) (x4 : Int32) (S : bT9), I n x1 x2 x3 x4 S → bf_A X (bf_Zi X bW9 Q) 5 18 [some (.ref 0), some (.int x1), some (.int x2), some (.int x3), some (.int x4)] [] (bW9 S) := by
    intro n
    induction n using Nat.strongRecOn with
    | _ n ih =>
      intro x1 x2 x3 x4 S hi
      exact t_X9_seek_18b C hR S x1 x2 x3 x4 Q _ (fun x1 x2 x3 x4 S hb => by obtain ⟨n2, hn, hi2⟩ := hb; exact ih n2 hn x1 x2 x3 x4 S hi2) (hI n x1 x2 x3 x4 S hi)
  exact key n0 x1 x2 x3 x4 S h0
def wp_X9_seek (S : bT9) (a1 : Int32) (a2 : Int32) (a3 : Int32) (Q : Int32 → (bT9) → Prop) : Prop := (∀ S11 : bT9, S11 = (b9s_told S (0 : Int32)) → (wp_X9_isKey S11 (a3) (fun r12 => ((¬ r12 = 0 → (wp_X9_seek_18 S11 (a1) (a2) (a3) ((0 : Int32)) Q)) ∧ (r12 = 0 → (Q (-1 : Int32) S11))))))
set_option maxRecDepth 20000 in
theorem t_X9_seek {X : bf_X} (C : bf_C X RX9 cX9_seek 5 (some .int)) (hR : bf_Rm X 4 89) (S : bT9) (a1 : Int32) (a2 : Int32) (a3 : Int32) (Q : Int32 → (bT9) → Prop) (h : wp_X9_seek S a1 a2 a3 Q) : bf_A X (bf_Zi X bW9 Q) 5 0 [some (.ref 0), some (.int a1), some (.int a2), some (.int a3), none] [] (bW9 S) := by
  unfold wp_X9_seek at h
  refine bs_aload_n C (bf_dk dd_X9_seek 0 rfl) rfl ?_
  refine bs_iconst C (bf_dk dd_X9_seek 1 rfl) (0 : Int32) (by decide) ?_
  refine bs_put C (bf_dk dd_X9_seek 2 rfl) tyX9_ok nmX9 cl_9 in_9 0 (Nat.le_of_ble_eq_true rfl) rfl f_9_75 rfl (ge_bW9_0 S) (Nat.le_of_ble_eq_true rfl) rfl rfl (pu_bW9_0_0 S (0 : Int32)) ?_
  refine bs_nameS bW9 (fun S11 eS11 => ?_)
  replace h := h S11 eS11
  refine bs_aload_n C (bf_dk dd_X9_seek 3 rfl) rfl ?_
  refine bs_iload_n C (bf_dk dd_X9_seek 4 rfl) rfl ?_
  refine bs_selfPV_i C hR (c_X9_isKey _ _ _ _ _ S11 (a3) _ h) my_X9_isKey m_9_117 rfl cl_9 (ge_bW9_0 _) rfl (Nat.le_of_ble_eq_true rfl) (Nat.le_of_ble_eq_true rfl) (st := []) (Nat.le_of_ble_eq_true rfl) (bf_dk dd_X9_seek 5 rfl) rfl (fun r12 h => ?_)
  refine bs_if_ne C (bf_dk dd_X9_seek 6 rfl) (tgt := 15) rfl (fun c => ?_) (fun c => ?_)
  · replace h := h.1 c
    refine bs_iconst C (bf_dk dd_X9_seek 9 rfl) (0 : Int32) (by decide) ?_
    refine bs_istore C (bf_dk dd_X9_seek 10 rfl) (Nat.le_of_ble_eq_true rfl) (Nat.le_of_ble_eq_true rfl) (lv2 := [some (.ref 0), some (.int a1), some (.int a2), some (.int a3), some (.int (0 : Int32))]) rfl ?_
    exact bs_weak (bf_s1 (bf_s1 (bf_s1 (bf_s1 (bf_s1 bf_s0))))) (t_X9_seek_18 C hR S11 (a1) (a2) (a3) ((0 : Int32)) Q h)
  · replace h := h.2 c
    refine bs_iconst C (bf_dk dd_X9_seek 7 rfl) (-1 : Int32) (by decide) ?_
    exact bs_iret (u := S11) C (bf_dk dd_X9_seek 8 rfl) rfl h
theorem c_X9_seek (l : Launch) (dC : Nat → ClassId) (dI : Nat → Nat → Nat) (ac : Nat → ClassId) (al : Nat → Nat) (S : bT9) (a1 : Int32) (a2 : Int32) (a3 : Int32) (Q : Int32 → (bT9) → Prop) (h : wp_X9_seek S a1 a2 a3 Q) : bf_M l yX9_seek cX9_seek 5 (some .int) 4 89 dC dI ac al [.ref 0, .int a1, .int a2, .int a3] (bW9 S) (bf_Ki dC dI ac al bW9 Q) := by
  refine bf_start [some (.ref 0), some (.int a1), some (.int a2), some (.int a3), none] (by decide) (Nat.le_of_ble_eq_true rfl) (bf_s1 (bf_s1 (bf_s1 (bf_s1 (bf_en 1))))) ?_
  intro X hl C hR e1 e2 e3 e4
  subst e1; subst e2; subst e3; subst e4
  exact t_X9_seek C hR S a1 a2 a3 Q h
def wp_X9_seekBack_23b (S : bT9) (x1 : Int32) (x2 : Int32) (x3 : Int32) (x4 : Int32) (Q : Int32 → (bT9) → Prop) (B23 : Int32 → Int32 → Int32 → Int32 → (bT9) → Prop) : Prop := ((x4 < 0 → (Q (-1 : Int32) S)) ∧ (¬ x4 < 0 → (wp_X9_nextBits S (fun r1 => (wp_X9_bounds S (x4) (r1) (fun u4 => (wp_X9_keyOf u4 (x1) (x2) (x3) (fun r5 => (wp_X9_isAhead u4 (r5) (x3) (fun r7 => ((¬ r7 = 0 → (B23 (x1) (x2) (x3) ((x4 + (-1 : Int32))) u4)) ∧ (r7 = 0 → (Q x4 u4)))))))))))))
set_option maxRecDepth 20000 in
theorem t_X9_seekBack_23b {X : bf_X} (C : bf_C X RX9 cX9_seekBack 5 (some .int)) (hR : bf_Rm X 4 89) (S : bT9) (x1 : Int32) (x2 : Int32) (x3 : Int32) (x4 : Int32) (Q : Int32 → (bT9) → Prop) (B23 : Int32 → Int32 → Int32 → Int32 → (bT9) → Prop) (hB23 : ∀ (x1 : Int32) (x2 : Int32) (x3 : Int32) (x4 : Int32) (S : bT9), B23 x1 x2 x3 x4 S → bf_A X (bf_Zi X bW9 Q) 5 23 [some (.ref 0), some (.int x1), some (.int x2), some (.int x3), some (.int x4)] [] (bW9 S)) (h : wp_X9_seekBack_23b S x1 x2 x3 x4 Q B23) : bf_A X (bf_Zi X bW9 Q) 5 23 [some (.ref 0), some (.int x1), some (.int x2), some (.int x3), some (.int x4)] [] (bW9 S) := by
  unfold wp_X9_seekBack_23b at h
  refine bs_iload C (bf_dk dd_X9_seekBack 14 rfl) rfl ?_
  refine bs_if_lt C (bf_dk dd_X9_seekBack 15 rfl) (tgt := 62) rfl (fun c => ?_) (fun c => ?_)
  · replace h := h.1 c
    refine bs_iconst C (bf_dk dd_X9_seekBack 34 rfl) (-1 : Int32) (by decide) ?_
    exact bs_iret (u := S) C (bf_dk dd_X9_seekBack 35 rfl) rfl h
  · replace h := h.2 c
    refine bs_aload_n C (bf_dk dd_X9_seekBack 16 rfl) rfl ?_
    refine bs_iload C (bf_dk dd_X9_seekBack 17 rfl) rfl ?_
    refine bs_aload_n C (bf_dk dd_X9_seekBack 18 rfl) rfl ?_
    refine bs_selfPV_i C hR (c_X9_nextBits _ _ _ _ _ S _ h) my_X9_nextBits m_9_313 rfl cl_9 (ge_bW9_0 _) rfl (Nat.le_of_ble_eq_true rfl) (Nat.le_of_ble_eq_true rfl) (st := [.int x4, .ref 0]) (Nat.le_of_ble_eq_true rfl) (bf_dk dd_X9_seekBack 19 rfl) rfl (fun r1 h => ?_)
    refine bs_selfV_v C hR (c_X9_bounds _ _ _ _ _ S (x4) (r1) _ h) my_X9_bounds m_9_292 rfl cl_9 (ge_bW9_0 _) rfl (Nat.le_of_ble_eq_true rfl) (Nat.le_of_ble_eq_true rfl) (st := []) (Nat.le_of_ble_eq_true rfl) (bf_dk dd_X9_seekBack 20 rfl) rfl (len := 21) (fun _ => rfl) (fun u4 h => ?_)
    refine bs_aload_n C (bf_dk dd_X9_seekBack 21 rfl) rfl ?_
    refine bs_aload_n C (bf_dk dd_X9_seekBack 22 rfl) rfl ?_
    refine bs_iload_n C (bf_dk dd_X9_seekBack 23 rfl) rfl ?_
    refine bs_iload_n C (bf_dk dd_X9_seekBack 24 rfl) rfl ?_
    refine bs_iload_n C (bf_dk dd_X9_seekBack 25 rfl) rfl ?_
    refine bs_selfPV_l C hR (c_X9_keyOf _ _ _ _ _ u4 (x1) (x2) (x3) _ h) my_X9_keyOf m_9_121 rfl cl_9 (ge_bW9_0 _) rfl (Nat.le_of_ble_eq_true rfl) (Nat.le_of_ble_eq_true rfl) (st := [.ref 0]) (Nat.le_of_ble_eq_true rfl) (bf_dk dd_X9_seekBack 26 rfl) rfl (fun r5 h => ?_)
    refine bs_iload_n C (bf_dk dd_X9_seekBack 27 rfl) rfl ?_
    refine bs_selfPV_i C hR (c_X9_isAhead _ _ _ _ _ u4 (r5) (x3) _ h) my_X9_isAhead m_9_296 rfl cl_9 (ge_bW9_0 _) rfl (Nat.le_of_ble_eq_true rfl) (Nat.le_of_ble_eq_true rfl) (st := []) (Nat.le_of_ble_eq_true rfl) (bf_dk dd_X9_seekBack 28 rfl) rfl (fun r7 h => ?_)
    refine bs_if_ne C (bf_dk dd_X9_seekBack 29 rfl) (tgt := 56) rfl (fun c => ?_) (fun c => ?_)
    · replace h := h.1 c
      refine bs_iinc C (bf_dk dd_X9_seekBack 32 rfl) (x4 + (-1 : Int32)) rfl rfl (Nat.le_of_ble_eq_true rfl) (Nat.le_of_ble_eq_true rfl) (lv2 := [some (.ref 0), some (.int x1), some (.int x2), some (.int x3), some (.int (x4 + (-1 : Int32)))]) rfl ?_
      refine bs_goto C (bf_dk dd_X9_seekBack 33 rfl) (tgt := 23) rfl ?_
      exact bs_weak (bf_s1 (bf_s1 (bf_s1 (bf_s1 (bf_s1 bf_s0))))) (hB23 (x1) (x2) (x3) ((x4 + (-1 : Int32))) u4 h)
    · replace h := h.2 c
      refine bs_iload C (bf_dk dd_X9_seekBack 30 rfl) rfl ?_
      exact bs_iret (u := u4) C (bf_dk dd_X9_seekBack 31 rfl) rfl h
def wp_X9_seekBack_23 (S : bT9) (x1 : Int32) (x2 : Int32) (x3 : Int32) (x4 : Int32) (Q : Int32 → (bT9) → Prop) : Prop := ∃ I : Nat → Int32 → Int32 → Int32 → Int32 → (bT9) → Prop, (∃ n : Nat, I n x1 x2 x3 x4 S) ∧ ∀ (n : Nat) (x1 : Int32) (x2 : Int32) (x3 : Int32) (x4 : Int32) (S : bT9), I n x1 x2 x3 x4 S → wp_X9_seekBack_23b S x1 x2 x3 x4 Q (fun x1 x2 x3 x4 S => ∃ n2 : Nat, n2 < n ∧ I n2 x1 x2 x3 x4 S)
theorem t_X9_seekBack_23 {X : bf_X} (C : bf_C X RX9 cX9_seekBack 5 (some .int)) (hR : bf_Rm X 4 89) (S : bT9) (x1 : Int32) (x2 : Int32) (x3 : Int32) (x4 : Int32) (Q : Int32 → (bT9) → Prop) (h : wp_X9_seekBack_23 S x1 x2 x3 x4 Q) : bf_A X (bf_Zi X bW9 Q) 5 23 [some (.ref 0), some (.int x1), some (.int x2), some (.int x3), some (.int x4)] [] (bW9 S) := by
  obtain ⟨I, ⟨n0, h0⟩, hI⟩ := h
  have key : ∀ (n : Nat) (x1 : Int32) (x2 : Int32) (x3 : Int32) (x4 : Int32) (S : bT9), I n x1 x2 x3 x4 S → bf_A X (bf_Zi X bW9 Q) 5 23 [some (.ref 0), some (.int x1), some (.int x2), some (.int x3), some (.int x4)] [] (bW9 S) := by
    intro n
    induction n using Nat.strongRecOn with
    | _ n ih =>
      intro x1 x2 x3 x4 S hi
      exact t_X9_seekBack_23b C hR S x1 x2 x3 x4 Q _ (fun x1 x2 x3 x4 S hb => by obtain ⟨n2, hn, hi2⟩ := hb; exact ih n2 hn x1 x2 x3 x4 S hi2) (hI n x1 x2 x3 x4 S hi)
  exact key n0 x1 x2 x3 x4 S h0
def wp_X9_seekBack (S : bT9) (a1 : Int32) (a2 : Int32) (a3 : Int32) (Q : Int32 → (bT9) → Prop) : Prop := (∀ S9 : bT9, S9 = (b9s_told S (0 : Int32)) → (wp_X9_isKey S9 (a3) (fun r10 => ((¬ r10 = 0 → (wp_X9_leaves S9 (fun r12 u13 => (wp_X9_seekBack_23 u13 (a1) (a2) (a3) ((r12 - (1 : Int32))) Q)))) ∧ (r10 = 0 → (Q (-1 : Int32) S9))))))
set_option maxRecDepth 20000 in
theorem t_X9_seekBack {X : bf_X} (C : bf_C X RX9 cX9_seekBack 5 (some .int)) (hR : bf_Rm X 4 89) (S : bT9) (a1 : Int32) (a2 : Int32) (a3 : Int32) (Q : Int32 → (bT9) → Prop) (h : wp_X9_seekBack S a1 a2 a3 Q) : bf_A X (bf_Zi X bW9 Q) 5 0 [some (.ref 0), some (.int a1), some (.int a2), some (.int a3), none] [] (bW9 S) := by
  unfold wp_X9_seekBack at h
  refine bs_aload_n C (bf_dk dd_X9_seekBack 0 rfl) rfl ?_
  refine bs_iconst C (bf_dk dd_X9_seekBack 1 rfl) (0 : Int32) (by decide) ?_
  refine bs_put C (bf_dk dd_X9_seekBack 2 rfl) tyX9_ok nmX9 cl_9 in_9 0 (Nat.le_of_ble_eq_true rfl) rfl f_9_75 rfl (ge_bW9_0 S) (Nat.le_of_ble_eq_true rfl) rfl rfl (pu_bW9_0_0 S (0 : Int32)) ?_
  refine bs_nameS bW9 (fun S9 eS9 => ?_)
  replace h := h S9 eS9
  refine bs_aload_n C (bf_dk dd_X9_seekBack 3 rfl) rfl ?_
  refine bs_iload_n C (bf_dk dd_X9_seekBack 4 rfl) rfl ?_
  refine bs_selfPV_i C hR (c_X9_isKey _ _ _ _ _ S9 (a3) _ h) my_X9_isKey m_9_117 rfl cl_9 (ge_bW9_0 _) rfl (Nat.le_of_ble_eq_true rfl) (Nat.le_of_ble_eq_true rfl) (st := []) (Nat.le_of_ble_eq_true rfl) (bf_dk dd_X9_seekBack 5 rfl) rfl (fun r10 h => ?_)
  refine bs_if_ne C (bf_dk dd_X9_seekBack 6 rfl) (tgt := 15) rfl (fun c => ?_) (fun c => ?_)
  · replace h := h.1 c
    refine bs_aload_n C (bf_dk dd_X9_seekBack 9 rfl) rfl ?_
    refine bs_selfV_i C hR (c_X9_leaves _ _ _ _ _ S9 _ h) my_X9_leaves m_9_268 rfl cl_9 (ge_bW9_0 _) rfl (Nat.le_of_ble_eq_true rfl) (Nat.le_of_ble_eq_true rfl) (st := []) (Nat.le_of_ble_eq_true rfl) (bf_dk dd_X9_seekBack 10 rfl) rfl (len := 21) (fun _ => rfl) (fun r12 u13 h => ?_)
    refine bs_iconst C (bf_dk dd_X9_seekBack 11 rfl) (1 : Int32) (by decide) ?_
    refine bs_isub C (bf_dk dd_X9_seekBack 12 rfl) ?_
    refine bs_istore C (bf_dk dd_X9_seekBack 13 rfl) (Nat.le_of_ble_eq_true rfl) (Nat.le_of_ble_eq_true rfl) (lv2 := [some (.ref 0), some (.int a1), some (.int a2), some (.int a3), some (.int (r12 - (1 : Int32)))]) rfl ?_
    exact bs_weak (bf_s1 (bf_s1 (bf_s1 (bf_s1 (bf_s1 bf_s0))))) (t_X9_seekBack_23 C hR u13 (a1) (a2) (a3) ((r12 - (1 : Int32))) Q h)
  · replace h := h.2 c
    refine bs_iconst C (bf_dk dd_X9_seekBack 7 rfl) (-1 : Int32) (by decide) ?_
    exact bs_iret (u := S9) C (bf_dk dd_X9_seekBack 8 rfl) rfl h
theorem c_X9_seekBack (l : Launch) (dC : Nat → ClassId) (dI : Nat → Nat → Nat) (ac : Nat → ClassId) (al : Nat → Nat) (S : bT9) (a1 : Int32) (a2 : Int32) (a3 : Int32) (Q : Int32 → (bT9) → Prop) (h : wp_X9_seekBack S a1 a2 a3 Q) : bf_M l yX9_seekBack cX9_seekBack 5 (some .int) 4 89 dC dI ac al [.ref 0, .int a1, .int a2, .int a3] (bW9 S) (bf_Ki dC dI ac al bW9 Q) := by
  refine bf_start [some (.ref 0), some (.int a1), some (.int a2), some (.int a3), none] (by decide) (Nat.le_of_ble_eq_true rfl) (bf_s1 (bf_s1 (bf_s1 (bf_s1 (bf_en 1))))) ?_
  intro X hl C hR e1 e2 e3 e4
  subst e1; subst e2; subst e3; subst e4
  exact t_X9_seekBack C hR S a1 a2 a3 Q h
def wp_X9_hashOf (S : bT9) (a1 : Int32) (Q : Int32 → Prop) : Prop := (wp_X9_key S (a1) (fun r1 => (wp_X9_lengthOf S (a1) (fun r3 => (wp_X9_hashBits S (fun r5 => (wp_X9_hash S (r1) (r3) (r5) (fun r7 => (Q r7)))))))))
set_option maxRecDepth 20000 in
theorem t_X9_hashOf {X : bf_X} (C : bf_C X RX9 cX9_hashOf 2 (some .int)) (hR : bf_Rm X 2 49) (S : bT9) (a1 : Int32) (Q : Int32 → Prop) (h : wp_X9_hashOf S a1 Q) : bf_A X (bf_Zi X bW9 (fun r u => u = S ∧ Q r)) 2 0 [some (.ref 0), some (.int a1)] [] (bW9 S) := by
  unfold wp_X9_hashOf at h
  refine bs_aload_n C (bf_dk dd_X9_hashOf 0 rfl) rfl ?_
  refine bs_aload_n C (bf_dk dd_X9_hashOf 1 rfl) rfl ?_
  refine bs_iload_n C (bf_dk dd_X9_hashOf 2 rfl) rfl ?_
  refine bs_selfPV_l C hR (c_X9_key _ _ _ _ _ S (a1) _ h) my_X9_key m_9_178 rfl cl_9 (ge_bW9_0 _) rfl (Nat.le_of_ble_eq_true rfl) (Nat.le_of_ble_eq_true rfl) (st := [.ref 0]) (Nat.le_of_ble_eq_true rfl) (bf_dk dd_X9_hashOf 3 rfl) rfl (fun r1 h => ?_)
  refine bs_aload_n C (bf_dk dd_X9_hashOf 4 rfl) rfl ?_
  refine bs_iload_n C (bf_dk dd_X9_hashOf 5 rfl) rfl ?_
  refine bs_selfPV_i C hR (c_X9_lengthOf _ _ _ _ _ S (a1) _ h) my_X9_lengthOf m_9_175 rfl cl_9 (ge_bW9_0 _) rfl (Nat.le_of_ble_eq_true rfl) (Nat.le_of_ble_eq_true rfl) (st := [.long r1, .ref 0]) (Nat.le_of_ble_eq_true rfl) (bf_dk dd_X9_hashOf 6 rfl) rfl (fun r3 h => ?_)
  refine bs_aload_n C (bf_dk dd_X9_hashOf 7 rfl) rfl ?_
  refine bs_selfPV_i C hR (c_X9_hashBits _ _ _ _ _ S _ h) my_X9_hashBits m_9_310 rfl cl_9 (ge_bW9_0 _) rfl (Nat.le_of_ble_eq_true rfl) (Nat.le_of_ble_eq_true rfl) (st := [.int r3, .long r1, .ref 0]) (Nat.le_of_ble_eq_true rfl) (bf_dk dd_X9_hashOf 8 rfl) rfl (fun r5 h => ?_)
  refine bs_selfPV_i C hR (c_X9_hash _ _ _ _ _ S (r1) (r3) (r5) _ h) my_X9_hash m_9_307 rfl cl_9 (ge_bW9_0 _) rfl (Nat.le_of_ble_eq_true rfl) (Nat.le_of_ble_eq_true rfl) (st := []) (Nat.le_of_ble_eq_true rfl) (bf_dk dd_X9_hashOf 9 rfl) rfl (fun r7 h => ?_)
  exact bs_iret (u := S) C (bf_dk dd_X9_hashOf 10 rfl) rfl ⟨rfl, h⟩
theorem c_X9_hashOf (l : Launch) (dC : Nat → ClassId) (dI : Nat → Nat → Nat) (ac : Nat → ClassId) (al : Nat → Nat) (S : bT9) (a1 : Int32) (Q : Int32 → Prop) (h : wp_X9_hashOf S a1 Q) : bf_M l yX9_hashOf cX9_hashOf 2 (some .int) 2 49 dC dI ac al [.ref 0, .int a1] (bW9 S) (bf_Ki dC dI ac al bW9 (fun r u => u = S ∧ Q r)) := by
  refine bf_start [some (.ref 0), some (.int a1)] (by decide) (Nat.le_of_ble_eq_true rfl) (bf_s1 (bf_s1 bf_s0)) ?_
  intro X hl C hR e1 e2 e3 e4
  subst e1; subst e2; subst e3; subst e4
  exact t_X9_hashOf C hR S a1 Q h
def wp_X9_nodeOf_67 (S : bT9) (x1 : Int32) (x2 : Int32) (x3 : Int32) (Q : Int32 → Prop) (B28 : Int32 → Int32 → Int32 → Prop) : Prop := (B28 (x1) (x2) ((x3 + (1 : Int32))))
set_option maxRecDepth 20000 in
theorem t_X9_nodeOf_67 {X : bf_X} (C : bf_C X RX9 cX9_nodeOf 4 (some .int)) (hR : bf_Rm X 2 42) (S : bT9) (x1 : Int32) (x2 : Int32) (x3 : Int32) (Q : Int32 → Prop) (B28 : Int32 → Int32 → Int32 → Prop) (hB28 : ∀ (x1 : Int32) (x2 : Int32) (x3 : Int32), B28 x1 x2 x3 → bf_A X (bf_Zi X bW9 (fun r u => u = S ∧ Q r)) 4 28 [some (.ref 0), some (.int x1), some (.int x2), some (.int x3)] [] (bW9 S)) (h : wp_X9_nodeOf_67 S x1 x2 x3 Q B28) : bf_A X (bf_Zi X bW9 (fun r u => u = S ∧ Q r)) 4 67 [some (.ref 0), some (.int x1), some (.int x2), some (.int x3)] [] (bW9 S) := by
  unfold wp_X9_nodeOf_67 at h
  refine bs_iinc C (bf_dk dd_X9_nodeOf 41 rfl) (x3 + (1 : Int32)) rfl rfl (Nat.le_of_ble_eq_true rfl) (Nat.le_of_ble_eq_true rfl) (lv2 := [some (.ref 0), some (.int x1), some (.int x2), some (.int (x3 + (1 : Int32)))]) rfl ?_
  refine bs_goto C (bf_dk dd_X9_nodeOf 42 rfl) (tgt := 28) rfl ?_
  exact bs_weak (bf_s1 (bf_s1 (bf_s1 (bf_s1 bf_s0)))) (hB28 (x1) (x2) ((x3 + (1 : Int32))) h)
def wp_X9_nodeOf_28b (S : bT9) (x1 : Int32) (x2 : Int32) (x3 : Int32) (Q : Int32 → Prop) (B28 : Int32 → Int32 → Int32 → Prop) : Prop := (((b9g_nodeMany S) ≤ x3 → (Q (-1 : Int32))) ∧ (¬ (b9g_nodeMany S) ≤ x3 → (vp_in x3 512 ∧ ((¬ ((b9g_nodeLevel S) (x3).toNatClampNeg) = x2 → (wp_X9_nodeOf_67 S (x1) (x2) (x3) Q B28)) ∧ (((b9g_nodeLevel S) (x3).toNatClampNeg) = x2 → (vp_in x3 512 ∧ ((x1 < ((b9g_nodeLeaf S) (x3).toNatClampNeg) → (wp_X9_nodeOf_67 S (x1) (x2) (x3) Q B28)) ∧ (¬ x1 < ((b9g_nodeLeaf S) (x3).toNatClampNeg) → (wp_X9_lastOf S (x3) (fun r1 => ((r1 < x1 → (wp_X9_nodeOf_67 S (x1) (x2) (x3) Q B28)) ∧ (¬ r1 < x1 → (Q x3)))))))))))))
set_option maxRecDepth 20000 in
theorem t_X9_nodeOf_28b {X : bf_X} (C : bf_C X RX9 cX9_nodeOf 4 (some .int)) (hR : bf_Rm X 2 42) (S : bT9) (x1 : Int32) (x2 : Int32) (x3 : Int32) (Q : Int32 → Prop) (B28 : Int32 → Int32 → Int32 → Prop) (hB28 : ∀ (x1 : Int32) (x2 : Int32) (x3 : Int32), B28 x1 x2 x3 → bf_A X (bf_Zi X bW9 (fun r u => u = S ∧ Q r)) 4 28 [some (.ref 0), some (.int x1), some (.int x2), some (.int x3)] [] (bW9 S)) (h : wp_X9_nodeOf_28b S x1 x2 x3 Q B28) : bf_A X (bf_Zi X bW9 (fun r u => u = S ∧ Q r)) 4 28 [some (.ref 0), some (.int x1), some (.int x2), some (.int x3)] [] (bW9 S) := by
  unfold wp_X9_nodeOf_28b at h
  refine bs_iload_n C (bf_dk dd_X9_nodeOf 18 rfl) rfl ?_
  refine bs_aload_n C (bf_dk dd_X9_nodeOf 19 rfl) rfl ?_
  refine bs_get C (bf_dk dd_X9_nodeOf 20 rfl) cl_9 in_9 16 (Nat.le_of_ble_eq_true rfl) rfl f_9_198 (ge_bW9_0 S) rfl ?_
  refine bs_icmp_ge C (bf_dk dd_X9_nodeOf 21 rfl) (tgt := 73) rfl (fun c => ?_) (fun c => ?_)
  · replace h := h.1 c
    refine bs_iconst C (bf_dk dd_X9_nodeOf 43 rfl) (-1 : Int32) (by decide) ?_
    exact bs_iret (u := S) C (bf_dk dd_X9_nodeOf 44 rfl) rfl ⟨rfl, h⟩
  · replace h := h.2 c
    refine bs_aload_n C (bf_dk dd_X9_nodeOf 22 rfl) rfl ?_
    refine bs_get C (bf_dk dd_X9_nodeOf 23 rfl) cl_9 in_9 13 (Nat.le_of_ble_eq_true rfl) rfl f_9_32 (ge_bW9_0 S) rfl ?_
    refine bs_iload_n C (bf_dk dd_X9_nodeOf 24 rfl) rfl ?_
    obtain ⟨hi, h⟩ := h
    refine bs_iald C (bf_dk dd_X9_nodeOf 25 rfl) (ge_bW9_8 S) hi ?_
    refine bs_iload_n C (bf_dk dd_X9_nodeOf 26 rfl) rfl ?_
    refine bs_icmp_ne C (bf_dk dd_X9_nodeOf 27 rfl) (tgt := 67) rfl (fun c => ?_) (fun c => ?_)
    · replace h := h.1 c
      exact bs_weak (bf_s1 (bf_s1 (bf_s1 (bf_s1 bf_s0)))) (t_X9_nodeOf_67 C hR S (x1) (x2) (x3) Q B28 hB28 h)
    · replace h := h.2 c
      refine bs_iload_n C (bf_dk dd_X9_nodeOf 28 rfl) rfl ?_
      refine bs_aload_n C (bf_dk dd_X9_nodeOf 29 rfl) rfl ?_
      refine bs_get C (bf_dk dd_X9_nodeOf 30 rfl) cl_9 in_9 14 (Nat.le_of_ble_eq_true rfl) rfl f_9_35 (ge_bW9_0 S) rfl ?_
      refine bs_iload_n C (bf_dk dd_X9_nodeOf 31 rfl) rfl ?_
      obtain ⟨hi, h⟩ := h
      refine bs_iald C (bf_dk dd_X9_nodeOf 32 rfl) (ge_bW9_9 S) hi ?_
      refine bs_icmp_lt C (bf_dk dd_X9_nodeOf 33 rfl) (tgt := 67) rfl (fun c => ?_) (fun c => ?_)
      · replace h := h.1 c
        exact bs_weak (bf_s1 (bf_s1 (bf_s1 (bf_s1 bf_s0)))) (t_X9_nodeOf_67 C hR S (x1) (x2) (x3) Q B28 hB28 h)
      · replace h := h.2 c
        refine bs_iload_n C (bf_dk dd_X9_nodeOf 34 rfl) rfl ?_
        refine bs_aload_n C (bf_dk dd_X9_nodeOf 35 rfl) rfl ?_
        refine bs_iload_n C (bf_dk dd_X9_nodeOf 36 rfl) rfl ?_
        refine bs_selfPV_i C hR (c_X9_lastOf _ _ _ _ _ S (x3) _ h) my_X9_lastOf m_9_222 rfl cl_9 (ge_bW9_0 _) rfl (Nat.le_of_ble_eq_true rfl) (Nat.le_of_ble_eq_true rfl) (st := [.int x1]) (Nat.le_of_ble_eq_true rfl) (bf_dk dd_X9_nodeOf 37 rfl) rfl (fun r1 h => ?_)
        refine bs_icmp_gt C (bf_dk dd_X9_nodeOf 38 rfl) (tgt := 67) rfl (fun c => ?_) (fun c => ?_)
        · replace h := h.1 c
          exact bs_weak (bf_s1 (bf_s1 (bf_s1 (bf_s1 bf_s0)))) (t_X9_nodeOf_67 C hR S (x1) (x2) (x3) Q B28 hB28 h)
        · replace h := h.2 c
          refine bs_iload_n C (bf_dk dd_X9_nodeOf 39 rfl) rfl ?_
          exact bs_iret (u := S) C (bf_dk dd_X9_nodeOf 40 rfl) rfl ⟨rfl, h⟩
def wp_X9_nodeOf_28 (S : bT9) (x1 : Int32) (x2 : Int32) (x3 : Int32) (Q : Int32 → Prop) : Prop := ∃ I : Nat → Int32 → Int32 → Int32 → Prop, (∃ n : Nat, I n x1 x2 x3) ∧ ∀ (n : Nat) (x1 : Int32) (x2 : Int32) (x3 : Int32), I n x1 x2 x3 → wp_X9_nodeOf_28b S x1 x2 x3 Q (fun x1 x2 x3 => ∃ n2 : Nat, n2 < n ∧ I n2 x1 x2 x3)
theorem t_X9_nodeOf_28 {X : bf_X} (C : bf_C X RX9 cX9_nodeOf 4 (some .int)) (hR : bf_Rm X 2 42) (S : bT9) (x1 : Int32) (x2 : Int32) (x3 : Int32) (Q : Int32 → Prop) (h : wp_X9_nodeOf_28 S x1 x2 x3 Q) : bf_A X (bf_Zi X bW9 (fun r u => u = S ∧ Q r)) 4 28 [some (.ref 0), some (.int x1), some (.int x2), some (.int x3)] [] (bW9 S) := by
  obtain ⟨I, ⟨n0, h0⟩, hI⟩ := h
  have key : ∀ (n : Nat) (x1 : Int32) (x2 : Int32) (x3 : Int32), I n x1 x2 x3 → bf_A X (bf_Zi X bW9 (fun r u => u = S ∧ Q r)) 4 28 [some (.ref 0), some (.int x1), some (.int x2), some (.int x3)] [] (bW9 S) := by
    intro n
    induction n using Nat.strongRecOn with
    | _ n ih =>
      intro x1 x2 x3 hi
      exact t_X9_nodeOf_28b C hR S x1 x2 x3 Q _ (fun x1 x2 x3 hb => by obtain ⟨n2, hn, hi2⟩ := hb; exact ih n2 hn x1 x2 x3 hi2) (hI n x1 x2 x3 hi)
  exact key n0 x1 x2 x3 h0
def wp_X9_nodeOf_25 (S : bT9) (x1 : Int32) (t0 : Int32) (Q : Int32 → Prop) : Prop := (wp_X9_nodeOf_28 S (x1) (t0) ((0 : Int32)) Q)
set_option maxRecDepth 20000 in
theorem t_X9_nodeOf_25 {X : bf_X} (C : bf_C X RX9 cX9_nodeOf 4 (some .int)) (hR : bf_Rm X 2 42) (S : bT9) (x1 : Int32) (t0 : Int32) (Q : Int32 → Prop) (h : wp_X9_nodeOf_25 S x1 t0 Q) : bf_A X (bf_Zi X bW9 (fun r u => u = S ∧ Q r)) 4 25 [some (.ref 0), some (.int x1), none, none] [.int t0] (bW9 S) := by
  unfold wp_X9_nodeOf_25 at h
  refine bs_istore_n C (bf_dk dd_X9_nodeOf 15 rfl) rfl (Nat.le_of_ble_eq_true rfl) (Nat.le_of_ble_eq_true rfl) (lv2 := [some (.ref 0), some (.int x1), some (.int t0), none]) rfl ?_
  refine bs_iconst C (bf_dk dd_X9_nodeOf 16 rfl) (0 : Int32) (by decide) ?_
  refine bs_istore_n C (bf_dk dd_X9_nodeOf 17 rfl) rfl (Nat.le_of_ble_eq_true rfl) (Nat.le_of_ble_eq_true rfl) (lv2 := [some (.ref 0), some (.int x1), some (.int t0), some (.int (0 : Int32))]) rfl ?_
  exact bs_weak (bf_s1 (bf_s1 (bf_s1 (bf_s1 bf_s0)))) (t_X9_nodeOf_28 C hR S (x1) (t0) ((0 : Int32)) Q h)
def wp_X9_nodeOf (S : bT9) (a1 : Int32) (Q : Int32 → Prop) : Prop := (wp_X9_isEnded S (a1) (fun r3 => ((r3 = 0 → (vp_in a1 64 ∧ (wp_X9_nodeOf_25 S (a1) ((((b9g_beginning S) (a1).toNatClampNeg) - (1 : Int32))) Q))) ∧ (¬ r3 = 0 → (vp_in a1 64 ∧ (wp_X9_nodeOf_25 S (a1) (((b9g_beginning S) (a1).toNatClampNeg)) Q))))))
set_option maxRecDepth 20000 in
theorem t_X9_nodeOf {X : bf_X} (C : bf_C X RX9 cX9_nodeOf 4 (some .int)) (hR : bf_Rm X 2 42) (S : bT9) (a1 : Int32) (Q : Int32 → Prop) (h : wp_X9_nodeOf S a1 Q) : bf_A X (bf_Zi X bW9 (fun r u => u = S ∧ Q r)) 4 0 [some (.ref 0), some (.int a1), none, none] [] (bW9 S) := by
  unfold wp_X9_nodeOf at h
  refine bs_aload_n C (bf_dk dd_X9_nodeOf 0 rfl) rfl ?_
  refine bs_iload_n C (bf_dk dd_X9_nodeOf 1 rfl) rfl ?_
  refine bs_selfPV_i C hR (c_X9_isEnded _ _ _ _ _ S (a1) _ h) my_X9_isEnded m_9_283 rfl cl_9 (ge_bW9_0 _) rfl (Nat.le_of_ble_eq_true rfl) (Nat.le_of_ble_eq_true rfl) (st := []) (Nat.le_of_ble_eq_true rfl) (bf_dk dd_X9_nodeOf 2 rfl) rfl (fun r3 h => ?_)
  refine bs_if_eq C (bf_dk dd_X9_nodeOf 3 rfl) (tgt := 17) rfl (fun c => ?_) (fun c => ?_)
  · replace h := h.1 c
    refine bs_aload_n C (bf_dk dd_X9_nodeOf 9 rfl) rfl ?_
    refine bs_get C (bf_dk dd_X9_nodeOf 10 rfl) cl_9 in_9 11 (Nat.le_of_ble_eq_true rfl) rfl f_9_29 (ge_bW9_0 S) rfl ?_
    refine bs_iload_n C (bf_dk dd_X9_nodeOf 11 rfl) rfl ?_
    obtain ⟨hi, h⟩ := h
    refine bs_iald C (bf_dk dd_X9_nodeOf 12 rfl) (ge_bW9_7 S) hi ?_
    refine bs_iconst C (bf_dk dd_X9_nodeOf 13 rfl) (1 : Int32) (by decide) ?_
    refine bs_isub C (bf_dk dd_X9_nodeOf 14 rfl) ?_
    exact bs_weak (bf_s1 (bf_s1 (bf_sn (bf_sn bf_s0)))) (t_X9_nodeOf_25 C hR S (a1) ((((b9g_beginning S) (a1).toNatClampNeg) - (1 : Int32))) Q h)
  · replace h := h.2 c
    refine bs_aload_n C (bf_dk dd_X9_nodeOf 4 rfl) rfl ?_
    refine bs_get C (bf_dk dd_X9_nodeOf 5 rfl) cl_9 in_9 11 (Nat.le_of_ble_eq_true rfl) rfl f_9_29 (ge_bW9_0 S) rfl ?_
    refine bs_iload_n C (bf_dk dd_X9_nodeOf 6 rfl) rfl ?_
    obtain ⟨hi, h⟩ := h
    refine bs_iald C (bf_dk dd_X9_nodeOf 7 rfl) (ge_bW9_7 S) hi ?_
    refine bs_goto C (bf_dk dd_X9_nodeOf 8 rfl) (tgt := 25) rfl ?_
    exact bs_weak (bf_s1 (bf_s1 (bf_sn (bf_sn bf_s0)))) (t_X9_nodeOf_25 C hR S (a1) (((b9g_beginning S) (a1).toNatClampNeg)) Q h)
theorem c_X9_nodeOf (l : Launch) (dC : Nat → ClassId) (dI : Nat → Nat → Nat) (ac : Nat → ClassId) (al : Nat → Nat) (S : bT9) (a1 : Int32) (Q : Int32 → Prop) (h : wp_X9_nodeOf S a1 Q) : bf_M l yX9_nodeOf cX9_nodeOf 4 (some .int) 2 42 dC dI ac al [.ref 0, .int a1] (bW9 S) (bf_Ki dC dI ac al bW9 (fun r u => u = S ∧ Q r)) := by
  refine bf_start [some (.ref 0), some (.int a1), none, none] (by decide) (Nat.le_of_ble_eq_true rfl) (bf_s1 (bf_s1 (bf_en 2))) ?_
  intro X hl C hR e1 e2 e3 e4
  subst e1; subst e2; subst e3; subst e4
  exact t_X9_nodeOf C hR S a1 Q h
def wp_X9_leaf (S : bT9) (a1 : Int32) (a2 : Int32) (Q : Int32 → (bT9) → Prop) : Prop := (∀ S1 : bT9, S1 = (b9s_told S (0 : Int32)) → (wp_X9_isLeaf S1 (a1) (fun r2 u3 => ((¬ r2 = 0 → (wp_X9_laysNodes u3 (fun u5 => ((¬ a2 = 0 → ((¬ a2 = (1 : Int32) → ((¬ a2 = (2 : Int32) → ((¬ a2 = (3 : Int32) → ((¬ a2 = (4 : Int32) → ((¬ a2 = (5 : Int32) → ((¬ a2 = (6 : Int32) → (vp_in a1 64 ∧ (wp_X9_isIn u5 (a2) ((10 : Int32)) (((9 : Int32) + ((b9g_beginning u5) (a1).toNatClampNeg))) (fun r6 => ((r6 = 0 → (Q (-1 : Int32) u5)) ∧ (¬ r6 = 0 → (wp_X9_key u5 (a1) (fun r8 => (wp_X9_byteOf u5 (r8) ((a2 - (10 : Int32))) (fun r10 => (Q r10 u5))))))))))) ∧ (a2 = (6 : Int32) → (vp_in a1 64 ∧ (Q ((b9g_common u5) (a1).toNatClampNeg) u5))))) ∧ (a2 = (5 : Int32) → (wp_X9_nodeOf u5 (a1) (fun r12 => (Q r12 u5)))))) ∧ (a2 = (4 : Int32) → (vp_in a1 64 ∧ (Q ((b9g_placeOf u5) (a1).toNatClampNeg) u5))))) ∧ (a2 = (3 : Int32) → (wp_X9_key u5 (a1) (fun r14 => (vp_in a1 64 ∧ (wp_X9_nextBits u5 (fun r16 => (wp_X9_nextOf u5 (r14) (((b9g_beginning u5) (a1).toNatClampNeg)) (r16) (fun r18 => (Q r18 u5))))))))))) ∧ (a2 = (2 : Int32) → (wp_X9_hashOf u5 (a1) (fun r20 => (Q r20 u5)))))) ∧ (a2 = (1 : Int32) → (wp_X9_isEnded u5 (a1) (fun r22 => ((r22 = 0 → (Q (0 : Int32) u5)) ∧ (¬ r22 = 0 → (Q (1 : Int32) u5)))))))) ∧ (a2 = 0 → (vp_in a1 64 ∧ (Q ((b9g_beginning u5) (a1).toNatClampNeg) u5))))))) ∧ (r2 = 0 → (Q (-1 : Int32) u3))))))
set_option maxRecDepth 20000 in
theorem t_X9_leaf {X : bf_X} (C : bf_C X RX9 cX9_leaf 3 (some .int)) (hR : bf_Rm X 8 182) (S : bT9) (a1 : Int32) (a2 : Int32) (Q : Int32 → (bT9) → Prop) (h : wp_X9_leaf S a1 a2 Q) : bf_A X (bf_Zi X bW9 Q) 3 0 [some (.ref 0), some (.int a1), some (.int a2)] [] (bW9 S) := by
  unfold wp_X9_leaf at h
  refine bs_aload_n C (bf_dk dd_X9_leaf 0 rfl) rfl ?_
  refine bs_iconst C (bf_dk dd_X9_leaf 1 rfl) (0 : Int32) (by decide) ?_
  refine bs_put C (bf_dk dd_X9_leaf 2 rfl) tyX9_ok nmX9 cl_9 in_9 0 (Nat.le_of_ble_eq_true rfl) rfl f_9_75 rfl (ge_bW9_0 S) (Nat.le_of_ble_eq_true rfl) rfl rfl (pu_bW9_0_0 S (0 : Int32)) ?_
  refine bs_nameS bW9 (fun S1 eS1 => ?_)
  replace h := h S1 eS1
  refine bs_aload_n C (bf_dk dd_X9_leaf 3 rfl) rfl ?_
  refine bs_iload_n C (bf_dk dd_X9_leaf 4 rfl) rfl ?_
  refine bs_selfV_i C hR (c_X9_isLeaf _ _ _ _ _ S1 (a1) _ h) my_X9_isLeaf m_9_363 rfl cl_9 (ge_bW9_0 _) rfl (Nat.le_of_ble_eq_true rfl) (Nat.le_of_ble_eq_true rfl) (st := []) (Nat.le_of_ble_eq_true rfl) (bf_dk dd_X9_leaf 5 rfl) rfl (len := 21) (fun _ => rfl) (fun r2 u3 h => ?_)
  refine bs_if_ne C (bf_dk dd_X9_leaf 6 rfl) (tgt := 15) rfl (fun c => ?_) (fun c => ?_)
  · replace h := h.1 c
    refine bs_aload_n C (bf_dk dd_X9_leaf 9 rfl) rfl ?_
    refine bs_selfV_v C hR (c_X9_laysNodes _ _ _ _ _ u3 _ h) my_X9_laysNodes m_9_262 rfl cl_9 (ge_bW9_0 _) rfl (Nat.le_of_ble_eq_true rfl) (Nat.le_of_ble_eq_true rfl) (st := []) (Nat.le_of_ble_eq_true rfl) (bf_dk dd_X9_leaf 10 rfl) rfl (len := 21) (fun _ => rfl) (fun u5 h => ?_)
    refine bs_iload_n C (bf_dk dd_X9_leaf 11 rfl) rfl ?_
    refine bs_if_ne C (bf_dk dd_X9_leaf 12 rfl) (tgt := 30) rfl (fun c => ?_) (fun c => ?_)
    · replace h := h.1 c
      refine bs_iload_n C (bf_dk dd_X9_leaf 18 rfl) rfl ?_
      refine bs_iconst C (bf_dk dd_X9_leaf 19 rfl) (1 : Int32) (by decide) ?_
      refine bs_icmp_ne C (bf_dk dd_X9_leaf 20 rfl) (tgt := 49) rfl (fun c => ?_) (fun c => ?_)
      · replace h := h.1 c
        refine bs_iload_n C (bf_dk dd_X9_leaf 29 rfl) rfl ?_
        refine bs_iconst C (bf_dk dd_X9_leaf 30 rfl) (2 : Int32) (by decide) ?_
        refine bs_icmp_ne C (bf_dk dd_X9_leaf 31 rfl) (tgt := 60) rfl (fun c => ?_) (fun c => ?_)
        · replace h := h.1 c
          refine bs_iload_n C (bf_dk dd_X9_leaf 36 rfl) rfl ?_
          refine bs_iconst C (bf_dk dd_X9_leaf 37 rfl) (3 : Int32) (by decide) ?_
          refine bs_icmp_ne C (bf_dk dd_X9_leaf 38 rfl) (tgt := 85) rfl (fun c => ?_) (fun c => ?_)
          · replace h := h.1 c
            refine bs_iload_n C (bf_dk dd_X9_leaf 51 rfl) rfl ?_
            refine bs_iconst C (bf_dk dd_X9_leaf 52 rfl) (4 : Int32) (by decide) ?_
            refine bs_icmp_ne C (bf_dk dd_X9_leaf 53 rfl) (tgt := 97) rfl (fun c => ?_) (fun c => ?_)
            · replace h := h.1 c
              refine bs_iload_n C (bf_dk dd_X9_leaf 59 rfl) rfl ?_
              refine bs_iconst C (bf_dk dd_X9_leaf 60 rfl) (5 : Int32) (by decide) ?_
              refine bs_icmp_ne C (bf_dk dd_X9_leaf 61 rfl) (tgt := 108) rfl (fun c => ?_) (fun c => ?_)
              · replace h := h.1 c
                refine bs_iload_n C (bf_dk dd_X9_leaf 66 rfl) rfl ?_
                refine bs_bipush C (bf_dk dd_X9_leaf 67 rfl) (6 : Int32) (by decide) ?_
                refine bs_icmp_ne C (bf_dk dd_X9_leaf 68 rfl) (tgt := 121) rfl (fun c => ?_) (fun c => ?_)
                · replace h := h.1 c
                  refine bs_aload_n C (bf_dk dd_X9_leaf 74 rfl) rfl ?_
                  refine bs_iload_n C (bf_dk dd_X9_leaf 75 rfl) rfl ?_
                  refine bs_bipush C (bf_dk dd_X9_leaf 76 rfl) (10 : Int32) (by decide) ?_
                  refine bs_bipush C (bf_dk dd_X9_leaf 77 rfl) (9 : Int32) (by decide) ?_
                  refine bs_aload_n C (bf_dk dd_X9_leaf 78 rfl) rfl ?_
                  refine bs_get C (bf_dk dd_X9_leaf 79 rfl) cl_9 in_9 11 (Nat.le_of_ble_eq_true rfl) rfl f_9_29 (ge_bW9_0 u5) rfl ?_
                  refine bs_iload_n C (bf_dk dd_X9_leaf 80 rfl) rfl ?_
                  obtain ⟨hi, h⟩ := h
                  refine bs_iald C (bf_dk dd_X9_leaf 81 rfl) (ge_bW9_7 u5) hi ?_
                  refine bs_iadd C (bf_dk dd_X9_leaf 82 rfl) ?_
                  refine bs_selfPV_i C hR (c_X9_isIn _ _ _ _ _ u5 (a2) ((10 : Int32)) (((9 : Int32) + ((b9g_beginning u5) (a1).toNatClampNeg))) _ h) my_X9_isIn m_9_82 rfl cl_9 (ge_bW9_0 _) rfl (Nat.le_of_ble_eq_true rfl) (Nat.le_of_ble_eq_true rfl) (st := []) (Nat.le_of_ble_eq_true rfl) (bf_dk dd_X9_leaf 83 rfl) rfl (fun r6 h => ?_)
                  refine bs_if_eq C (bf_dk dd_X9_leaf 84 rfl) (tgt := 156) rfl (fun c => ?_) (fun c => ?_)
                  · replace h := h.1 c
                    refine bs_iconst C (bf_dk dd_X9_leaf 94 rfl) (-1 : Int32) (by decide) ?_
                    exact bs_iret (u := u5) C (bf_dk dd_X9_leaf 95 rfl) rfl h
                  · replace h := h.2 c
                    refine bs_aload_n C (bf_dk dd_X9_leaf 85 rfl) rfl ?_
                    refine bs_aload_n C (bf_dk dd_X9_leaf 86 rfl) rfl ?_
                    refine bs_iload_n C (bf_dk dd_X9_leaf 87 rfl) rfl ?_
                    refine bs_selfPV_l C hR (c_X9_key _ _ _ _ _ u5 (a1) _ h) my_X9_key m_9_178 rfl cl_9 (ge_bW9_0 _) rfl (Nat.le_of_ble_eq_true rfl) (Nat.le_of_ble_eq_true rfl) (st := [.ref 0]) (Nat.le_of_ble_eq_true rfl) (bf_dk dd_X9_leaf 88 rfl) rfl (fun r8 h => ?_)
                    refine bs_iload_n C (bf_dk dd_X9_leaf 89 rfl) rfl ?_
                    refine bs_bipush C (bf_dk dd_X9_leaf 90 rfl) (10 : Int32) (by decide) ?_
                    refine bs_isub C (bf_dk dd_X9_leaf 91 rfl) ?_
                    refine bs_selfPV_i C hR (c_X9_byteOf _ _ _ _ _ u5 (r8) ((a2 - (10 : Int32))) _ h) my_X9_byteOf m_9_181 rfl cl_9 (ge_bW9_0 _) rfl (Nat.le_of_ble_eq_true rfl) (Nat.le_of_ble_eq_true rfl) (st := []) (Nat.le_of_ble_eq_true rfl) (bf_dk dd_X9_leaf 92 rfl) rfl (fun r10 h => ?_)
                    refine bs_goto C (bf_dk dd_X9_leaf 93 rfl) (tgt := 157) rfl ?_
                    exact bs_iret (u := u5) C (bf_dk dd_X9_leaf 95 rfl) rfl h
                · replace h := h.2 c
                  refine bs_aload_n C (bf_dk dd_X9_leaf 69 rfl) rfl ?_
                  refine bs_get C (bf_dk dd_X9_leaf 70 rfl) cl_9 in_9 10 (Nat.le_of_ble_eq_true rfl) rfl f_9_26 (ge_bW9_0 u5) rfl ?_
                  refine bs_iload_n C (bf_dk dd_X9_leaf 71 rfl) rfl ?_
                  obtain ⟨hi, h⟩ := h
                  refine bs_iald C (bf_dk dd_X9_leaf 72 rfl) (ge_bW9_6 u5) hi ?_
                  exact bs_iret (u := u5) C (bf_dk dd_X9_leaf 73 rfl) rfl h
              · replace h := h.2 c
                refine bs_aload_n C (bf_dk dd_X9_leaf 62 rfl) rfl ?_
                refine bs_iload_n C (bf_dk dd_X9_leaf 63 rfl) rfl ?_
                refine bs_selfPV_i C hR (c_X9_nodeOf _ _ _ _ _ u5 (a1) _ h) my_X9_nodeOf m_9_369 rfl cl_9 (ge_bW9_0 _) rfl (Nat.le_of_ble_eq_true rfl) (Nat.le_of_ble_eq_true rfl) (st := []) (Nat.le_of_ble_eq_true rfl) (bf_dk dd_X9_leaf 64 rfl) rfl (fun r12 h => ?_)
                exact bs_iret (u := u5) C (bf_dk dd_X9_leaf 65 rfl) rfl h
            · replace h := h.2 c
              refine bs_aload_n C (bf_dk dd_X9_leaf 54 rfl) rfl ?_
              refine bs_get C (bf_dk dd_X9_leaf 55 rfl) cl_9 in_9 25 (Nat.le_of_ble_eq_true rfl) rfl f_9_50 (ge_bW9_0 u5) rfl ?_
              refine bs_iload_n C (bf_dk dd_X9_leaf 56 rfl) rfl ?_
              obtain ⟨hi, h⟩ := h
              refine bs_iald C (bf_dk dd_X9_leaf 57 rfl) (ge_bW9_14 u5) hi ?_
              exact bs_iret (u := u5) C (bf_dk dd_X9_leaf 58 rfl) rfl h
          · replace h := h.2 c
            refine bs_aload_n C (bf_dk dd_X9_leaf 39 rfl) rfl ?_
            refine bs_aload_n C (bf_dk dd_X9_leaf 40 rfl) rfl ?_
            refine bs_iload_n C (bf_dk dd_X9_leaf 41 rfl) rfl ?_
            refine bs_selfPV_l C hR (c_X9_key _ _ _ _ _ u5 (a1) _ h) my_X9_key m_9_178 rfl cl_9 (ge_bW9_0 _) rfl (Nat.le_of_ble_eq_true rfl) (Nat.le_of_ble_eq_true rfl) (st := [.ref 0]) (Nat.le_of_ble_eq_true rfl) (bf_dk dd_X9_leaf 42 rfl) rfl (fun r14 h => ?_)
            refine bs_aload_n C (bf_dk dd_X9_leaf 43 rfl) rfl ?_
            refine bs_get C (bf_dk dd_X9_leaf 44 rfl) cl_9 in_9 11 (Nat.le_of_ble_eq_true rfl) rfl f_9_29 (ge_bW9_0 u5) rfl ?_
            refine bs_iload_n C (bf_dk dd_X9_leaf 45 rfl) rfl ?_
            obtain ⟨hi, h⟩ := h
            refine bs_iald C (bf_dk dd_X9_leaf 46 rfl) (ge_bW9_7 u5) hi ?_
            refine bs_aload_n C (bf_dk dd_X9_leaf 47 rfl) rfl ?_
            refine bs_selfPV_i C hR (c_X9_nextBits _ _ _ _ _ u5 _ h) my_X9_nextBits m_9_313 rfl cl_9 (ge_bW9_0 _) rfl (Nat.le_of_ble_eq_true rfl) (Nat.le_of_ble_eq_true rfl) (st := [.int ((b9g_beginning u5) (a1).toNatClampNeg), .long r14, .ref 0]) (Nat.le_of_ble_eq_true rfl) (bf_dk dd_X9_leaf 48 rfl) rfl (fun r16 h => ?_)
            refine bs_selfPV_i C hR (c_X9_nextOf _ _ _ _ _ u5 (r14) (((b9g_beginning u5) (a1).toNatClampNeg)) (r16) _ h) my_X9_nextOf m_9_286 rfl cl_9 (ge_bW9_0 _) rfl (Nat.le_of_ble_eq_true rfl) (Nat.le_of_ble_eq_true rfl) (st := []) (Nat.le_of_ble_eq_true rfl) (bf_dk dd_X9_leaf 49 rfl) rfl (fun r18 h => ?_)
            exact bs_iret (u := u5) C (bf_dk dd_X9_leaf 50 rfl) rfl h
        · replace h := h.2 c
          refine bs_aload_n C (bf_dk dd_X9_leaf 32 rfl) rfl ?_
          refine bs_iload_n C (bf_dk dd_X9_leaf 33 rfl) rfl ?_
          refine bs_selfPV_i C hR (c_X9_hashOf _ _ _ _ _ u5 (a1) _ h) my_X9_hashOf m_9_366 rfl cl_9 (ge_bW9_0 _) rfl (Nat.le_of_ble_eq_true rfl) (Nat.le_of_ble_eq_true rfl) (st := []) (Nat.le_of_ble_eq_true rfl) (bf_dk dd_X9_leaf 34 rfl) rfl (fun r20 h => ?_)
          exact bs_iret (u := u5) C (bf_dk dd_X9_leaf 35 rfl) rfl h
      · replace h := h.2 c
        refine bs_aload_n C (bf_dk dd_X9_leaf 21 rfl) rfl ?_
        refine bs_iload_n C (bf_dk dd_X9_leaf 22 rfl) rfl ?_
        refine bs_selfPV_i C hR (c_X9_isEnded _ _ _ _ _ u5 (a1) _ h) my_X9_isEnded m_9_283 rfl cl_9 (ge_bW9_0 _) rfl (Nat.le_of_ble_eq_true rfl) (Nat.le_of_ble_eq_true rfl) (st := []) (Nat.le_of_ble_eq_true rfl) (bf_dk dd_X9_leaf 23 rfl) rfl (fun r22 h => ?_)
        refine bs_if_eq C (bf_dk dd_X9_leaf 24 rfl) (tgt := 47) rfl (fun c => ?_) (fun c => ?_)
        · replace h := h.1 c
          refine bs_iconst C (bf_dk dd_X9_leaf 27 rfl) (0 : Int32) (by decide) ?_
          exact bs_iret (u := u5) C (bf_dk dd_X9_leaf 28 rfl) rfl h
        · replace h := h.2 c
          refine bs_iconst C (bf_dk dd_X9_leaf 25 rfl) (1 : Int32) (by decide) ?_
          refine bs_goto C (bf_dk dd_X9_leaf 26 rfl) (tgt := 48) rfl ?_
          exact bs_iret (u := u5) C (bf_dk dd_X9_leaf 28 rfl) rfl h
    · replace h := h.2 c
      refine bs_aload_n C (bf_dk dd_X9_leaf 13 rfl) rfl ?_
      refine bs_get C (bf_dk dd_X9_leaf 14 rfl) cl_9 in_9 11 (Nat.le_of_ble_eq_true rfl) rfl f_9_29 (ge_bW9_0 u5) rfl ?_
      refine bs_iload_n C (bf_dk dd_X9_leaf 15 rfl) rfl ?_
      obtain ⟨hi, h⟩ := h
      refine bs_iald C (bf_dk dd_X9_leaf 16 rfl) (ge_bW9_7 u5) hi ?_
      exact bs_iret (u := u5) C (bf_dk dd_X9_leaf 17 rfl) rfl h
  · replace h := h.2 c
    refine bs_iconst C (bf_dk dd_X9_leaf 7 rfl) (-1 : Int32) (by decide) ?_
    exact bs_iret (u := u3) C (bf_dk dd_X9_leaf 8 rfl) rfl h
theorem c_X9_leaf (l : Launch) (dC : Nat → ClassId) (dI : Nat → Nat → Nat) (ac : Nat → ClassId) (al : Nat → Nat) (S : bT9) (a1 : Int32) (a2 : Int32) (Q : Int32 → (bT9) → Prop) (h : wp_X9_leaf S a1 a2 Q) : bf_M l yX9_leaf cX9_leaf 3 (some .int) 8 182 dC dI ac al [.ref 0, .int a1, .int a2] (bW9 S) (bf_Ki dC dI ac al bW9 Q) := by
  refine bf_start [some (.ref 0), some (.int a1), some (.int a2)] (by decide) (Nat.le_of_ble_eq_true rfl) (bf_s1 (bf_s1 (bf_s1 bf_s0))) ?_
  intro X hl C hR e1 e2 e3 e4
  subst e1; subst e2; subst e3; subst e4
  exact t_X9_leaf C hR S a1 a2 Q h
def wp_X9_leafAt (S : bT9) (a1 : Int32) (Q : Int32 → (bT9) → Prop) : Prop := (∀ S1 : bT9, S1 = (b9s_told S (0 : Int32)) → (wp_X9_laysNodes S1 (fun u3 => (wp_X9_isLeaf u3 (a1) (fun r4 u5 => ((r4 = 0 → (Q (-1 : Int32) u5)) ∧ (¬ r4 = 0 → (vp_in a1 64 ∧ (Q ((b9g_leafOfPlace u5) (a1).toNatClampNeg) u5)))))))))
set_option maxRecDepth 20000 in
theorem t_X9_leafAt {X : bf_X} (C : bf_C X RX9 cX9_leafAt 2 (some .int)) (hR : bf_Rm X 8 182) (S : bT9) (a1 : Int32) (Q : Int32 → (bT9) → Prop) (h : wp_X9_leafAt S a1 Q) : bf_A X (bf_Zi X bW9 Q) 2 0 [some (.ref 0), some (.int a1)] [] (bW9 S) := by
  unfold wp_X9_leafAt at h
  refine bs_aload_n C (bf_dk dd_X9_leafAt 0 rfl) rfl ?_
  refine bs_iconst C (bf_dk dd_X9_leafAt 1 rfl) (0 : Int32) (by decide) ?_
  refine bs_put C (bf_dk dd_X9_leafAt 2 rfl) tyX9_ok nmX9 cl_9 in_9 0 (Nat.le_of_ble_eq_true rfl) rfl f_9_75 rfl (ge_bW9_0 S) (Nat.le_of_ble_eq_true rfl) rfl rfl (pu_bW9_0_0 S (0 : Int32)) ?_
  refine bs_nameS bW9 (fun S1 eS1 => ?_)
  replace h := h S1 eS1
  refine bs_aload_n C (bf_dk dd_X9_leafAt 3 rfl) rfl ?_
  refine bs_selfV_v C hR (c_X9_laysNodes _ _ _ _ _ S1 _ h) my_X9_laysNodes m_9_262 rfl cl_9 (ge_bW9_0 _) rfl (Nat.le_of_ble_eq_true rfl) (Nat.le_of_ble_eq_true rfl) (st := []) (Nat.le_of_ble_eq_true rfl) (bf_dk dd_X9_leafAt 4 rfl) rfl (len := 21) (fun _ => rfl) (fun u3 h => ?_)
  refine bs_aload_n C (bf_dk dd_X9_leafAt 5 rfl) rfl ?_
  refine bs_iload_n C (bf_dk dd_X9_leafAt 6 rfl) rfl ?_
  refine bs_selfV_i C hR (c_X9_isLeaf _ _ _ _ _ u3 (a1) _ h) my_X9_isLeaf m_9_363 rfl cl_9 (ge_bW9_0 _) rfl (Nat.le_of_ble_eq_true rfl) (Nat.le_of_ble_eq_true rfl) (st := []) (Nat.le_of_ble_eq_true rfl) (bf_dk dd_X9_leafAt 7 rfl) rfl (len := 21) (fun _ => rfl) (fun r4 u5 h => ?_)
  refine bs_if_eq C (bf_dk dd_X9_leafAt 8 rfl) (tgt := 26) rfl (fun c => ?_) (fun c => ?_)
  · replace h := h.1 c
    refine bs_iconst C (bf_dk dd_X9_leafAt 14 rfl) (-1 : Int32) (by decide) ?_
    exact bs_iret (u := u5) C (bf_dk dd_X9_leafAt 15 rfl) rfl h
  · replace h := h.2 c
    refine bs_aload_n C (bf_dk dd_X9_leafAt 9 rfl) rfl ?_
    refine bs_get C (bf_dk dd_X9_leafAt 10 rfl) cl_9 in_9 26 (Nat.le_of_ble_eq_true rfl) rfl f_9_53 (ge_bW9_0 u5) rfl ?_
    refine bs_iload_n C (bf_dk dd_X9_leafAt 11 rfl) rfl ?_
    obtain ⟨hi, h⟩ := h
    refine bs_iald C (bf_dk dd_X9_leafAt 12 rfl) (ge_bW9_15 u5) hi ?_
    refine bs_goto C (bf_dk dd_X9_leafAt 13 rfl) (tgt := 27) rfl ?_
    exact bs_iret (u := u5) C (bf_dk dd_X9_leafAt 15 rfl) rfl h
theorem c_X9_leafAt (l : Launch) (dC : Nat → ClassId) (dI : Nat → Nat → Nat) (ac : Nat → ClassId) (al : Nat → Nat) (S : bT9) (a1 : Int32) (Q : Int32 → (bT9) → Prop) (h : wp_X9_leafAt S a1 Q) : bf_M l yX9_leafAt cX9_leafAt 2 (some .int) 8 182 dC dI ac al [.ref 0, .int a1] (bW9 S) (bf_Ki dC dI ac al bW9 Q) := by
  refine bf_start [some (.ref 0), some (.int a1)] (by decide) (Nat.le_of_ble_eq_true rfl) (bf_s1 (bf_s1 bf_s0)) ?_
  intro X hl C hR e1 e2 e3 e4
  subst e1; subst e2; subst e3; subst e4
  exact t_X9_leafAt C hR S a1 Q h
def wp_X9_node (S : bT9) (a1 : Int32) (a2 : Int32) (Q : Int32 → (bT9) → Prop) : Prop := (∀ S1 : bT9, S1 = (b9s_told S (0 : Int32)) → (wp_X9_isNode S1 (a1) (fun r2 u3 => ((¬ r2 = 0 → ((¬ a2 = 0 → ((¬ a2 = (1 : Int32) → ((¬ a2 = (2 : Int32) → ((¬ a2 = (3 : Int32) → ((¬ a2 = (4 : Int32) → ((¬ a2 = (5 : Int32) → ((¬ a2 = (6 : Int32) → (Q (-1 : Int32) u3)) ∧ (a2 = (6 : Int32) → (vp_in a1 512 ∧ (Q ((b9g_nodeLeaves u3) (a1).toNatClampNeg) u3))))) ∧ (a2 = (5 : Int32) → (vp_in a1 512 ∧ (Q ((b9g_nodeLeaf u3) (a1).toNatClampNeg) u3))))) ∧ (a2 = (4 : Int32) → (((b9g_upperNodes u3) ≤ a1 → (Q (0 : Int32) u3)) ∧ (¬ (b9g_upperNodes u3) ≤ a1 → (Q (1 : Int32) u3)))))) ∧ (a2 = (3 : Int32) → (wp_X9_isNodeEnd u3 (a1) (fun r4 => ((r4 = 0 → (Q (0 : Int32) u3)) ∧ (¬ r4 = 0 → (Q (1 : Int32) u3)))))))) ∧ (a2 = (2 : Int32) → (wp_X9_kidMany u3 (a1) (fun r6 => (Q r6 u3)))))) ∧ (a2 = (1 : Int32) → (wp_X9_branchMany u3 (a1) (fun r8 => (Q r8 u3)))))) ∧ (a2 = 0 → (vp_in a1 512 ∧ (Q ((b9g_nodeLevel u3) (a1).toNatClampNeg) u3))))) ∧ (r2 = 0 → (Q (-1 : Int32) u3))))))
set_option maxRecDepth 20000 in
theorem t_X9_node {X : bf_X} (C : bf_C X RX9 cX9_node 3 (some .int)) (hR : bf_Rm X 10 223) (S : bT9) (a1 : Int32) (a2 : Int32) (Q : Int32 → (bT9) → Prop) (h : wp_X9_node S a1 a2 Q) : bf_A X (bf_Zi X bW9 Q) 3 0 [some (.ref 0), some (.int a1), some (.int a2)] [] (bW9 S) := by
  unfold wp_X9_node at h
  refine bs_aload_n C (bf_dk dd_X9_node 0 rfl) rfl ?_
  refine bs_iconst C (bf_dk dd_X9_node 1 rfl) (0 : Int32) (by decide) ?_
  refine bs_put C (bf_dk dd_X9_node 2 rfl) tyX9_ok nmX9 cl_9 in_9 0 (Nat.le_of_ble_eq_true rfl) rfl f_9_75 rfl (ge_bW9_0 S) (Nat.le_of_ble_eq_true rfl) rfl rfl (pu_bW9_0_0 S (0 : Int32)) ?_
  refine bs_nameS bW9 (fun S1 eS1 => ?_)
  replace h := h S1 eS1
  refine bs_aload_n C (bf_dk dd_X9_node 3 rfl) rfl ?_
  refine bs_iload_n C (bf_dk dd_X9_node 4 rfl) rfl ?_
  refine bs_selfV_i C hR (c_X9_isNode _ _ _ _ _ S1 (a1) _ h) my_X9_isNode m_9_372 rfl cl_9 (ge_bW9_0 _) rfl (Nat.le_of_ble_eq_true rfl) (Nat.le_of_ble_eq_true rfl) (st := []) (Nat.le_of_ble_eq_true rfl) (bf_dk dd_X9_node 5 rfl) rfl (len := 21) (fun _ => rfl) (fun r2 u3 h => ?_)
  refine bs_if_ne C (bf_dk dd_X9_node 6 rfl) (tgt := 15) rfl (fun c => ?_) (fun c => ?_)
  · replace h := h.1 c
    refine bs_iload_n C (bf_dk dd_X9_node 9 rfl) rfl ?_
    refine bs_if_ne C (bf_dk dd_X9_node 10 rfl) (tgt := 26) rfl (fun c => ?_) (fun c => ?_)
    · replace h := h.1 c
      refine bs_iload_n C (bf_dk dd_X9_node 16 rfl) rfl ?_
      refine bs_iconst C (bf_dk dd_X9_node 17 rfl) (1 : Int32) (by decide) ?_
      refine bs_icmp_ne C (bf_dk dd_X9_node 18 rfl) (tgt := 37) rfl (fun c => ?_) (fun c => ?_)
      · replace h := h.1 c
        refine bs_iload_n C (bf_dk dd_X9_node 23 rfl) rfl ?_
        refine bs_iconst C (bf_dk dd_X9_node 24 rfl) (2 : Int32) (by decide) ?_
        refine bs_icmp_ne C (bf_dk dd_X9_node 25 rfl) (tgt := 48) rfl (fun c => ?_) (fun c => ?_)
        · replace h := h.1 c
          refine bs_iload_n C (bf_dk dd_X9_node 30 rfl) rfl ?_
          refine bs_iconst C (bf_dk dd_X9_node 31 rfl) (3 : Int32) (by decide) ?_
          refine bs_icmp_ne C (bf_dk dd_X9_node 32 rfl) (tgt := 67) rfl (fun c => ?_) (fun c => ?_)
          · replace h := h.1 c
            refine bs_iload_n C (bf_dk dd_X9_node 41 rfl) rfl ?_
            refine bs_iconst C (bf_dk dd_X9_node 42 rfl) (4 : Int32) (by decide) ?_
            refine bs_icmp_ne C (bf_dk dd_X9_node 43 rfl) (tgt := 86) rfl (fun c => ?_) (fun c => ?_)
            · replace h := h.1 c
              refine bs_iload_n C (bf_dk dd_X9_node 52 rfl) rfl ?_
              refine bs_iconst C (bf_dk dd_X9_node 53 rfl) (5 : Int32) (by decide) ?_
              refine bs_icmp_ne C (bf_dk dd_X9_node 54 rfl) (tgt := 100) rfl (fun c => ?_) (fun c => ?_)
              · replace h := h.1 c
                refine bs_iload_n C (bf_dk dd_X9_node 60 rfl) rfl ?_
                refine bs_bipush C (bf_dk dd_X9_node 61 rfl) (6 : Int32) (by decide) ?_
                refine bs_icmp_ne C (bf_dk dd_X9_node 62 rfl) (tgt := 115) rfl (fun c => ?_) (fun c => ?_)
                · replace h := h.1 c
                  refine bs_iconst C (bf_dk dd_X9_node 68 rfl) (-1 : Int32) (by decide) ?_
                  exact bs_iret (u := u3) C (bf_dk dd_X9_node 69 rfl) rfl h
                · replace h := h.2 c
                  refine bs_aload_n C (bf_dk dd_X9_node 63 rfl) rfl ?_
                  refine bs_get C (bf_dk dd_X9_node 64 rfl) cl_9 in_9 15 (Nat.le_of_ble_eq_true rfl) rfl f_9_38 (ge_bW9_0 u3) rfl ?_
                  refine bs_iload_n C (bf_dk dd_X9_node 65 rfl) rfl ?_
                  obtain ⟨hi, h⟩ := h
                  refine bs_iald C (bf_dk dd_X9_node 66 rfl) (ge_bW9_10 u3) hi ?_
                  refine bs_goto C (bf_dk dd_X9_node 67 rfl) (tgt := 116) rfl ?_
                  exact bs_iret (u := u3) C (bf_dk dd_X9_node 69 rfl) rfl h
              · replace h := h.2 c
                refine bs_aload_n C (bf_dk dd_X9_node 55 rfl) rfl ?_
                refine bs_get C (bf_dk dd_X9_node 56 rfl) cl_9 in_9 14 (Nat.le_of_ble_eq_true rfl) rfl f_9_35 (ge_bW9_0 u3) rfl ?_
                refine bs_iload_n C (bf_dk dd_X9_node 57 rfl) rfl ?_
                obtain ⟨hi, h⟩ := h
                refine bs_iald C (bf_dk dd_X9_node 58 rfl) (ge_bW9_9 u3) hi ?_
                refine bs_goto C (bf_dk dd_X9_node 59 rfl) (tgt := 116) rfl ?_
                exact bs_iret (u := u3) C (bf_dk dd_X9_node 69 rfl) rfl h
            · replace h := h.2 c
              refine bs_iload_n C (bf_dk dd_X9_node 44 rfl) rfl ?_
              refine bs_aload_n C (bf_dk dd_X9_node 45 rfl) rfl ?_
              refine bs_get C (bf_dk dd_X9_node 46 rfl) cl_9 in_9 19 (Nat.le_of_ble_eq_true rfl) rfl f_9_216 (ge_bW9_0 u3) rfl ?_
              refine bs_icmp_ge C (bf_dk dd_X9_node 47 rfl) (tgt := 84) rfl (fun c => ?_) (fun c => ?_)
              · replace h := h.1 c
                refine bs_iconst C (bf_dk dd_X9_node 50 rfl) (0 : Int32) (by decide) ?_
                exact bs_iret (u := u3) C (bf_dk dd_X9_node 51 rfl) rfl h
              · replace h := h.2 c
                refine bs_iconst C (bf_dk dd_X9_node 48 rfl) (1 : Int32) (by decide) ?_
                refine bs_goto C (bf_dk dd_X9_node 49 rfl) (tgt := 85) rfl ?_
                exact bs_iret (u := u3) C (bf_dk dd_X9_node 51 rfl) rfl h
          · replace h := h.2 c
            refine bs_aload_n C (bf_dk dd_X9_node 33 rfl) rfl ?_
            refine bs_iload_n C (bf_dk dd_X9_node 34 rfl) rfl ?_
            refine bs_selfPV_i C hR (c_X9_isNodeEnd _ _ _ _ _ u3 (a1) _ h) my_X9_isNodeEnd m_9_234 rfl cl_9 (ge_bW9_0 _) rfl (Nat.le_of_ble_eq_true rfl) (Nat.le_of_ble_eq_true rfl) (st := []) (Nat.le_of_ble_eq_true rfl) (bf_dk dd_X9_node 35 rfl) rfl (fun r4 h => ?_)
            refine bs_if_eq C (bf_dk dd_X9_node 36 rfl) (tgt := 65) rfl (fun c => ?_) (fun c => ?_)
            · replace h := h.1 c
              refine bs_iconst C (bf_dk dd_X9_node 39 rfl) (0 : Int32) (by decide) ?_
              exact bs_iret (u := u3) C (bf_dk dd_X9_node 40 rfl) rfl h
            · replace h := h.2 c
              refine bs_iconst C (bf_dk dd_X9_node 37 rfl) (1 : Int32) (by decide) ?_
              refine bs_goto C (bf_dk dd_X9_node 38 rfl) (tgt := 66) rfl ?_
              exact bs_iret (u := u3) C (bf_dk dd_X9_node 40 rfl) rfl h
        · replace h := h.2 c
          refine bs_aload_n C (bf_dk dd_X9_node 26 rfl) rfl ?_
          refine bs_iload_n C (bf_dk dd_X9_node 27 rfl) rfl ?_
          refine bs_selfPV_i C hR (c_X9_kidMany _ _ _ _ _ u3 (a1) _ h) my_X9_kidMany m_9_375 rfl cl_9 (ge_bW9_0 _) rfl (Nat.le_of_ble_eq_true rfl) (Nat.le_of_ble_eq_true rfl) (st := []) (Nat.le_of_ble_eq_true rfl) (bf_dk dd_X9_node 28 rfl) rfl (fun r6 h => ?_)
          exact bs_iret (u := u3) C (bf_dk dd_X9_node 29 rfl) rfl h
      · replace h := h.2 c
        refine bs_aload_n C (bf_dk dd_X9_node 19 rfl) rfl ?_
        refine bs_iload_n C (bf_dk dd_X9_node 20 rfl) rfl ?_
        refine bs_selfPV_i C hR (c_X9_branchMany _ _ _ _ _ u3 (a1) _ h) my_X9_branchMany m_9_231 rfl cl_9 (ge_bW9_0 _) rfl (Nat.le_of_ble_eq_true rfl) (Nat.le_of_ble_eq_true rfl) (st := []) (Nat.le_of_ble_eq_true rfl) (bf_dk dd_X9_node 21 rfl) rfl (fun r8 h => ?_)
        exact bs_iret (u := u3) C (bf_dk dd_X9_node 22 rfl) rfl h
    · replace h := h.2 c
      refine bs_aload_n C (bf_dk dd_X9_node 11 rfl) rfl ?_
      refine bs_get C (bf_dk dd_X9_node 12 rfl) cl_9 in_9 13 (Nat.le_of_ble_eq_true rfl) rfl f_9_32 (ge_bW9_0 u3) rfl ?_
      refine bs_iload_n C (bf_dk dd_X9_node 13 rfl) rfl ?_
      obtain ⟨hi, h⟩ := h
      refine bs_iald C (bf_dk dd_X9_node 14 rfl) (ge_bW9_8 u3) hi ?_
      exact bs_iret (u := u3) C (bf_dk dd_X9_node 15 rfl) rfl h
  · replace h := h.2 c
    refine bs_iconst C (bf_dk dd_X9_node 7 rfl) (-1 : Int32) (by decide) ?_
    exact bs_iret (u := u3) C (bf_dk dd_X9_node 8 rfl) rfl h
theorem c_X9_node (l : Launch) (dC : Nat → ClassId) (dI : Nat → Nat → Nat) (ac : Nat → ClassId) (al : Nat → Nat) (S : bT9) (a1 : Int32) (a2 : Int32) (Q : Int32 → (bT9) → Prop) (h : wp_X9_node S a1 a2 Q) : bf_M l yX9_node cX9_node 3 (some .int) 10 223 dC dI ac al [.ref 0, .int a1, .int a2] (bW9 S) (bf_Ki dC dI ac al bW9 Q) := by
  refine bf_start [some (.ref 0), some (.int a1), some (.int a2)] (by decide) (Nat.le_of_ble_eq_true rfl) (bf_s1 (bf_s1 (bf_s1 bf_s0))) ?_
  intro X hl C hR e1 e2 e3 e4
  subst e1; subst e2; subst e3; subst e4
  exact t_X9_node C hR S a1 a2 Q h
def wp_X9_child_84 (S : bT9) (x1 : Int32) (x2 : Int32) (x3 : Int32) (Q : Int32 → (bT9) → Prop) (B22 : Int32 → Int32 → Int32 → (bT9) → Prop) : Prop := (B22 (x1) (x2) ((x3 + (1 : Int32))) S)
set_option maxRecDepth 20000 in
theorem t_X9_child_84 {X : bf_X} (C : bf_C X RX9 cX9_child 4 (some .int)) (hR : bf_Rm X 10 223) (S : bT9) (x1 : Int32) (x2 : Int32) (x3 : Int32) (Q : Int32 → (bT9) → Prop) (B22 : Int32 → Int32 → Int32 → (bT9) → Prop) (hB22 : ∀ (x1 : Int32) (x2 : Int32) (x3 : Int32) (S : bT9), B22 x1 x2 x3 S → bf_A X (bf_Zi X bW9 Q) 4 22 [some (.ref 0), some (.int x1), some (.int x2), some (.int x3)] [] (bW9 S)) (h : wp_X9_child_84 S x1 x2 x3 Q B22) : bf_A X (bf_Zi X bW9 Q) 4 84 [some (.ref 0), some (.int x1), some (.int x2), some (.int x3)] [] (bW9 S) := by
  unfold wp_X9_child_84 at h
  refine bs_iinc C (bf_dk dd_X9_child 49 rfl) (x3 + (1 : Int32)) rfl rfl (Nat.le_of_ble_eq_true rfl) (Nat.le_of_ble_eq_true rfl) (lv2 := [some (.ref 0), some (.int x1), some (.int x2), some (.int (x3 + (1 : Int32)))]) rfl ?_
  refine bs_goto C (bf_dk dd_X9_child 50 rfl) (tgt := 22) rfl ?_
  exact bs_weak (bf_s1 (bf_s1 (bf_s1 (bf_s1 bf_s0)))) (hB22 (x1) (x2) ((x3 + (1 : Int32))) S h)
def wp_X9_child_22b (S : bT9) (x1 : Int32) (x2 : Int32) (x3 : Int32) (Q : Int32 → (bT9) → Prop) (B22 : Int32 → Int32 → Int32 → (bT9) → Prop) : Prop := (wp_X9_lastOf S (x1) (fun r1 => ((r1 < x3 → (Q (-3 : Int32) S)) ∧ (¬ r1 < x3 → (wp_X9_isBranch S (x1) (x3) (fun r3 => ((r3 = 0 → (wp_X9_child_84 S (x1) (x2) (x3) Q B22)) ∧ (¬ r3 = 0 → (wp_X9_key S (x3) (fun r5 => (vp_in x1 512 ∧ (wp_X9_byteOf S (r5) (((b9g_nodeLevel S) (x1).toNatClampNeg)) (fun r7 => ((r7 = x2 → (wp_X9_childAt S (x1) (x3) (fun r9 => ((¬ r9 = (-1 : Int32) → (wp_X9_childAt S (x1) (x3) (fun r11 => (Q r11 S)))) ∧ (r9 = (-1 : Int32) → (Q (-2 : Int32) S)))))) ∧ (¬ r7 = x2 → (wp_X9_child_84 S (x1) (x2) (x3) Q B22))))))))))))))))
set_option maxRecDepth 20000 in
theorem t_X9_child_22b {X : bf_X} (C : bf_C X RX9 cX9_child 4 (some .int)) (hR : bf_Rm X 10 223) (S : bT9) (x1 : Int32) (x2 : Int32) (x3 : Int32) (Q : Int32 → (bT9) → Prop) (B22 : Int32 → Int32 → Int32 → (bT9) → Prop) (hB22 : ∀ (x1 : Int32) (x2 : Int32) (x3 : Int32) (S : bT9), B22 x1 x2 x3 S → bf_A X (bf_Zi X bW9 Q) 4 22 [some (.ref 0), some (.int x1), some (.int x2), some (.int x3)] [] (bW9 S)) (h : wp_X9_child_22b S x1 x2 x3 Q B22) : bf_A X (bf_Zi X bW9 Q) 4 22 [some (.ref 0), some (.int x1), some (.int x2), some (.int x3)] [] (bW9 S) := by
  unfold wp_X9_child_22b at h
  refine bs_iload_n C (bf_dk dd_X9_child 14 rfl) rfl ?_
  refine bs_aload_n C (bf_dk dd_X9_child 15 rfl) rfl ?_
  refine bs_iload_n C (bf_dk dd_X9_child 16 rfl) rfl ?_
  refine bs_selfPV_i C hR (c_X9_lastOf _ _ _ _ _ S (x1) _ h) my_X9_lastOf m_9_222 rfl cl_9 (ge_bW9_0 _) rfl (Nat.le_of_ble_eq_true rfl) (Nat.le_of_ble_eq_true rfl) (st := [.int x3]) (Nat.le_of_ble_eq_true rfl) (bf_dk dd_X9_child 17 rfl) rfl (fun r1 h => ?_)
  refine bs_icmp_gt C (bf_dk dd_X9_child 18 rfl) (tgt := 90) rfl (fun c => ?_) (fun c => ?_)
  · replace h := h.1 c
    refine bs_bipush C (bf_dk dd_X9_child 51 rfl) (-3 : Int32) (by decide) ?_
    exact bs_iret (u := S) C (bf_dk dd_X9_child 52 rfl) rfl h
  · replace h := h.2 c
    refine bs_aload_n C (bf_dk dd_X9_child 19 rfl) rfl ?_
    refine bs_iload_n C (bf_dk dd_X9_child 20 rfl) rfl ?_
    refine bs_iload_n C (bf_dk dd_X9_child 21 rfl) rfl ?_
    refine bs_selfPV_i C hR (c_X9_isBranch _ _ _ _ _ S (x1) (x3) _ h) my_X9_isBranch m_9_225 rfl cl_9 (ge_bW9_0 _) rfl (Nat.le_of_ble_eq_true rfl) (Nat.le_of_ble_eq_true rfl) (st := []) (Nat.le_of_ble_eq_true rfl) (bf_dk dd_X9_child 22 rfl) rfl (fun r3 h => ?_)
    refine bs_if_eq C (bf_dk dd_X9_child 23 rfl) (tgt := 84) rfl (fun c => ?_) (fun c => ?_)
    · replace h := h.1 c
      exact bs_weak (bf_s1 (bf_s1 (bf_s1 (bf_s1 bf_s0)))) (t_X9_child_84 C hR S (x1) (x2) (x3) Q B22 hB22 h)
    · replace h := h.2 c
      refine bs_aload_n C (bf_dk dd_X9_child 24 rfl) rfl ?_
      refine bs_aload_n C (bf_dk dd_X9_child 25 rfl) rfl ?_
      refine bs_iload_n C (bf_dk dd_X9_child 26 rfl) rfl ?_
      refine bs_selfPV_l C hR (c_X9_key _ _ _ _ _ S (x3) _ h) my_X9_key m_9_178 rfl cl_9 (ge_bW9_0 _) rfl (Nat.le_of_ble_eq_true rfl) (Nat.le_of_ble_eq_true rfl) (st := [.ref 0]) (Nat.le_of_ble_eq_true rfl) (bf_dk dd_X9_child 27 rfl) rfl (fun r5 h => ?_)
      refine bs_aload_n C (bf_dk dd_X9_child 28 rfl) rfl ?_
      refine bs_get C (bf_dk dd_X9_child 29 rfl) cl_9 in_9 13 (Nat.le_of_ble_eq_true rfl) rfl f_9_32 (ge_bW9_0 S) rfl ?_
      refine bs_iload_n C (bf_dk dd_X9_child 30 rfl) rfl ?_
      obtain ⟨hi, h⟩ := h
      refine bs_iald C (bf_dk dd_X9_child 31 rfl) (ge_bW9_8 S) hi ?_
      refine bs_selfPV_i C hR (c_X9_byteOf _ _ _ _ _ S (r5) (((b9g_nodeLevel S) (x1).toNatClampNeg)) _ h) my_X9_byteOf m_9_181 rfl cl_9 (ge_bW9_0 _) rfl (Nat.le_of_ble_eq_true rfl) (Nat.le_of_ble_eq_true rfl) (st := []) (Nat.le_of_ble_eq_true rfl) (bf_dk dd_X9_child 32 rfl) rfl (fun r7 h => ?_)
      refine bs_iload_n C (bf_dk dd_X9_child 33 rfl) rfl ?_
      refine bs_icmp_eq C (bf_dk dd_X9_child 34 rfl) (tgt := 62) rfl (fun c => ?_) (fun c => ?_)
      · replace h := h.1 c
        refine bs_aload_n C (bf_dk dd_X9_child 36 rfl) rfl ?_
        refine bs_iload_n C (bf_dk dd_X9_child 37 rfl) rfl ?_
        refine bs_iload_n C (bf_dk dd_X9_child 38 rfl) rfl ?_
        refine bs_selfPV_i C hR (c_X9_childAt _ _ _ _ _ S (x1) (x3) _ h) my_X9_childAt m_9_228 rfl cl_9 (ge_bW9_0 _) rfl (Nat.le_of_ble_eq_true rfl) (Nat.le_of_ble_eq_true rfl) (st := []) (Nat.le_of_ble_eq_true rfl) (bf_dk dd_X9_child 39 rfl) rfl (fun r9 h => ?_)
        refine bs_iconst C (bf_dk dd_X9_child 40 rfl) (-1 : Int32) (by decide) ?_
        refine bs_icmp_ne C (bf_dk dd_X9_child 41 rfl) (tgt := 77) rfl (fun c => ?_) (fun c => ?_)
        · replace h := h.1 c
          refine bs_aload_n C (bf_dk dd_X9_child 44 rfl) rfl ?_
          refine bs_iload_n C (bf_dk dd_X9_child 45 rfl) rfl ?_
          refine bs_iload_n C (bf_dk dd_X9_child 46 rfl) rfl ?_
          refine bs_selfPV_i C hR (c_X9_childAt _ _ _ _ _ S (x1) (x3) _ h) my_X9_childAt m_9_228 rfl cl_9 (ge_bW9_0 _) rfl (Nat.le_of_ble_eq_true rfl) (Nat.le_of_ble_eq_true rfl) (st := []) (Nat.le_of_ble_eq_true rfl) (bf_dk dd_X9_child 47 rfl) rfl (fun r11 h => ?_)
          exact bs_iret (u := S) C (bf_dk dd_X9_child 48 rfl) rfl h
        · replace h := h.2 c
          refine bs_bipush C (bf_dk dd_X9_child 42 rfl) (-2 : Int32) (by decide) ?_
          refine bs_goto C (bf_dk dd_X9_child 43 rfl) (tgt := 83) rfl ?_
          exact bs_iret (u := S) C (bf_dk dd_X9_child 48 rfl) rfl h
      · replace h := h.2 c
        refine bs_goto C (bf_dk dd_X9_child 35 rfl) (tgt := 84) rfl ?_
        exact bs_weak (bf_s1 (bf_s1 (bf_s1 (bf_s1 bf_s0)))) (t_X9_child_84 C hR S (x1) (x2) (x3) Q B22 hB22 h)
def wp_X9_child_22 (S : bT9) (x1 : Int32) (x2 : Int32) (x3 : Int32) (Q : Int32 → (bT9) → Prop) : Prop := ∃ I : Nat → Int32 → Int32 → Int32 → (bT9) → Prop, (∃ n : Nat, I n x1 x2 x3 S) ∧ ∀ (n : Nat) (x1 : Int32) (x2 : Int32) (x3 : Int32) (S : bT9), I n x1 x2 x3 S → wp_X9_child_22b S x1 x2 x3 Q (fun x1 x2 x3 S => ∃ n2 : Nat, n2 < n ∧ I n2 x1 x2 x3 S)
theorem t_X9_child_22 {X : bf_X} (C : bf_C X RX9 cX9_child 4 (some .int)) (hR : bf_Rm X 10 223) (S : bT9) (x1 : Int32) (x2 : Int32) (x3 : Int32) (Q : Int32 → (bT9) → Prop) (h : wp_X9_child_22 S x1 x2 x3 Q) : bf_A X (bf_Zi X bW9 Q) 4 22 [some (.ref 0), some (.int x1), some (.int x2), some (.int x3)] [] (bW9 S) := by
  obtain ⟨I, ⟨n0, h0⟩, hI⟩ := h
  have key : ∀ (n : Nat) (x1 : Int32) (x2 : Int32) (x3 : Int32) (S : bT9), I n x1 x2 x3 S → bf_A X (bf_Zi X bW9 Q) 4 22 [some (.ref 0), some (.int x1), some (.int x2), some (.int x3)] [] (bW9 S) := by
    intro n
    induction n using Nat.strongRecOn with
    | _ n ih =>
      intro x1 x2 x3 S hi
      exact t_X9_child_22b C hR S x1 x2 x3 Q _ (fun x1 x2 x3 S hb => by obtain ⟨n2, hn, hi2⟩ := hb; exact ih n2 hn x1 x2 x3 S hi2) (hI n x1 x2 x3 S hi)
  exact key n0 x1 x2 x3 S h0
def wp_X9_child (S : bT9) (a1 : Int32) (a2 : Int32) (Q : Int32 → (bT9) → Prop) : Prop := (∀ S13 : bT9, S13 = (b9s_told S (0 : Int32)) → (wp_X9_isNode S13 (a1) (fun r14 u15 => ((¬ r14 = 0 → (vp_in a1 512 ∧ (wp_X9_child_22 u15 (a1) (a2) (((b9g_nodeLeaf u15) (a1).toNatClampNeg)) Q))) ∧ (r14 = 0 → (Q (-1 : Int32) u15))))))
set_option maxRecDepth 20000 in
theorem t_X9_child {X : bf_X} (C : bf_C X RX9 cX9_child 4 (some .int)) (hR : bf_Rm X 10 223) (S : bT9) (a1 : Int32) (a2 : Int32) (Q : Int32 → (bT9) → Prop) (h : wp_X9_child S a1 a2 Q) : bf_A X (bf_Zi X bW9 Q) 4 0 [some (.ref 0), some (.int a1), some (.int a2), none] [] (bW9 S) := by
  unfold wp_X9_child at h
  refine bs_aload_n C (bf_dk dd_X9_child 0 rfl) rfl ?_
  refine bs_iconst C (bf_dk dd_X9_child 1 rfl) (0 : Int32) (by decide) ?_
  refine bs_put C (bf_dk dd_X9_child 2 rfl) tyX9_ok nmX9 cl_9 in_9 0 (Nat.le_of_ble_eq_true rfl) rfl f_9_75 rfl (ge_bW9_0 S) (Nat.le_of_ble_eq_true rfl) rfl rfl (pu_bW9_0_0 S (0 : Int32)) ?_
  refine bs_nameS bW9 (fun S13 eS13 => ?_)
  replace h := h S13 eS13
  refine bs_aload_n C (bf_dk dd_X9_child 3 rfl) rfl ?_
  refine bs_iload_n C (bf_dk dd_X9_child 4 rfl) rfl ?_
  refine bs_selfV_i C hR (c_X9_isNode _ _ _ _ _ S13 (a1) _ h) my_X9_isNode m_9_372 rfl cl_9 (ge_bW9_0 _) rfl (Nat.le_of_ble_eq_true rfl) (Nat.le_of_ble_eq_true rfl) (st := []) (Nat.le_of_ble_eq_true rfl) (bf_dk dd_X9_child 5 rfl) rfl (len := 21) (fun _ => rfl) (fun r14 u15 h => ?_)
  refine bs_if_ne C (bf_dk dd_X9_child 6 rfl) (tgt := 15) rfl (fun c => ?_) (fun c => ?_)
  · replace h := h.1 c
    refine bs_aload_n C (bf_dk dd_X9_child 9 rfl) rfl ?_
    refine bs_get C (bf_dk dd_X9_child 10 rfl) cl_9 in_9 14 (Nat.le_of_ble_eq_true rfl) rfl f_9_35 (ge_bW9_0 u15) rfl ?_
    refine bs_iload_n C (bf_dk dd_X9_child 11 rfl) rfl ?_
    obtain ⟨hi, h⟩ := h
    refine bs_iald C (bf_dk dd_X9_child 12 rfl) (ge_bW9_9 u15) hi ?_
    refine bs_istore_n C (bf_dk dd_X9_child 13 rfl) rfl (Nat.le_of_ble_eq_true rfl) (Nat.le_of_ble_eq_true rfl) (lv2 := [some (.ref 0), some (.int a1), some (.int a2), some (.int ((b9g_nodeLeaf u15) (a1).toNatClampNeg))]) rfl ?_
    exact bs_weak (bf_s1 (bf_s1 (bf_s1 (bf_s1 bf_s0)))) (t_X9_child_22 C hR u15 (a1) (a2) (((b9g_nodeLeaf u15) (a1).toNatClampNeg)) Q h)
  · replace h := h.2 c
    refine bs_iconst C (bf_dk dd_X9_child 7 rfl) (-1 : Int32) (by decide) ?_
    exact bs_iret (u := u15) C (bf_dk dd_X9_child 8 rfl) rfl h
theorem c_X9_child (l : Launch) (dC : Nat → ClassId) (dI : Nat → Nat → Nat) (ac : Nat → ClassId) (al : Nat → Nat) (S : bT9) (a1 : Int32) (a2 : Int32) (Q : Int32 → (bT9) → Prop) (h : wp_X9_child S a1 a2 Q) : bf_M l yX9_child cX9_child 4 (some .int) 10 223 dC dI ac al [.ref 0, .int a1, .int a2] (bW9 S) (bf_Ki dC dI ac al bW9 Q) := by
  refine bf_start [some (.ref 0), some (.int a1), some (.int a2), none] (by decide) (Nat.le_of_ble_eq_true rfl) (bf_s1 (bf_s1 (bf_s1 (bf_en 1)))) ?_
  intro X hl C hR e1 e2 e3 e4
  subst e1; subst e2; subst e3; subst e4
  exact t_X9_child C hR S a1 a2 Q h
def wp_X9_levelOf_72 (S : bT9) (x1 : Int32) (x2 : Int32) (x3 : Int32) (x4 : Int32) (Q : Int32 → Prop) (B5 : Int32 → Int32 → Int32 → Int32 → Prop) : Prop := (B5 (x1) (x2) (x3) ((x4 + (1 : Int32))))
set_option maxRecDepth 20000 in
theorem t_X9_levelOf_72 {X : bf_X} (C : bf_C X RX9 cX9_levelOf 5 (some .int)) (hR : bf_Rm X 5 114) (S : bT9) (x1 : Int32) (x2 : Int32) (x3 : Int32) (x4 : Int32) (Q : Int32 → Prop) (B5 : Int32 → Int32 → Int32 → Int32 → Prop) (hB5 : ∀ (x1 : Int32) (x2 : Int32) (x3 : Int32) (x4 : Int32), B5 x1 x2 x3 x4 → bf_A X (bf_Zi X bW9 (fun r u => u = S ∧ Q r)) 5 5 [some (.ref 0), some (.int x1), some (.int x2), some (.int x3), some (.int x4)] [] (bW9 S)) (h : wp_X9_levelOf_72 S x1 x2 x3 x4 Q B5) : bf_A X (bf_Zi X bW9 (fun r u => u = S ∧ Q r)) 5 72 [some (.ref 0), some (.int x1), some (.int x2), some (.int x3), some (.int x4)] [] (bW9 S) := by
  unfold wp_X9_levelOf_72 at h
  refine bs_iinc C (bf_dk dd_X9_levelOf 39 rfl) (x4 + (1 : Int32)) rfl rfl (Nat.le_of_ble_eq_true rfl) (Nat.le_of_ble_eq_true rfl) (lv2 := [some (.ref 0), some (.int x1), some (.int x2), some (.int x3), some (.int (x4 + (1 : Int32)))]) rfl ?_
  refine bs_goto C (bf_dk dd_X9_levelOf 40 rfl) (tgt := 5) rfl ?_
  exact bs_weak (bf_s1 (bf_s1 (bf_s1 (bf_s1 (bf_s1 bf_s0))))) (hB5 (x1) (x2) (x3) ((x4 + (1 : Int32))) h)
def wp_X9_levelOf_70 (S : bT9) (x1 : Int32) (x2 : Int32) (x4 : Int32) (t0 : Int32) (t1 : Int32) (Q : Int32 → Prop) (B5 : Int32 → Int32 → Int32 → Int32 → Prop) : Prop := (wp_X9_levelOf_72 S (x1) (x2) ((t0 + t1)) (x4) Q B5)
set_option maxRecDepth 20000 in
theorem t_X9_levelOf_70 {X : bf_X} (C : bf_C X RX9 cX9_levelOf 5 (some .int)) (hR : bf_Rm X 5 114) (S : bT9) (x1 : Int32) (x2 : Int32) (x4 : Int32) (t0 : Int32) (t1 : Int32) (Q : Int32 → Prop) (B5 : Int32 → Int32 → Int32 → Int32 → Prop) (hB5 : ∀ (x1 : Int32) (x2 : Int32) (x3 : Int32) (x4 : Int32), B5 x1 x2 x3 x4 → bf_A X (bf_Zi X bW9 (fun r u => u = S ∧ Q r)) 5 5 [some (.ref 0), some (.int x1), some (.int x2), some (.int x3), some (.int x4)] [] (bW9 S)) (h : wp_X9_levelOf_70 S x1 x2 x4 t0 t1 Q B5) : bf_A X (bf_Zi X bW9 (fun r u => u = S ∧ Q r)) 5 70 [some (.ref 0), some (.int x1), some (.int x2), none, some (.int x4)] [.int t1, .int t0] (bW9 S) := by
  unfold wp_X9_levelOf_70 at h
  refine bs_iadd C (bf_dk dd_X9_levelOf 37 rfl) ?_
  refine bs_istore_n C (bf_dk dd_X9_levelOf 38 rfl) rfl (Nat.le_of_ble_eq_true rfl) (Nat.le_of_ble_eq_true rfl) (lv2 := [some (.ref 0), some (.int x1), some (.int x2), some (.int (t0 + t1)), some (.int x4)]) rfl ?_
  exact bs_weak (bf_s1 (bf_s1 (bf_s1 (bf_s1 (bf_s1 bf_s0))))) (t_X9_levelOf_72 C hR S (x1) (x2) ((t0 + t1)) (x4) Q B5 hB5 h)
def wp_X9_levelOf_67 (S : bT9) (x1 : Int32) (x2 : Int32) (x4 : Int32) (t0 : Int32) (t2 : Int32) (t3 : Int32) (Q : Int32 → Prop) (B5 : Int32 → Int32 → Int32 → Int32 → Prop) : Prop := (wp_X9_bitsOf S (t2) (t3) (fun r1 => (wp_X9_levelOf_70 S (x1) (x2) (x4) (t0) (r1) Q B5)))
set_option maxRecDepth 20000 in
theorem t_X9_levelOf_67 {X : bf_X} (C : bf_C X RX9 cX9_levelOf 5 (some .int)) (hR : bf_Rm X 5 114) (S : bT9) (x1 : Int32) (x2 : Int32) (x4 : Int32) (t0 : Int32) (t2 : Int32) (t3 : Int32) (Q : Int32 → Prop) (B5 : Int32 → Int32 → Int32 → Int32 → Prop) (hB5 : ∀ (x1 : Int32) (x2 : Int32) (x3 : Int32) (x4 : Int32), B5 x1 x2 x3 x4 → bf_A X (bf_Zi X bW9 (fun r u => u = S ∧ Q r)) 5 5 [some (.ref 0), some (.int x1), some (.int x2), some (.int x3), some (.int x4)] [] (bW9 S)) (h : wp_X9_levelOf_67 S x1 x2 x4 t0 t2 t3 Q B5) : bf_A X (bf_Zi X bW9 (fun r u => u = S ∧ Q r)) 5 67 [some (.ref 0), some (.int x1), some (.int x2), none, some (.int x4)] [.int t3, .int t2, .ref 0, .int t0] (bW9 S) := by
  unfold wp_X9_levelOf_67 at h
  refine bs_selfPV_i C hR (c_X9_bitsOf _ _ _ _ _ S (t2) (t3) _ h) my_X9_bitsOf m_9_237 rfl cl_9 (ge_bW9_0 _) rfl (Nat.le_of_ble_eq_true rfl) (Nat.le_of_ble_eq_true rfl) (st := [.int t0]) (Nat.le_of_ble_eq_true rfl) (bf_dk dd_X9_levelOf 36 rfl) rfl (fun r1 h => ?_)
  exact bs_weak (bf_s1 (bf_s1 (bf_s1 (bf_sn (bf_s1 bf_s0))))) (t_X9_levelOf_70 C hR S (x1) (x2) (x4) (t0) (r1) Q B5 hB5 h)
def wp_X9_levelOf_5b (S : bT9) (x1 : Int32) (x2 : Int32) (x3 : Int32) (x4 : Int32) (Q : Int32 → Prop) (B5 : Int32 → Int32 → Int32 → Int32 → Prop) : Prop := (((b9g_nodeMany S) ≤ x4 → (Q x3)) ∧ (¬ (b9g_nodeMany S) ≤ x4 → (vp_in x4 512 ∧ ((((b9g_nodeLevel S) (x4).toNatClampNeg) = x1 → ((¬ x2 = 0 → ((¬ x2 = (1 : Int32) → (((b9g_upper S) ≤ x1 → (wp_X9_levelOf_67 S (x1) (x2) (x4) (x3) (x4) ((0 : Int32)) Q B5)) ∧ (¬ (b9g_upper S) ≤ x1 → (wp_X9_levelOf_67 S (x1) (x2) (x4) (x3) (x4) ((1 : Int32)) Q B5)))) ∧ (x2 = (1 : Int32) → (wp_X9_branchMany S (x4) (fun r3 => (wp_X9_levelOf_70 S (x1) (x2) (x4) (x3) (r3) Q B5)))))) ∧ (x2 = 0 → (wp_X9_levelOf_70 S (x1) (x2) (x4) (x3) ((1 : Int32)) Q B5)))) ∧ (¬ ((b9g_nodeLevel S) (x4).toNatClampNeg) = x1 → (wp_X9_levelOf_72 S (x1) (x2) (x3) (x4) Q B5))))))
set_option maxRecDepth 20000 in
theorem t_X9_levelOf_5b {X : bf_X} (C : bf_C X RX9 cX9_levelOf 5 (some .int)) (hR : bf_Rm X 5 114) (S : bT9) (x1 : Int32) (x2 : Int32) (x3 : Int32) (x4 : Int32) (Q : Int32 → Prop) (B5 : Int32 → Int32 → Int32 → Int32 → Prop) (hB5 : ∀ (x1 : Int32) (x2 : Int32) (x3 : Int32) (x4 : Int32), B5 x1 x2 x3 x4 → bf_A X (bf_Zi X bW9 (fun r u => u = S ∧ Q r)) 5 5 [some (.ref 0), some (.int x1), some (.int x2), some (.int x3), some (.int x4)] [] (bW9 S)) (h : wp_X9_levelOf_5b S x1 x2 x3 x4 Q B5) : bf_A X (bf_Zi X bW9 (fun r u => u = S ∧ Q r)) 5 5 [some (.ref 0), some (.int x1), some (.int x2), some (.int x3), some (.int x4)] [] (bW9 S) := by
  unfold wp_X9_levelOf_5b at h
  refine bs_iload C (bf_dk dd_X9_levelOf 4 rfl) rfl ?_
  refine bs_aload_n C (bf_dk dd_X9_levelOf 5 rfl) rfl ?_
  refine bs_get C (bf_dk dd_X9_levelOf 6 rfl) cl_9 in_9 16 (Nat.le_of_ble_eq_true rfl) rfl f_9_198 (ge_bW9_0 S) rfl ?_
  refine bs_icmp_ge C (bf_dk dd_X9_levelOf 7 rfl) (tgt := 78) rfl (fun c => ?_) (fun c => ?_)
  · replace h := h.1 c
    refine bs_iload_n C (bf_dk dd_X9_levelOf 41 rfl) rfl ?_
    exact bs_iret (u := S) C (bf_dk dd_X9_levelOf 42 rfl) rfl ⟨rfl, h⟩
  · replace h := h.2 c
    refine bs_aload_n C (bf_dk dd_X9_levelOf 8 rfl) rfl ?_
    refine bs_get C (bf_dk dd_X9_levelOf 9 rfl) cl_9 in_9 13 (Nat.le_of_ble_eq_true rfl) rfl f_9_32 (ge_bW9_0 S) rfl ?_
    refine bs_iload C (bf_dk dd_X9_levelOf 10 rfl) rfl ?_
    obtain ⟨hi, h⟩ := h
    refine bs_iald C (bf_dk dd_X9_levelOf 11 rfl) (ge_bW9_8 S) hi ?_
    refine bs_iload_n C (bf_dk dd_X9_levelOf 12 rfl) rfl ?_
    refine bs_icmp_eq C (bf_dk dd_X9_levelOf 13 rfl) (tgt := 28) rfl (fun c => ?_) (fun c => ?_)
    · replace h := h.1 c
      refine bs_iload_n C (bf_dk dd_X9_levelOf 15 rfl) rfl ?_
      refine bs_iload_n C (bf_dk dd_X9_levelOf 16 rfl) rfl ?_
      refine bs_if_ne C (bf_dk dd_X9_levelOf 17 rfl) (tgt := 37) rfl (fun c => ?_) (fun c => ?_)
      · replace h := h.1 c
        refine bs_iload_n C (bf_dk dd_X9_levelOf 20 rfl) rfl ?_
        refine bs_iconst C (bf_dk dd_X9_levelOf 21 rfl) (1 : Int32) (by decide) ?_
        refine bs_icmp_ne C (bf_dk dd_X9_levelOf 22 rfl) (tgt := 51) rfl (fun c => ?_) (fun c => ?_)
        · replace h := h.1 c
          refine bs_aload_n C (bf_dk dd_X9_levelOf 27 rfl) rfl ?_
          refine bs_iload C (bf_dk dd_X9_levelOf 28 rfl) rfl ?_
          refine bs_iload_n C (bf_dk dd_X9_levelOf 29 rfl) rfl ?_
          refine bs_aload_n C (bf_dk dd_X9_levelOf 30 rfl) rfl ?_
          refine bs_get C (bf_dk dd_X9_levelOf 31 rfl) cl_9 in_9 18 (Nat.le_of_ble_eq_true rfl) rfl f_9_213 (ge_bW9_0 S) rfl ?_
          refine bs_icmp_ge C (bf_dk dd_X9_levelOf 32 rfl) (tgt := 66) rfl (fun c => ?_) (fun c => ?_)
          · replace h := h.1 c
            refine bs_iconst C (bf_dk dd_X9_levelOf 35 rfl) (0 : Int32) (by decide) ?_
            exact bs_weak (bf_s1 (bf_s1 (bf_s1 (bf_sn (bf_s1 bf_s0))))) (t_X9_levelOf_67 C hR S (x1) (x2) (x4) (x3) (x4) ((0 : Int32)) Q B5 hB5 h)
          · replace h := h.2 c
            refine bs_iconst C (bf_dk dd_X9_levelOf 33 rfl) (1 : Int32) (by decide) ?_
            refine bs_goto C (bf_dk dd_X9_levelOf 34 rfl) (tgt := 67) rfl ?_
            exact bs_weak (bf_s1 (bf_s1 (bf_s1 (bf_sn (bf_s1 bf_s0))))) (t_X9_levelOf_67 C hR S (x1) (x2) (x4) (x3) (x4) ((1 : Int32)) Q B5 hB5 h)
        · replace h := h.2 c
          refine bs_aload_n C (bf_dk dd_X9_levelOf 23 rfl) rfl ?_
          refine bs_iload C (bf_dk dd_X9_levelOf 24 rfl) rfl ?_
          refine bs_selfPV_i C hR (c_X9_branchMany _ _ _ _ _ S (x4) _ h) my_X9_branchMany m_9_231 rfl cl_9 (ge_bW9_0 _) rfl (Nat.le_of_ble_eq_true rfl) (Nat.le_of_ble_eq_true rfl) (st := [.int x3]) (Nat.le_of_ble_eq_true rfl) (bf_dk dd_X9_levelOf 25 rfl) rfl (fun r3 h => ?_)
          refine bs_goto C (bf_dk dd_X9_levelOf 26 rfl) (tgt := 70) rfl ?_
          exact bs_weak (bf_s1 (bf_s1 (bf_s1 (bf_sn (bf_s1 bf_s0))))) (t_X9_levelOf_70 C hR S (x1) (x2) (x4) (x3) (r3) Q B5 hB5 h)
      · replace h := h.2 c
        refine bs_iconst C (bf_dk dd_X9_levelOf 18 rfl) (1 : Int32) (by decide) ?_
        refine bs_goto C (bf_dk dd_X9_levelOf 19 rfl) (tgt := 70) rfl ?_
        exact bs_weak (bf_s1 (bf_s1 (bf_s1 (bf_sn (bf_s1 bf_s0))))) (t_X9_levelOf_70 C hR S (x1) (x2) (x4) (x3) ((1 : Int32)) Q B5 hB5 h)
    · replace h := h.2 c
      refine bs_goto C (bf_dk dd_X9_levelOf 14 rfl) (tgt := 72) rfl ?_
      exact bs_weak (bf_s1 (bf_s1 (bf_s1 (bf_s1 (bf_s1 bf_s0))))) (t_X9_levelOf_72 C hR S (x1) (x2) (x3) (x4) Q B5 hB5 h)
def wp_X9_levelOf_5 (S : bT9) (x1 : Int32) (x2 : Int32) (x3 : Int32) (x4 : Int32) (Q : Int32 → Prop) : Prop := ∃ I : Nat → Int32 → Int32 → Int32 → Int32 → Prop, (∃ n : Nat, I n x1 x2 x3 x4) ∧ ∀ (n : Nat) (x1 : Int32) (x2 : Int32) (x3 : Int32) (x4 : Int32), I n x1 x2 x3 x4 → wp_X9_levelOf_5b S x1 x2 x3 x4 Q (fun x1 x2 x3 x4 => ∃ n2 : Nat, n2 < n ∧ I n2 x1 x2 x3 x4)
theorem t_X9_levelOf_5 {X : bf_X} (C : bf_C X RX9 cX9_levelOf 5 (some .int)) (hR : bf_Rm X 5 114) (S : bT9) (x1 : Int32) (x2 : Int32) (x3 : Int32) (x4 : Int32) (Q : Int32 → Prop) (h : wp_X9_levelOf_5 S x1 x2 x3 x4 Q) : bf_A X (bf_Zi X bW9 (fun r u => u = S ∧ Q r)) 5 5 [some (.ref 0), some (.int x1), some (.int x2), some (.int x3), some (.int x4)] [] (bW9 S) := by
  obtain ⟨I, ⟨n0, h0⟩, hI⟩ := h
  have key : ∀ (n : Nat) (x1 : Int32) (x2 : Int32) (x3 : Int32) (x4 : Int32), I n x1 x2 x3 x4 → bf_A X (bf_Zi X bW9 (fun r u => u = S ∧ Q r)) 5 5 [some (.ref 0), some (.int x1), some (.int x2), some (.int x3), some (.int x4)] [] (bW9 S) := by
    intro n
    induction n using Nat.strongRecOn with
    | _ n ih =>
      intro x1 x2 x3 x4 hi
      exact t_X9_levelOf_5b C hR S x1 x2 x3 x4 Q _ (fun x1 x2 x3 x4 hb => by obtain ⟨n2, hn, hi2⟩ := hb; exact ih n2 hn x1 x2 x3 x4 hi2) (hI n x1 x2 x3 x4 hi)
  exact key n0 x1 x2 x3 x4 h0
def wp_X9_levelOf (S : bT9) (a1 : Int32) (a2 : Int32) (Q : Int32 → Prop) : Prop := (wp_X9_levelOf_5 S (a1) (a2) ((0 : Int32)) ((0 : Int32)) Q)
set_option maxRecDepth 20000 in
theorem t_X9_levelOf {X : bf_X} (C : bf_C X RX9 cX9_levelOf 5 (some .int)) (hR : bf_Rm X 5 114) (S : bT9) (a1 : Int32) (a2 : Int32) (Q : Int32 → Prop) (h : wp_X9_levelOf S a1 a2 Q) : bf_A X (bf_Zi X bW9 (fun r u => u = S ∧ Q r)) 5 0 [some (.ref 0), some (.int a1), some (.int a2), none, none] [] (bW9 S) := by
  unfold wp_X9_levelOf at h
  refine bs_iconst C (bf_dk dd_X9_levelOf 0 rfl) (0 : Int32) (by decide) ?_
  refine bs_istore_n C (bf_dk dd_X9_levelOf 1 rfl) rfl (Nat.le_of_ble_eq_true rfl) (Nat.le_of_ble_eq_true rfl) (lv2 := [some (.ref 0), some (.int a1), some (.int a2), some (.int (0 : Int32)), none]) rfl ?_
  refine bs_iconst C (bf_dk dd_X9_levelOf 2 rfl) (0 : Int32) (by decide) ?_
  refine bs_istore C (bf_dk dd_X9_levelOf 3 rfl) (Nat.le_of_ble_eq_true rfl) (Nat.le_of_ble_eq_true rfl) (lv2 := [some (.ref 0), some (.int a1), some (.int a2), some (.int (0 : Int32)), some (.int (0 : Int32))]) rfl ?_
  exact bs_weak (bf_s1 (bf_s1 (bf_s1 (bf_s1 (bf_s1 bf_s0))))) (t_X9_levelOf_5 C hR S (a1) (a2) ((0 : Int32)) ((0 : Int32)) Q h)
theorem c_X9_levelOf (l : Launch) (dC : Nat → ClassId) (dI : Nat → Nat → Nat) (ac : Nat → ClassId) (al : Nat → Nat) (S : bT9) (a1 : Int32) (a2 : Int32) (Q : Int32 → Prop) (h : wp_X9_levelOf S a1 a2 Q) : bf_M l yX9_levelOf cX9_levelOf 5 (some .int) 5 114 dC dI ac al [.ref 0, .int a1, .int a2] (bW9 S) (bf_Ki dC dI ac al bW9 (fun r u => u = S ∧ Q r)) := by
  refine bf_start [some (.ref 0), some (.int a1), some (.int a2), none, none] (by decide) (Nat.le_of_ble_eq_true rfl) (bf_s1 (bf_s1 (bf_s1 (bf_en 2)))) ?_
  intro X hl C hR e1 e2 e3 e4
  subst e1; subst e2; subst e3; subst e4
  exact t_X9_levelOf C hR S a1 a2 Q h
def wp_X9_leavesAt_43 (S : bT9) (x1 : Int32) (x2 : Int32) (x3 : Int32) (Q : Int32 → Prop) (B4 : Int32 → Int32 → Int32 → Prop) : Prop := (B4 (x1) (x2) ((x3 + (1 : Int32))))
set_option maxRecDepth 20000 in
theorem t_X9_leavesAt_43 {X : bf_X} (C : bf_C X RX9 cX9_leavesAt 4 (some .int)) (hR : bf_Rm X 2 42) (S : bT9) (x1 : Int32) (x2 : Int32) (x3 : Int32) (Q : Int32 → Prop) (B4 : Int32 → Int32 → Int32 → Prop) (hB4 : ∀ (x1 : Int32) (x2 : Int32) (x3 : Int32), B4 x1 x2 x3 → bf_A X (bf_Zi X bW9 (fun r u => u = S ∧ Q r)) 4 4 [some (.ref 0), some (.int x1), some (.int x2), some (.int x3)] [] (bW9 S)) (h : wp_X9_leavesAt_43 S x1 x2 x3 Q B4) : bf_A X (bf_Zi X bW9 (fun r u => u = S ∧ Q r)) 4 43 [some (.ref 0), some (.int x1), some (.int x2), some (.int x3)] [] (bW9 S) := by
  unfold wp_X9_leavesAt_43 at h
  refine bs_iinc C (bf_dk dd_X9_leavesAt 28 rfl) (x3 + (1 : Int32)) rfl rfl (Nat.le_of_ble_eq_true rfl) (Nat.le_of_ble_eq_true rfl) (lv2 := [some (.ref 0), some (.int x1), some (.int x2), some (.int (x3 + (1 : Int32)))]) rfl ?_
  refine bs_goto C (bf_dk dd_X9_leavesAt 29 rfl) (tgt := 4) rfl ?_
  exact bs_weak (bf_s1 (bf_s1 (bf_s1 (bf_s1 bf_s0)))) (hB4 (x1) (x2) ((x3 + (1 : Int32))) h)
def wp_X9_leavesAt_36 (S : bT9) (x1 : Int32) (x2 : Int32) (x3 : Int32) (t0 : Int32) (t1 : Int32) (Q : Int32 → Prop) (B4 : Int32 → Int32 → Int32 → Prop) : Prop := ((¬ t0 = t1 → (wp_X9_leavesAt_43 S (x1) (x2) (x3) Q B4)) ∧ (t0 = t1 → (wp_X9_leavesAt_43 S (x1) ((x2 + (1 : Int32))) (x3) Q B4)))
set_option maxRecDepth 20000 in
theorem t_X9_leavesAt_36 {X : bf_X} (C : bf_C X RX9 cX9_leavesAt 4 (some .int)) (hR : bf_Rm X 2 42) (S : bT9) (x1 : Int32) (x2 : Int32) (x3 : Int32) (t0 : Int32) (t1 : Int32) (Q : Int32 → Prop) (B4 : Int32 → Int32 → Int32 → Prop) (hB4 : ∀ (x1 : Int32) (x2 : Int32) (x3 : Int32), B4 x1 x2 x3 → bf_A X (bf_Zi X bW9 (fun r u => u = S ∧ Q r)) 4 4 [some (.ref 0), some (.int x1), some (.int x2), some (.int x3)] [] (bW9 S)) (h : wp_X9_leavesAt_36 S x1 x2 x3 t0 t1 Q B4) : bf_A X (bf_Zi X bW9 (fun r u => u = S ∧ Q r)) 4 36 [some (.ref 0), some (.int x1), some (.int x2), some (.int x3)] [.int t1, .int t0] (bW9 S) := by
  unfold wp_X9_leavesAt_36 at h
  refine bs_icmp_ne C (bf_dk dd_X9_leavesAt 23 rfl) (tgt := 43) rfl (fun c => ?_) (fun c => ?_)
  · replace h := h.1 c
    exact bs_weak (bf_s1 (bf_s1 (bf_s1 (bf_s1 bf_s0)))) (t_X9_leavesAt_43 C hR S (x1) (x2) (x3) Q B4 hB4 h)
  · replace h := h.2 c
    refine bs_iload_n C (bf_dk dd_X9_leavesAt 24 rfl) rfl ?_
    refine bs_iconst C (bf_dk dd_X9_leavesAt 25 rfl) (1 : Int32) (by decide) ?_
    refine bs_iadd C (bf_dk dd_X9_leavesAt 26 rfl) ?_
    refine bs_istore_n C (bf_dk dd_X9_leavesAt 27 rfl) rfl (Nat.le_of_ble_eq_true rfl) (Nat.le_of_ble_eq_true rfl) (lv2 := [some (.ref 0), some (.int x1), some (.int (x2 + (1 : Int32))), some (.int x3)]) rfl ?_
    exact bs_weak (bf_s1 (bf_s1 (bf_s1 (bf_s1 bf_s0)))) (t_X9_leavesAt_43 C hR S (x1) ((x2 + (1 : Int32))) (x3) Q B4 hB4 h)
def wp_X9_leavesAt_4b (S : bT9) (x1 : Int32) (x2 : Int32) (x3 : Int32) (Q : Int32 → Prop) (B4 : Int32 → Int32 → Int32 → Prop) : Prop := (vp_in (9 : Int32) 23 ∧ ((((b9g_now S) ((9 : Int32)).toNatClampNeg) ≤ x3 → (Q x2)) ∧ (¬ ((b9g_now S) ((9 : Int32)).toNatClampNeg) ≤ x3 → (vp_in x3 64 ∧ (wp_X9_isEnded S (x3) (fun r1 => ((r1 = 0 → (wp_X9_leavesAt_36 S (x1) (x2) (x3) (((b9g_beginning S) (x3).toNatClampNeg)) ((x1 + (1 : Int32))) Q B4)) ∧ (¬ r1 = 0 → (wp_X9_leavesAt_36 S (x1) (x2) (x3) (((b9g_beginning S) (x3).toNatClampNeg)) (x1) Q B4)))))))))
set_option maxRecDepth 20000 in
theorem t_X9_leavesAt_4b {X : bf_X} (C : bf_C X RX9 cX9_leavesAt 4 (some .int)) (hR : bf_Rm X 2 42) (S : bT9) (x1 : Int32) (x2 : Int32) (x3 : Int32) (Q : Int32 → Prop) (B4 : Int32 → Int32 → Int32 → Prop) (hB4 : ∀ (x1 : Int32) (x2 : Int32) (x3 : Int32), B4 x1 x2 x3 → bf_A X (bf_Zi X bW9 (fun r u => u = S ∧ Q r)) 4 4 [some (.ref 0), some (.int x1), some (.int x2), some (.int x3)] [] (bW9 S)) (h : wp_X9_leavesAt_4b S x1 x2 x3 Q B4) : bf_A X (bf_Zi X bW9 (fun r u => u = S ∧ Q r)) 4 4 [some (.ref 0), some (.int x1), some (.int x2), some (.int x3)] [] (bW9 S) := by
  unfold wp_X9_leavesAt_4b at h
  refine bs_iload_n C (bf_dk dd_X9_leavesAt 4 rfl) rfl ?_
  refine bs_aload_n C (bf_dk dd_X9_leavesAt 5 rfl) rfl ?_
  refine bs_get C (bf_dk dd_X9_leavesAt 6 rfl) cl_9 in_9 1 (Nat.le_of_ble_eq_true rfl) rfl f_9_7 (ge_bW9_0 S) rfl ?_
  refine bs_bipush C (bf_dk dd_X9_leavesAt 7 rfl) (9 : Int32) (by decide) ?_
  obtain ⟨hi, h⟩ := h
  refine bs_iald C (bf_dk dd_X9_leavesAt 8 rfl) (ge_bW9_1 S) hi ?_
  refine bs_icmp_ge C (bf_dk dd_X9_leavesAt 9 rfl) (tgt := 49) rfl (fun c => ?_) (fun c => ?_)
  · replace h := h.1 c
    refine bs_iload_n C (bf_dk dd_X9_leavesAt 30 rfl) rfl ?_
    exact bs_iret (u := S) C (bf_dk dd_X9_leavesAt 31 rfl) rfl ⟨rfl, h⟩
  · replace h := h.2 c
    refine bs_aload_n C (bf_dk dd_X9_leavesAt 10 rfl) rfl ?_
    refine bs_get C (bf_dk dd_X9_leavesAt 11 rfl) cl_9 in_9 11 (Nat.le_of_ble_eq_true rfl) rfl f_9_29 (ge_bW9_0 S) rfl ?_
    refine bs_iload_n C (bf_dk dd_X9_leavesAt 12 rfl) rfl ?_
    obtain ⟨hi, h⟩ := h
    refine bs_iald C (bf_dk dd_X9_leavesAt 13 rfl) (ge_bW9_7 S) hi ?_
    refine bs_aload_n C (bf_dk dd_X9_leavesAt 14 rfl) rfl ?_
    refine bs_iload_n C (bf_dk dd_X9_leavesAt 15 rfl) rfl ?_
    refine bs_selfPV_i C hR (c_X9_isEnded _ _ _ _ _ S (x3) _ h) my_X9_isEnded m_9_283 rfl cl_9 (ge_bW9_0 _) rfl (Nat.le_of_ble_eq_true rfl) (Nat.le_of_ble_eq_true rfl) (st := [.int ((b9g_beginning S) (x3).toNatClampNeg)]) (Nat.le_of_ble_eq_true rfl) (bf_dk dd_X9_leavesAt 16 rfl) rfl (fun r1 h => ?_)
    refine bs_if_eq C (bf_dk dd_X9_leavesAt 17 rfl) (tgt := 33) rfl (fun c => ?_) (fun c => ?_)
    · replace h := h.1 c
      refine bs_iload_n C (bf_dk dd_X9_leavesAt 20 rfl) rfl ?_
      refine bs_iconst C (bf_dk dd_X9_leavesAt 21 rfl) (1 : Int32) (by decide) ?_
      refine bs_iadd C (bf_dk dd_X9_leavesAt 22 rfl) ?_
      exact bs_weak (bf_s1 (bf_s1 (bf_s1 (bf_s1 bf_s0)))) (t_X9_leavesAt_36 C hR S (x1) (x2) (x3) (((b9g_beginning S) (x3).toNatClampNeg)) ((x1 + (1 : Int32))) Q B4 hB4 h)
    · replace h := h.2 c
      refine bs_iload_n C (bf_dk dd_X9_leavesAt 18 rfl) rfl ?_
      refine bs_goto C (bf_dk dd_X9_leavesAt 19 rfl) (tgt := 36) rfl ?_
      exact bs_weak (bf_s1 (bf_s1 (bf_s1 (bf_s1 bf_s0)))) (t_X9_leavesAt_36 C hR S (x1) (x2) (x3) (((b9g_beginning S) (x3).toNatClampNeg)) (x1) Q B4 hB4 h)
def wp_X9_leavesAt_4 (S : bT9) (x1 : Int32) (x2 : Int32) (x3 : Int32) (Q : Int32 → Prop) : Prop := ∃ I : Nat → Int32 → Int32 → Int32 → Prop, (∃ n : Nat, I n x1 x2 x3) ∧ ∀ (n : Nat) (x1 : Int32) (x2 : Int32) (x3 : Int32), I n x1 x2 x3 → wp_X9_leavesAt_4b S x1 x2 x3 Q (fun x1 x2 x3 => ∃ n2 : Nat, n2 < n ∧ I n2 x1 x2 x3)
theorem t_X9_leavesAt_4 {X : bf_X} (C : bf_C X RX9 cX9_leavesAt 4 (some .int)) (hR : bf_Rm X 2 42) (S : bT9) (x1 : Int32) (x2 : Int32) (x3 : Int32) (Q : Int32 → Prop) (h : wp_X9_leavesAt_4 S x1 x2 x3 Q) : bf_A X (bf_Zi X bW9 (fun r u => u = S ∧ Q r)) 4 4 [some (.ref 0), some (.int x1), some (.int x2), some (.int x3)] [] (bW9 S) := by
  obtain ⟨I, ⟨n0, h0⟩, hI⟩ := h
  have key : ∀ (n : Nat) (x1 : Int32) (x2 : Int32) (x3 : Int32), I n x1 x2 x3 → bf_A X (bf_Zi X bW9 (fun r u => u = S ∧ Q r)) 4 4 [some (.ref 0), some (.int x1), some (.int x2), some (.int x3)] [] (bW9 S) := by
    intro n
    induction n using Nat.strongRecOn with
    | _ n ih =>
      intro x1 x2 x3 hi
      exact t_X9_leavesAt_4b C hR S x1 x2 x3 Q _ (fun x1 x2 x3 hb => by obtain ⟨n2, hn, hi2⟩ := hb; exact ih n2 hn x1 x2 x3 hi2) (hI n x1 x2 x3 hi)
  exact key n0 x1 x2 x3 h0
def wp_X9_leavesAt (S : bT9) (a1 : Int32) (Q : Int32 → Prop) : Prop := (wp_X9_leavesAt_4 S (a1) ((0 : Int32)) ((0 : Int32)) Q)
set_option maxRecDepth 20000 in
theorem t_X9_leavesAt {X : bf_X} (C : bf_C X RX9 cX9_leavesAt 4 (some .int)) (hR : bf_Rm X 2 42) (S : bT9) (a1 : Int32) (Q : Int32 → Prop) (h : wp_X9_leavesAt S a1 Q) : bf_A X (bf_Zi X bW9 (fun r u => u = S ∧ Q r)) 4 0 [some (.ref 0), some (.int a1), none, none] [] (bW9 S) := by
  unfold wp_X9_leavesAt at h
  refine bs_iconst C (bf_dk dd_X9_leavesAt 0 rfl) (0 : Int32) (by decide) ?_
  refine bs_istore_n C (bf_dk dd_X9_leavesAt 1 rfl) rfl (Nat.le_of_ble_eq_true rfl) (Nat.le_of_ble_eq_true rfl) (lv2 := [some (.ref 0), some (.int a1), some (.int (0 : Int32)), none]) rfl ?_
  refine bs_iconst C (bf_dk dd_X9_leavesAt 2 rfl) (0 : Int32) (by decide) ?_
  refine bs_istore_n C (bf_dk dd_X9_leavesAt 3 rfl) rfl (Nat.le_of_ble_eq_true rfl) (Nat.le_of_ble_eq_true rfl) (lv2 := [some (.ref 0), some (.int a1), some (.int (0 : Int32)), some (.int (0 : Int32))]) rfl ?_
  exact bs_weak (bf_s1 (bf_s1 (bf_s1 (bf_s1 bf_s0)))) (t_X9_leavesAt_4 C hR S (a1) ((0 : Int32)) ((0 : Int32)) Q h)
theorem c_X9_leavesAt (l : Launch) (dC : Nat → ClassId) (dI : Nat → Nat → Nat) (ac : Nat → ClassId) (al : Nat → Nat) (S : bT9) (a1 : Int32) (Q : Int32 → Prop) (h : wp_X9_leavesAt S a1 Q) : bf_M l yX9_leavesAt cX9_leavesAt 4 (some .int) 2 42 dC dI ac al [.ref 0, .int a1] (bW9 S) (bf_Ki dC dI ac al bW9 (fun r u => u = S ∧ Q r)) := by
  refine bf_start [some (.ref 0), some (.int a1), none, none] (by decide) (Nat.le_of_ble_eq_true rfl) (bf_s1 (bf_s1 (bf_en 2))) ?_
  intro X hl C hR e1 e2 e3 e4
  subst e1; subst e2; subst e3; subst e4
  exact t_X9_leavesAt C hR S a1 Q h
def wp_X9_level (S : bT9) (a1 : Int32) (a2 : Int32) (Q : Int32 → (bT9) → Prop) : Prop := (∀ S1 : bT9, S1 = (b9s_told S (0 : Int32)) → (wp_X9_laysNodes S1 (fun u3 => (wp_X9_isIn u3 (a1) ((0 : Int32)) (((b9g_levelMany u3) - (1 : Int32))) (fun r4 => ((r4 = 0 → (Q (-1 : Int32) u3)) ∧ (¬ r4 = 0 → (wp_X9_isIn u3 (a2) ((0 : Int32)) ((4 : Int32)) (fun r6 => ((¬ r6 = 0 → ((¬ a2 = (2 : Int32) → ((¬ a2 = (3 : Int32) → (wp_X9_levelOf u3 (a1) (a2) (fun r8 => (Q r8 u3)))) ∧ (a2 = (3 : Int32) → (((b9g_upper u3) ≤ a1 → (Q (0 : Int32) u3)) ∧ (¬ (b9g_upper u3) ≤ a1 → (Q (1 : Int32) u3)))))) ∧ (a2 = (2 : Int32) → (wp_X9_leavesAt u3 (a1) (fun r10 => (Q r10 u3)))))) ∧ (r6 = 0 → (Q (-1 : Int32) u3))))))))))))
set_option maxRecDepth 20000 in
theorem t_X9_level {X : bf_X} (C : bf_C X RX9 cX9_level 3 (some .int)) (hR : bf_Rm X 8 182) (S : bT9) (a1 : Int32) (a2 : Int32) (Q : Int32 → (bT9) → Prop) (h : wp_X9_level S a1 a2 Q) : bf_A X (bf_Zi X bW9 Q) 3 0 [some (.ref 0), some (.int a1), some (.int a2)] [] (bW9 S) := by
  unfold wp_X9_level at h
  refine bs_aload_n C (bf_dk dd_X9_level 0 rfl) rfl ?_
  refine bs_iconst C (bf_dk dd_X9_level 1 rfl) (0 : Int32) (by decide) ?_
  refine bs_put C (bf_dk dd_X9_level 2 rfl) tyX9_ok nmX9 cl_9 in_9 0 (Nat.le_of_ble_eq_true rfl) rfl f_9_75 rfl (ge_bW9_0 S) (Nat.le_of_ble_eq_true rfl) rfl rfl (pu_bW9_0_0 S (0 : Int32)) ?_
  refine bs_nameS bW9 (fun S1 eS1 => ?_)
  replace h := h S1 eS1
  refine bs_aload_n C (bf_dk dd_X9_level 3 rfl) rfl ?_
  refine bs_selfV_v C hR (c_X9_laysNodes _ _ _ _ _ S1 _ h) my_X9_laysNodes m_9_262 rfl cl_9 (ge_bW9_0 _) rfl (Nat.le_of_ble_eq_true rfl) (Nat.le_of_ble_eq_true rfl) (st := []) (Nat.le_of_ble_eq_true rfl) (bf_dk dd_X9_level 4 rfl) rfl (len := 21) (fun _ => rfl) (fun u3 h => ?_)
  refine bs_aload_n C (bf_dk dd_X9_level 5 rfl) rfl ?_
  refine bs_iload_n C (bf_dk dd_X9_level 6 rfl) rfl ?_
  refine bs_iconst C (bf_dk dd_X9_level 7 rfl) (0 : Int32) (by decide) ?_
  refine bs_aload_n C (bf_dk dd_X9_level 8 rfl) rfl ?_
  refine bs_get C (bf_dk dd_X9_level 9 rfl) cl_9 in_9 17 (Nat.le_of_ble_eq_true rfl) rfl f_9_201 (ge_bW9_0 u3) rfl ?_
  refine bs_iconst C (bf_dk dd_X9_level 10 rfl) (1 : Int32) (by decide) ?_
  refine bs_isub C (bf_dk dd_X9_level 11 rfl) ?_
  refine bs_selfPV_i C hR (c_X9_isIn _ _ _ _ _ u3 (a1) ((0 : Int32)) (((b9g_levelMany u3) - (1 : Int32))) _ h) my_X9_isIn m_9_82 rfl cl_9 (ge_bW9_0 _) rfl (Nat.le_of_ble_eq_true rfl) (Nat.le_of_ble_eq_true rfl) (st := []) (Nat.le_of_ble_eq_true rfl) (bf_dk dd_X9_level 12 rfl) rfl (fun r4 h => ?_)
  refine bs_if_eq C (bf_dk dd_X9_level 13 rfl) (tgt := 34) rfl (fun c => ?_) (fun c => ?_)
  · replace h := h.1 c
    refine bs_iconst C (bf_dk dd_X9_level 20 rfl) (-1 : Int32) (by decide) ?_
    exact bs_iret (u := u3) C (bf_dk dd_X9_level 21 rfl) rfl h
  · replace h := h.2 c
    refine bs_aload_n C (bf_dk dd_X9_level 14 rfl) rfl ?_
    refine bs_iload_n C (bf_dk dd_X9_level 15 rfl) rfl ?_
    refine bs_iconst C (bf_dk dd_X9_level 16 rfl) (0 : Int32) (by decide) ?_
    refine bs_iconst C (bf_dk dd_X9_level 17 rfl) (4 : Int32) (by decide) ?_
    refine bs_selfPV_i C hR (c_X9_isIn _ _ _ _ _ u3 (a2) ((0 : Int32)) ((4 : Int32)) _ h) my_X9_isIn m_9_82 rfl cl_9 (ge_bW9_0 _) rfl (Nat.le_of_ble_eq_true rfl) (Nat.le_of_ble_eq_true rfl) (st := []) (Nat.le_of_ble_eq_true rfl) (bf_dk dd_X9_level 18 rfl) rfl (fun r6 h => ?_)
    refine bs_if_ne C (bf_dk dd_X9_level 19 rfl) (tgt := 36) rfl (fun c => ?_) (fun c => ?_)
    · replace h := h.1 c
      refine bs_iload_n C (bf_dk dd_X9_level 22 rfl) rfl ?_
      refine bs_iconst C (bf_dk dd_X9_level 23 rfl) (2 : Int32) (by decide) ?_
      refine bs_icmp_ne C (bf_dk dd_X9_level 24 rfl) (tgt := 47) rfl (fun c => ?_) (fun c => ?_)
      · replace h := h.1 c
        refine bs_iload_n C (bf_dk dd_X9_level 29 rfl) rfl ?_
        refine bs_iconst C (bf_dk dd_X9_level 30 rfl) (3 : Int32) (by decide) ?_
        refine bs_icmp_ne C (bf_dk dd_X9_level 31 rfl) (tgt := 68) rfl (fun c => ?_) (fun c => ?_)
        · replace h := h.1 c
          refine bs_aload_n C (bf_dk dd_X9_level 40 rfl) rfl ?_
          refine bs_iload_n C (bf_dk dd_X9_level 41 rfl) rfl ?_
          refine bs_iload_n C (bf_dk dd_X9_level 42 rfl) rfl ?_
          refine bs_selfPV_i C hR (c_X9_levelOf _ _ _ _ _ u3 (a1) (a2) _ h) my_X9_levelOf m_9_381 rfl cl_9 (ge_bW9_0 _) rfl (Nat.le_of_ble_eq_true rfl) (Nat.le_of_ble_eq_true rfl) (st := []) (Nat.le_of_ble_eq_true rfl) (bf_dk dd_X9_level 43 rfl) rfl (fun r8 h => ?_)
          exact bs_iret (u := u3) C (bf_dk dd_X9_level 44 rfl) rfl h
        · replace h := h.2 c
          refine bs_iload_n C (bf_dk dd_X9_level 32 rfl) rfl ?_
          refine bs_aload_n C (bf_dk dd_X9_level 33 rfl) rfl ?_
          refine bs_get C (bf_dk dd_X9_level 34 rfl) cl_9 in_9 18 (Nat.le_of_ble_eq_true rfl) rfl f_9_213 (ge_bW9_0 u3) rfl ?_
          refine bs_icmp_ge C (bf_dk dd_X9_level 35 rfl) (tgt := 64) rfl (fun c => ?_) (fun c => ?_)
          · replace h := h.1 c
            refine bs_iconst C (bf_dk dd_X9_level 38 rfl) (0 : Int32) (by decide) ?_
            refine bs_goto C (bf_dk dd_X9_level 39 rfl) (tgt := 74) rfl ?_
            exact bs_iret (u := u3) C (bf_dk dd_X9_level 44 rfl) rfl h
          · replace h := h.2 c
            refine bs_iconst C (bf_dk dd_X9_level 36 rfl) (1 : Int32) (by decide) ?_
            refine bs_goto C (bf_dk dd_X9_level 37 rfl) (tgt := 74) rfl ?_
            exact bs_iret (u := u3) C (bf_dk dd_X9_level 44 rfl) rfl h
      · replace h := h.2 c
        refine bs_aload_n C (bf_dk dd_X9_level 25 rfl) rfl ?_
        refine bs_iload_n C (bf_dk dd_X9_level 26 rfl) rfl ?_
        refine bs_selfPV_i C hR (c_X9_leavesAt _ _ _ _ _ u3 (a1) _ h) my_X9_leavesAt m_9_378 rfl cl_9 (ge_bW9_0 _) rfl (Nat.le_of_ble_eq_true rfl) (Nat.le_of_ble_eq_true rfl) (st := []) (Nat.le_of_ble_eq_true rfl) (bf_dk dd_X9_level 27 rfl) rfl (fun r10 h => ?_)
        exact bs_iret (u := u3) C (bf_dk dd_X9_level 28 rfl) rfl h
    · replace h := h.2 c
      refine bs_iconst C (bf_dk dd_X9_level 20 rfl) (-1 : Int32) (by decide) ?_
      exact bs_iret (u := u3) C (bf_dk dd_X9_level 21 rfl) rfl h
theorem c_X9_level (l : Launch) (dC : Nat → ClassId) (dI : Nat → Nat → Nat) (ac : Nat → ClassId) (al : Nat → Nat) (S : bT9) (a1 : Int32) (a2 : Int32) (Q : Int32 → (bT9) → Prop) (h : wp_X9_level S a1 a2 Q) : bf_M l yX9_level cX9_level 3 (some .int) 8 182 dC dI ac al [.ref 0, .int a1, .int a2] (bW9 S) (bf_Ki dC dI ac al bW9 Q) := by
  refine bf_start [some (.ref 0), some (.int a1), some (.int a2)] (by decide) (Nat.le_of_ble_eq_true rfl) (bf_s1 (bf_s1 (bf_s1 bf_s0))) ?_
  intro X hl C hR e1 e2 e3 e4
  subst e1; subst e2; subst e3; subst e4
  exact t_X9_level C hR S a1 a2 Q h
def wp_X9_item (S : bT9) (a1 : Int32) (a2 : Int32) (Q : Int32 → (bT9) → Prop) : Prop := (∀ S1 : bT9, S1 = (b9s_told S (0 : Int32)) → (wp_X9_laysNodes S1 (fun u3 => (wp_X9_isIn u3 (a1) ((0 : Int32)) (((b9g_itemMany u3) - (1 : Int32))) (fun r4 => ((¬ r4 = 0 → ((¬ a2 = 0 → ((¬ a2 = (1 : Int32) → ((¬ a2 = (2 : Int32) → ((¬ a2 = (3 : Int32) → (Q (-1 : Int32) u3)) ∧ (a2 = (3 : Int32) → (vp_in a1 700 ∧ (Q ((b9g_itemNode u3) (a1).toNatClampNeg) u3))))) ∧ (a2 = (2 : Int32) → (vp_in a1 700 ∧ ((¬ ((b9g_itemChild u3) (a1).toNatClampNeg) = (-1 : Int32) → (Q (1 : Int32) u3)) ∧ (((b9g_itemChild u3) (a1).toNatClampNeg) = (-1 : Int32) → (Q (0 : Int32) u3))))))) ∧ (a2 = (1 : Int32) → (vp_in a1 700 ∧ ((¬ ((b9g_itemByte u3) (a1).toNatClampNeg) = (-1 : Int32) → (Q (0 : Int32) u3)) ∧ (((b9g_itemByte u3) (a1).toNatClampNeg) = (-1 : Int32) → (Q (1 : Int32) u3))))))) ∧ (a2 = 0 → (vp_in a1 700 ∧ (Q ((b9g_itemByte u3) (a1).toNatClampNeg) u3))))) ∧ (r4 = 0 → (Q (-1 : Int32) u3))))))))
set_option maxRecDepth 20000 in
theorem t_X9_item {X : bf_X} (C : bf_C X RX9 cX9_item 3 (some .int)) (hR : bf_Rm X 8 182) (S : bT9) (a1 : Int32) (a2 : Int32) (Q : Int32 → (bT9) → Prop) (h : wp_X9_item S a1 a2 Q) : bf_A X (bf_Zi X bW9 Q) 3 0 [some (.ref 0), some (.int a1), some (.int a2)] [] (bW9 S) := by
  unfold wp_X9_item at h
  refine bs_aload_n C (bf_dk dd_X9_item 0 rfl) rfl ?_
  refine bs_iconst C (bf_dk dd_X9_item 1 rfl) (0 : Int32) (by decide) ?_
  refine bs_put C (bf_dk dd_X9_item 2 rfl) tyX9_ok nmX9 cl_9 in_9 0 (Nat.le_of_ble_eq_true rfl) rfl f_9_75 rfl (ge_bW9_0 S) (Nat.le_of_ble_eq_true rfl) rfl rfl (pu_bW9_0_0 S (0 : Int32)) ?_
  refine bs_nameS bW9 (fun S1 eS1 => ?_)
  replace h := h S1 eS1
  refine bs_aload_n C (bf_dk dd_X9_item 3 rfl) rfl ?_
  refine bs_selfV_v C hR (c_X9_laysNodes _ _ _ _ _ S1 _ h) my_X9_laysNodes m_9_262 rfl cl_9 (ge_bW9_0 _) rfl (Nat.le_of_ble_eq_true rfl) (Nat.le_of_ble_eq_true rfl) (st := []) (Nat.le_of_ble_eq_true rfl) (bf_dk dd_X9_item 4 rfl) rfl (len := 21) (fun _ => rfl) (fun u3 h => ?_)
  refine bs_aload_n C (bf_dk dd_X9_item 5 rfl) rfl ?_
  refine bs_iload_n C (bf_dk dd_X9_item 6 rfl) rfl ?_
  refine bs_iconst C (bf_dk dd_X9_item 7 rfl) (0 : Int32) (by decide) ?_
  refine bs_aload_n C (bf_dk dd_X9_item 8 rfl) rfl ?_
  refine bs_get C (bf_dk dd_X9_item 9 rfl) cl_9 in_9 24 (Nat.le_of_ble_eq_true rfl) rfl f_9_250 (ge_bW9_0 u3) rfl ?_
  refine bs_iconst C (bf_dk dd_X9_item 10 rfl) (1 : Int32) (by decide) ?_
  refine bs_isub C (bf_dk dd_X9_item 11 rfl) ?_
  refine bs_selfPV_i C hR (c_X9_isIn _ _ _ _ _ u3 (a1) ((0 : Int32)) (((b9g_itemMany u3) - (1 : Int32))) _ h) my_X9_isIn m_9_82 rfl cl_9 (ge_bW9_0 _) rfl (Nat.le_of_ble_eq_true rfl) (Nat.le_of_ble_eq_true rfl) (st := []) (Nat.le_of_ble_eq_true rfl) (bf_dk dd_X9_item 12 rfl) rfl (fun r4 h => ?_)
  refine bs_if_ne C (bf_dk dd_X9_item 13 rfl) (tgt := 26) rfl (fun c => ?_) (fun c => ?_)
  · replace h := h.1 c
    refine bs_iload_n C (bf_dk dd_X9_item 16 rfl) rfl ?_
    refine bs_if_ne C (bf_dk dd_X9_item 17 rfl) (tgt := 37) rfl (fun c => ?_) (fun c => ?_)
    · replace h := h.1 c
      refine bs_iload_n C (bf_dk dd_X9_item 23 rfl) rfl ?_
      refine bs_iconst C (bf_dk dd_X9_item 24 rfl) (1 : Int32) (by decide) ?_
      refine bs_icmp_ne C (bf_dk dd_X9_item 25 rfl) (tgt := 58) rfl (fun c => ?_) (fun c => ?_)
      · replace h := h.1 c
        refine bs_iload_n C (bf_dk dd_X9_item 36 rfl) rfl ?_
        refine bs_iconst C (bf_dk dd_X9_item 37 rfl) (2 : Int32) (by decide) ?_
        refine bs_icmp_ne C (bf_dk dd_X9_item 38 rfl) (tgt := 79) rfl (fun c => ?_) (fun c => ?_)
        · replace h := h.1 c
          refine bs_iload_n C (bf_dk dd_X9_item 49 rfl) rfl ?_
          refine bs_iconst C (bf_dk dd_X9_item 50 rfl) (3 : Int32) (by decide) ?_
          refine bs_icmp_ne C (bf_dk dd_X9_item 51 rfl) (tgt := 93) rfl (fun c => ?_) (fun c => ?_)
          · replace h := h.1 c
            refine bs_iconst C (bf_dk dd_X9_item 57 rfl) (-1 : Int32) (by decide) ?_
            exact bs_iret (u := u3) C (bf_dk dd_X9_item 58 rfl) rfl h
          · replace h := h.2 c
            refine bs_aload_n C (bf_dk dd_X9_item 52 rfl) rfl ?_
            refine bs_get C (bf_dk dd_X9_item 53 rfl) cl_9 in_9 21 (Nat.le_of_ble_eq_true rfl) rfl f_9_41 (ge_bW9_0 u3) rfl ?_
            refine bs_iload_n C (bf_dk dd_X9_item 54 rfl) rfl ?_
            obtain ⟨hi, h⟩ := h
            refine bs_iald C (bf_dk dd_X9_item 55 rfl) (ge_bW9_11 u3) hi ?_
            refine bs_goto C (bf_dk dd_X9_item 56 rfl) (tgt := 94) rfl ?_
            exact bs_iret (u := u3) C (bf_dk dd_X9_item 58 rfl) rfl h
        · replace h := h.2 c
          refine bs_aload_n C (bf_dk dd_X9_item 39 rfl) rfl ?_
          refine bs_get C (bf_dk dd_X9_item 40 rfl) cl_9 in_9 23 (Nat.le_of_ble_eq_true rfl) rfl f_9_47 (ge_bW9_0 u3) rfl ?_
          refine bs_iload_n C (bf_dk dd_X9_item 41 rfl) rfl ?_
          obtain ⟨hi, h⟩ := h
          refine bs_iald C (bf_dk dd_X9_item 42 rfl) (ge_bW9_13 u3) hi ?_
          refine bs_iconst C (bf_dk dd_X9_item 43 rfl) (-1 : Int32) (by decide) ?_
          refine bs_icmp_ne C (bf_dk dd_X9_item 44 rfl) (tgt := 77) rfl (fun c => ?_) (fun c => ?_)
          · replace h := h.1 c
            refine bs_iconst C (bf_dk dd_X9_item 47 rfl) (1 : Int32) (by decide) ?_
            exact bs_iret (u := u3) C (bf_dk dd_X9_item 48 rfl) rfl h
          · replace h := h.2 c
            refine bs_iconst C (bf_dk dd_X9_item 45 rfl) (0 : Int32) (by decide) ?_
            refine bs_goto C (bf_dk dd_X9_item 46 rfl) (tgt := 78) rfl ?_
            exact bs_iret (u := u3) C (bf_dk dd_X9_item 48 rfl) rfl h
      · replace h := h.2 c
        refine bs_aload_n C (bf_dk dd_X9_item 26 rfl) rfl ?_
        refine bs_get C (bf_dk dd_X9_item 27 rfl) cl_9 in_9 22 (Nat.le_of_ble_eq_true rfl) rfl f_9_44 (ge_bW9_0 u3) rfl ?_
        refine bs_iload_n C (bf_dk dd_X9_item 28 rfl) rfl ?_
        obtain ⟨hi, h⟩ := h
        refine bs_iald C (bf_dk dd_X9_item 29 rfl) (ge_bW9_12 u3) hi ?_
        refine bs_iconst C (bf_dk dd_X9_item 30 rfl) (-1 : Int32) (by decide) ?_
        refine bs_icmp_ne C (bf_dk dd_X9_item 31 rfl) (tgt := 56) rfl (fun c => ?_) (fun c => ?_)
        · replace h := h.1 c
          refine bs_iconst C (bf_dk dd_X9_item 34 rfl) (0 : Int32) (by decide) ?_
          exact bs_iret (u := u3) C (bf_dk dd_X9_item 35 rfl) rfl h
        · replace h := h.2 c
          refine bs_iconst C (bf_dk dd_X9_item 32 rfl) (1 : Int32) (by decide) ?_
          refine bs_goto C (bf_dk dd_X9_item 33 rfl) (tgt := 57) rfl ?_
          exact bs_iret (u := u3) C (bf_dk dd_X9_item 35 rfl) rfl h
    · replace h := h.2 c
      refine bs_aload_n C (bf_dk dd_X9_item 18 rfl) rfl ?_
      refine bs_get C (bf_dk dd_X9_item 19 rfl) cl_9 in_9 22 (Nat.le_of_ble_eq_true rfl) rfl f_9_44 (ge_bW9_0 u3) rfl ?_
      refine bs_iload_n C (bf_dk dd_X9_item 20 rfl) rfl ?_
      obtain ⟨hi, h⟩ := h
      refine bs_iald C (bf_dk dd_X9_item 21 rfl) (ge_bW9_12 u3) hi ?_
      exact bs_iret (u := u3) C (bf_dk dd_X9_item 22 rfl) rfl h
  · replace h := h.2 c
    refine bs_iconst C (bf_dk dd_X9_item 14 rfl) (-1 : Int32) (by decide) ?_
    exact bs_iret (u := u3) C (bf_dk dd_X9_item 15 rfl) rfl h
theorem c_X9_item (l : Launch) (dC : Nat → ClassId) (dI : Nat → Nat → Nat) (ac : Nat → ClassId) (al : Nat → Nat) (S : bT9) (a1 : Int32) (a2 : Int32) (Q : Int32 → (bT9) → Prop) (h : wp_X9_item S a1 a2 Q) : bf_M l yX9_item cX9_item 3 (some .int) 8 182 dC dI ac al [.ref 0, .int a1, .int a2] (bW9 S) (bf_Ki dC dI ac al bW9 Q) := by
  refine bf_start [some (.ref 0), some (.int a1), some (.int a2)] (by decide) (Nat.le_of_ble_eq_true rfl) (bf_s1 (bf_s1 (bf_s1 bf_s0))) ?_
  intro X hl C hR e1 e2 e3 e4
  subst e1; subst e2; subst e3; subst e4
  exact t_X9_item C hR S a1 a2 Q h
def wp_X9_one (S : bT9) (a1 : Int32) (Q : (bT9) → Prop) : Prop := (vp_in (b9g_oneMany S) 700 ∧ (∀ S1 : bT9, S1 = (b9s_ones S (upd (b9g_ones S) ((b9g_oneMany S)).toNatClampNeg a1)) → (∀ S2 : bT9, S2 = (b9s_oneMany S1 ((b9g_oneMany S1) + (1 : Int32))) → (Q S2))))
set_option maxRecDepth 20000 in
theorem t_X9_one {X : bf_X} (C : bf_C X RX9 cX9_one 2 none) (hR : bf_Rm X 0 0) (S : bT9) (a1 : Int32) (Q : (bT9) → Prop) (h : wp_X9_one S a1 Q) : bf_A X (bf_Zv X bW9 Q) 2 0 [some (.ref 0), some (.int a1)] [] (bW9 S) := by
  unfold wp_X9_one at h
  refine bs_aload_n C (bf_dk dd_X9_one 0 rfl) rfl ?_
  refine bs_get C (bf_dk dd_X9_one 1 rfl) cl_9 in_9 36 (Nat.le_of_ble_eq_true rfl) rfl f_9_56 (ge_bW9_0 S) rfl ?_
  refine bs_aload_n C (bf_dk dd_X9_one 2 rfl) rfl ?_
  refine bs_get C (bf_dk dd_X9_one 3 rfl) cl_9 in_9 37 (Nat.le_of_ble_eq_true rfl) rfl f_9_384 (ge_bW9_0 S) rfl ?_
  refine bs_iload_n C (bf_dk dd_X9_one 4 rfl) rfl ?_
  obtain ⟨hi, h⟩ := h
  refine bs_iast C (bf_dk dd_X9_one 5 rfl) (ge_bW9_16 S) hi (ar_bW9_16 S _) ?_
  refine bs_nameS bW9 (fun S1 eS1 => ?_)
  replace h := h S1 eS1
  refine bs_aload_n C (bf_dk dd_X9_one 6 rfl) rfl ?_
  refine bs_aload_n C (bf_dk dd_X9_one 7 rfl) rfl ?_
  refine bs_get C (bf_dk dd_X9_one 8 rfl) cl_9 in_9 37 (Nat.le_of_ble_eq_true rfl) rfl f_9_384 (ge_bW9_0 S1) rfl ?_
  refine bs_iconst C (bf_dk dd_X9_one 9 rfl) (1 : Int32) (by decide) ?_
  refine bs_iadd C (bf_dk dd_X9_one 10 rfl) ?_
  refine bs_put C (bf_dk dd_X9_one 11 rfl) tyX9_ok nmX9 cl_9 in_9 37 (Nat.le_of_ble_eq_true rfl) rfl f_9_384 rfl (ge_bW9_0 S1) (Nat.le_of_ble_eq_true rfl) rfl rfl (pu_bW9_0_37 S1 ((b9g_oneMany S1) + (1 : Int32))) ?_
  refine bs_nameS bW9 (fun S2 eS2 => ?_)
  replace h := h S2 eS2
  exact bs_vret (u := S2) C (bf_dk dd_X9_one 12 rfl) rfl h
theorem c_X9_one (l : Launch) (dC : Nat → ClassId) (dI : Nat → Nat → Nat) (ac : Nat → ClassId) (al : Nat → Nat) (S : bT9) (a1 : Int32) (Q : (bT9) → Prop) (h : wp_X9_one S a1 Q) : bf_M l yX9_one cX9_one 2 none 0 0 dC dI ac al [.ref 0, .int a1] (bW9 S) (bf_Kv dC dI ac al bW9 Q) := by
  refine bf_start [some (.ref 0), some (.int a1)] (by decide) (Nat.le_of_ble_eq_true rfl) (bf_s1 (bf_s1 bf_s0)) ?_
  intro X hl C hR e1 e2 e3 e4
  subst e1; subst e2; subst e3; subst e4
  exact t_X9_one C hR S a1 Q h
def wp_X9_onesOfNode_89 (S : bT9) (x1 : Int32) (x2 : Int32) (Q : (bT9) → Prop) (B29 : Int32 → Int32 → (bT9) → Prop) : Prop := (B29 (x1) ((x2 + (1 : Int32))) S)
set_option maxRecDepth 20000 in
theorem t_X9_onesOfNode_89 {X : bf_X} (C : bf_C X RX9 cX9_onesOfNode 3 none) (hR : bf_Rm X 3 69) (S : bT9) (x1 : Int32) (x2 : Int32) (Q : (bT9) → Prop) (B29 : Int32 → Int32 → (bT9) → Prop) (hB29 : ∀ (x1 : Int32) (x2 : Int32) (S : bT9), B29 x1 x2 S → bf_A X (bf_Zv X bW9 Q) 3 29 [some (.ref 0), some (.int x1), some (.int x2)] [] (bW9 S)) (h : wp_X9_onesOfNode_89 S x1 x2 Q B29) : bf_A X (bf_Zv X bW9 Q) 3 89 [some (.ref 0), some (.int x1), some (.int x2)] [] (bW9 S) := by
  unfold wp_X9_onesOfNode_89 at h
  refine bs_iinc C (bf_dk dd_X9_onesOfNode 51 rfl) (x2 + (1 : Int32)) rfl rfl (Nat.le_of_ble_eq_true rfl) (Nat.le_of_ble_eq_true rfl) (lv2 := [some (.ref 0), some (.int x1), some (.int (x2 + (1 : Int32)))]) rfl ?_
  refine bs_goto C (bf_dk dd_X9_onesOfNode 52 rfl) (tgt := 29) rfl ?_
  exact bs_weak (bf_s1 (bf_s1 (bf_s1 bf_s0))) (hB29 (x1) ((x2 + (1 : Int32))) S h)
def wp_X9_onesOfNode_64 (S : bT9) (x1 : Int32) (x2 : Int32) (Q : (bT9) → Prop) (B29 : Int32 → Int32 → (bT9) → Prop) : Prop := (wp_X9_key S (x2) (fun r1 => (vp_in x1 512 ∧ (wp_X9_byteOf S (r1) (((b9g_nodeLevel S) (x1).toNatClampNeg)) (fun r3 => (wp_X9_one S ((((256 : Int32) * x1) + r3)) (fun u6 => (wp_X9_onesOfNode_89 u6 (x1) (x2) Q B29))))))))
set_option maxRecDepth 20000 in
theorem t_X9_onesOfNode_64 {X : bf_X} (C : bf_C X RX9 cX9_onesOfNode 3 none) (hR : bf_Rm X 3 69) (S : bT9) (x1 : Int32) (x2 : Int32) (Q : (bT9) → Prop) (B29 : Int32 → Int32 → (bT9) → Prop) (hB29 : ∀ (x1 : Int32) (x2 : Int32) (S : bT9), B29 x1 x2 S → bf_A X (bf_Zv X bW9 Q) 3 29 [some (.ref 0), some (.int x1), some (.int x2)] [] (bW9 S)) (h : wp_X9_onesOfNode_64 S x1 x2 Q B29) : bf_A X (bf_Zv X bW9 Q) 3 64 [some (.ref 0), some (.int x1), some (.int x2)] [] (bW9 S) := by
  unfold wp_X9_onesOfNode_64 at h
  refine bs_aload_n C (bf_dk dd_X9_onesOfNode 36 rfl) rfl ?_
  refine bs_sipush C (bf_dk dd_X9_onesOfNode 37 rfl) (256 : Int32) (by decide) ?_
  refine bs_iload_n C (bf_dk dd_X9_onesOfNode 38 rfl) rfl ?_
  refine bs_imul C (bf_dk dd_X9_onesOfNode 39 rfl) ?_
  refine bs_aload_n C (bf_dk dd_X9_onesOfNode 40 rfl) rfl ?_
  refine bs_aload_n C (bf_dk dd_X9_onesOfNode 41 rfl) rfl ?_
  refine bs_iload_n C (bf_dk dd_X9_onesOfNode 42 rfl) rfl ?_
  refine bs_selfPV_l C hR (c_X9_key _ _ _ _ _ S (x2) _ h) my_X9_key m_9_178 rfl cl_9 (ge_bW9_0 _) rfl (Nat.le_of_ble_eq_true rfl) (Nat.le_of_ble_eq_true rfl) (st := [.ref 0, .int ((256 : Int32) * x1), .ref 0]) (Nat.le_of_ble_eq_true rfl) (bf_dk dd_X9_onesOfNode 43 rfl) rfl (fun r1 h => ?_)
  refine bs_aload_n C (bf_dk dd_X9_onesOfNode 44 rfl) rfl ?_
  refine bs_get C (bf_dk dd_X9_onesOfNode 45 rfl) cl_9 in_9 13 (Nat.le_of_ble_eq_true rfl) rfl f_9_32 (ge_bW9_0 S) rfl ?_
  refine bs_iload_n C (bf_dk dd_X9_onesOfNode 46 rfl) rfl ?_
  obtain ⟨hi, h⟩ := h
  refine bs_iald C (bf_dk dd_X9_onesOfNode 47 rfl) (ge_bW9_8 S) hi ?_
  refine bs_selfPV_i C hR (c_X9_byteOf _ _ _ _ _ S (r1) (((b9g_nodeLevel S) (x1).toNatClampNeg)) _ h) my_X9_byteOf m_9_181 rfl cl_9 (ge_bW9_0 _) rfl (Nat.le_of_ble_eq_true rfl) (Nat.le_of_ble_eq_true rfl) (st := [.int ((256 : Int32) * x1), .ref 0]) (Nat.le_of_ble_eq_true rfl) (bf_dk dd_X9_onesOfNode 48 rfl) rfl (fun r3 h => ?_)
  refine bs_iadd C (bf_dk dd_X9_onesOfNode 49 rfl) ?_
  refine bs_selfV_v C hR (c_X9_one _ _ _ _ _ S ((((256 : Int32) * x1) + r3)) _ h) my_X9_one m_9_387 rfl cl_9 (ge_bW9_0 _) rfl (Nat.le_of_ble_eq_true rfl) (Nat.le_of_ble_eq_true rfl) (st := []) (Nat.le_of_ble_eq_true rfl) (bf_dk dd_X9_onesOfNode 50 rfl) rfl (len := 21) (fun _ => rfl) (fun u6 h => ?_)
  exact bs_weak (bf_s1 (bf_s1 (bf_s1 bf_s0))) (t_X9_onesOfNode_89 C hR u6 (x1) (x2) Q B29 hB29 h)
def wp_X9_onesOfNode_29b (S : bT9) (x1 : Int32) (x2 : Int32) (Q : (bT9) → Prop) (B29 : Int32 → Int32 → (bT9) → Prop) : Prop := (wp_X9_lastOf S (x1) (fun r7 => ((r7 < x2 → (Q S)) ∧ (¬ r7 < x2 → (wp_X9_isBranch S (x1) (x2) (fun r9 => ((r9 = 0 → (wp_X9_onesOfNode_89 S (x1) (x2) Q B29)) ∧ (¬ r9 = 0 → (((b9g_chosen S) = 0 → (wp_X9_onesOfNode_64 S (x1) (x2) Q B29)) ∧ (¬ (b9g_chosen S) = 0 → (wp_X9_childAt S (x1) (x2) (fun r11 => ((r11 = (-1 : Int32) → (wp_X9_onesOfNode_89 S (x1) (x2) Q B29)) ∧ (¬ r11 = (-1 : Int32) → (wp_X9_onesOfNode_64 S (x1) (x2) Q B29)))))))))))))))
set_option maxRecDepth 20000 in
theorem t_X9_onesOfNode_29b {X : bf_X} (C : bf_C X RX9 cX9_onesOfNode 3 none) (hR : bf_Rm X 3 69) (S : bT9) (x1 : Int32) (x2 : Int32) (Q : (bT9) → Prop) (B29 : Int32 → Int32 → (bT9) → Prop) (hB29 : ∀ (x1 : Int32) (x2 : Int32) (S : bT9), B29 x1 x2 S → bf_A X (bf_Zv X bW9 Q) 3 29 [some (.ref 0), some (.int x1), some (.int x2)] [] (bW9 S)) (h : wp_X9_onesOfNode_29b S x1 x2 Q B29) : bf_A X (bf_Zv X bW9 Q) 3 29 [some (.ref 0), some (.int x1), some (.int x2)] [] (bW9 S) := by
  unfold wp_X9_onesOfNode_29b at h
  refine bs_iload_n C (bf_dk dd_X9_onesOfNode 17 rfl) rfl ?_
  refine bs_aload_n C (bf_dk dd_X9_onesOfNode 18 rfl) rfl ?_
  refine bs_iload_n C (bf_dk dd_X9_onesOfNode 19 rfl) rfl ?_
  refine bs_selfPV_i C hR (c_X9_lastOf _ _ _ _ _ S (x1) _ h) my_X9_lastOf m_9_222 rfl cl_9 (ge_bW9_0 _) rfl (Nat.le_of_ble_eq_true rfl) (Nat.le_of_ble_eq_true rfl) (st := [.int x2]) (Nat.le_of_ble_eq_true rfl) (bf_dk dd_X9_onesOfNode 20 rfl) rfl (fun r7 h => ?_)
  refine bs_icmp_gt C (bf_dk dd_X9_onesOfNode 21 rfl) (tgt := 95) rfl (fun c => ?_) (fun c => ?_)
  · replace h := h.1 c
    exact bs_vret (u := S) C (bf_dk dd_X9_onesOfNode 53 rfl) rfl h
  · replace h := h.2 c
    refine bs_aload_n C (bf_dk dd_X9_onesOfNode 22 rfl) rfl ?_
    refine bs_iload_n C (bf_dk dd_X9_onesOfNode 23 rfl) rfl ?_
    refine bs_iload_n C (bf_dk dd_X9_onesOfNode 24 rfl) rfl ?_
    refine bs_selfPV_i C hR (c_X9_isBranch _ _ _ _ _ S (x1) (x2) _ h) my_X9_isBranch m_9_225 rfl cl_9 (ge_bW9_0 _) rfl (Nat.le_of_ble_eq_true rfl) (Nat.le_of_ble_eq_true rfl) (st := []) (Nat.le_of_ble_eq_true rfl) (bf_dk dd_X9_onesOfNode 25 rfl) rfl (fun r9 h => ?_)
    refine bs_if_eq C (bf_dk dd_X9_onesOfNode 26 rfl) (tgt := 89) rfl (fun c => ?_) (fun c => ?_)
    · replace h := h.1 c
      exact bs_weak (bf_s1 (bf_s1 (bf_s1 bf_s0))) (t_X9_onesOfNode_89 C hR S (x1) (x2) Q B29 hB29 h)
    · replace h := h.2 c
      refine bs_aload_n C (bf_dk dd_X9_onesOfNode 27 rfl) rfl ?_
      refine bs_get C (bf_dk dd_X9_onesOfNode 28 rfl) cl_9 in_9 9 (Nat.le_of_ble_eq_true rfl) rfl f_9_156 (ge_bW9_0 S) rfl ?_
      refine bs_if_eq C (bf_dk dd_X9_onesOfNode 29 rfl) (tgt := 64) rfl (fun c => ?_) (fun c => ?_)
      · replace h := h.1 c
        exact bs_weak (bf_s1 (bf_s1 (bf_s1 bf_s0))) (t_X9_onesOfNode_64 C hR S (x1) (x2) Q B29 hB29 h)
      · replace h := h.2 c
        refine bs_aload_n C (bf_dk dd_X9_onesOfNode 30 rfl) rfl ?_
        refine bs_iload_n C (bf_dk dd_X9_onesOfNode 31 rfl) rfl ?_
        refine bs_iload_n C (bf_dk dd_X9_onesOfNode 32 rfl) rfl ?_
        refine bs_selfPV_i C hR (c_X9_childAt _ _ _ _ _ S (x1) (x2) _ h) my_X9_childAt m_9_228 rfl cl_9 (ge_bW9_0 _) rfl (Nat.le_of_ble_eq_true rfl) (Nat.le_of_ble_eq_true rfl) (st := []) (Nat.le_of_ble_eq_true rfl) (bf_dk dd_X9_onesOfNode 33 rfl) rfl (fun r11 h => ?_)
        refine bs_iconst C (bf_dk dd_X9_onesOfNode 34 rfl) (-1 : Int32) (by decide) ?_
        refine bs_icmp_eq C (bf_dk dd_X9_onesOfNode 35 rfl) (tgt := 89) rfl (fun c => ?_) (fun c => ?_)
        · replace h := h.1 c
          exact bs_weak (bf_s1 (bf_s1 (bf_s1 bf_s0))) (t_X9_onesOfNode_89 C hR S (x1) (x2) Q B29 hB29 h)
        · replace h := h.2 c
          exact bs_weak (bf_s1 (bf_s1 (bf_s1 bf_s0))) (t_X9_onesOfNode_64 C hR S (x1) (x2) Q B29 hB29 h)
def wp_X9_onesOfNode_29 (S : bT9) (x1 : Int32) (x2 : Int32) (Q : (bT9) → Prop) : Prop := ∃ I : Nat → Int32 → Int32 → (bT9) → Prop, (∃ n : Nat, I n x1 x2 S) ∧ ∀ (n : Nat) (x1 : Int32) (x2 : Int32) (S : bT9), I n x1 x2 S → wp_X9_onesOfNode_29b S x1 x2 Q (fun x1 x2 S => ∃ n2 : Nat, n2 < n ∧ I n2 x1 x2 S)
theorem t_X9_onesOfNode_29 {X : bf_X} (C : bf_C X RX9 cX9_onesOfNode 3 none) (hR : bf_Rm X 3 69) (S : bT9) (x1 : Int32) (x2 : Int32) (Q : (bT9) → Prop) (h : wp_X9_onesOfNode_29 S x1 x2 Q) : bf_A X (bf_Zv X bW9 Q) 3 29 [some (.ref 0), some (.int x1), some (.int x2)] [] (bW9 S) := by
  obtain ⟨I, ⟨n0, h0⟩, hI⟩ := h
  have key : ∀ (n : Nat) (x1 : Int32) (x2 : Int32) (S : bT9), I n x1 x2 S → bf_A X (bf_Zv X bW9 Q) 3 29 [some (.ref 0), some (.int x1), some (.int x2)] [] (bW9 S) := by
    intro n
    induction n using Nat.strongRecOn with
    | _ n ih =>
      intro x1 x2 S hi
      exact t_X9_onesOfNode_29b C hR S x1 x2 Q _ (fun x1 x2 S hb => by obtain ⟨n2, hn, hi2⟩ := hb; exact ih n2 hn x1 x2 S hi2) (hI n x1 x2 S hi)
  exact key n0 x1 x2 S h0
def wp_X9_onesOfNode (S : bT9) (a1 : Int32) (Q : (bT9) → Prop) : Prop := ((¬ (b9g_chosen S) = (2 : Int32) → (vp_in a1 512 ∧ (wp_X9_onesOfNode_29 S (a1) (((b9g_nodeLeaf S) (a1).toNatClampNeg)) Q))) ∧ ((b9g_chosen S) = (2 : Int32) → (wp_X9_isNodeEnd S (a1) (fun r13 => ((r13 = 0 → (Q S)) ∧ (¬ r13 = 0 → (wp_X9_one S (a1) (fun u16 => (Q u16)))))))))
set_option maxRecDepth 20000 in
theorem t_X9_onesOfNode {X : bf_X} (C : bf_C X RX9 cX9_onesOfNode 3 none) (hR : bf_Rm X 3 69) (S : bT9) (a1 : Int32) (Q : (bT9) → Prop) (h : wp_X9_onesOfNode S a1 Q) : bf_A X (bf_Zv X bW9 Q) 3 0 [some (.ref 0), some (.int a1), none] [] (bW9 S) := by
  unfold wp_X9_onesOfNode at h
  refine bs_aload_n C (bf_dk dd_X9_onesOfNode 0 rfl) rfl ?_
  refine bs_get C (bf_dk dd_X9_onesOfNode 1 rfl) cl_9 in_9 9 (Nat.le_of_ble_eq_true rfl) rfl f_9_156 (ge_bW9_0 S) rfl ?_
  refine bs_iconst C (bf_dk dd_X9_onesOfNode 2 rfl) (2 : Int32) (by decide) ?_
  refine bs_icmp_ne C (bf_dk dd_X9_onesOfNode 3 rfl) (tgt := 22) rfl (fun c => ?_) (fun c => ?_)
  · replace h := h.1 c
    refine bs_aload_n C (bf_dk dd_X9_onesOfNode 12 rfl) rfl ?_
    refine bs_get C (bf_dk dd_X9_onesOfNode 13 rfl) cl_9 in_9 14 (Nat.le_of_ble_eq_true rfl) rfl f_9_35 (ge_bW9_0 S) rfl ?_
    refine bs_iload_n C (bf_dk dd_X9_onesOfNode 14 rfl) rfl ?_
    obtain ⟨hi, h⟩ := h
    refine bs_iald C (bf_dk dd_X9_onesOfNode 15 rfl) (ge_bW9_9 S) hi ?_
    refine bs_istore_n C (bf_dk dd_X9_onesOfNode 16 rfl) rfl (Nat.le_of_ble_eq_true rfl) (Nat.le_of_ble_eq_true rfl) (lv2 := [some (.ref 0), some (.int a1), some (.int ((b9g_nodeLeaf S) (a1).toNatClampNeg))]) rfl ?_
    exact bs_weak (bf_s1 (bf_s1 (bf_s1 bf_s0))) (t_X9_onesOfNode_29 C hR S (a1) (((b9g_nodeLeaf S) (a1).toNatClampNeg)) Q h)
  · replace h := h.2 c
    refine bs_aload_n C (bf_dk dd_X9_onesOfNode 4 rfl) rfl ?_
    refine bs_iload_n C (bf_dk dd_X9_onesOfNode 5 rfl) rfl ?_
    refine bs_selfPV_i C hR (c_X9_isNodeEnd _ _ _ _ _ S (a1) _ h) my_X9_isNodeEnd m_9_234 rfl cl_9 (ge_bW9_0 _) rfl (Nat.le_of_ble_eq_true rfl) (Nat.le_of_ble_eq_true rfl) (st := []) (Nat.le_of_ble_eq_true rfl) (bf_dk dd_X9_onesOfNode 6 rfl) rfl (fun r13 h => ?_)
    refine bs_if_eq C (bf_dk dd_X9_onesOfNode 7 rfl) (tgt := 21) rfl (fun c => ?_) (fun c => ?_)
    · replace h := h.1 c
      exact bs_vret (u := S) C (bf_dk dd_X9_onesOfNode 11 rfl) rfl h
    · replace h := h.2 c
      refine bs_aload_n C (bf_dk dd_X9_onesOfNode 8 rfl) rfl ?_
      refine bs_iload_n C (bf_dk dd_X9_onesOfNode 9 rfl) rfl ?_
      refine bs_selfV_v C hR (c_X9_one _ _ _ _ _ S (a1) _ h) my_X9_one m_9_387 rfl cl_9 (ge_bW9_0 _) rfl (Nat.le_of_ble_eq_true rfl) (Nat.le_of_ble_eq_true rfl) (st := []) (Nat.le_of_ble_eq_true rfl) (bf_dk dd_X9_onesOfNode 10 rfl) rfl (len := 21) (fun _ => rfl) (fun u16 h => ?_)
      exact bs_vret (u := u16) C (bf_dk dd_X9_onesOfNode 11 rfl) rfl h
theorem c_X9_onesOfNode (l : Launch) (dC : Nat → ClassId) (dI : Nat → Nat → Nat) (ac : Nat → ClassId) (al : Nat → Nat) (S : bT9) (a1 : Int32) (Q : (bT9) → Prop) (h : wp_X9_onesOfNode S a1 Q) : bf_M l yX9_onesOfNode cX9_onesOfNode 3 none 3 69 dC dI ac al [.ref 0, .int a1] (bW9 S) (bf_Kv dC dI ac al bW9 Q) := by
  refine bf_start [some (.ref 0), some (.int a1), none] (by decide) (Nat.le_of_ble_eq_true rfl) (bf_s1 (bf_s1 (bf_en 1))) ?_
  intro X hl C hR e1 e2 e3 e4
  subst e1; subst e2; subst e3; subst e4
  exact t_X9_onesOfNode C hR S a1 Q h
def wp_X9_isOne_69 (S : bT9) (Q : Int32 → Prop) : Prop := (bf_bool (1 : Int32) ∧ Q (1 : Int32))
set_option maxRecDepth 20000 in
theorem t_X9_isOne_69 {X : bf_X} (C : bf_C X RX9 cX9_isOne 2 (some .boolean)) (hR : bf_Rm X 0 0) (S : bT9) (Q : Int32 → Prop) (h : wp_X9_isOne_69 S Q) : bf_A X (bf_Zi X bW9 (fun r u => u = S ∧ Q r)) 2 69 [none, none] [] (bW9 S) := by
  unfold wp_X9_isOne_69 at h
  refine bs_iconst C (bf_dk dd_X9_isOne 41 rfl) (1 : Int32) (by decide) ?_
  refine bs_goto C (bf_dk dd_X9_isOne 42 rfl) (tgt := 74) rfl ?_
  obtain ⟨hi, h⟩ := h
  exact bs_zret (u := S) C (bf_dk dd_X9_isOne 44 rfl) hi rfl ⟨rfl, h⟩
def wp_X9_isOne (S : bT9) (a1 : Int32) (Q : Int32 → Prop) : Prop := ((¬ (b9g_chosen S) = (3 : Int32) → ((¬ (b9g_chosen S) = (4 : Int32) → ((a1 = 0 → (wp_X9_isOne_69 S Q)) ∧ (¬ a1 = 0 → (vp_in (a1 - (1 : Int32)) 700 ∧ (vp_in a1 700 ∧ ((((b9g_itemNode S) ((a1 - (1 : Int32))).toNatClampNeg) = ((b9g_itemNode S) (a1).toNatClampNeg) → (bf_bool (0 : Int32) ∧ Q (0 : Int32))) ∧ (¬ ((b9g_itemNode S) ((a1 - (1 : Int32))).toNatClampNeg) = ((b9g_itemNode S) (a1).toNatClampNeg) → (wp_X9_isOne_69 S Q)))))))) ∧ ((b9g_chosen S) = (4 : Int32) → (vp_in a1 700 ∧ ((((b9g_itemChild S) (a1).toNatClampNeg) = (-1 : Int32) → (bf_bool (0 : Int32) ∧ Q (0 : Int32))) ∧ (¬ ((b9g_itemChild S) (a1).toNatClampNeg) = (-1 : Int32) → (bf_bool (1 : Int32) ∧ Q (1 : Int32)))))))) ∧ ((b9g_chosen S) = (3 : Int32) → (vp_in a1 700 ∧ ((¬ ((b9g_itemByte S) (a1).toNatClampNeg) = (-1 : Int32) → (bf_bool (0 : Int32) ∧ Q (0 : Int32))) ∧ (((b9g_itemByte S) (a1).toNatClampNeg) = (-1 : Int32) → (bf_bool (1 : Int32) ∧ Q (1 : Int32)))))))
set_option maxRecDepth 20000 in
theorem t_X9_isOne {X : bf_X} (C : bf_C X RX9 cX9_isOne 2 (some .boolean)) (hR : bf_Rm X 0 0) (S : bT9) (a1 : Int32) (Q : Int32 → Prop) (h : wp_X9_isOne S a1 Q) : bf_A X (bf_Zi X bW9 (fun r u => u = S ∧ Q r)) 2 0 [some (.ref 0), some (.int a1)] [] (bW9 S) := by
  unfold wp_X9_isOne at h
  refine bs_aload_n C (bf_dk dd_X9_isOne 0 rfl) rfl ?_
  refine bs_get C (bf_dk dd_X9_isOne 1 rfl) cl_9 in_9 9 (Nat.le_of_ble_eq_true rfl) rfl f_9_156 (ge_bW9_0 S) rfl ?_
  refine bs_iconst C (bf_dk dd_X9_isOne 2 rfl) (3 : Int32) (by decide) ?_
  refine bs_icmp_ne C (bf_dk dd_X9_isOne 3 rfl) (tgt := 24) rfl (fun c => ?_) (fun c => ?_)
  · replace h := h.1 c
    refine bs_aload_n C (bf_dk dd_X9_isOne 14 rfl) rfl ?_
    refine bs_get C (bf_dk dd_X9_isOne 15 rfl) cl_9 in_9 9 (Nat.le_of_ble_eq_true rfl) rfl f_9_156 (ge_bW9_0 S) rfl ?_
    refine bs_iconst C (bf_dk dd_X9_isOne 16 rfl) (4 : Int32) (by decide) ?_
    refine bs_icmp_ne C (bf_dk dd_X9_isOne 17 rfl) (tgt := 48) rfl (fun c => ?_) (fun c => ?_)
    · replace h := h.1 c
      refine bs_iload_n C (bf_dk dd_X9_isOne 28 rfl) rfl ?_
      refine bs_if_eq C (bf_dk dd_X9_isOne 29 rfl) (tgt := 69) rfl (fun c => ?_) (fun c => ?_)
      · replace h := h.1 c
        exact bs_weak (bf_sn (bf_sn bf_s0)) (t_X9_isOne_69 C hR S Q h)
      · replace h := h.2 c
        refine bs_aload_n C (bf_dk dd_X9_isOne 30 rfl) rfl ?_
        refine bs_get C (bf_dk dd_X9_isOne 31 rfl) cl_9 in_9 21 (Nat.le_of_ble_eq_true rfl) rfl f_9_41 (ge_bW9_0 S) rfl ?_
        refine bs_iload_n C (bf_dk dd_X9_isOne 32 rfl) rfl ?_
        refine bs_iconst C (bf_dk dd_X9_isOne 33 rfl) (1 : Int32) (by decide) ?_
        refine bs_isub C (bf_dk dd_X9_isOne 34 rfl) ?_
        obtain ⟨hi, h⟩ := h
        refine bs_iald C (bf_dk dd_X9_isOne 35 rfl) (ge_bW9_11 S) hi ?_
        refine bs_aload_n C (bf_dk dd_X9_isOne 36 rfl) rfl ?_
        refine bs_get C (bf_dk dd_X9_isOne 37 rfl) cl_9 in_9 21 (Nat.le_of_ble_eq_true rfl) rfl f_9_41 (ge_bW9_0 S) rfl ?_
        refine bs_iload_n C (bf_dk dd_X9_isOne 38 rfl) rfl ?_
        obtain ⟨hi, h⟩ := h
        refine bs_iald C (bf_dk dd_X9_isOne 39 rfl) (ge_bW9_11 S) hi ?_
        refine bs_icmp_eq C (bf_dk dd_X9_isOne 40 rfl) (tgt := 73) rfl (fun c => ?_) (fun c => ?_)
        · replace h := h.1 c
          refine bs_iconst C (bf_dk dd_X9_isOne 43 rfl) (0 : Int32) (by decide) ?_
          obtain ⟨hi, h⟩ := h
          exact bs_zret (u := S) C (bf_dk dd_X9_isOne 44 rfl) hi rfl ⟨rfl, h⟩
        · replace h := h.2 c
          exact bs_weak (bf_sn (bf_sn bf_s0)) (t_X9_isOne_69 C hR S Q h)
    · replace h := h.2 c
      refine bs_aload_n C (bf_dk dd_X9_isOne 18 rfl) rfl ?_
      refine bs_get C (bf_dk dd_X9_isOne 19 rfl) cl_9 in_9 23 (Nat.le_of_ble_eq_true rfl) rfl f_9_47 (ge_bW9_0 S) rfl ?_
      refine bs_iload_n C (bf_dk dd_X9_isOne 20 rfl) rfl ?_
      obtain ⟨hi, h⟩ := h
      refine bs_iald C (bf_dk dd_X9_isOne 21 rfl) (ge_bW9_13 S) hi ?_
      refine bs_iconst C (bf_dk dd_X9_isOne 22 rfl) (-1 : Int32) (by decide) ?_
      refine bs_icmp_eq C (bf_dk dd_X9_isOne 23 rfl) (tgt := 46) rfl (fun c => ?_) (fun c => ?_)
      · replace h := h.1 c
        refine bs_iconst C (bf_dk dd_X9_isOne 26 rfl) (0 : Int32) (by decide) ?_
        obtain ⟨hi, h⟩ := h
        exact bs_zret (u := S) C (bf_dk dd_X9_isOne 27 rfl) hi rfl ⟨rfl, h⟩
      · replace h := h.2 c
        refine bs_iconst C (bf_dk dd_X9_isOne 24 rfl) (1 : Int32) (by decide) ?_
        refine bs_goto C (bf_dk dd_X9_isOne 25 rfl) (tgt := 47) rfl ?_
        obtain ⟨hi, h⟩ := h
        exact bs_zret (u := S) C (bf_dk dd_X9_isOne 27 rfl) hi rfl ⟨rfl, h⟩
  · replace h := h.2 c
    refine bs_aload_n C (bf_dk dd_X9_isOne 4 rfl) rfl ?_
    refine bs_get C (bf_dk dd_X9_isOne 5 rfl) cl_9 in_9 22 (Nat.le_of_ble_eq_true rfl) rfl f_9_44 (ge_bW9_0 S) rfl ?_
    refine bs_iload_n C (bf_dk dd_X9_isOne 6 rfl) rfl ?_
    obtain ⟨hi, h⟩ := h
    refine bs_iald C (bf_dk dd_X9_isOne 7 rfl) (ge_bW9_12 S) hi ?_
    refine bs_iconst C (bf_dk dd_X9_isOne 8 rfl) (-1 : Int32) (by decide) ?_
    refine bs_icmp_ne C (bf_dk dd_X9_isOne 9 rfl) (tgt := 22) rfl (fun c => ?_) (fun c => ?_)
    · replace h := h.1 c
      refine bs_iconst C (bf_dk dd_X9_isOne 12 rfl) (0 : Int32) (by decide) ?_
      obtain ⟨hi, h⟩ := h
      exact bs_zret (u := S) C (bf_dk dd_X9_isOne 13 rfl) hi rfl ⟨rfl, h⟩
    · replace h := h.2 c
      refine bs_iconst C (bf_dk dd_X9_isOne 10 rfl) (1 : Int32) (by decide) ?_
      refine bs_goto C (bf_dk dd_X9_isOne 11 rfl) (tgt := 23) rfl ?_
      obtain ⟨hi, h⟩ := h
      exact bs_zret (u := S) C (bf_dk dd_X9_isOne 13 rfl) hi rfl ⟨rfl, h⟩
theorem c_X9_isOne (l : Launch) (dC : Nat → ClassId) (dI : Nat → Nat → Nat) (ac : Nat → ClassId) (al : Nat → Nat) (S : bT9) (a1 : Int32) (Q : Int32 → Prop) (h : wp_X9_isOne S a1 Q) : bf_M l yX9_isOne cX9_isOne 2 (some .boolean) 0 0 dC dI ac al [.ref 0, .int a1] (bW9 S) (bf_Ki dC dI ac al bW9 (fun r u => u = S ∧ Q r)) := by
  refine bf_start [some (.ref 0), some (.int a1)] (by decide) (Nat.le_of_ble_eq_true rfl) (bf_s1 (bf_s1 bf_s0)) ?_
  intro X hl C hR e1 e2 e3 e4
  subst e1; subst e2; subst e3; subst e4
  exact t_X9_isOne C hR S a1 Q h
def wp_X9_laysOnes_126 (S : bT9) (x1 : Int32) (Q : (bT9) → Prop) (B105 : Int32 → (bT9) → Prop) : Prop := (B105 ((x1 + (1 : Int32))) S)
set_option maxRecDepth 20000 in
theorem t_X9_laysOnes_126 {X : bf_X} (C : bf_C X RX9 cX9_laysOnes 2 none) (hR : bf_Rm X 8 182) (S : bT9) (x1 : Int32) (Q : (bT9) → Prop) (B105 : Int32 → (bT9) → Prop) (hB105 : ∀ (x1 : Int32) (S : bT9), B105 x1 S → bf_A X (bf_Zv X bW9 Q) 2 105 [some (.ref 0), some (.int x1)] [] (bW9 S)) (h : wp_X9_laysOnes_126 S x1 Q B105) : bf_A X (bf_Zv X bW9 Q) 2 126 [some (.ref 0), some (.int x1)] [] (bW9 S) := by
  unfold wp_X9_laysOnes_126 at h
  refine bs_iinc C (bf_dk dd_X9_laysOnes 64 rfl) (x1 + (1 : Int32)) rfl rfl (Nat.le_of_ble_eq_true rfl) (Nat.le_of_ble_eq_true rfl) (lv2 := [some (.ref 0), some (.int (x1 + (1 : Int32)))]) rfl ?_
  refine bs_goto C (bf_dk dd_X9_laysOnes 65 rfl) (tgt := 105) rfl ?_
  exact bs_weak (bf_s1 (bf_s1 bf_s0)) (hB105 ((x1 + (1 : Int32))) S h)
def wp_X9_laysOnes_105b (S : bT9) (x1 : Int32) (Q : (bT9) → Prop) (B105 : Int32 → (bT9) → Prop) : Prop := (((b9g_itemMany S) ≤ x1 → (Q S)) ∧ (¬ (b9g_itemMany S) ≤ x1 → (wp_X9_isOne S (x1) (fun r1 => ((r1 = 0 → (wp_X9_laysOnes_126 S (x1) Q B105)) ∧ (¬ r1 = 0 → (wp_X9_one S (x1) (fun u4 => (wp_X9_laysOnes_126 u4 (x1) Q B105)))))))))
set_option maxRecDepth 20000 in
theorem t_X9_laysOnes_105b {X : bf_X} (C : bf_C X RX9 cX9_laysOnes 2 none) (hR : bf_Rm X 8 182) (S : bT9) (x1 : Int32) (Q : (bT9) → Prop) (B105 : Int32 → (bT9) → Prop) (hB105 : ∀ (x1 : Int32) (S : bT9), B105 x1 S → bf_A X (bf_Zv X bW9 Q) 2 105 [some (.ref 0), some (.int x1)] [] (bW9 S)) (h : wp_X9_laysOnes_105b S x1 Q B105) : bf_A X (bf_Zv X bW9 Q) 2 105 [some (.ref 0), some (.int x1)] [] (bW9 S) := by
  unfold wp_X9_laysOnes_105b at h
  refine bs_iload_n C (bf_dk dd_X9_laysOnes 53 rfl) rfl ?_
  refine bs_aload_n C (bf_dk dd_X9_laysOnes 54 rfl) rfl ?_
  refine bs_get C (bf_dk dd_X9_laysOnes 55 rfl) cl_9 in_9 24 (Nat.le_of_ble_eq_true rfl) rfl f_9_250 (ge_bW9_0 S) rfl ?_
  refine bs_icmp_ge C (bf_dk dd_X9_laysOnes 56 rfl) (tgt := 132) rfl (fun c => ?_) (fun c => ?_)
  · replace h := h.1 c
    exact bs_vret (u := S) C (bf_dk dd_X9_laysOnes 66 rfl) rfl h
  · replace h := h.2 c
    refine bs_aload_n C (bf_dk dd_X9_laysOnes 57 rfl) rfl ?_
    refine bs_iload_n C (bf_dk dd_X9_laysOnes 58 rfl) rfl ?_
    refine bs_selfPV_i C hR (c_X9_isOne _ _ _ _ _ S (x1) _ h) my_X9_isOne m_9_396 rfl cl_9 (ge_bW9_0 _) rfl (Nat.le_of_ble_eq_true rfl) (Nat.le_of_ble_eq_true rfl) (st := []) (Nat.le_of_ble_eq_true rfl) (bf_dk dd_X9_laysOnes 59 rfl) rfl (fun r1 h => ?_)
    refine bs_if_eq C (bf_dk dd_X9_laysOnes 60 rfl) (tgt := 126) rfl (fun c => ?_) (fun c => ?_)
    · replace h := h.1 c
      exact bs_weak (bf_s1 (bf_s1 bf_s0)) (t_X9_laysOnes_126 C hR S (x1) Q B105 hB105 h)
    · replace h := h.2 c
      refine bs_aload_n C (bf_dk dd_X9_laysOnes 61 rfl) rfl ?_
      refine bs_iload_n C (bf_dk dd_X9_laysOnes 62 rfl) rfl ?_
      refine bs_selfV_v C hR (c_X9_one _ _ _ _ _ S (x1) _ h) my_X9_one m_9_387 rfl cl_9 (ge_bW9_0 _) rfl (Nat.le_of_ble_eq_true rfl) (Nat.le_of_ble_eq_true rfl) (st := []) (Nat.le_of_ble_eq_true rfl) (bf_dk dd_X9_laysOnes 63 rfl) rfl (len := 21) (fun _ => rfl) (fun u4 h => ?_)
      exact bs_weak (bf_s1 (bf_s1 bf_s0)) (t_X9_laysOnes_126 C hR u4 (x1) Q B105 hB105 h)
def wp_X9_laysOnes_105 (S : bT9) (x1 : Int32) (Q : (bT9) → Prop) : Prop := ∃ I : Nat → Int32 → (bT9) → Prop, (∃ n : Nat, I n x1 S) ∧ ∀ (n : Nat) (x1 : Int32) (S : bT9), I n x1 S → wp_X9_laysOnes_105b S x1 Q (fun x1 S => ∃ n2 : Nat, n2 < n ∧ I n2 x1 S)
theorem t_X9_laysOnes_105 {X : bf_X} (C : bf_C X RX9 cX9_laysOnes 2 none) (hR : bf_Rm X 8 182) (S : bT9) (x1 : Int32) (Q : (bT9) → Prop) (h : wp_X9_laysOnes_105 S x1 Q) : bf_A X (bf_Zv X bW9 Q) 2 105 [some (.ref 0), some (.int x1)] [] (bW9 S) := by
  obtain ⟨I, ⟨n0, h0⟩, hI⟩ := h
  have key : ∀ (n : Nat) (x1 : Int32) (S : bT9), I n x1 S → bf_A X (bf_Zv X bW9 Q) 2 105 [some (.ref 0), some (.int x1)] [] (bW9 S) := by
    intro n
    induction n using Nat.strongRecOn with
    | _ n ih =>
      intro x1 S hi
      exact t_X9_laysOnes_105b C hR S x1 Q _ (fun x1 S hb => by obtain ⟨n2, hn, hi2⟩ := hb; exact ih n2 hn x1 S hi2) (hI n x1 S hi)
  exact key n0 x1 S h0
def wp_X9_laysOnes_81b (S : bT9) (x1 : Int32) (Q : (bT9) → Prop) (B81 : Int32 → (bT9) → Prop) : Prop := (((b9g_upperNodes S) ≤ x1 → (Q S)) ∧ (¬ (b9g_upperNodes S) ≤ x1 → (wp_X9_onesOfNode S (x1) (fun u6 => (B81 ((x1 + (1 : Int32))) u6)))))
set_option maxRecDepth 20000 in
theorem t_X9_laysOnes_81b {X : bf_X} (C : bf_C X RX9 cX9_laysOnes 2 none) (hR : bf_Rm X 8 182) (S : bT9) (x1 : Int32) (Q : (bT9) → Prop) (B81 : Int32 → (bT9) → Prop) (hB81 : ∀ (x1 : Int32) (S : bT9), B81 x1 S → bf_A X (bf_Zv X bW9 Q) 2 81 [some (.ref 0), some (.int x1)] [] (bW9 S)) (h : wp_X9_laysOnes_81b S x1 Q B81) : bf_A X (bf_Zv X bW9 Q) 2 81 [some (.ref 0), some (.int x1)] [] (bW9 S) := by
  unfold wp_X9_laysOnes_81b at h
  refine bs_iload_n C (bf_dk dd_X9_laysOnes 41 rfl) rfl ?_
  refine bs_aload_n C (bf_dk dd_X9_laysOnes 42 rfl) rfl ?_
  refine bs_get C (bf_dk dd_X9_laysOnes 43 rfl) cl_9 in_9 19 (Nat.le_of_ble_eq_true rfl) rfl f_9_216 (ge_bW9_0 S) rfl ?_
  refine bs_icmp_ge C (bf_dk dd_X9_laysOnes 44 rfl) (tgt := 100) rfl (fun c => ?_) (fun c => ?_)
  · replace h := h.1 c
    refine bs_goto C (bf_dk dd_X9_laysOnes 50 rfl) (tgt := 132) rfl ?_
    exact bs_vret (u := S) C (bf_dk dd_X9_laysOnes 66 rfl) rfl h
  · replace h := h.2 c
    refine bs_aload_n C (bf_dk dd_X9_laysOnes 45 rfl) rfl ?_
    refine bs_iload_n C (bf_dk dd_X9_laysOnes 46 rfl) rfl ?_
    refine bs_selfV_v C hR (c_X9_onesOfNode _ _ _ _ _ S (x1) _ h) my_X9_onesOfNode m_9_393 rfl cl_9 (ge_bW9_0 _) rfl (Nat.le_of_ble_eq_true rfl) (Nat.le_of_ble_eq_true rfl) (st := []) (Nat.le_of_ble_eq_true rfl) (bf_dk dd_X9_laysOnes 47 rfl) rfl (len := 21) (fun _ => rfl) (fun u6 h => ?_)
    refine bs_iinc C (bf_dk dd_X9_laysOnes 48 rfl) (x1 + (1 : Int32)) rfl rfl (Nat.le_of_ble_eq_true rfl) (Nat.le_of_ble_eq_true rfl) (lv2 := [some (.ref 0), some (.int (x1 + (1 : Int32)))]) rfl ?_
    refine bs_goto C (bf_dk dd_X9_laysOnes 49 rfl) (tgt := 81) rfl ?_
    exact bs_weak (bf_s1 (bf_s1 bf_s0)) (hB81 ((x1 + (1 : Int32))) u6 h)
def wp_X9_laysOnes_81 (S : bT9) (x1 : Int32) (Q : (bT9) → Prop) : Prop := ∃ I : Nat → Int32 → (bT9) → Prop, (∃ n : Nat, I n x1 S) ∧ ∀ (n : Nat) (x1 : Int32) (S : bT9), I n x1 S → wp_X9_laysOnes_81b S x1 Q (fun x1 S => ∃ n2 : Nat, n2 < n ∧ I n2 x1 S)
theorem t_X9_laysOnes_81 {X : bf_X} (C : bf_C X RX9 cX9_laysOnes 2 none) (hR : bf_Rm X 8 182) (S : bT9) (x1 : Int32) (Q : (bT9) → Prop) (h : wp_X9_laysOnes_81 S x1 Q) : bf_A X (bf_Zv X bW9 Q) 2 81 [some (.ref 0), some (.int x1)] [] (bW9 S) := by
  obtain ⟨I, ⟨n0, h0⟩, hI⟩ := h
  have key : ∀ (n : Nat) (x1 : Int32) (S : bT9), I n x1 S → bf_A X (bf_Zv X bW9 Q) 2 81 [some (.ref 0), some (.int x1)] [] (bW9 S) := by
    intro n
    induction n using Nat.strongRecOn with
    | _ n ih =>
      intro x1 S hi
      exact t_X9_laysOnes_81b C hR S x1 Q _ (fun x1 S hb => by obtain ⟨n2, hn, hi2⟩ := hb; exact ih n2 hn x1 S hi2) (hI n x1 S hi)
  exact key n0 x1 S h0
def wp_X9_laysOnes_68 (S : bT9) (t1 : Int32) (Q : (bT9) → Prop) : Prop := (∀ S7 : bT9, S7 = (b9s_rowLong S t1) → (((2 : Int32) < (b9g_chosen S7) → (wp_X9_laysOnes_105 S7 ((0 : Int32)) Q)) ∧ (¬ (2 : Int32) < (b9g_chosen S7) → (wp_X9_laysOnes_81 S7 ((0 : Int32)) Q))))
set_option maxRecDepth 20000 in
theorem t_X9_laysOnes_68 {X : bf_X} (C : bf_C X RX9 cX9_laysOnes 2 none) (hR : bf_Rm X 8 182) (S : bT9) (t1 : Int32) (Q : (bT9) → Prop) (h : wp_X9_laysOnes_68 S t1 Q) : bf_A X (bf_Zv X bW9 Q) 2 68 [some (.ref 0), none] [.int t1, .ref 0] (bW9 S) := by
  unfold wp_X9_laysOnes_68 at h
  refine bs_put C (bf_dk dd_X9_laysOnes 34 rfl) tyX9_ok nmX9 cl_9 in_9 38 (Nat.le_of_ble_eq_true rfl) rfl f_9_390 rfl (ge_bW9_0 S) (Nat.le_of_ble_eq_true rfl) rfl rfl (pu_bW9_0_38 S t1) ?_
  refine bs_nameS bW9 (fun S7 eS7 => ?_)
  replace h := h S7 eS7
  refine bs_aload_n C (bf_dk dd_X9_laysOnes 35 rfl) rfl ?_
  refine bs_get C (bf_dk dd_X9_laysOnes 36 rfl) cl_9 in_9 9 (Nat.le_of_ble_eq_true rfl) rfl f_9_156 (ge_bW9_0 S7) rfl ?_
  refine bs_iconst C (bf_dk dd_X9_laysOnes 37 rfl) (2 : Int32) (by decide) ?_
  refine bs_icmp_gt C (bf_dk dd_X9_laysOnes 38 rfl) (tgt := 103) rfl (fun c => ?_) (fun c => ?_)
  · replace h := h.1 c
    refine bs_iconst C (bf_dk dd_X9_laysOnes 51 rfl) (0 : Int32) (by decide) ?_
    refine bs_istore_n C (bf_dk dd_X9_laysOnes 52 rfl) rfl (Nat.le_of_ble_eq_true rfl) (Nat.le_of_ble_eq_true rfl) (lv2 := [some (.ref 0), some (.int (0 : Int32))]) rfl ?_
    exact bs_weak (bf_s1 (bf_s1 bf_s0)) (t_X9_laysOnes_105 C hR S7 ((0 : Int32)) Q h)
  · replace h := h.2 c
    refine bs_iconst C (bf_dk dd_X9_laysOnes 39 rfl) (0 : Int32) (by decide) ?_
    refine bs_istore_n C (bf_dk dd_X9_laysOnes 40 rfl) rfl (Nat.le_of_ble_eq_true rfl) (Nat.le_of_ble_eq_true rfl) (lv2 := [some (.ref 0), some (.int (0 : Int32))]) rfl ?_
    exact bs_weak (bf_s1 (bf_s1 bf_s0)) (t_X9_laysOnes_81 C hR S7 ((0 : Int32)) Q h)
def wp_X9_laysOnes (S : bT9) (Q : (bT9) → Prop) : Prop := (wp_X9_laysNodes S (fun u9 => ((¬ (b9g_laidFor u9) = (b9g_chosen u9) → (∀ S10 : bT9, S10 = (b9s_laidFor u9 (b9g_chosen u9)) → (∀ S11 : bT9, S11 = (b9s_oneMany S10 (0 : Int32)) → (((2 : Int32) ≤ (b9g_chosen S11) → ((¬ (b9g_chosen S11) = (2 : Int32) → (wp_X9_laysOnes_68 S11 ((b9g_itemMany S11)) Q)) ∧ ((b9g_chosen S11) = (2 : Int32) → (wp_X9_laysOnes_68 S11 ((b9g_upperNodes S11)) Q)))) ∧ (¬ (2 : Int32) ≤ (b9g_chosen S11) → (wp_X9_laysOnes_68 S11 (((256 : Int32) * (b9g_upperNodes S11))) Q)))))) ∧ ((b9g_laidFor u9) = (b9g_chosen u9) → (Q u9)))))
set_option maxRecDepth 20000 in
theorem t_X9_laysOnes {X : bf_X} (C : bf_C X RX9 cX9_laysOnes 2 none) (hR : bf_Rm X 8 182) (S : bT9) (Q : (bT9) → Prop) (h : wp_X9_laysOnes S Q) : bf_A X (bf_Zv X bW9 Q) 2 0 [some (.ref 0), none] [] (bW9 S) := by
  unfold wp_X9_laysOnes at h
  refine bs_aload_n C (bf_dk dd_X9_laysOnes 0 rfl) rfl ?_
  refine bs_selfV_v C hR (c_X9_laysNodes _ _ _ _ _ S _ h) my_X9_laysNodes m_9_262 rfl cl_9 (ge_bW9_0 _) rfl (Nat.le_of_ble_eq_true rfl) (Nat.le_of_ble_eq_true rfl) (st := []) (Nat.le_of_ble_eq_true rfl) (bf_dk dd_X9_laysOnes 1 rfl) rfl (len := 21) (fun _ => rfl) (fun u9 h => ?_)
  refine bs_aload_n C (bf_dk dd_X9_laysOnes 2 rfl) rfl ?_
  refine bs_get C (bf_dk dd_X9_laysOnes 3 rfl) cl_9 in_9 39 (Nat.le_of_ble_eq_true rfl) rfl f_9_59 (ge_bW9_0 u9) rfl ?_
  refine bs_aload_n C (bf_dk dd_X9_laysOnes 4 rfl) rfl ?_
  refine bs_get C (bf_dk dd_X9_laysOnes 5 rfl) cl_9 in_9 9 (Nat.le_of_ble_eq_true rfl) rfl f_9_156 (ge_bW9_0 u9) rfl ?_
  refine bs_icmp_ne C (bf_dk dd_X9_laysOnes 6 rfl) (tgt := 16) rfl (fun c => ?_) (fun c => ?_)
  · replace h := h.1 c
    refine bs_aload_n C (bf_dk dd_X9_laysOnes 8 rfl) rfl ?_
    refine bs_aload_n C (bf_dk dd_X9_laysOnes 9 rfl) rfl ?_
    refine bs_get C (bf_dk dd_X9_laysOnes 10 rfl) cl_9 in_9 9 (Nat.le_of_ble_eq_true rfl) rfl f_9_156 (ge_bW9_0 u9) rfl ?_
    refine bs_put C (bf_dk dd_X9_laysOnes 11 rfl) tyX9_ok nmX9 cl_9 in_9 39 (Nat.le_of_ble_eq_true rfl) rfl f_9_59 rfl (ge_bW9_0 u9) (Nat.le_of_ble_eq_true rfl) rfl rfl (pu_bW9_0_39 u9 (b9g_chosen u9)) ?_
    refine bs_nameS bW9 (fun S10 eS10 => ?_)
    replace h := h S10 eS10
    refine bs_aload_n C (bf_dk dd_X9_laysOnes 12 rfl) rfl ?_
    refine bs_iconst C (bf_dk dd_X9_laysOnes 13 rfl) (0 : Int32) (by decide) ?_
    refine bs_put C (bf_dk dd_X9_laysOnes 14 rfl) tyX9_ok nmX9 cl_9 in_9 37 (Nat.le_of_ble_eq_true rfl) rfl f_9_384 rfl (ge_bW9_0 S10) (Nat.le_of_ble_eq_true rfl) rfl rfl (pu_bW9_0_37 S10 (0 : Int32)) ?_
    refine bs_nameS bW9 (fun S11 eS11 => ?_)
    replace h := h S11 eS11
    refine bs_aload_n C (bf_dk dd_X9_laysOnes 15 rfl) rfl ?_
    refine bs_aload_n C (bf_dk dd_X9_laysOnes 16 rfl) rfl ?_
    refine bs_get C (bf_dk dd_X9_laysOnes 17 rfl) cl_9 in_9 9 (Nat.le_of_ble_eq_true rfl) rfl f_9_156 (ge_bW9_0 S11) rfl ?_
    refine bs_iconst C (bf_dk dd_X9_laysOnes 18 rfl) (2 : Int32) (by decide) ?_
    refine bs_icmp_ge C (bf_dk dd_X9_laysOnes 19 rfl) (tgt := 49) rfl (fun c => ?_) (fun c => ?_)
    · replace h := h.1 c
      refine bs_aload_n C (bf_dk dd_X9_laysOnes 25 rfl) rfl ?_
      refine bs_get C (bf_dk dd_X9_laysOnes 26 rfl) cl_9 in_9 9 (Nat.le_of_ble_eq_true rfl) rfl f_9_156 (ge_bW9_0 S11) rfl ?_
      refine bs_iconst C (bf_dk dd_X9_laysOnes 27 rfl) (2 : Int32) (by decide) ?_
      refine bs_icmp_ne C (bf_dk dd_X9_laysOnes 28 rfl) (tgt := 64) rfl (fun c => ?_) (fun c => ?_)
      · replace h := h.1 c
        refine bs_aload_n C (bf_dk dd_X9_laysOnes 32 rfl) rfl ?_
        refine bs_get C (bf_dk dd_X9_laysOnes 33 rfl) cl_9 in_9 24 (Nat.le_of_ble_eq_true rfl) rfl f_9_250 (ge_bW9_0 S11) rfl ?_
        exact bs_weak (bf_s1 (bf_sn bf_s0)) (t_X9_laysOnes_68 C hR S11 ((b9g_itemMany S11)) Q h)
      · replace h := h.2 c
        refine bs_aload_n C (bf_dk dd_X9_laysOnes 29 rfl) rfl ?_
        refine bs_get C (bf_dk dd_X9_laysOnes 30 rfl) cl_9 in_9 19 (Nat.le_of_ble_eq_true rfl) rfl f_9_216 (ge_bW9_0 S11) rfl ?_
        refine bs_goto C (bf_dk dd_X9_laysOnes 31 rfl) (tgt := 68) rfl ?_
        exact bs_weak (bf_s1 (bf_sn bf_s0)) (t_X9_laysOnes_68 C hR S11 ((b9g_upperNodes S11)) Q h)
    · replace h := h.2 c
      refine bs_sipush C (bf_dk dd_X9_laysOnes 20 rfl) (256 : Int32) (by decide) ?_
      refine bs_aload_n C (bf_dk dd_X9_laysOnes 21 rfl) rfl ?_
      refine bs_get C (bf_dk dd_X9_laysOnes 22 rfl) cl_9 in_9 19 (Nat.le_of_ble_eq_true rfl) rfl f_9_216 (ge_bW9_0 S11) rfl ?_
      refine bs_imul C (bf_dk dd_X9_laysOnes 23 rfl) ?_
      refine bs_goto C (bf_dk dd_X9_laysOnes 24 rfl) (tgt := 68) rfl ?_
      exact bs_weak (bf_s1 (bf_sn bf_s0)) (t_X9_laysOnes_68 C hR S11 (((256 : Int32) * (b9g_upperNodes S11))) Q h)
  · replace h := h.2 c
    exact bs_vret (u := u9) C (bf_dk dd_X9_laysOnes 7 rfl) rfl h
theorem c_X9_laysOnes (l : Launch) (dC : Nat → ClassId) (dI : Nat → Nat → Nat) (ac : Nat → ClassId) (al : Nat → Nat) (S : bT9) (Q : (bT9) → Prop) (h : wp_X9_laysOnes S Q) : bf_M l yX9_laysOnes cX9_laysOnes 2 none 8 182 dC dI ac al [.ref 0] (bW9 S) (bf_Kv dC dI ac al bW9 Q) := by
  refine bf_start [some (.ref 0), none] (by decide) (Nat.le_of_ble_eq_true rfl) (bf_s1 (bf_en 1)) ?_
  intro X hl C hR e1 e2 e3 e4
  subst e1; subst e2; subst e3; subst e4
  exact t_X9_laysOnes C hR S Q h
def wp_X9_onesAhead_2b (S : bT9) (x1 : Int32) (x2 : Int32) (Q : Int32 → Prop) (B2 : Int32 → Int32 → Prop) : Prop := (((b9g_oneMany S) ≤ x2 → (Q x2)) ∧ (¬ (b9g_oneMany S) ≤ x2 → (vp_in x2 700 ∧ ((x1 ≤ ((b9g_ones S) (x2).toNatClampNeg) → (Q x2)) ∧ (¬ x1 ≤ ((b9g_ones S) (x2).toNatClampNeg) → (B2 (x1) ((x2 + (1 : Int32)))))))))
set_option maxRecDepth 20000 in
theorem t_X9_onesAhead_2b {X : bf_X} (C : bf_C X RX9 cX9_onesAhead 3 (some .int)) (hR : bf_Rm X 0 0) (S : bT9) (x1 : Int32) (x2 : Int32) (Q : Int32 → Prop) (B2 : Int32 → Int32 → Prop) (hB2 : ∀ (x1 : Int32) (x2 : Int32), B2 x1 x2 → bf_A X (bf_Zi X bW9 (fun r u => u = S ∧ Q r)) 3 2 [some (.ref 0), some (.int x1), some (.int x2)] [] (bW9 S)) (h : wp_X9_onesAhead_2b S x1 x2 Q B2) : bf_A X (bf_Zi X bW9 (fun r u => u = S ∧ Q r)) 3 2 [some (.ref 0), some (.int x1), some (.int x2)] [] (bW9 S) := by
  unfold wp_X9_onesAhead_2b at h
  refine bs_iload_n C (bf_dk dd_X9_onesAhead 2 rfl) rfl ?_
  refine bs_aload_n C (bf_dk dd_X9_onesAhead 3 rfl) rfl ?_
  refine bs_get C (bf_dk dd_X9_onesAhead 4 rfl) cl_9 in_9 37 (Nat.le_of_ble_eq_true rfl) rfl f_9_384 (ge_bW9_0 S) rfl ?_
  refine bs_icmp_ge C (bf_dk dd_X9_onesAhead 5 rfl) (tgt := 27) rfl (fun c => ?_) (fun c => ?_)
  · replace h := h.1 c
    refine bs_iload_n C (bf_dk dd_X9_onesAhead 17 rfl) rfl ?_
    exact bs_iret (u := S) C (bf_dk dd_X9_onesAhead 18 rfl) rfl ⟨rfl, h⟩
  · replace h := h.2 c
    refine bs_aload_n C (bf_dk dd_X9_onesAhead 6 rfl) rfl ?_
    refine bs_get C (bf_dk dd_X9_onesAhead 7 rfl) cl_9 in_9 36 (Nat.le_of_ble_eq_true rfl) rfl f_9_56 (ge_bW9_0 S) rfl ?_
    refine bs_iload_n C (bf_dk dd_X9_onesAhead 8 rfl) rfl ?_
    obtain ⟨hi, h⟩ := h
    refine bs_iald C (bf_dk dd_X9_onesAhead 9 rfl) (ge_bW9_16 S) hi ?_
    refine bs_iload_n C (bf_dk dd_X9_onesAhead 10 rfl) rfl ?_
    refine bs_icmp_ge C (bf_dk dd_X9_onesAhead 11 rfl) (tgt := 27) rfl (fun c => ?_) (fun c => ?_)
    · replace h := h.1 c
      refine bs_iload_n C (bf_dk dd_X9_onesAhead 17 rfl) rfl ?_
      exact bs_iret (u := S) C (bf_dk dd_X9_onesAhead 18 rfl) rfl ⟨rfl, h⟩
    · replace h := h.2 c
      refine bs_iload_n C (bf_dk dd_X9_onesAhead 12 rfl) rfl ?_
      refine bs_iconst C (bf_dk dd_X9_onesAhead 13 rfl) (1 : Int32) (by decide) ?_
      refine bs_iadd C (bf_dk dd_X9_onesAhead 14 rfl) ?_
      refine bs_istore_n C (bf_dk dd_X9_onesAhead 15 rfl) rfl (Nat.le_of_ble_eq_true rfl) (Nat.le_of_ble_eq_true rfl) (lv2 := [some (.ref 0), some (.int x1), some (.int (x2 + (1 : Int32)))]) rfl ?_
      refine bs_goto C (bf_dk dd_X9_onesAhead 16 rfl) (tgt := 2) rfl ?_
      exact bs_weak (bf_s1 (bf_s1 (bf_s1 bf_s0))) (hB2 (x1) ((x2 + (1 : Int32))) h)
def wp_X9_onesAhead_2 (S : bT9) (x1 : Int32) (x2 : Int32) (Q : Int32 → Prop) : Prop := ∃ I : Nat → Int32 → Int32 → Prop, (∃ n : Nat, I n x1 x2) ∧ ∀ (n : Nat) (x1 : Int32) (x2 : Int32), I n x1 x2 → wp_X9_onesAhead_2b S x1 x2 Q (fun x1 x2 => ∃ n2 : Nat, n2 < n ∧ I n2 x1 x2)
theorem t_X9_onesAhead_2 {X : bf_X} (C : bf_C X RX9 cX9_onesAhead 3 (some .int)) (hR : bf_Rm X 0 0) (S : bT9) (x1 : Int32) (x2 : Int32) (Q : Int32 → Prop) (h : wp_X9_onesAhead_2 S x1 x2 Q) : bf_A X (bf_Zi X bW9 (fun r u => u = S ∧ Q r)) 3 2 [some (.ref 0), some (.int x1), some (.int x2)] [] (bW9 S) := by
  obtain ⟨I, ⟨n0, h0⟩, hI⟩ := h
  have key : ∀ (n : Nat) (x1 : Int32) (x2 : Int32), I n x1 x2 → bf_A X (bf_Zi X bW9 (fun r u => u = S ∧ Q r)) 3 2 [some (.ref 0), some (.int x1), some (.int x2)] [] (bW9 S) := by
    intro n
    induction n using Nat.strongRecOn with
    | _ n ih =>
      intro x1 x2 hi
      exact t_X9_onesAhead_2b C hR S x1 x2 Q _ (fun x1 x2 hb => by obtain ⟨n2, hn, hi2⟩ := hb; exact ih n2 hn x1 x2 hi2) (hI n x1 x2 hi)
  exact key n0 x1 x2 h0
def wp_X9_onesAhead (S : bT9) (a1 : Int32) (Q : Int32 → Prop) : Prop := (wp_X9_onesAhead_2 S (a1) ((0 : Int32)) Q)
set_option maxRecDepth 20000 in
theorem t_X9_onesAhead {X : bf_X} (C : bf_C X RX9 cX9_onesAhead 3 (some .int)) (hR : bf_Rm X 0 0) (S : bT9) (a1 : Int32) (Q : Int32 → Prop) (h : wp_X9_onesAhead S a1 Q) : bf_A X (bf_Zi X bW9 (fun r u => u = S ∧ Q r)) 3 0 [some (.ref 0), some (.int a1), none] [] (bW9 S) := by
  unfold wp_X9_onesAhead at h
  refine bs_iconst C (bf_dk dd_X9_onesAhead 0 rfl) (0 : Int32) (by decide) ?_
  refine bs_istore_n C (bf_dk dd_X9_onesAhead 1 rfl) rfl (Nat.le_of_ble_eq_true rfl) (Nat.le_of_ble_eq_true rfl) (lv2 := [some (.ref 0), some (.int a1), some (.int (0 : Int32))]) rfl ?_
  exact bs_weak (bf_s1 (bf_s1 (bf_s1 bf_s0))) (t_X9_onesAhead_2 C hR S (a1) ((0 : Int32)) Q h)
theorem c_X9_onesAhead (l : Launch) (dC : Nat → ClassId) (dI : Nat → Nat → Nat) (ac : Nat → ClassId) (al : Nat → Nat) (S : bT9) (a1 : Int32) (Q : Int32 → Prop) (h : wp_X9_onesAhead S a1 Q) : bf_M l yX9_onesAhead cX9_onesAhead 3 (some .int) 0 0 dC dI ac al [.ref 0, .int a1] (bW9 S) (bf_Ki dC dI ac al bW9 (fun r u => u = S ∧ Q r)) := by
  refine bf_start [some (.ref 0), some (.int a1), none] (by decide) (Nat.le_of_ble_eq_true rfl) (bf_s1 (bf_s1 (bf_en 1))) ?_
  intro X hl C hR e1 e2 e3 e4
  subst e1; subst e2; subst e3; subst e4
  exact t_X9_onesAhead C hR S a1 Q h
def wp_X9_bit (S : bT9) (a1 : Int32) (Q : Int32 → (bT9) → Prop) : Prop := (∀ S1 : bT9, S1 = (b9s_told S (0 : Int32)) → (wp_X9_laysOnes S1 (fun u3 => (wp_X9_isIn u3 (a1) ((0 : Int32)) (((b9g_rowLong u3) - (1 : Int32))) (fun r4 => ((¬ r4 = 0 → (wp_X9_onesAhead u3 (a1) (fun r6 => (((b9g_oneMany u3) ≤ r6 → (Q (0 : Int32) u3)) ∧ (¬ (b9g_oneMany u3) ≤ r6 → (vp_in r6 700 ∧ ((¬ ((b9g_ones u3) (r6).toNatClampNeg) = a1 → (Q (0 : Int32) u3)) ∧ (((b9g_ones u3) (r6).toNatClampNeg) = a1 → (Q (1 : Int32) u3))))))))) ∧ (r4 = 0 → (Q (-1 : Int32) u3))))))))
set_option maxRecDepth 20000 in
theorem t_X9_bit {X : bf_X} (C : bf_C X RX9 cX9_bit 3 (some .int)) (hR : bf_Rm X 9 203) (S : bT9) (a1 : Int32) (Q : Int32 → (bT9) → Prop) (h : wp_X9_bit S a1 Q) : bf_A X (bf_Zi X bW9 Q) 3 0 [some (.ref 0), some (.int a1), none] [] (bW9 S) := by
  unfold wp_X9_bit at h
  refine bs_aload_n C (bf_dk dd_X9_bit 0 rfl) rfl ?_
  refine bs_iconst C (bf_dk dd_X9_bit 1 rfl) (0 : Int32) (by decide) ?_
  refine bs_put C (bf_dk dd_X9_bit 2 rfl) tyX9_ok nmX9 cl_9 in_9 0 (Nat.le_of_ble_eq_true rfl) rfl f_9_75 rfl (ge_bW9_0 S) (Nat.le_of_ble_eq_true rfl) rfl rfl (pu_bW9_0_0 S (0 : Int32)) ?_
  refine bs_nameS bW9 (fun S1 eS1 => ?_)
  replace h := h S1 eS1
  refine bs_aload_n C (bf_dk dd_X9_bit 3 rfl) rfl ?_
  refine bs_selfV_v C hR (c_X9_laysOnes _ _ _ _ _ S1 _ h) my_X9_laysOnes m_9_399 rfl cl_9 (ge_bW9_0 _) rfl (Nat.le_of_ble_eq_true rfl) (Nat.le_of_ble_eq_true rfl) (st := []) (Nat.le_of_ble_eq_true rfl) (bf_dk dd_X9_bit 4 rfl) rfl (len := 21) (fun _ => rfl) (fun u3 h => ?_)
  refine bs_aload_n C (bf_dk dd_X9_bit 5 rfl) rfl ?_
  refine bs_iload_n C (bf_dk dd_X9_bit 6 rfl) rfl ?_
  refine bs_iconst C (bf_dk dd_X9_bit 7 rfl) (0 : Int32) (by decide) ?_
  refine bs_aload_n C (bf_dk dd_X9_bit 8 rfl) rfl ?_
  refine bs_get C (bf_dk dd_X9_bit 9 rfl) cl_9 in_9 38 (Nat.le_of_ble_eq_true rfl) rfl f_9_390 (ge_bW9_0 u3) rfl ?_
  refine bs_iconst C (bf_dk dd_X9_bit 10 rfl) (1 : Int32) (by decide) ?_
  refine bs_isub C (bf_dk dd_X9_bit 11 rfl) ?_
  refine bs_selfPV_i C hR (c_X9_isIn _ _ _ _ _ u3 (a1) ((0 : Int32)) (((b9g_rowLong u3) - (1 : Int32))) _ h) my_X9_isIn m_9_82 rfl cl_9 (ge_bW9_0 _) rfl (Nat.le_of_ble_eq_true rfl) (Nat.le_of_ble_eq_true rfl) (st := []) (Nat.le_of_ble_eq_true rfl) (bf_dk dd_X9_bit 12 rfl) rfl (fun r4 h => ?_)
  refine bs_if_ne C (bf_dk dd_X9_bit 13 rfl) (tgt := 26) rfl (fun c => ?_) (fun c => ?_)
  · replace h := h.1 c
    refine bs_aload_n C (bf_dk dd_X9_bit 16 rfl) rfl ?_
    refine bs_iload_n C (bf_dk dd_X9_bit 17 rfl) rfl ?_
    refine bs_selfPV_i C hR (c_X9_onesAhead _ _ _ _ _ u3 (a1) _ h) my_X9_onesAhead m_9_402 rfl cl_9 (ge_bW9_0 _) rfl (Nat.le_of_ble_eq_true rfl) (Nat.le_of_ble_eq_true rfl) (st := []) (Nat.le_of_ble_eq_true rfl) (bf_dk dd_X9_bit 18 rfl) rfl (fun r6 h => ?_)
    refine bs_istore_n C (bf_dk dd_X9_bit 19 rfl) rfl (Nat.le_of_ble_eq_true rfl) (Nat.le_of_ble_eq_true rfl) (lv2 := [some (.ref 0), some (.int a1), some (.int r6)]) rfl ?_
    refine bs_iload_n C (bf_dk dd_X9_bit 20 rfl) rfl ?_
    refine bs_aload_n C (bf_dk dd_X9_bit 21 rfl) rfl ?_
    refine bs_get C (bf_dk dd_X9_bit 22 rfl) cl_9 in_9 37 (Nat.le_of_ble_eq_true rfl) rfl f_9_384 (ge_bW9_0 u3) rfl ?_
    refine bs_icmp_ge C (bf_dk dd_X9_bit 23 rfl) (tgt := 54) rfl (fun c => ?_) (fun c => ?_)
    · replace h := h.1 c
      refine bs_iconst C (bf_dk dd_X9_bit 32 rfl) (0 : Int32) (by decide) ?_
      exact bs_iret (u := u3) C (bf_dk dd_X9_bit 33 rfl) rfl h
    · replace h := h.2 c
      refine bs_aload_n C (bf_dk dd_X9_bit 24 rfl) rfl ?_
      refine bs_get C (bf_dk dd_X9_bit 25 rfl) cl_9 in_9 36 (Nat.le_of_ble_eq_true rfl) rfl f_9_56 (ge_bW9_0 u3) rfl ?_
      refine bs_iload_n C (bf_dk dd_X9_bit 26 rfl) rfl ?_
      obtain ⟨hi, h⟩ := h
      refine bs_iald C (bf_dk dd_X9_bit 27 rfl) (ge_bW9_16 u3) hi ?_
      refine bs_iload_n C (bf_dk dd_X9_bit 28 rfl) rfl ?_
      refine bs_icmp_ne C (bf_dk dd_X9_bit 29 rfl) (tgt := 54) rfl (fun c => ?_) (fun c => ?_)
      · replace h := h.1 c
        refine bs_iconst C (bf_dk dd_X9_bit 32 rfl) (0 : Int32) (by decide) ?_
        exact bs_iret (u := u3) C (bf_dk dd_X9_bit 33 rfl) rfl h
      · replace h := h.2 c
        refine bs_iconst C (bf_dk dd_X9_bit 30 rfl) (1 : Int32) (by decide) ?_
        refine bs_goto C (bf_dk dd_X9_bit 31 rfl) (tgt := 55) rfl ?_
        exact bs_iret (u := u3) C (bf_dk dd_X9_bit 33 rfl) rfl h
  · replace h := h.2 c
    refine bs_iconst C (bf_dk dd_X9_bit 14 rfl) (-1 : Int32) (by decide) ?_
    exact bs_iret (u := u3) C (bf_dk dd_X9_bit 15 rfl) rfl h
theorem c_X9_bit (l : Launch) (dC : Nat → ClassId) (dI : Nat → Nat → Nat) (ac : Nat → ClassId) (al : Nat → Nat) (S : bT9) (a1 : Int32) (Q : Int32 → (bT9) → Prop) (h : wp_X9_bit S a1 Q) : bf_M l yX9_bit cX9_bit 3 (some .int) 9 203 dC dI ac al [.ref 0, .int a1] (bW9 S) (bf_Ki dC dI ac al bW9 Q) := by
  refine bf_start [some (.ref 0), some (.int a1), none] (by decide) (Nat.le_of_ble_eq_true rfl) (bf_s1 (bf_s1 (bf_en 1))) ?_
  intro X hl C hR e1 e2 e3 e4
  subst e1; subst e2; subst e3; subst e4
  exact t_X9_bit C hR S a1 Q h
def wp_X9_rank (S : bT9) (a1 : Int32) (Q : Int32 → (bT9) → Prop) : Prop := (∀ S1 : bT9, S1 = (b9s_told S (0 : Int32)) → (wp_X9_laysOnes S1 (fun u3 => (wp_X9_isIn u3 (a1) ((0 : Int32)) ((b9g_rowLong u3)) (fun r4 => ((r4 = 0 → (Q (-1 : Int32) u3)) ∧ (¬ r4 = 0 → (wp_X9_onesAhead u3 (a1) (fun r6 => (Q r6 u3))))))))))
set_option maxRecDepth 20000 in
theorem t_X9_rank {X : bf_X} (C : bf_C X RX9 cX9_rank 2 (some .int)) (hR : bf_Rm X 9 203) (S : bT9) (a1 : Int32) (Q : Int32 → (bT9) → Prop) (h : wp_X9_rank S a1 Q) : bf_A X (bf_Zi X bW9 Q) 2 0 [some (.ref 0), some (.int a1)] [] (bW9 S) := by
  unfold wp_X9_rank at h
  refine bs_aload_n C (bf_dk dd_X9_rank 0 rfl) rfl ?_
  refine bs_iconst C (bf_dk dd_X9_rank 1 rfl) (0 : Int32) (by decide) ?_
  refine bs_put C (bf_dk dd_X9_rank 2 rfl) tyX9_ok nmX9 cl_9 in_9 0 (Nat.le_of_ble_eq_true rfl) rfl f_9_75 rfl (ge_bW9_0 S) (Nat.le_of_ble_eq_true rfl) rfl rfl (pu_bW9_0_0 S (0 : Int32)) ?_
  refine bs_nameS bW9 (fun S1 eS1 => ?_)
  replace h := h S1 eS1
  refine bs_aload_n C (bf_dk dd_X9_rank 3 rfl) rfl ?_
  refine bs_selfV_v C hR (c_X9_laysOnes _ _ _ _ _ S1 _ h) my_X9_laysOnes m_9_399 rfl cl_9 (ge_bW9_0 _) rfl (Nat.le_of_ble_eq_true rfl) (Nat.le_of_ble_eq_true rfl) (st := []) (Nat.le_of_ble_eq_true rfl) (bf_dk dd_X9_rank 4 rfl) rfl (len := 21) (fun _ => rfl) (fun u3 h => ?_)
  refine bs_aload_n C (bf_dk dd_X9_rank 5 rfl) rfl ?_
  refine bs_iload_n C (bf_dk dd_X9_rank 6 rfl) rfl ?_
  refine bs_iconst C (bf_dk dd_X9_rank 7 rfl) (0 : Int32) (by decide) ?_
  refine bs_aload_n C (bf_dk dd_X9_rank 8 rfl) rfl ?_
  refine bs_get C (bf_dk dd_X9_rank 9 rfl) cl_9 in_9 38 (Nat.le_of_ble_eq_true rfl) rfl f_9_390 (ge_bW9_0 u3) rfl ?_
  refine bs_selfPV_i C hR (c_X9_isIn _ _ _ _ _ u3 (a1) ((0 : Int32)) ((b9g_rowLong u3)) _ h) my_X9_isIn m_9_82 rfl cl_9 (ge_bW9_0 _) rfl (Nat.le_of_ble_eq_true rfl) (Nat.le_of_ble_eq_true rfl) (st := []) (Nat.le_of_ble_eq_true rfl) (bf_dk dd_X9_rank 10 rfl) rfl (fun r4 h => ?_)
  refine bs_if_eq C (bf_dk dd_X9_rank 11 rfl) (tgt := 30) rfl (fun c => ?_) (fun c => ?_)
  · replace h := h.1 c
    refine bs_iconst C (bf_dk dd_X9_rank 16 rfl) (-1 : Int32) (by decide) ?_
    exact bs_iret (u := u3) C (bf_dk dd_X9_rank 17 rfl) rfl h
  · replace h := h.2 c
    refine bs_aload_n C (bf_dk dd_X9_rank 12 rfl) rfl ?_
    refine bs_iload_n C (bf_dk dd_X9_rank 13 rfl) rfl ?_
    refine bs_selfPV_i C hR (c_X9_onesAhead _ _ _ _ _ u3 (a1) _ h) my_X9_onesAhead m_9_402 rfl cl_9 (ge_bW9_0 _) rfl (Nat.le_of_ble_eq_true rfl) (Nat.le_of_ble_eq_true rfl) (st := []) (Nat.le_of_ble_eq_true rfl) (bf_dk dd_X9_rank 14 rfl) rfl (fun r6 h => ?_)
    refine bs_goto C (bf_dk dd_X9_rank 15 rfl) (tgt := 31) rfl ?_
    exact bs_iret (u := u3) C (bf_dk dd_X9_rank 17 rfl) rfl h
theorem c_X9_rank (l : Launch) (dC : Nat → ClassId) (dI : Nat → Nat → Nat) (ac : Nat → ClassId) (al : Nat → Nat) (S : bT9) (a1 : Int32) (Q : Int32 → (bT9) → Prop) (h : wp_X9_rank S a1 Q) : bf_M l yX9_rank cX9_rank 2 (some .int) 9 203 dC dI ac al [.ref 0, .int a1] (bW9 S) (bf_Ki dC dI ac al bW9 Q) := by
  refine bf_start [some (.ref 0), some (.int a1)] (by decide) (Nat.le_of_ble_eq_true rfl) (bf_s1 (bf_s1 bf_s0)) ?_
  intro X hl C hR e1 e2 e3 e4
  subst e1; subst e2; subst e3; subst e4
  exact t_X9_rank C hR S a1 Q h
def wp_X9_select (S : bT9) (a1 : Int32) (Q : Int32 → (bT9) → Prop) : Prop := (∀ S1 : bT9, S1 = (b9s_told S (0 : Int32)) → (wp_X9_laysOnes S1 (fun u3 => (wp_X9_isIn u3 (a1) ((0 : Int32)) (((b9g_oneMany u3) - (1 : Int32))) (fun r4 => ((r4 = 0 → (Q (-1 : Int32) u3)) ∧ (¬ r4 = 0 → (vp_in a1 700 ∧ (Q ((b9g_ones u3) (a1).toNatClampNeg) u3)))))))))
set_option maxRecDepth 20000 in
theorem t_X9_select {X : bf_X} (C : bf_C X RX9 cX9_select 2 (some .int)) (hR : bf_Rm X 9 203) (S : bT9) (a1 : Int32) (Q : Int32 → (bT9) → Prop) (h : wp_X9_select S a1 Q) : bf_A X (bf_Zi X bW9 Q) 2 0 [some (.ref 0), some (.int a1)] [] (bW9 S) := by
  unfold wp_X9_select at h
  refine bs_aload_n C (bf_dk dd_X9_select 0 rfl) rfl ?_
  refine bs_iconst C (bf_dk dd_X9_select 1 rfl) (0 : Int32) (by decide) ?_
  refine bs_put C (bf_dk dd_X9_select 2 rfl) tyX9_ok nmX9 cl_9 in_9 0 (Nat.le_of_ble_eq_true rfl) rfl f_9_75 rfl (ge_bW9_0 S) (Nat.le_of_ble_eq_true rfl) rfl rfl (pu_bW9_0_0 S (0 : Int32)) ?_
  refine bs_nameS bW9 (fun S1 eS1 => ?_)
  replace h := h S1 eS1
  refine bs_aload_n C (bf_dk dd_X9_select 3 rfl) rfl ?_
  refine bs_selfV_v C hR (c_X9_laysOnes _ _ _ _ _ S1 _ h) my_X9_laysOnes m_9_399 rfl cl_9 (ge_bW9_0 _) rfl (Nat.le_of_ble_eq_true rfl) (Nat.le_of_ble_eq_true rfl) (st := []) (Nat.le_of_ble_eq_true rfl) (bf_dk dd_X9_select 4 rfl) rfl (len := 21) (fun _ => rfl) (fun u3 h => ?_)
  refine bs_aload_n C (bf_dk dd_X9_select 5 rfl) rfl ?_
  refine bs_iload_n C (bf_dk dd_X9_select 6 rfl) rfl ?_
  refine bs_iconst C (bf_dk dd_X9_select 7 rfl) (0 : Int32) (by decide) ?_
  refine bs_aload_n C (bf_dk dd_X9_select 8 rfl) rfl ?_
  refine bs_get C (bf_dk dd_X9_select 9 rfl) cl_9 in_9 37 (Nat.le_of_ble_eq_true rfl) rfl f_9_384 (ge_bW9_0 u3) rfl ?_
  refine bs_iconst C (bf_dk dd_X9_select 10 rfl) (1 : Int32) (by decide) ?_
  refine bs_isub C (bf_dk dd_X9_select 11 rfl) ?_
  refine bs_selfPV_i C hR (c_X9_isIn _ _ _ _ _ u3 (a1) ((0 : Int32)) (((b9g_oneMany u3) - (1 : Int32))) _ h) my_X9_isIn m_9_82 rfl cl_9 (ge_bW9_0 _) rfl (Nat.le_of_ble_eq_true rfl) (Nat.le_of_ble_eq_true rfl) (st := []) (Nat.le_of_ble_eq_true rfl) (bf_dk dd_X9_select 12 rfl) rfl (fun r4 h => ?_)
  refine bs_if_eq C (bf_dk dd_X9_select 13 rfl) (tgt := 33) rfl (fun c => ?_) (fun c => ?_)
  · replace h := h.1 c
    refine bs_iconst C (bf_dk dd_X9_select 19 rfl) (-1 : Int32) (by decide) ?_
    exact bs_iret (u := u3) C (bf_dk dd_X9_select 20 rfl) rfl h
  · replace h := h.2 c
    refine bs_aload_n C (bf_dk dd_X9_select 14 rfl) rfl ?_
    refine bs_get C (bf_dk dd_X9_select 15 rfl) cl_9 in_9 36 (Nat.le_of_ble_eq_true rfl) rfl f_9_56 (ge_bW9_0 u3) rfl ?_
    refine bs_iload_n C (bf_dk dd_X9_select 16 rfl) rfl ?_
    obtain ⟨hi, h⟩ := h
    refine bs_iald C (bf_dk dd_X9_select 17 rfl) (ge_bW9_16 u3) hi ?_
    refine bs_goto C (bf_dk dd_X9_select 18 rfl) (tgt := 34) rfl ?_
    exact bs_iret (u := u3) C (bf_dk dd_X9_select 20 rfl) rfl h
theorem c_X9_select (l : Launch) (dC : Nat → ClassId) (dI : Nat → Nat → Nat) (ac : Nat → ClassId) (al : Nat → Nat) (S : bT9) (a1 : Int32) (Q : Int32 → (bT9) → Prop) (h : wp_X9_select S a1 Q) : bf_M l yX9_select cX9_select 2 (some .int) 9 203 dC dI ac al [.ref 0, .int a1] (bW9 S) (bf_Ki dC dI ac al bW9 Q) := by
  refine bf_start [some (.ref 0), some (.int a1)] (by decide) (Nat.le_of_ble_eq_true rfl) (bf_s1 (bf_s1 bf_s0)) ?_
  intro X hl C hR e1 e2 e3 e4
  subst e1; subst e2; subst e3; subst e4
  exact t_X9_select C hR S a1 Q h
def wp_X9_tailBits (S : bT9) (Q : Int32 → Prop) : Prop := (vp_in (9 : Int32) 23 ∧ (wp_X9_hashBits S (fun r1 => (wp_X9_nextBits S (fun r3 => (Q (((b9g_now S) ((9 : Int32)).toNatClampNeg) * (r1 + r3))))))))
set_option maxRecDepth 20000 in
theorem t_X9_tailBits {X : bf_X} (C : bf_C X RX9 cX9_tailBits 1 (some .int)) (hR : bf_Rm X 1 20) (S : bT9) (Q : Int32 → Prop) (h : wp_X9_tailBits S Q) : bf_A X (bf_Zi X bW9 (fun r u => u = S ∧ Q r)) 1 0 [some (.ref 0)] [] (bW9 S) := by
  unfold wp_X9_tailBits at h
  refine bs_aload_n C (bf_dk dd_X9_tailBits 0 rfl) rfl ?_
  refine bs_get C (bf_dk dd_X9_tailBits 1 rfl) cl_9 in_9 1 (Nat.le_of_ble_eq_true rfl) rfl f_9_7 (ge_bW9_0 S) rfl ?_
  refine bs_bipush C (bf_dk dd_X9_tailBits 2 rfl) (9 : Int32) (by decide) ?_
  obtain ⟨hi, h⟩ := h
  refine bs_iald C (bf_dk dd_X9_tailBits 3 rfl) (ge_bW9_1 S) hi ?_
  refine bs_aload_n C (bf_dk dd_X9_tailBits 4 rfl) rfl ?_
  refine bs_selfPV_i C hR (c_X9_hashBits _ _ _ _ _ S _ h) my_X9_hashBits m_9_310 rfl cl_9 (ge_bW9_0 _) rfl (Nat.le_of_ble_eq_true rfl) (Nat.le_of_ble_eq_true rfl) (st := [.int ((b9g_now S) ((9 : Int32)).toNatClampNeg)]) (Nat.le_of_ble_eq_true rfl) (bf_dk dd_X9_tailBits 5 rfl) rfl (fun r1 h => ?_)
  refine bs_aload_n C (bf_dk dd_X9_tailBits 6 rfl) rfl ?_
  refine bs_selfPV_i C hR (c_X9_nextBits _ _ _ _ _ S _ h) my_X9_nextBits m_9_313 rfl cl_9 (ge_bW9_0 _) rfl (Nat.le_of_ble_eq_true rfl) (Nat.le_of_ble_eq_true rfl) (st := [.int r1, .int ((b9g_now S) ((9 : Int32)).toNatClampNeg)]) (Nat.le_of_ble_eq_true rfl) (bf_dk dd_X9_tailBits 7 rfl) rfl (fun r3 h => ?_)
  refine bs_iadd C (bf_dk dd_X9_tailBits 8 rfl) ?_
  refine bs_imul C (bf_dk dd_X9_tailBits 9 rfl) ?_
  exact bs_iret (u := S) C (bf_dk dd_X9_tailBits 10 rfl) rfl ⟨rfl, h⟩
theorem c_X9_tailBits (l : Launch) (dC : Nat → ClassId) (dI : Nat → Nat → Nat) (ac : Nat → ClassId) (al : Nat → Nat) (S : bT9) (Q : Int32 → Prop) (h : wp_X9_tailBits S Q) : bf_M l yX9_tailBits cX9_tailBits 1 (some .int) 1 20 dC dI ac al [.ref 0] (bW9 S) (bf_Ki dC dI ac al bW9 (fun r u => u = S ∧ Q r)) := by
  refine bf_start [some (.ref 0)] (by decide) (Nat.le_of_ble_eq_true rfl) (bf_s1 bf_s0) ?_
  intro X hl C hR e1 e2 e3 e4
  subst e1; subst e2; subst e3; subst e4
  exact t_X9_tailBits C hR S Q h
def wp_X9_keyBits_4b (S : bT9) (x1 : Int32) (x2 : Int32) (Q : Int32 → Prop) (B4 : Int32 → Int32 → Prop) : Prop := (vp_in (9 : Int32) 23 ∧ ((((b9g_now S) ((9 : Int32)).toNatClampNeg) ≤ x2 → (Q x1)) ∧ (¬ ((b9g_now S) ((9 : Int32)).toNatClampNeg) ≤ x2 → (wp_X9_lengthOf S (x2) (fun r1 => (B4 ((x1 + ((8 : Int32) * r1))) ((x2 + (1 : Int32)))))))))
set_option maxRecDepth 20000 in
theorem t_X9_keyBits_4b {X : bf_X} (C : bf_C X RX9 cX9_keyBits 3 (some .int)) (hR : bf_Rm X 1 21) (S : bT9) (x1 : Int32) (x2 : Int32) (Q : Int32 → Prop) (B4 : Int32 → Int32 → Prop) (hB4 : ∀ (x1 : Int32) (x2 : Int32), B4 x1 x2 → bf_A X (bf_Zi X bW9 (fun r u => u = S ∧ Q r)) 3 4 [some (.ref 0), some (.int x1), some (.int x2)] [] (bW9 S)) (h : wp_X9_keyBits_4b S x1 x2 Q B4) : bf_A X (bf_Zi X bW9 (fun r u => u = S ∧ Q r)) 3 4 [some (.ref 0), some (.int x1), some (.int x2)] [] (bW9 S) := by
  unfold wp_X9_keyBits_4b at h
  refine bs_iload_n C (bf_dk dd_X9_keyBits 4 rfl) rfl ?_
  refine bs_aload_n C (bf_dk dd_X9_keyBits 5 rfl) rfl ?_
  refine bs_get C (bf_dk dd_X9_keyBits 6 rfl) cl_9 in_9 1 (Nat.le_of_ble_eq_true rfl) rfl f_9_7 (ge_bW9_0 S) rfl ?_
  refine bs_bipush C (bf_dk dd_X9_keyBits 7 rfl) (9 : Int32) (by decide) ?_
  obtain ⟨hi, h⟩ := h
  refine bs_iald C (bf_dk dd_X9_keyBits 8 rfl) (ge_bW9_1 S) hi ?_
  refine bs_icmp_ge C (bf_dk dd_X9_keyBits 9 rfl) (tgt := 32) rfl (fun c => ?_) (fun c => ?_)
  · replace h := h.1 c
    refine bs_iload_n C (bf_dk dd_X9_keyBits 20 rfl) rfl ?_
    exact bs_iret (u := S) C (bf_dk dd_X9_keyBits 21 rfl) rfl ⟨rfl, h⟩
  · replace h := h.2 c
    refine bs_iload_n C (bf_dk dd_X9_keyBits 10 rfl) rfl ?_
    refine bs_bipush C (bf_dk dd_X9_keyBits 11 rfl) (8 : Int32) (by decide) ?_
    refine bs_aload_n C (bf_dk dd_X9_keyBits 12 rfl) rfl ?_
    refine bs_iload_n C (bf_dk dd_X9_keyBits 13 rfl) rfl ?_
    refine bs_selfPV_i C hR (c_X9_lengthOf _ _ _ _ _ S (x2) _ h) my_X9_lengthOf m_9_175 rfl cl_9 (ge_bW9_0 _) rfl (Nat.le_of_ble_eq_true rfl) (Nat.le_of_ble_eq_true rfl) (st := [.int (8 : Int32), .int x1]) (Nat.le_of_ble_eq_true rfl) (bf_dk dd_X9_keyBits 14 rfl) rfl (fun r1 h => ?_)
    refine bs_imul C (bf_dk dd_X9_keyBits 15 rfl) ?_
    refine bs_iadd C (bf_dk dd_X9_keyBits 16 rfl) ?_
    refine bs_istore_n C (bf_dk dd_X9_keyBits 17 rfl) rfl (Nat.le_of_ble_eq_true rfl) (Nat.le_of_ble_eq_true rfl) (lv2 := [some (.ref 0), some (.int (x1 + ((8 : Int32) * r1))), some (.int x2)]) rfl ?_
    refine bs_iinc C (bf_dk dd_X9_keyBits 18 rfl) (x2 + (1 : Int32)) rfl rfl (Nat.le_of_ble_eq_true rfl) (Nat.le_of_ble_eq_true rfl) (lv2 := [some (.ref 0), some (.int (x1 + ((8 : Int32) * r1))), some (.int (x2 + (1 : Int32)))]) rfl ?_
    refine bs_goto C (bf_dk dd_X9_keyBits 19 rfl) (tgt := 4) rfl ?_
    exact bs_weak (bf_s1 (bf_s1 (bf_s1 bf_s0))) (hB4 ((x1 + ((8 : Int32) * r1))) ((x2 + (1 : Int32))) h)
def wp_X9_keyBits_4 (S : bT9) (x1 : Int32) (x2 : Int32) (Q : Int32 → Prop) : Prop := ∃ I : Nat → Int32 → Int32 → Prop, (∃ n : Nat, I n x1 x2) ∧ ∀ (n : Nat) (x1 : Int32) (x2 : Int32), I n x1 x2 → wp_X9_keyBits_4b S x1 x2 Q (fun x1 x2 => ∃ n2 : Nat, n2 < n ∧ I n2 x1 x2)
theorem t_X9_keyBits_4 {X : bf_X} (C : bf_C X RX9 cX9_keyBits 3 (some .int)) (hR : bf_Rm X 1 21) (S : bT9) (x1 : Int32) (x2 : Int32) (Q : Int32 → Prop) (h : wp_X9_keyBits_4 S x1 x2 Q) : bf_A X (bf_Zi X bW9 (fun r u => u = S ∧ Q r)) 3 4 [some (.ref 0), some (.int x1), some (.int x2)] [] (bW9 S) := by
  obtain ⟨I, ⟨n0, h0⟩, hI⟩ := h
  have key : ∀ (n : Nat) (x1 : Int32) (x2 : Int32), I n x1 x2 → bf_A X (bf_Zi X bW9 (fun r u => u = S ∧ Q r)) 3 4 [some (.ref 0), some (.int x1), some (.int x2)] [] (bW9 S) := by
    intro n
    induction n using Nat.strongRecOn with
    | _ n ih =>
      intro x1 x2 hi
      exact t_X9_keyBits_4b C hR S x1 x2 Q _ (fun x1 x2 hb => by obtain ⟨n2, hn, hi2⟩ := hb; exact ih n2 hn x1 x2 hi2) (hI n x1 x2 hi)
  exact key n0 x1 x2 h0
def wp_X9_keyBits (S : bT9) (Q : Int32 → Prop) : Prop := (wp_X9_keyBits_4 S ((0 : Int32)) ((0 : Int32)) Q)
set_option maxRecDepth 20000 in
theorem t_X9_keyBits {X : bf_X} (C : bf_C X RX9 cX9_keyBits 3 (some .int)) (hR : bf_Rm X 1 21) (S : bT9) (Q : Int32 → Prop) (h : wp_X9_keyBits S Q) : bf_A X (bf_Zi X bW9 (fun r u => u = S ∧ Q r)) 3 0 [some (.ref 0), none, none] [] (bW9 S) := by
  unfold wp_X9_keyBits at h
  refine bs_iconst C (bf_dk dd_X9_keyBits 0 rfl) (0 : Int32) (by decide) ?_
  refine bs_istore_n C (bf_dk dd_X9_keyBits 1 rfl) rfl (Nat.le_of_ble_eq_true rfl) (Nat.le_of_ble_eq_true rfl) (lv2 := [some (.ref 0), some (.int (0 : Int32)), none]) rfl ?_
  refine bs_iconst C (bf_dk dd_X9_keyBits 2 rfl) (0 : Int32) (by decide) ?_
  refine bs_istore_n C (bf_dk dd_X9_keyBits 3 rfl) rfl (Nat.le_of_ble_eq_true rfl) (Nat.le_of_ble_eq_true rfl) (lv2 := [some (.ref 0), some (.int (0 : Int32)), some (.int (0 : Int32))]) rfl ?_
  exact bs_weak (bf_s1 (bf_s1 (bf_s1 bf_s0))) (t_X9_keyBits_4 C hR S ((0 : Int32)) ((0 : Int32)) Q h)
theorem c_X9_keyBits (l : Launch) (dC : Nat → ClassId) (dI : Nat → Nat → Nat) (ac : Nat → ClassId) (al : Nat → Nat) (S : bT9) (Q : Int32 → Prop) (h : wp_X9_keyBits S Q) : bf_M l yX9_keyBits cX9_keyBits 3 (some .int) 1 21 dC dI ac al [.ref 0] (bW9 S) (bf_Ki dC dI ac al bW9 (fun r u => u = S ∧ Q r)) := by
  refine bf_start [some (.ref 0), none, none] (by decide) (Nat.le_of_ble_eq_true rfl) (bf_s1 (bf_en 2)) ?_
  intro X hl C hR e1 e2 e3 e4
  subst e1; subst e2; subst e3; subst e4
  exact t_X9_keyBits C hR S Q h
def wp_X9_bits (S : bT9) (a1 : Int32) (Q : Int32 → (bT9) → Prop) : Prop := (∀ S1 : bT9, S1 = (b9s_told S (0 : Int32)) → (wp_X9_laysOnes S1 (fun u3 => ((¬ a1 = 0 → ((¬ a1 = (1 : Int32) → ((¬ a1 = (2 : Int32) → ((¬ a1 = (3 : Int32) → ((¬ a1 = (4 : Int32) → ((¬ a1 = (5 : Int32) → ((¬ a1 = (6 : Int32) → (Q (-1 : Int32) u3)) ∧ (a1 = (6 : Int32) → (Q (b9g_oneMany u3) u3)))) ∧ (a1 = (5 : Int32) → (Q (b9g_rowLong u3) u3)))) ∧ (a1 = (4 : Int32) → (wp_X9_keyBits u3 (fun r4 => (Q r4 u3)))))) ∧ (a1 = (3 : Int32) → (wp_X9_bitsAbove u3 ((b9g_upper u3)) (fun r6 => (wp_X9_bitsBelow u3 ((b9g_upper u3)) (fun r8 => (wp_X9_tailBits u3 (fun r10 => (Q ((r6 + r8) + r10) u3)))))))))) ∧ (a1 = (2 : Int32) → (wp_X9_tailBits u3 (fun r12 => (Q r12 u3)))))) ∧ (a1 = (1 : Int32) → (wp_X9_bitsBelow u3 ((b9g_upper u3)) (fun r14 => (Q r14 u3)))))) ∧ (a1 = 0 → (wp_X9_bitsAbove u3 ((b9g_upper u3)) (fun r16 => (Q r16 u3))))))))
set_option maxRecDepth 20000 in
theorem t_X9_bits {X : bf_X} (C : bf_C X RX9 cX9_bits 2 (some .int)) (hR : bf_Rm X 9 203) (S : bT9) (a1 : Int32) (Q : Int32 → (bT9) → Prop) (h : wp_X9_bits S a1 Q) : bf_A X (bf_Zi X bW9 Q) 2 0 [some (.ref 0), some (.int a1)] [] (bW9 S) := by
  unfold wp_X9_bits at h
  refine bs_aload_n C (bf_dk dd_X9_bits 0 rfl) rfl ?_
  refine bs_iconst C (bf_dk dd_X9_bits 1 rfl) (0 : Int32) (by decide) ?_
  refine bs_put C (bf_dk dd_X9_bits 2 rfl) tyX9_ok nmX9 cl_9 in_9 0 (Nat.le_of_ble_eq_true rfl) rfl f_9_75 rfl (ge_bW9_0 S) (Nat.le_of_ble_eq_true rfl) rfl rfl (pu_bW9_0_0 S (0 : Int32)) ?_
  refine bs_nameS bW9 (fun S1 eS1 => ?_)
  replace h := h S1 eS1
  refine bs_aload_n C (bf_dk dd_X9_bits 3 rfl) rfl ?_
  refine bs_selfV_v C hR (c_X9_laysOnes _ _ _ _ _ S1 _ h) my_X9_laysOnes m_9_399 rfl cl_9 (ge_bW9_0 _) rfl (Nat.le_of_ble_eq_true rfl) (Nat.le_of_ble_eq_true rfl) (st := []) (Nat.le_of_ble_eq_true rfl) (bf_dk dd_X9_bits 4 rfl) rfl (len := 21) (fun _ => rfl) (fun u3 h => ?_)
  refine bs_iload_n C (bf_dk dd_X9_bits 5 rfl) rfl ?_
  refine bs_if_ne C (bf_dk dd_X9_bits 6 rfl) (tgt := 22) rfl (fun c => ?_) (fun c => ?_)
  · replace h := h.1 c
    refine bs_iload_n C (bf_dk dd_X9_bits 12 rfl) rfl ?_
    refine bs_iconst C (bf_dk dd_X9_bits 13 rfl) (1 : Int32) (by decide) ?_
    refine bs_icmp_ne C (bf_dk dd_X9_bits 14 rfl) (tgt := 36) rfl (fun c => ?_) (fun c => ?_)
    · replace h := h.1 c
      refine bs_iload_n C (bf_dk dd_X9_bits 20 rfl) rfl ?_
      refine bs_iconst C (bf_dk dd_X9_bits 21 rfl) (2 : Int32) (by decide) ?_
      refine bs_icmp_ne C (bf_dk dd_X9_bits 22 rfl) (tgt := 46) rfl (fun c => ?_) (fun c => ?_)
      · replace h := h.1 c
        refine bs_iload_n C (bf_dk dd_X9_bits 26 rfl) rfl ?_
        refine bs_iconst C (bf_dk dd_X9_bits 27 rfl) (3 : Int32) (by decide) ?_
        refine bs_icmp_ne C (bf_dk dd_X9_bits 28 rfl) (tgt := 74) rfl (fun c => ?_) (fun c => ?_)
        · replace h := h.1 c
          refine bs_iload_n C (bf_dk dd_X9_bits 42 rfl) rfl ?_
          refine bs_iconst C (bf_dk dd_X9_bits 43 rfl) (4 : Int32) (by decide) ?_
          refine bs_icmp_ne C (bf_dk dd_X9_bits 44 rfl) (tgt := 84) rfl (fun c => ?_) (fun c => ?_)
          · replace h := h.1 c
            refine bs_iload_n C (bf_dk dd_X9_bits 48 rfl) rfl ?_
            refine bs_iconst C (bf_dk dd_X9_bits 49 rfl) (5 : Int32) (by decide) ?_
            refine bs_icmp_ne C (bf_dk dd_X9_bits 50 rfl) (tgt := 96) rfl (fun c => ?_) (fun c => ?_)
            · replace h := h.1 c
              refine bs_iload_n C (bf_dk dd_X9_bits 54 rfl) rfl ?_
              refine bs_bipush C (bf_dk dd_X9_bits 55 rfl) (6 : Int32) (by decide) ?_
              refine bs_icmp_ne C (bf_dk dd_X9_bits 56 rfl) (tgt := 109) rfl (fun c => ?_) (fun c => ?_)
              · replace h := h.1 c
                refine bs_iconst C (bf_dk dd_X9_bits 60 rfl) (-1 : Int32) (by decide) ?_
                exact bs_iret (u := u3) C (bf_dk dd_X9_bits 61 rfl) rfl h
              · replace h := h.2 c
                refine bs_aload_n C (bf_dk dd_X9_bits 57 rfl) rfl ?_
                refine bs_get C (bf_dk dd_X9_bits 58 rfl) cl_9 in_9 37 (Nat.le_of_ble_eq_true rfl) rfl f_9_384 (ge_bW9_0 u3) rfl ?_
                refine bs_goto C (bf_dk dd_X9_bits 59 rfl) (tgt := 110) rfl ?_
                exact bs_iret (u := u3) C (bf_dk dd_X9_bits 61 rfl) rfl h
            · replace h := h.2 c
              refine bs_aload_n C (bf_dk dd_X9_bits 51 rfl) rfl ?_
              refine bs_get C (bf_dk dd_X9_bits 52 rfl) cl_9 in_9 38 (Nat.le_of_ble_eq_true rfl) rfl f_9_390 (ge_bW9_0 u3) rfl ?_
              refine bs_goto C (bf_dk dd_X9_bits 53 rfl) (tgt := 110) rfl ?_
              exact bs_iret (u := u3) C (bf_dk dd_X9_bits 61 rfl) rfl h
          · replace h := h.2 c
            refine bs_aload_n C (bf_dk dd_X9_bits 45 rfl) rfl ?_
            refine bs_selfPV_i C hR (c_X9_keyBits _ _ _ _ _ u3 _ h) my_X9_keyBits m_9_408 rfl cl_9 (ge_bW9_0 _) rfl (Nat.le_of_ble_eq_true rfl) (Nat.le_of_ble_eq_true rfl) (st := []) (Nat.le_of_ble_eq_true rfl) (bf_dk dd_X9_bits 46 rfl) rfl (fun r4 h => ?_)
            exact bs_iret (u := u3) C (bf_dk dd_X9_bits 47 rfl) rfl h
        · replace h := h.2 c
          refine bs_aload_n C (bf_dk dd_X9_bits 29 rfl) rfl ?_
          refine bs_aload_n C (bf_dk dd_X9_bits 30 rfl) rfl ?_
          refine bs_get C (bf_dk dd_X9_bits 31 rfl) cl_9 in_9 18 (Nat.le_of_ble_eq_true rfl) rfl f_9_213 (ge_bW9_0 u3) rfl ?_
          refine bs_selfPV_i C hR (c_X9_bitsAbove _ _ _ _ _ u3 ((b9g_upper u3)) _ h) my_X9_bitsAbove m_9_241 rfl cl_9 (ge_bW9_0 _) rfl (Nat.le_of_ble_eq_true rfl) (Nat.le_of_ble_eq_true rfl) (st := []) (Nat.le_of_ble_eq_true rfl) (bf_dk dd_X9_bits 32 rfl) rfl (fun r6 h => ?_)
          refine bs_aload_n C (bf_dk dd_X9_bits 33 rfl) rfl ?_
          refine bs_aload_n C (bf_dk dd_X9_bits 34 rfl) rfl ?_
          refine bs_get C (bf_dk dd_X9_bits 35 rfl) cl_9 in_9 18 (Nat.le_of_ble_eq_true rfl) rfl f_9_213 (ge_bW9_0 u3) rfl ?_
          refine bs_selfPV_i C hR (c_X9_bitsBelow _ _ _ _ _ u3 ((b9g_upper u3)) _ h) my_X9_bitsBelow m_9_244 rfl cl_9 (ge_bW9_0 _) rfl (Nat.le_of_ble_eq_true rfl) (Nat.le_of_ble_eq_true rfl) (st := [.int r6]) (Nat.le_of_ble_eq_true rfl) (bf_dk dd_X9_bits 36 rfl) rfl (fun r8 h => ?_)
          refine bs_iadd C (bf_dk dd_X9_bits 37 rfl) ?_
          refine bs_aload_n C (bf_dk dd_X9_bits 38 rfl) rfl ?_
          refine bs_selfPV_i C hR (c_X9_tailBits _ _ _ _ _ u3 _ h) my_X9_tailBits m_9_405 rfl cl_9 (ge_bW9_0 _) rfl (Nat.le_of_ble_eq_true rfl) (Nat.le_of_ble_eq_true rfl) (st := [.int (r6 + r8)]) (Nat.le_of_ble_eq_true rfl) (bf_dk dd_X9_bits 39 rfl) rfl (fun r10 h => ?_)
          refine bs_iadd C (bf_dk dd_X9_bits 40 rfl) ?_
          exact bs_iret (u := u3) C (bf_dk dd_X9_bits 41 rfl) rfl h
      · replace h := h.2 c
        refine bs_aload_n C (bf_dk dd_X9_bits 23 rfl) rfl ?_
        refine bs_selfPV_i C hR (c_X9_tailBits _ _ _ _ _ u3 _ h) my_X9_tailBits m_9_405 rfl cl_9 (ge_bW9_0 _) rfl (Nat.le_of_ble_eq_true rfl) (Nat.le_of_ble_eq_true rfl) (st := []) (Nat.le_of_ble_eq_true rfl) (bf_dk dd_X9_bits 24 rfl) rfl (fun r12 h => ?_)
        exact bs_iret (u := u3) C (bf_dk dd_X9_bits 25 rfl) rfl h
    · replace h := h.2 c
      refine bs_aload_n C (bf_dk dd_X9_bits 15 rfl) rfl ?_
      refine bs_aload_n C (bf_dk dd_X9_bits 16 rfl) rfl ?_
      refine bs_get C (bf_dk dd_X9_bits 17 rfl) cl_9 in_9 18 (Nat.le_of_ble_eq_true rfl) rfl f_9_213 (ge_bW9_0 u3) rfl ?_
      refine bs_selfPV_i C hR (c_X9_bitsBelow _ _ _ _ _ u3 ((b9g_upper u3)) _ h) my_X9_bitsBelow m_9_244 rfl cl_9 (ge_bW9_0 _) rfl (Nat.le_of_ble_eq_true rfl) (Nat.le_of_ble_eq_true rfl) (st := []) (Nat.le_of_ble_eq_true rfl) (bf_dk dd_X9_bits 18 rfl) rfl (fun r14 h => ?_)
      exact bs_iret (u := u3) C (bf_dk dd_X9_bits 19 rfl) rfl h
  · replace h := h.2 c
    refine bs_aload_n C (bf_dk dd_X9_bits 7 rfl) rfl ?_
    refine bs_aload_n C (bf_dk dd_X9_bits 8 rfl) rfl ?_
    refine bs_get C (bf_dk dd_X9_bits 9 rfl) cl_9 in_9 18 (Nat.le_of_ble_eq_true rfl) rfl f_9_213 (ge_bW9_0 u3) rfl ?_
    refine bs_selfPV_i C hR (c_X9_bitsAbove _ _ _ _ _ u3 ((b9g_upper u3)) _ h) my_X9_bitsAbove m_9_241 rfl cl_9 (ge_bW9_0 _) rfl (Nat.le_of_ble_eq_true rfl) (Nat.le_of_ble_eq_true rfl) (st := []) (Nat.le_of_ble_eq_true rfl) (bf_dk dd_X9_bits 10 rfl) rfl (fun r16 h => ?_)
    exact bs_iret (u := u3) C (bf_dk dd_X9_bits 11 rfl) rfl h
theorem c_X9_bits (l : Launch) (dC : Nat → ClassId) (dI : Nat → Nat → Nat) (ac : Nat → ClassId) (al : Nat → Nat) (S : bT9) (a1 : Int32) (Q : Int32 → (bT9) → Prop) (h : wp_X9_bits S a1 Q) : bf_M l yX9_bits cX9_bits 2 (some .int) 9 203 dC dI ac al [.ref 0, .int a1] (bW9 S) (bf_Ki dC dI ac al bW9 Q) := by
  refine bf_start [some (.ref 0), some (.int a1)] (by decide) (Nat.le_of_ble_eq_true rfl) (bf_s1 (bf_s1 bf_s0)) ?_
  intro X hl C hR e1 e2 e3 e4
  subst e1; subst e2; subst e3; subst e4
  exact t_X9_bits C hR S a1 Q h
def wp_X9_least_60 (S : bT9) (x1 : Int32) (x2 : Int32) (x3 : Int32) (Q : Int32 → (bT9) → Prop) (B25 : Int32 → Int32 → Int32 → (bT9) → Prop) : Prop := (B25 (x1) (x2) ((x3 + (1 : Int32))) S)
set_option maxRecDepth 20000 in
theorem t_X9_least_60 {X : bf_X} (C : bf_C X RX9 cX9_least 4 (some .int)) (hR : bf_Rm X 8 182) (S : bT9) (x1 : Int32) (x2 : Int32) (x3 : Int32) (Q : Int32 → (bT9) → Prop) (B25 : Int32 → Int32 → Int32 → (bT9) → Prop) (hB25 : ∀ (x1 : Int32) (x2 : Int32) (x3 : Int32) (S : bT9), B25 x1 x2 x3 S → bf_A X (bf_Zi X bW9 Q) 4 25 [some (.ref 0), some (.int x1), some (.int x2), some (.int x3)] [] (bW9 S)) (h : wp_X9_least_60 S x1 x2 x3 Q B25) : bf_A X (bf_Zi X bW9 Q) 4 60 [some (.ref 0), some (.int x1), some (.int x2), some (.int x3)] [] (bW9 S) := by
  unfold wp_X9_least_60 at h
  refine bs_iinc C (bf_dk dd_X9_least 38 rfl) (x3 + (1 : Int32)) rfl rfl (Nat.le_of_ble_eq_true rfl) (Nat.le_of_ble_eq_true rfl) (lv2 := [some (.ref 0), some (.int x1), some (.int x2), some (.int (x3 + (1 : Int32)))]) rfl ?_
  refine bs_goto C (bf_dk dd_X9_least 39 rfl) (tgt := 25) rfl ?_
  exact bs_weak (bf_s1 (bf_s1 (bf_s1 (bf_s1 bf_s0)))) (hB25 (x1) (x2) ((x3 + (1 : Int32))) S h)
def wp_X9_least_25b (S : bT9) (x1 : Int32) (x2 : Int32) (x3 : Int32) (Q : Int32 → (bT9) → Prop) (B25 : Int32 → Int32 → Int32 → (bT9) → Prop) : Prop := (((b9g_levelMany S) < x3 → ((¬ x1 = 0 → (wp_X9_bitsAbove S (x2) (fun r1 => (wp_X9_bitsBelow S (x2) (fun r3 => (wp_X9_tailBits S (fun r5 => (Q ((r1 + r3) + r5) S)))))))) ∧ (x1 = 0 → (Q x2 S)))) ∧ (¬ (b9g_levelMany S) < x3 → (wp_X9_bitsAbove S (x3) (fun r7 => (wp_X9_bitsBelow S (x3) (fun r9 => (wp_X9_bitsAbove S (x2) (fun r11 => (wp_X9_bitsBelow S (x2) (fun r13 => (((r11 + r13) ≤ (r7 + r9) → (wp_X9_least_60 S (x1) (x2) (x3) Q B25)) ∧ (¬ (r11 + r13) ≤ (r7 + r9) → (wp_X9_least_60 S (x1) (x3) (x3) Q B25)))))))))))))
set_option maxRecDepth 20000 in
theorem t_X9_least_25b {X : bf_X} (C : bf_C X RX9 cX9_least 4 (some .int)) (hR : bf_Rm X 8 182) (S : bT9) (x1 : Int32) (x2 : Int32) (x3 : Int32) (Q : Int32 → (bT9) → Prop) (B25 : Int32 → Int32 → Int32 → (bT9) → Prop) (hB25 : ∀ (x1 : Int32) (x2 : Int32) (x3 : Int32) (S : bT9), B25 x1 x2 x3 S → bf_A X (bf_Zi X bW9 Q) 4 25 [some (.ref 0), some (.int x1), some (.int x2), some (.int x3)] [] (bW9 S)) (h : wp_X9_least_25b S x1 x2 x3 Q B25) : bf_A X (bf_Zi X bW9 Q) 4 25 [some (.ref 0), some (.int x1), some (.int x2), some (.int x3)] [] (bW9 S) := by
  unfold wp_X9_least_25b at h
  refine bs_iload_n C (bf_dk dd_X9_least 17 rfl) rfl ?_
  refine bs_aload_n C (bf_dk dd_X9_least 18 rfl) rfl ?_
  refine bs_get C (bf_dk dd_X9_least 19 rfl) cl_9 in_9 17 (Nat.le_of_ble_eq_true rfl) rfl f_9_201 (ge_bW9_0 S) rfl ?_
  refine bs_icmp_gt C (bf_dk dd_X9_least 20 rfl) (tgt := 66) rfl (fun c => ?_) (fun c => ?_)
  · replace h := h.1 c
    refine bs_iload_n C (bf_dk dd_X9_least 40 rfl) rfl ?_
    refine bs_if_ne C (bf_dk dd_X9_least 41 rfl) (tgt := 74) rfl (fun c => ?_) (fun c => ?_)
    · replace h := h.1 c
      refine bs_aload_n C (bf_dk dd_X9_least 44 rfl) rfl ?_
      refine bs_iload_n C (bf_dk dd_X9_least 45 rfl) rfl ?_
      refine bs_selfPV_i C hR (c_X9_bitsAbove _ _ _ _ _ S (x2) _ h) my_X9_bitsAbove m_9_241 rfl cl_9 (ge_bW9_0 _) rfl (Nat.le_of_ble_eq_true rfl) (Nat.le_of_ble_eq_true rfl) (st := []) (Nat.le_of_ble_eq_true rfl) (bf_dk dd_X9_least 46 rfl) rfl (fun r1 h => ?_)
      refine bs_aload_n C (bf_dk dd_X9_least 47 rfl) rfl ?_
      refine bs_iload_n C (bf_dk dd_X9_least 48 rfl) rfl ?_
      refine bs_selfPV_i C hR (c_X9_bitsBelow _ _ _ _ _ S (x2) _ h) my_X9_bitsBelow m_9_244 rfl cl_9 (ge_bW9_0 _) rfl (Nat.le_of_ble_eq_true rfl) (Nat.le_of_ble_eq_true rfl) (st := [.int r1]) (Nat.le_of_ble_eq_true rfl) (bf_dk dd_X9_least 49 rfl) rfl (fun r3 h => ?_)
      refine bs_iadd C (bf_dk dd_X9_least 50 rfl) ?_
      refine bs_aload_n C (bf_dk dd_X9_least 51 rfl) rfl ?_
      refine bs_selfPV_i C hR (c_X9_tailBits _ _ _ _ _ S _ h) my_X9_tailBits m_9_405 rfl cl_9 (ge_bW9_0 _) rfl (Nat.le_of_ble_eq_true rfl) (Nat.le_of_ble_eq_true rfl) (st := [.int (r1 + r3)]) (Nat.le_of_ble_eq_true rfl) (bf_dk dd_X9_least 52 rfl) rfl (fun r5 h => ?_)
      refine bs_iadd C (bf_dk dd_X9_least 53 rfl) ?_
      exact bs_iret (u := S) C (bf_dk dd_X9_least 54 rfl) rfl h
    · replace h := h.2 c
      refine bs_iload_n C (bf_dk dd_X9_least 42 rfl) rfl ?_
      refine bs_goto C (bf_dk dd_X9_least 43 rfl) (tgt := 90) rfl ?_
      exact bs_iret (u := S) C (bf_dk dd_X9_least 54 rfl) rfl h
  · replace h := h.2 c
    refine bs_aload_n C (bf_dk dd_X9_least 21 rfl) rfl ?_
    refine bs_iload_n C (bf_dk dd_X9_least 22 rfl) rfl ?_
    refine bs_selfPV_i C hR (c_X9_bitsAbove _ _ _ _ _ S (x3) _ h) my_X9_bitsAbove m_9_241 rfl cl_9 (ge_bW9_0 _) rfl (Nat.le_of_ble_eq_true rfl) (Nat.le_of_ble_eq_true rfl) (st := []) (Nat.le_of_ble_eq_true rfl) (bf_dk dd_X9_least 23 rfl) rfl (fun r7 h => ?_)
    refine bs_aload_n C (bf_dk dd_X9_least 24 rfl) rfl ?_
    refine bs_iload_n C (bf_dk dd_X9_least 25 rfl) rfl ?_
    refine bs_selfPV_i C hR (c_X9_bitsBelow _ _ _ _ _ S (x3) _ h) my_X9_bitsBelow m_9_244 rfl cl_9 (ge_bW9_0 _) rfl (Nat.le_of_ble_eq_true rfl) (Nat.le_of_ble_eq_true rfl) (st := [.int r7]) (Nat.le_of_ble_eq_true rfl) (bf_dk dd_X9_least 26 rfl) rfl (fun r9 h => ?_)
    refine bs_iadd C (bf_dk dd_X9_least 27 rfl) ?_
    refine bs_aload_n C (bf_dk dd_X9_least 28 rfl) rfl ?_
    refine bs_iload_n C (bf_dk dd_X9_least 29 rfl) rfl ?_
    refine bs_selfPV_i C hR (c_X9_bitsAbove _ _ _ _ _ S (x2) _ h) my_X9_bitsAbove m_9_241 rfl cl_9 (ge_bW9_0 _) rfl (Nat.le_of_ble_eq_true rfl) (Nat.le_of_ble_eq_true rfl) (st := [.int (r7 + r9)]) (Nat.le_of_ble_eq_true rfl) (bf_dk dd_X9_least 30 rfl) rfl (fun r11 h => ?_)
    refine bs_aload_n C (bf_dk dd_X9_least 31 rfl) rfl ?_
    refine bs_iload_n C (bf_dk dd_X9_least 32 rfl) rfl ?_
    refine bs_selfPV_i C hR (c_X9_bitsBelow _ _ _ _ _ S (x2) _ h) my_X9_bitsBelow m_9_244 rfl cl_9 (ge_bW9_0 _) rfl (Nat.le_of_ble_eq_true rfl) (Nat.le_of_ble_eq_true rfl) (st := [.int r11, .int (r7 + r9)]) (Nat.le_of_ble_eq_true rfl) (bf_dk dd_X9_least 33 rfl) rfl (fun r13 h => ?_)
    refine bs_iadd C (bf_dk dd_X9_least 34 rfl) ?_
    refine bs_icmp_ge C (bf_dk dd_X9_least 35 rfl) (tgt := 60) rfl (fun c => ?_) (fun c => ?_)
    · replace h := h.1 c
      exact bs_weak (bf_s1 (bf_s1 (bf_s1 (bf_s1 bf_s0)))) (t_X9_least_60 C hR S (x1) (x2) (x3) Q B25 hB25 h)
    · replace h := h.2 c
      refine bs_iload_n C (bf_dk dd_X9_least 36 rfl) rfl ?_
      refine bs_istore_n C (bf_dk dd_X9_least 37 rfl) rfl (Nat.le_of_ble_eq_true rfl) (Nat.le_of_ble_eq_true rfl) (lv2 := [some (.ref 0), some (.int x1), some (.int x3), some (.int x3)]) rfl ?_
      exact bs_weak (bf_s1 (bf_s1 (bf_s1 (bf_s1 bf_s0)))) (t_X9_least_60 C hR S (x1) (x3) (x3) Q B25 hB25 h)
def wp_X9_least_25 (S : bT9) (x1 : Int32) (x2 : Int32) (x3 : Int32) (Q : Int32 → (bT9) → Prop) : Prop := ∃ I : Nat → Int32 → Int32 → Int32 → (bT9) → Prop, (∃ n : Nat, I n x1 x2 x3 S) ∧ ∀ (n : Nat) (x1 : Int32) (x2 : Int32) (x3 : Int32) (S : bT9), I n x1 x2 x3 S → wp_X9_least_25b S x1 x2 x3 Q (fun x1 x2 x3 S => ∃ n2 : Nat, n2 < n ∧ I n2 x1 x2 x3 S)
theorem t_X9_least_25 {X : bf_X} (C : bf_C X RX9 cX9_least 4 (some .int)) (hR : bf_Rm X 8 182) (S : bT9) (x1 : Int32) (x2 : Int32) (x3 : Int32) (Q : Int32 → (bT9) → Prop) (h : wp_X9_least_25 S x1 x2 x3 Q) : bf_A X (bf_Zi X bW9 Q) 4 25 [some (.ref 0), some (.int x1), some (.int x2), some (.int x3)] [] (bW9 S) := by
  obtain ⟨I, ⟨n0, h0⟩, hI⟩ := h
  have key : ∀ (n : Nat) (x1 : Int32) (x2 : Int32) (x3 : Int32) (S : bT9), I n x1 x2 x3 S → bf_A X (bf_Zi X bW9 Q) 4 25 [some (.ref 0), some (.int x1), some (.int x2), some (.int x3)] [] (bW9 S) := by
    intro n
    induction n using Nat.strongRecOn with
    | _ n ih =>
      intro x1 x2 x3 S hi
      exact t_X9_least_25b C hR S x1 x2 x3 Q _ (fun x1 x2 x3 S hb => by obtain ⟨n2, hn, hi2⟩ := hb; exact ih n2 hn x1 x2 x3 S hi2) (hI n x1 x2 x3 S hi)
  exact key n0 x1 x2 x3 S h0
def wp_X9_least (S : bT9) (a1 : Int32) (Q : Int32 → (bT9) → Prop) : Prop := (∀ S15 : bT9, S15 = (b9s_told S (0 : Int32)) → (wp_X9_laysNodes S15 (fun u17 => (wp_X9_isIn u17 (a1) ((0 : Int32)) ((1 : Int32)) (fun r18 => ((¬ r18 = 0 → (wp_X9_least_25 u17 (a1) ((0 : Int32)) ((1 : Int32)) Q)) ∧ (r18 = 0 → (Q (-1 : Int32) u17))))))))
set_option maxRecDepth 20000 in
theorem t_X9_least {X : bf_X} (C : bf_C X RX9 cX9_least 4 (some .int)) (hR : bf_Rm X 8 182) (S : bT9) (a1 : Int32) (Q : Int32 → (bT9) → Prop) (h : wp_X9_least S a1 Q) : bf_A X (bf_Zi X bW9 Q) 4 0 [some (.ref 0), some (.int a1), none, none] [] (bW9 S) := by
  unfold wp_X9_least at h
  refine bs_aload_n C (bf_dk dd_X9_least 0 rfl) rfl ?_
  refine bs_iconst C (bf_dk dd_X9_least 1 rfl) (0 : Int32) (by decide) ?_
  refine bs_put C (bf_dk dd_X9_least 2 rfl) tyX9_ok nmX9 cl_9 in_9 0 (Nat.le_of_ble_eq_true rfl) rfl f_9_75 rfl (ge_bW9_0 S) (Nat.le_of_ble_eq_true rfl) rfl rfl (pu_bW9_0_0 S (0 : Int32)) ?_
  refine bs_nameS bW9 (fun S15 eS15 => ?_)
  replace h := h S15 eS15
  refine bs_aload_n C (bf_dk dd_X9_least 3 rfl) rfl ?_
  refine bs_selfV_v C hR (c_X9_laysNodes _ _ _ _ _ S15 _ h) my_X9_laysNodes m_9_262 rfl cl_9 (ge_bW9_0 _) rfl (Nat.le_of_ble_eq_true rfl) (Nat.le_of_ble_eq_true rfl) (st := []) (Nat.le_of_ble_eq_true rfl) (bf_dk dd_X9_least 4 rfl) rfl (len := 21) (fun _ => rfl) (fun u17 h => ?_)
  refine bs_aload_n C (bf_dk dd_X9_least 5 rfl) rfl ?_
  refine bs_iload_n C (bf_dk dd_X9_least 6 rfl) rfl ?_
  refine bs_iconst C (bf_dk dd_X9_least 7 rfl) (0 : Int32) (by decide) ?_
  refine bs_iconst C (bf_dk dd_X9_least 8 rfl) (1 : Int32) (by decide) ?_
  refine bs_selfPV_i C hR (c_X9_isIn _ _ _ _ _ u17 (a1) ((0 : Int32)) ((1 : Int32)) _ h) my_X9_isIn m_9_82 rfl cl_9 (ge_bW9_0 _) rfl (Nat.le_of_ble_eq_true rfl) (Nat.le_of_ble_eq_true rfl) (st := []) (Nat.le_of_ble_eq_true rfl) (bf_dk dd_X9_least 9 rfl) rfl (fun r18 h => ?_)
  refine bs_if_ne C (bf_dk dd_X9_least 10 rfl) (tgt := 21) rfl (fun c => ?_) (fun c => ?_)
  · replace h := h.1 c
    refine bs_iconst C (bf_dk dd_X9_least 13 rfl) (0 : Int32) (by decide) ?_
    refine bs_istore_n C (bf_dk dd_X9_least 14 rfl) rfl (Nat.le_of_ble_eq_true rfl) (Nat.le_of_ble_eq_true rfl) (lv2 := [some (.ref 0), some (.int a1), some (.int (0 : Int32)), none]) rfl ?_
    refine bs_iconst C (bf_dk dd_X9_least 15 rfl) (1 : Int32) (by decide) ?_
    refine bs_istore_n C (bf_dk dd_X9_least 16 rfl) rfl (Nat.le_of_ble_eq_true rfl) (Nat.le_of_ble_eq_true rfl) (lv2 := [some (.ref 0), some (.int a1), some (.int (0 : Int32)), some (.int (1 : Int32))]) rfl ?_
    exact bs_weak (bf_s1 (bf_s1 (bf_s1 (bf_s1 bf_s0)))) (t_X9_least_25 C hR u17 (a1) ((0 : Int32)) ((1 : Int32)) Q h)
  · replace h := h.2 c
    refine bs_iconst C (bf_dk dd_X9_least 11 rfl) (-1 : Int32) (by decide) ?_
    exact bs_iret (u := u17) C (bf_dk dd_X9_least 12 rfl) rfl h
theorem c_X9_least (l : Launch) (dC : Nat → ClassId) (dI : Nat → Nat → Nat) (ac : Nat → ClassId) (al : Nat → Nat) (S : bT9) (a1 : Int32) (Q : Int32 → (bT9) → Prop) (h : wp_X9_least S a1 Q) : bf_M l yX9_least cX9_least 4 (some .int) 8 182 dC dI ac al [.ref 0, .int a1] (bW9 S) (bf_Ki dC dI ac al bW9 Q) := by
  refine bf_start [some (.ref 0), some (.int a1), none, none] (by decide) (Nat.le_of_ble_eq_true rfl) (bf_s1 (bf_s1 (bf_en 2))) ?_
  intro X hl C hR e1 e2 e3 e4
  subst e1; subst e2; subst e3; subst e4
  exact t_X9_least C hR S a1 Q h
