def wp_X0_bytesAt (S : bT0) (a1 : Int32) (Q : Int64 → Prop) : Prop := ((a1 < 0 → (Q (0 : Int64))) ∧ (¬ a1 < 0 → (((b0g_count S) ≤ a1 → (Q (0 : Int64))) ∧ (¬ (b0g_count S) ≤ a1 → (vp_in a1 64 ∧ (Q ((b0g_bytes S) (a1).toNatClampNeg)))))))
set_option maxRecDepth 20000 in
theorem t_X0_bytesAt {X : bf_X} (C : bf_C X RX0 cX0_bytesAt 2 (some .long)) (hR : bf_Rm X 0 0) (S : bT0) (a1 : Int32) (Q : Int64 → Prop) (h : wp_X0_bytesAt S a1 Q) : bf_A X (bf_Zl X bW0 (fun r u => u = S ∧ Q r)) 2 0 [some (.ref 0), some (.int a1)] [] (bW0 S) := by
  unfold wp_X0_bytesAt at h
  refine bs_iload_n C (bf_dk dd_X0_bytesAt 0 rfl) rfl ?_
  refine bs_if_lt C (bf_dk dd_X0_bytesAt 1 rfl) (tgt := 21) rfl (fun c => ?_) (fun c => ?_)
  · replace h := h.1 c
    refine bs_lconst C (bf_dk dd_X0_bytesAt 11 rfl) (0 : Int64) (by decide) ?_
    exact bs_lret (u := S) C (bf_dk dd_X0_bytesAt 12 rfl) rfl ⟨rfl, h⟩
  · replace h := h.2 c
    refine bs_iload_n C (bf_dk dd_X0_bytesAt 2 rfl) rfl ?_
    refine bs_aload_n C (bf_dk dd_X0_bytesAt 3 rfl) rfl ?_
    refine bs_get C (bf_dk dd_X0_bytesAt 4 rfl) cl_0 in_0 2 (Nat.le_of_ble_eq_true rfl) rfl f_0_19 rfl rfl ?_
    refine bs_icmp_ge C (bf_dk dd_X0_bytesAt 5 rfl) (tgt := 21) rfl (fun c => ?_) (fun c => ?_)
    · replace h := h.1 c
      refine bs_lconst C (bf_dk dd_X0_bytesAt 11 rfl) (0 : Int64) (by decide) ?_
      exact bs_lret (u := S) C (bf_dk dd_X0_bytesAt 12 rfl) rfl ⟨rfl, h⟩
    · replace h := h.2 c
      refine bs_aload_n C (bf_dk dd_X0_bytesAt 6 rfl) rfl ?_
      refine bs_get C (bf_dk dd_X0_bytesAt 7 rfl) cl_0 in_0 0 (Nat.le_of_ble_eq_true rfl) rfl f_0_9 rfl rfl ?_
      refine bs_iload_n C (bf_dk dd_X0_bytesAt 8 rfl) rfl ?_
      obtain ⟨hi, h⟩ := h
      refine bs_lald C (bf_dk dd_X0_bytesAt 9 rfl) rfl hi ?_
      refine bs_goto C (bf_dk dd_X0_bytesAt 10 rfl) (tgt := 22) rfl ?_
      exact bs_lret (u := S) C (bf_dk dd_X0_bytesAt 12 rfl) rfl ⟨rfl, h⟩
theorem c_X0_bytesAt (l : Launch) (dC : Nat → ClassId) (dI : Nat → Nat → Nat) (ac : Nat → ClassId) (al : Nat → Nat) (S : bT0) (a1 : Int32) (Q : Int64 → Prop) (h : wp_X0_bytesAt S a1 Q) : bf_M l yX0_bytesAt cX0_bytesAt 2 (some .long) 0 0 dC dI ac al [.ref 0, .int a1] (bW0 S) (bf_Kl dC dI ac al bW0 (fun r u => u = S ∧ Q r)) := by
  refine bf_start [some (.ref 0), some (.int a1)] (by decide) (Nat.le_of_ble_eq_true rfl) (bf_s1 (bf_s1 bf_s0)) ?_
  intro X hl C hR e1 e2 e3 e4
  subst e1; subst e2; subst e3; subst e4
  exact t_X0_bytesAt C hR S a1 Q h
def wp_X0_lengthAt (S : bT0) (a1 : Int32) (Q : Int32 → Prop) : Prop := ((a1 < 0 → (Q (0 : Int32))) ∧ (¬ a1 < 0 → (((b0g_count S) ≤ a1 → (Q (0 : Int32))) ∧ (¬ (b0g_count S) ≤ a1 → (vp_in a1 64 ∧ (Q ((b0g_lengths S) (a1).toNatClampNeg)))))))
set_option maxRecDepth 20000 in
theorem t_X0_lengthAt {X : bf_X} (C : bf_C X RX0 cX0_lengthAt 2 (some .int)) (hR : bf_Rm X 0 0) (S : bT0) (a1 : Int32) (Q : Int32 → Prop) (h : wp_X0_lengthAt S a1 Q) : bf_A X (bf_Zi X bW0 (fun r u => u = S ∧ Q r)) 2 0 [some (.ref 0), some (.int a1)] [] (bW0 S) := by
  unfold wp_X0_lengthAt at h
  refine bs_iload_n C (bf_dk dd_X0_lengthAt 0 rfl) rfl ?_
  refine bs_if_lt C (bf_dk dd_X0_lengthAt 1 rfl) (tgt := 21) rfl (fun c => ?_) (fun c => ?_)
  · replace h := h.1 c
    refine bs_iconst C (bf_dk dd_X0_lengthAt 11 rfl) (0 : Int32) (by decide) ?_
    exact bs_iret (u := S) C (bf_dk dd_X0_lengthAt 12 rfl) rfl ⟨rfl, h⟩
  · replace h := h.2 c
    refine bs_iload_n C (bf_dk dd_X0_lengthAt 2 rfl) rfl ?_
    refine bs_aload_n C (bf_dk dd_X0_lengthAt 3 rfl) rfl ?_
    refine bs_get C (bf_dk dd_X0_lengthAt 4 rfl) cl_0 in_0 2 (Nat.le_of_ble_eq_true rfl) rfl f_0_19 rfl rfl ?_
    refine bs_icmp_ge C (bf_dk dd_X0_lengthAt 5 rfl) (tgt := 21) rfl (fun c => ?_) (fun c => ?_)
    · replace h := h.1 c
      refine bs_iconst C (bf_dk dd_X0_lengthAt 11 rfl) (0 : Int32) (by decide) ?_
      exact bs_iret (u := S) C (bf_dk dd_X0_lengthAt 12 rfl) rfl ⟨rfl, h⟩
    · replace h := h.2 c
      refine bs_aload_n C (bf_dk dd_X0_lengthAt 6 rfl) rfl ?_
      refine bs_get C (bf_dk dd_X0_lengthAt 7 rfl) cl_0 in_0 1 (Nat.le_of_ble_eq_true rfl) rfl f_0_15 rfl rfl ?_
      refine bs_iload_n C (bf_dk dd_X0_lengthAt 8 rfl) rfl ?_
      obtain ⟨hi, h⟩ := h
      refine bs_iald C (bf_dk dd_X0_lengthAt 9 rfl) rfl hi ?_
      refine bs_goto C (bf_dk dd_X0_lengthAt 10 rfl) (tgt := 22) rfl ?_
      exact bs_iret (u := S) C (bf_dk dd_X0_lengthAt 12 rfl) rfl ⟨rfl, h⟩
theorem c_X0_lengthAt (l : Launch) (dC : Nat → ClassId) (dI : Nat → Nat → Nat) (ac : Nat → ClassId) (al : Nat → Nat) (S : bT0) (a1 : Int32) (Q : Int32 → Prop) (h : wp_X0_lengthAt S a1 Q) : bf_M l yX0_lengthAt cX0_lengthAt 2 (some .int) 0 0 dC dI ac al [.ref 0, .int a1] (bW0 S) (bf_Ki dC dI ac al bW0 (fun r u => u = S ∧ Q r)) := by
  refine bf_start [some (.ref 0), some (.int a1)] (by decide) (Nat.le_of_ble_eq_true rfl) (bf_s1 (bf_s1 bf_s0)) ?_
  intro X hl C hR e1 e2 e3 e4
  subst e1; subst e2; subst e3; subst e4
  exact t_X0_lengthAt C hR S a1 Q h
def wp_X8_order (a0 : Int64) (a2 : Int32) (a3 : Int64) (a5 : Int32) (Q : Int32 → Prop) : Prop := ((¬ (lg_cmp a0 a3) = 0 → ((0 ≤ (lg_cmp (a0 ^^^ (-9223372036854775808 : Int64)) (a3 ^^^ (-9223372036854775808 : Int64))) → (Q (1 : Int32))) ∧ (¬ 0 ≤ (lg_cmp (a0 ^^^ (-9223372036854775808 : Int64)) (a3 ^^^ (-9223372036854775808 : Int64))) → (Q (-1 : Int32))))) ∧ ((lg_cmp a0 a3) = 0 → (Q (a2 - a5))))
set_option maxRecDepth 20000 in
theorem t_X8_order {X : bf_X} (C : bf_C X RX8 cX8_order 6 (some .int)) (hR : bf_Rm X 0 0) (a0 : Int64) (a2 : Int32) (a3 : Int64) (a5 : Int32) (Q : Int32 → Prop) (h : wp_X8_order a0 a2 a3 a5 Q) : bf_A X (bf_Zi X bWu (fun r u => u = () ∧ Q r)) 6 0 [some (.long a0), none, some (.int a2), some (.long a3), none, some (.int a5)] [] (bWu ()) := by
  unfold wp_X8_order at h
  refine bs_lload_n C (bf_dk dd_X8_order 0 rfl) rfl ?_
  refine bs_lload_n C (bf_dk dd_X8_order 1 rfl) rfl ?_
  refine bs_lcmp C (bf_dk dd_X8_order 2 rfl) ?_
  refine bs_if_ne C (bf_dk dd_X8_order 3 rfl) (tgt := 11) rfl (fun c => ?_) (fun c => ?_)
  · replace h := h.1 c
    refine bs_lload_n C (bf_dk dd_X8_order 8 rfl) rfl ?_
    refine bs_ldc2 C (bf_dk dd_X8_order 9 rfl) k_8_438 ?_
    refine bs_lxor C (bf_dk dd_X8_order 10 rfl) ?_
    refine bs_lload_n C (bf_dk dd_X8_order 11 rfl) rfl ?_
    refine bs_ldc2 C (bf_dk dd_X8_order 12 rfl) k_8_438 ?_
    refine bs_lxor C (bf_dk dd_X8_order 13 rfl) ?_
    refine bs_lcmp C (bf_dk dd_X8_order 14 rfl) ?_
    refine bs_if_ge C (bf_dk dd_X8_order 15 rfl) (tgt := 29) rfl (fun c => ?_) (fun c => ?_)
    · replace h := h.1 c
      refine bs_iconst C (bf_dk dd_X8_order 18 rfl) (1 : Int32) (by decide) ?_
      exact bs_iret (u := ()) C (bf_dk dd_X8_order 19 rfl) rfl ⟨rfl, h⟩
    · replace h := h.2 c
      refine bs_iconst C (bf_dk dd_X8_order 16 rfl) (-1 : Int32) (by decide) ?_
      refine bs_goto C (bf_dk dd_X8_order 17 rfl) (tgt := 30) rfl ?_
      exact bs_iret (u := ()) C (bf_dk dd_X8_order 19 rfl) rfl ⟨rfl, h⟩
  · replace h := h.2 c
    refine bs_iload_n C (bf_dk dd_X8_order 4 rfl) rfl ?_
    refine bs_iload C (bf_dk dd_X8_order 5 rfl) rfl ?_
    refine bs_isub C (bf_dk dd_X8_order 6 rfl) ?_
    exact bs_iret (u := ()) C (bf_dk dd_X8_order 7 rfl) rfl ⟨rfl, h⟩
theorem c_X8_order (l : Launch) (dC : Nat → ClassId) (dI : Nat → Nat → Nat) (ac : Nat → ClassId) (al : Nat → Nat) (a0 : Int64) (a2 : Int32) (a3 : Int64) (a5 : Int32) (Q : Int32 → Prop) (h : wp_X8_order a0 a2 a3 a5 Q) : bf_M l yX8_order cX8_order 6 (some .int) 0 0 dC dI ac al [.long a0, .int a2, .long a3, .int a5] (bWu ()) (bf_Ki dC dI ac al bWu (fun r u => u = () ∧ Q r)) := by
  refine bf_start [some (.long a0), none, some (.int a2), some (.long a3), none, some (.int a5)] (by decide) (Nat.le_of_ble_eq_true rfl) (bf_s1 (bf_sn (bf_s1 (bf_s1 (bf_sn (bf_s1 bf_s0)))))) ?_
  intro X hl C hR e1 e2 e3 e4
  subst e1; subst e2; subst e3; subst e4
  exact t_X8_order C hR a0 a2 a3 a5 Q h
def wp_X0_counted_59 (S : bT0) (x1 : Int64) (x3 : Int32) (x4 : Int32) (x5 : Int32) (x6 : Int32) (Q : Int32 → Prop) (B7 : Int64 → Int32 → Int32 → Int32 → Int32 → Prop) : Prop := (¬ (2 : Int32) = 0 ∧ (B7 (x1) (x3) (x4) (x5) ((x6 / (2 : Int32)))))
set_option maxRecDepth 20000 in
theorem t_X0_counted_59 {X : bf_X} (C : bf_C X RX0 cX0_counted 8 (some .int)) (hR : bf_Rm X 1 25) (S : bT0) (x1 : Int64) (x3 : Int32) (x4 : Int32) (x5 : Int32) (x6 : Int32) (Q : Int32 → Prop) (B7 : Int64 → Int32 → Int32 → Int32 → Int32 → Prop) (hB7 : ∀ (x1 : Int64) (x3 : Int32) (x4 : Int32) (x5 : Int32) (x6 : Int32), B7 x1 x3 x4 x5 x6 → bf_A X (bf_Zi X bW0 (fun r u => u = S ∧ Q r)) 8 7 [some (.ref 0), some (.long x1), none, some (.int x3), some (.int x4), some (.int x5), some (.int x6), none] [] (bW0 S)) (h : wp_X0_counted_59 S x1 x3 x4 x5 x6 Q B7) : bf_A X (bf_Zi X bW0 (fun r u => u = S ∧ Q r)) 8 59 [some (.ref 0), some (.long x1), none, some (.int x3), some (.int x4), some (.int x5), some (.int x6), none] [] (bW0 S) := by
  unfold wp_X0_counted_59 at h
  refine bs_iload C (bf_dk dd_X0_counted 31 rfl) rfl ?_
  refine bs_iconst C (bf_dk dd_X0_counted 32 rfl) (2 : Int32) (by decide) ?_
  obtain ⟨hi, h⟩ := h
  refine bs_idiv C (bf_dk dd_X0_counted 33 rfl) hi ?_
  refine bs_istore C (bf_dk dd_X0_counted 34 rfl) (Nat.le_of_ble_eq_true rfl) (Nat.le_of_ble_eq_true rfl) (lv2 := [some (.ref 0), some (.long x1), none, some (.int x3), some (.int x4), some (.int x5), some (.int (x6 / (2 : Int32))), none]) rfl ?_
  refine bs_goto C (bf_dk dd_X0_counted 35 rfl) (tgt := 7) rfl ?_
  exact bs_weak (bf_s1 (bf_s1 (bf_sn (bf_s1 (bf_s1 (bf_s1 (bf_s1 (bf_sn bf_s0)))))))) (hB7 (x1) (x3) (x4) (x5) ((x6 / (2 : Int32))) h)
def wp_X0_counted_7b (S : bT0) (x1 : Int64) (x3 : Int32) (x4 : Int32) (x5 : Int32) (x6 : Int32) (Q : Int32 → Prop) (B7 : Int64 → Int32 → Int32 → Int32 → Int32 → Prop) : Prop := ((x6 ≤ 0 → (Q x5)) ∧ (¬ x6 ≤ 0 → (((b0g_count S) ≤ ((x5 + x6) - (1 : Int32)) → (wp_X0_counted_59 S (x1) (x3) (x4) (x5) (x6) Q B7)) ∧ (¬ (b0g_count S) ≤ ((x5 + x6) - (1 : Int32)) → (wp_X0_bytesAt S (((x5 + x6) - (1 : Int32))) (fun r1 => (wp_X0_lengthAt S (((x5 + x6) - (1 : Int32))) (fun r3 => (wp_X8_order (r1) (r3) (x1) (x3) (fun r5 => ((x4 ≤ r5 → (wp_X0_counted_59 S (x1) (x3) (x4) (x5) (x6) Q B7)) ∧ (¬ x4 ≤ r5 → (wp_X0_counted_59 S (x1) (x3) (x4) ((x5 + x6)) (x6) Q B7)))))))))))))
set_option maxRecDepth 20000 in
theorem t_X0_counted_7b {X : bf_X} (C : bf_C X RX0 cX0_counted 8 (some .int)) (hR : bf_Rm X 1 25) (S : bT0) (x1 : Int64) (x3 : Int32) (x4 : Int32) (x5 : Int32) (x6 : Int32) (Q : Int32 → Prop) (B7 : Int64 → Int32 → Int32 → Int32 → Int32 → Prop) (hB7 : ∀ (x1 : Int64) (x3 : Int32) (x4 : Int32) (x5 : Int32) (x6 : Int32), B7 x1 x3 x4 x5 x6 → bf_A X (bf_Zi X bW0 (fun r u => u = S ∧ Q r)) 8 7 [some (.ref 0), some (.long x1), none, some (.int x3), some (.int x4), some (.int x5), some (.int x6), none] [] (bW0 S)) (h : wp_X0_counted_7b S x1 x3 x4 x5 x6 Q B7) : bf_A X (bf_Zi X bW0 (fun r u => u = S ∧ Q r)) 8 7 [some (.ref 0), some (.long x1), none, some (.int x3), some (.int x4), some (.int x5), some (.int x6), none] [] (bW0 S) := by
  unfold wp_X0_counted_7b at h
  refine bs_iload C (bf_dk dd_X0_counted 4 rfl) rfl ?_
  refine bs_if_le C (bf_dk dd_X0_counted 5 rfl) (tgt := 68) rfl (fun c => ?_) (fun c => ?_)
  · replace h := h.1 c
    refine bs_iload C (bf_dk dd_X0_counted 36 rfl) rfl ?_
    exact bs_iret (u := S) C (bf_dk dd_X0_counted 37 rfl) rfl ⟨rfl, h⟩
  · replace h := h.2 c
    refine bs_iload C (bf_dk dd_X0_counted 6 rfl) rfl ?_
    refine bs_iload C (bf_dk dd_X0_counted 7 rfl) rfl ?_
    refine bs_iadd C (bf_dk dd_X0_counted 8 rfl) ?_
    refine bs_iconst C (bf_dk dd_X0_counted 9 rfl) (1 : Int32) (by decide) ?_
    refine bs_isub C (bf_dk dd_X0_counted 10 rfl) ?_
    refine bs_istore C (bf_dk dd_X0_counted 11 rfl) (Nat.le_of_ble_eq_true rfl) (Nat.le_of_ble_eq_true rfl) (lv2 := [some (.ref 0), some (.long x1), none, some (.int x3), some (.int x4), some (.int x5), some (.int x6), some (.int ((x5 + x6) - (1 : Int32)))]) rfl ?_
    refine bs_iload C (bf_dk dd_X0_counted 12 rfl) rfl ?_
    refine bs_aload_n C (bf_dk dd_X0_counted 13 rfl) rfl ?_
    refine bs_get C (bf_dk dd_X0_counted 14 rfl) cl_0 in_0 2 (Nat.le_of_ble_eq_true rfl) rfl f_0_19 rfl rfl ?_
    refine bs_icmp_ge C (bf_dk dd_X0_counted 15 rfl) (tgt := 59) rfl (fun c => ?_) (fun c => ?_)
    · replace h := h.1 c
      exact bs_weak (bf_s1 (bf_s1 (bf_sn (bf_s1 (bf_s1 (bf_s1 (bf_s1 (bf_sn bf_s0)))))))) (t_X0_counted_59 C hR S (x1) (x3) (x4) (x5) (x6) Q B7 hB7 h)
    · replace h := h.2 c
      refine bs_aload_n C (bf_dk dd_X0_counted 16 rfl) rfl ?_
      refine bs_iload C (bf_dk dd_X0_counted 17 rfl) rfl ?_
      refine bs_selfPV_l C hR (c_X0_bytesAt _ _ _ _ _ S (((x5 + x6) - (1 : Int32))) _ h) my_X0_bytesAt m_0_27 rfl cl_0 rfl rfl (Nat.le_of_ble_eq_true rfl) (Nat.le_of_ble_eq_true rfl) (st := []) (Nat.le_of_ble_eq_true rfl) (bf_dk dd_X0_counted 18 rfl) rfl (fun r1 h => ?_)
      refine bs_aload_n C (bf_dk dd_X0_counted 19 rfl) rfl ?_
      refine bs_iload C (bf_dk dd_X0_counted 20 rfl) rfl ?_
      refine bs_selfPV_i C hR (c_X0_lengthAt _ _ _ _ _ S (((x5 + x6) - (1 : Int32))) _ h) my_X0_lengthAt m_0_31 rfl cl_0 rfl rfl (Nat.le_of_ble_eq_true rfl) (Nat.le_of_ble_eq_true rfl) (st := [.long r1]) (Nat.le_of_ble_eq_true rfl) (bf_dk dd_X0_counted 21 rfl) rfl (fun r3 h => ?_)
      refine bs_lload_n C (bf_dk dd_X0_counted 22 rfl) rfl ?_
      refine bs_iload_n C (bf_dk dd_X0_counted 23 rfl) rfl ?_
      refine bs_pureSN_i (ps := []) C hR (c_X8_order _ _ _ _ _ (r1) (r3) (x1) (x3) _ h) my_X8_order m_0_35 rfl (Nat.le_of_ble_eq_true rfl) (Nat.le_of_ble_eq_true rfl) rfl rfl (st := []) (Nat.le_of_ble_eq_true rfl) (bf_dk dd_X0_counted 24 rfl) rfl (fun _ => rfl) (fun r5 h => ?_)
      refine bs_iload C (bf_dk dd_X0_counted 25 rfl) rfl ?_
      refine bs_icmp_ge C (bf_dk dd_X0_counted 26 rfl) (tgt := 59) rfl (fun c => ?_) (fun c => ?_)
      · replace h := h.1 c
        exact bs_weak (bf_s1 (bf_s1 (bf_sn (bf_s1 (bf_s1 (bf_s1 (bf_s1 (bf_sn bf_s0)))))))) (t_X0_counted_59 C hR S (x1) (x3) (x4) (x5) (x6) Q B7 hB7 h)
      · replace h := h.2 c
        refine bs_iload C (bf_dk dd_X0_counted 27 rfl) rfl ?_
        refine bs_iload C (bf_dk dd_X0_counted 28 rfl) rfl ?_
        refine bs_iadd C (bf_dk dd_X0_counted 29 rfl) ?_
        refine bs_istore C (bf_dk dd_X0_counted 30 rfl) (Nat.le_of_ble_eq_true rfl) (Nat.le_of_ble_eq_true rfl) (lv2 := [some (.ref 0), some (.long x1), none, some (.int x3), some (.int x4), some (.int (x5 + x6)), some (.int x6), some (.int ((x5 + x6) - (1 : Int32)))]) rfl ?_
        exact bs_weak (bf_s1 (bf_s1 (bf_sn (bf_s1 (bf_s1 (bf_s1 (bf_s1 (bf_sn bf_s0)))))))) (t_X0_counted_59 C hR S (x1) (x3) (x4) ((x5 + x6)) (x6) Q B7 hB7 h)
def wp_X0_counted_7 (S : bT0) (x1 : Int64) (x3 : Int32) (x4 : Int32) (x5 : Int32) (x6 : Int32) (Q : Int32 → Prop) : Prop := ∃ I : Nat → Int64 → Int32 → Int32 → Int32 → Int32 → Prop, (∃ n : Nat, I n x1 x3 x4 x5 x6) ∧ ∀ (n : Nat) (x1 : Int64) (x3 : Int32) (x4 : Int32) (x5 : Int32) (x6 : Int32), I n x1 x3 x4 x5 x6 → wp_X0_counted_7b S x1 x3 x4 x5 x6 Q (fun x1 x3 x4 x5 x6 => ∃ n2 : Nat, n2 < n ∧ I n2 x1 x3 x4 x5 x6)
theorem t_X0_counted_7 {X : bf_X} (C : bf_C X RX0 cX0_counted 8 (some .int)) (hR : bf_Rm X 1 25) (S : bT0) (x1 : Int64) (x3 : Int32) (x4 : Int32) (x5 : Int32) (x6 : Int32) (Q : Int32 → Prop) (h : wp_X0_counted_7 S x1 x3 x4 x5 x6 Q) : bf_A X (bf_Zi X bW0 (fun r u => u = S ∧ Q r)) 8 7 [some (.ref 0), some (.long x1), none, some (.int x3), some (.int x4), some (.int x5), some (.int x6), none] [] (bW0 S) := by
  obtain ⟨I, ⟨n0, h0⟩, hI⟩ := h
  have key : ∀ (n : Nat) (x1 : Int64) (x3 : Int32) (x4 : Int32) (x5 : Int32) (x6 : Int32), I n x1 x3 x4 x5 x6 → bf_A X (bf_Zi X bW0 (fun r u => u = S ∧ Q r)) 8 7 [some (.ref 0), some (.long x1), none, some (.int x3), some (.int x4), some (.int x5), some (.int x6), none] [] (bW0 S) := by
    intro n
    induction n using Nat.strongRecOn with
    | _ n ih =>
      intro x1 x3 x4 x5 x6 hi
      exact t_X0_counted_7b C hR S x1 x3 x4 x5 x6 Q _ (fun x1 x3 x4 x5 x6 hb => by obtain ⟨n2, hn, hi2⟩ := hb; exact ih n2 hn x1 x3 x4 x5 x6 hi2) (hI n x1 x3 x4 x5 x6 hi)
  exact key n0 x1 x3 x4 x5 x6 h0
def wp_X0_counted (S : bT0) (a1 : Int64) (a3 : Int32) (a4 : Int32) (Q : Int32 → Prop) : Prop := (wp_X0_counted_7 S (a1) (a3) (a4) ((0 : Int32)) ((64 : Int32)) Q)
set_option maxRecDepth 20000 in
theorem t_X0_counted {X : bf_X} (C : bf_C X RX0 cX0_counted 8 (some .int)) (hR : bf_Rm X 1 25) (S : bT0) (a1 : Int64) (a3 : Int32) (a4 : Int32) (Q : Int32 → Prop) (h : wp_X0_counted S a1 a3 a4 Q) : bf_A X (bf_Zi X bW0 (fun r u => u = S ∧ Q r)) 8 0 [some (.ref 0), some (.long a1), none, some (.int a3), some (.int a4), none, none, none] [] (bW0 S) := by
  unfold wp_X0_counted at h
  refine bs_iconst C (bf_dk dd_X0_counted 0 rfl) (0 : Int32) (by decide) ?_
  refine bs_istore C (bf_dk dd_X0_counted 1 rfl) (Nat.le_of_ble_eq_true rfl) (Nat.le_of_ble_eq_true rfl) (lv2 := [some (.ref 0), some (.long a1), none, some (.int a3), some (.int a4), some (.int (0 : Int32)), none, none]) rfl ?_
  refine bs_bipush C (bf_dk dd_X0_counted 2 rfl) (64 : Int32) (by decide) ?_
  refine bs_istore C (bf_dk dd_X0_counted 3 rfl) (Nat.le_of_ble_eq_true rfl) (Nat.le_of_ble_eq_true rfl) (lv2 := [some (.ref 0), some (.long a1), none, some (.int a3), some (.int a4), some (.int (0 : Int32)), some (.int (64 : Int32)), none]) rfl ?_
  exact bs_weak (bf_s1 (bf_s1 (bf_sn (bf_s1 (bf_s1 (bf_s1 (bf_s1 (bf_sn bf_s0)))))))) (t_X0_counted_7 C hR S (a1) (a3) (a4) ((0 : Int32)) ((64 : Int32)) Q h)
theorem c_X0_counted (l : Launch) (dC : Nat → ClassId) (dI : Nat → Nat → Nat) (ac : Nat → ClassId) (al : Nat → Nat) (S : bT0) (a1 : Int64) (a3 : Int32) (a4 : Int32) (Q : Int32 → Prop) (h : wp_X0_counted S a1 a3 a4 Q) : bf_M l yX0_counted cX0_counted 8 (some .int) 1 25 dC dI ac al [.ref 0, .long a1, .int a3, .int a4] (bW0 S) (bf_Ki dC dI ac al bW0 (fun r u => u = S ∧ Q r)) := by
  refine bf_start [some (.ref 0), some (.long a1), none, some (.int a3), some (.int a4), none, none, none] (by decide) (Nat.le_of_ble_eq_true rfl) (bf_s1 (bf_s1 (bf_sn (bf_s1 (bf_s1 (bf_en 3)))))) ?_
  intro X hl C hR e1 e2 e3 e4
  subst e1; subst e2; subst e3; subst e4
  exact t_X0_counted C hR S a1 a3 a4 Q h
def wp_X0_ahead (S : bT0) (a1 : Int64) (a3 : Int32) (Q : Int32 → Prop) : Prop := (wp_X0_counted S (a1) (a3) ((0 : Int32)) (fun r1 => (Q r1)))
set_option maxRecDepth 20000 in
theorem t_X0_ahead {X : bf_X} (C : bf_C X RX0 cX0_ahead 4 (some .int)) (hR : bf_Rm X 2 52) (S : bT0) (a1 : Int64) (a3 : Int32) (Q : Int32 → Prop) (h : wp_X0_ahead S a1 a3 Q) : bf_A X (bf_Zi X bW0 (fun r u => u = S ∧ Q r)) 4 0 [some (.ref 0), some (.long a1), none, some (.int a3)] [] (bW0 S) := by
  unfold wp_X0_ahead at h
  refine bs_aload_n C (bf_dk dd_X0_ahead 0 rfl) rfl ?_
  refine bs_lload_n C (bf_dk dd_X0_ahead 1 rfl) rfl ?_
  refine bs_iload_n C (bf_dk dd_X0_ahead 2 rfl) rfl ?_
  refine bs_iconst C (bf_dk dd_X0_ahead 3 rfl) (0 : Int32) (by decide) ?_
  refine bs_selfPV_i C hR (c_X0_counted _ _ _ _ _ S (a1) (a3) ((0 : Int32)) _ h) my_X0_counted m_0_23 rfl cl_0 rfl rfl (Nat.le_of_ble_eq_true rfl) (Nat.le_of_ble_eq_true rfl) (st := []) (Nat.le_of_ble_eq_true rfl) (bf_dk dd_X0_ahead 4 rfl) rfl (fun r1 h => ?_)
  exact bs_iret (u := S) C (bf_dk dd_X0_ahead 5 rfl) rfl ⟨rfl, h⟩
theorem c_X0_ahead (l : Launch) (dC : Nat → ClassId) (dI : Nat → Nat → Nat) (ac : Nat → ClassId) (al : Nat → Nat) (S : bT0) (a1 : Int64) (a3 : Int32) (Q : Int32 → Prop) (h : wp_X0_ahead S a1 a3 Q) : bf_M l yX0_ahead cX0_ahead 4 (some .int) 2 52 dC dI ac al [.ref 0, .long a1, .int a3] (bW0 S) (bf_Ki dC dI ac al bW0 (fun r u => u = S ∧ Q r)) := by
  refine bf_start [some (.ref 0), some (.long a1), none, some (.int a3)] (by decide) (Nat.le_of_ble_eq_true rfl) (bf_s1 (bf_s1 (bf_sn (bf_s1 bf_s0)))) ?_
  intro X hl C hR e1 e2 e3 e4
  subst e1; subst e2; subst e3; subst e4
  exact t_X0_ahead C hR S a1 a3 Q h
def wp_X0_insert_46b (S : bT0) (x1 : Int64) (x3 : Int32) (x4 : Int32) (x5 : Int32) (Q : Int32 → (bT0) → Prop) (B46 : Int64 → Int32 → Int32 → Int32 → (bT0) → Prop) : Prop := ((x5 ≤ x4 → (vp_in x4 64 ∧ (vp_in x4 64 ∧ (Q x4 (b0s_count (b0s_lengths (b0s_bytes S (vp_updL (b0g_bytes S) (x4).toNatClampNeg x1)) (upd (b0g_lengths S) (x4).toNatClampNeg x3)) ((b0g_count S) + (1 : Int32))))))) ∧ (¬ x5 ≤ x4 → (vp_in (x5 - (1 : Int32)) 64 ∧ (vp_in x5 64 ∧ (vp_in (x5 - (1 : Int32)) 64 ∧ (vp_in x5 64 ∧ (B46 (x1) (x3) (x4) ((x5 + (-1 : Int32))) (b0s_lengths (b0s_bytes S (vp_updL (b0g_bytes S) (x5).toNatClampNeg ((b0g_bytes S) ((x5 - (1 : Int32))).toNatClampNeg))) (upd (b0g_lengths S) (x5).toNatClampNeg ((b0g_lengths S) ((x5 - (1 : Int32))).toNatClampNeg))))))))))
set_option maxRecDepth 20000 in
theorem t_X0_insert_46b {X : bf_X} (C : bf_C X RX0 cX0_insert 6 (some .int)) (hR : bf_Rm X 3 75) (S : bT0) (x1 : Int64) (x3 : Int32) (x4 : Int32) (x5 : Int32) (Q : Int32 → (bT0) → Prop) (B46 : Int64 → Int32 → Int32 → Int32 → (bT0) → Prop) (hB46 : ∀ (x1 : Int64) (x3 : Int32) (x4 : Int32) (x5 : Int32) (S : bT0), B46 x1 x3 x4 x5 S → bf_A X (bf_Zi X bW0 Q) 6 46 [some (.ref 0), some (.long x1), none, some (.int x3), some (.int x4), some (.int x5)] [] (bW0 S)) (h : wp_X0_insert_46b S x1 x3 x4 x5 Q B46) : bf_A X (bf_Zi X bW0 Q) 6 46 [some (.ref 0), some (.long x1), none, some (.int x3), some (.int x4), some (.int x5)] [] (bW0 S) := by
  unfold wp_X0_insert_46b at h
  refine bs_iload C (bf_dk dd_X0_insert 25 rfl) rfl ?_
  refine bs_iload C (bf_dk dd_X0_insert 26 rfl) rfl ?_
  refine bs_icmp_le C (bf_dk dd_X0_insert 27 rfl) (tgt := 91) rfl (fun c => ?_) (fun c => ?_)
  · replace h := h.1 c
    refine bs_aload_n C (bf_dk dd_X0_insert 50 rfl) rfl ?_
    refine bs_get C (bf_dk dd_X0_insert 51 rfl) cl_0 in_0 0 (Nat.le_of_ble_eq_true rfl) rfl f_0_9 rfl rfl ?_
    refine bs_iload C (bf_dk dd_X0_insert 52 rfl) rfl ?_
    refine bs_lload_n C (bf_dk dd_X0_insert 53 rfl) rfl ?_
    obtain ⟨hi, h⟩ := h
    refine bs_last C (bf_dk dd_X0_insert 54 rfl) rfl hi (w2 := (bW0 (b0s_bytes S (vp_updL (b0g_bytes S) (x4).toNatClampNeg x1)))) rfl ?_
    refine bs_aload_n C (bf_dk dd_X0_insert 55 rfl) rfl ?_
    refine bs_get C (bf_dk dd_X0_insert 56 rfl) cl_0 in_0 1 (Nat.le_of_ble_eq_true rfl) rfl f_0_15 rfl rfl ?_
    refine bs_iload C (bf_dk dd_X0_insert 57 rfl) rfl ?_
    refine bs_iload_n C (bf_dk dd_X0_insert 58 rfl) rfl ?_
    obtain ⟨hi, h⟩ := h
    refine bs_iast C (bf_dk dd_X0_insert 59 rfl) rfl hi (w2 := (bW0 (b0s_lengths (b0s_bytes S (vp_updL (b0g_bytes S) (x4).toNatClampNeg x1)) (upd (b0g_lengths S) (x4).toNatClampNeg x3)))) rfl ?_
    refine bs_aload_n C (bf_dk dd_X0_insert 60 rfl) rfl ?_
    refine bs_dup C (bf_dk dd_X0_insert 61 rfl) rfl ?_
    refine bs_get C (bf_dk dd_X0_insert 62 rfl) cl_0 in_0 2 (Nat.le_of_ble_eq_true rfl) rfl f_0_19 rfl rfl ?_
    refine bs_iconst C (bf_dk dd_X0_insert 63 rfl) (1 : Int32) (by decide) ?_
    refine bs_iadd C (bf_dk dd_X0_insert 64 rfl) ?_
    refine bs_put C (bf_dk dd_X0_insert 65 rfl) tyX0_ok nmX0 cl_0 in_0 2 (Nat.le_of_ble_eq_true rfl) rfl f_0_19 rfl rfl (Nat.le_of_ble_eq_true rfl) rfl rfl (w2 := (bW0 (b0s_count (b0s_lengths (b0s_bytes S (vp_updL (b0g_bytes S) (x4).toNatClampNeg x1)) (upd (b0g_lengths S) (x4).toNatClampNeg x3)) ((b0g_count S) + (1 : Int32))))) rfl ?_
    refine bs_iload C (bf_dk dd_X0_insert 66 rfl) rfl ?_
    exact bs_iret (u := (b0s_count (b0s_lengths (b0s_bytes S (vp_updL (b0g_bytes S) (x4).toNatClampNeg x1)) (upd (b0g_lengths S) (x4).toNatClampNeg x3)) ((b0g_count S) + (1 : Int32)))) C (bf_dk dd_X0_insert 67 rfl) rfl h
  · replace h := h.2 c
    refine bs_aload_n C (bf_dk dd_X0_insert 28 rfl) rfl ?_
    refine bs_get C (bf_dk dd_X0_insert 29 rfl) cl_0 in_0 0 (Nat.le_of_ble_eq_true rfl) rfl f_0_9 rfl rfl ?_
    refine bs_iload C (bf_dk dd_X0_insert 30 rfl) rfl ?_
    refine bs_aload_n C (bf_dk dd_X0_insert 31 rfl) rfl ?_
    refine bs_get C (bf_dk dd_X0_insert 32 rfl) cl_0 in_0 0 (Nat.le_of_ble_eq_true rfl) rfl f_0_9 rfl rfl ?_
    refine bs_iload C (bf_dk dd_X0_insert 33 rfl) rfl ?_
    refine bs_iconst C (bf_dk dd_X0_insert 34 rfl) (1 : Int32) (by decide) ?_
    refine bs_isub C (bf_dk dd_X0_insert 35 rfl) ?_
    obtain ⟨hi, h⟩ := h
    refine bs_lald C (bf_dk dd_X0_insert 36 rfl) rfl hi ?_
    obtain ⟨hi, h⟩ := h
    refine bs_last C (bf_dk dd_X0_insert 37 rfl) rfl hi (w2 := (bW0 (b0s_bytes S (vp_updL (b0g_bytes S) (x5).toNatClampNeg ((b0g_bytes S) ((x5 - (1 : Int32))).toNatClampNeg))))) rfl ?_
    refine bs_aload_n C (bf_dk dd_X0_insert 38 rfl) rfl ?_
    refine bs_get C (bf_dk dd_X0_insert 39 rfl) cl_0 in_0 1 (Nat.le_of_ble_eq_true rfl) rfl f_0_15 rfl rfl ?_
    refine bs_iload C (bf_dk dd_X0_insert 40 rfl) rfl ?_
    refine bs_aload_n C (bf_dk dd_X0_insert 41 rfl) rfl ?_
    refine bs_get C (bf_dk dd_X0_insert 42 rfl) cl_0 in_0 1 (Nat.le_of_ble_eq_true rfl) rfl f_0_15 rfl rfl ?_
    refine bs_iload C (bf_dk dd_X0_insert 43 rfl) rfl ?_
    refine bs_iconst C (bf_dk dd_X0_insert 44 rfl) (1 : Int32) (by decide) ?_
    refine bs_isub C (bf_dk dd_X0_insert 45 rfl) ?_
    obtain ⟨hi, h⟩ := h
    refine bs_iald C (bf_dk dd_X0_insert 46 rfl) rfl hi ?_
    obtain ⟨hi, h⟩ := h
    refine bs_iast C (bf_dk dd_X0_insert 47 rfl) rfl hi (w2 := (bW0 (b0s_lengths (b0s_bytes S (vp_updL (b0g_bytes S) (x5).toNatClampNeg ((b0g_bytes S) ((x5 - (1 : Int32))).toNatClampNeg))) (upd (b0g_lengths S) (x5).toNatClampNeg ((b0g_lengths S) ((x5 - (1 : Int32))).toNatClampNeg))))) rfl ?_
    refine bs_iinc C (bf_dk dd_X0_insert 48 rfl) (x5 + (-1 : Int32)) rfl rfl (Nat.le_of_ble_eq_true rfl) (Nat.le_of_ble_eq_true rfl) (lv2 := [some (.ref 0), some (.long x1), none, some (.int x3), some (.int x4), some (.int (x5 + (-1 : Int32)))]) rfl ?_
    refine bs_goto C (bf_dk dd_X0_insert 49 rfl) (tgt := 46) rfl ?_
    exact bs_weak (bf_s1 (bf_s1 (bf_sn (bf_s1 (bf_s1 (bf_s1 bf_s0)))))) (hB46 (x1) (x3) (x4) ((x5 + (-1 : Int32))) (b0s_lengths (b0s_bytes S (vp_updL (b0g_bytes S) (x5).toNatClampNeg ((b0g_bytes S) ((x5 - (1 : Int32))).toNatClampNeg))) (upd (b0g_lengths S) (x5).toNatClampNeg ((b0g_lengths S) ((x5 - (1 : Int32))).toNatClampNeg))) h)
def wp_X0_insert_46 (S : bT0) (x1 : Int64) (x3 : Int32) (x4 : Int32) (x5 : Int32) (Q : Int32 → (bT0) → Prop) : Prop := ∃ I : Nat → Int64 → Int32 → Int32 → Int32 → (bT0) → Prop, (∃ n : Nat, I n x1 x3 x4 x5 S) ∧ ∀ (n : Nat) (x1 : Int64) (x3 : Int32) (x4 : Int32) (x5 : Int32) (S : bT0), I n x1 x3 x4 x5 S → wp_X0_insert_46b S x1 x3 x4 x5 Q (fun x1 x3 x4 x5 S => ∃ n2 : Nat, n2 < n ∧ I n2 x1 x3 x4 x5 S)
theorem t_X0_insert_46 {X : bf_X} (C : bf_C X RX0 cX0_insert 6 (some .int)) (hR : bf_Rm X 3 75) (S : bT0) (x1 : Int64) (x3 : Int32) (x4 : Int32) (x5 : Int32) (Q : Int32 → (bT0) → Prop) (h : wp_X0_insert_46 S x1 x3 x4 x5 Q) : bf_A X (bf_Zi X bW0 Q) 6 46 [some (.ref 0), some (.long x1), none, some (.int x3), some (.int x4), some (.int x5)] [] (bW0 S) := by
  obtain ⟨I, ⟨n0, h0⟩, hI⟩ := h
  have key : ∀ (n : Nat) (x1 : Int64) (x3 : Int32) (x4 : Int32) (x5 : Int32) (S : bT0), I n x1 x3 x4 x5 S → bf_A X (bf_Zi X bW0 Q) 6 46 [some (.ref 0), some (.long x1), none, some (.int x3), some (.int x4), some (.int x5)] [] (bW0 S) := by
    intro n
    induction n using Nat.strongRecOn with
    | _ n ih =>
      intro x1 x3 x4 x5 S hi
      exact t_X0_insert_46b C hR S x1 x3 x4 x5 Q _ (fun x1 x3 x4 x5 S hb => by obtain ⟨n2, hn, hi2⟩ := hb; exact ih n2 hn x1 x3 x4 x5 S hi2) (hI n x1 x3 x4 x5 S hi)
  exact key n0 x1 x3 x4 x5 S h0
def wp_X0_insert_40 (S : bT0) (x1 : Int64) (x3 : Int32) (x4 : Int32) (Q : Int32 → (bT0) → Prop) : Prop := (wp_X0_insert_46 S (x1) (x3) (x4) ((b0g_count S)) Q)
set_option maxRecDepth 20000 in
theorem t_X0_insert_40 {X : bf_X} (C : bf_C X RX0 cX0_insert 6 (some .int)) (hR : bf_Rm X 3 75) (S : bT0) (x1 : Int64) (x3 : Int32) (x4 : Int32) (Q : Int32 → (bT0) → Prop) (h : wp_X0_insert_40 S x1 x3 x4 Q) : bf_A X (bf_Zi X bW0 Q) 6 40 [some (.ref 0), some (.long x1), none, some (.int x3), some (.int x4), none] [] (bW0 S) := by
  unfold wp_X0_insert_40 at h
  refine bs_aload_n C (bf_dk dd_X0_insert 22 rfl) rfl ?_
  refine bs_get C (bf_dk dd_X0_insert 23 rfl) cl_0 in_0 2 (Nat.le_of_ble_eq_true rfl) rfl f_0_19 rfl rfl ?_
  refine bs_istore C (bf_dk dd_X0_insert 24 rfl) (Nat.le_of_ble_eq_true rfl) (Nat.le_of_ble_eq_true rfl) (lv2 := [some (.ref 0), some (.long x1), none, some (.int x3), some (.int x4), some (.int (b0g_count S))]) rfl ?_
  exact bs_weak (bf_s1 (bf_s1 (bf_sn (bf_s1 (bf_s1 (bf_s1 bf_s0)))))) (t_X0_insert_46 C hR S (x1) (x3) (x4) ((b0g_count S)) Q h)
def wp_X0_insert (S : bT0) (a1 : Int64) (a3 : Int32) (Q : Int32 → (bT0) → Prop) : Prop := (wp_X0_ahead S (a1) (a3) (fun r1 => (((64 : Int32) ≤ (b0g_count S) → (Q (-1 : Int32) S)) ∧ (¬ (64 : Int32) ≤ (b0g_count S) → (wp_X0_bytesAt S (r1) (fun r3 => ((¬ (lg_cmp r3 a1) = 0 → (wp_X0_insert_40 S (a1) (a3) (r1) Q)) ∧ ((lg_cmp r3 a1) = 0 → (wp_X0_lengthAt S (r1) (fun r5 => ((¬ r5 = a3 → (wp_X0_insert_40 S (a1) (a3) (r1) Q)) ∧ (r5 = a3 → (Q (-1 : Int32) S)))))))))))))
set_option maxRecDepth 20000 in
theorem t_X0_insert {X : bf_X} (C : bf_C X RX0 cX0_insert 6 (some .int)) (hR : bf_Rm X 3 75) (S : bT0) (a1 : Int64) (a3 : Int32) (Q : Int32 → (bT0) → Prop) (h : wp_X0_insert S a1 a3 Q) : bf_A X (bf_Zi X bW0 Q) 6 0 [some (.ref 0), some (.long a1), none, some (.int a3), none, none] [] (bW0 S) := by
  unfold wp_X0_insert at h
  refine bs_aload_n C (bf_dk dd_X0_insert 0 rfl) rfl ?_
  refine bs_lload_n C (bf_dk dd_X0_insert 1 rfl) rfl ?_
  refine bs_iload_n C (bf_dk dd_X0_insert 2 rfl) rfl ?_
  refine bs_selfPV_i C hR (c_X0_ahead _ _ _ _ _ S (a1) (a3) _ h) my_X0_ahead m_0_39 rfl cl_0 rfl rfl (Nat.le_of_ble_eq_true rfl) (Nat.le_of_ble_eq_true rfl) (st := []) (Nat.le_of_ble_eq_true rfl) (bf_dk dd_X0_insert 3 rfl) rfl (fun r1 h => ?_)
  refine bs_istore C (bf_dk dd_X0_insert 4 rfl) (Nat.le_of_ble_eq_true rfl) (Nat.le_of_ble_eq_true rfl) (lv2 := [some (.ref 0), some (.long a1), none, some (.int a3), some (.int r1), none]) rfl ?_
  refine bs_aload_n C (bf_dk dd_X0_insert 5 rfl) rfl ?_
  refine bs_get C (bf_dk dd_X0_insert 6 rfl) cl_0 in_0 2 (Nat.le_of_ble_eq_true rfl) rfl f_0_19 rfl rfl ?_
  refine bs_bipush C (bf_dk dd_X0_insert 7 rfl) (64 : Int32) (by decide) ?_
  refine bs_icmp_ge C (bf_dk dd_X0_insert 8 rfl) (tgt := 38) rfl (fun c => ?_) (fun c => ?_)
  · replace h := h.1 c
    refine bs_iconst C (bf_dk dd_X0_insert 20 rfl) (-1 : Int32) (by decide) ?_
    exact bs_iret (u := S) C (bf_dk dd_X0_insert 21 rfl) rfl h
  · replace h := h.2 c
    refine bs_aload_n C (bf_dk dd_X0_insert 9 rfl) rfl ?_
    refine bs_iload C (bf_dk dd_X0_insert 10 rfl) rfl ?_
    refine bs_selfPV_l C hR (c_X0_bytesAt _ _ _ _ _ S (r1) _ h) my_X0_bytesAt m_0_27 rfl cl_0 rfl rfl (Nat.le_of_ble_eq_true rfl) (Nat.le_of_ble_eq_true rfl) (st := []) (Nat.le_of_ble_eq_true rfl) (bf_dk dd_X0_insert 11 rfl) rfl (fun r3 h => ?_)
    refine bs_lload_n C (bf_dk dd_X0_insert 12 rfl) rfl ?_
    refine bs_lcmp C (bf_dk dd_X0_insert 13 rfl) ?_
    refine bs_if_ne C (bf_dk dd_X0_insert 14 rfl) (tgt := 40) rfl (fun c => ?_) (fun c => ?_)
    · replace h := h.1 c
      exact bs_weak (bf_s1 (bf_s1 (bf_sn (bf_s1 (bf_s1 (bf_sn bf_s0)))))) (t_X0_insert_40 C hR S (a1) (a3) (r1) Q h)
    · replace h := h.2 c
      refine bs_aload_n C (bf_dk dd_X0_insert 15 rfl) rfl ?_
      refine bs_iload C (bf_dk dd_X0_insert 16 rfl) rfl ?_
      refine bs_selfPV_i C hR (c_X0_lengthAt _ _ _ _ _ S (r1) _ h) my_X0_lengthAt m_0_31 rfl cl_0 rfl rfl (Nat.le_of_ble_eq_true rfl) (Nat.le_of_ble_eq_true rfl) (st := []) (Nat.le_of_ble_eq_true rfl) (bf_dk dd_X0_insert 17 rfl) rfl (fun r5 h => ?_)
      refine bs_iload_n C (bf_dk dd_X0_insert 18 rfl) rfl ?_
      refine bs_icmp_ne C (bf_dk dd_X0_insert 19 rfl) (tgt := 40) rfl (fun c => ?_) (fun c => ?_)
      · replace h := h.1 c
        exact bs_weak (bf_s1 (bf_s1 (bf_sn (bf_s1 (bf_s1 (bf_sn bf_s0)))))) (t_X0_insert_40 C hR S (a1) (a3) (r1) Q h)
      · replace h := h.2 c
        refine bs_iconst C (bf_dk dd_X0_insert 20 rfl) (-1 : Int32) (by decide) ?_
        exact bs_iret (u := S) C (bf_dk dd_X0_insert 21 rfl) rfl h
theorem c_X0_insert (l : Launch) (dC : Nat → ClassId) (dI : Nat → Nat → Nat) (ac : Nat → ClassId) (al : Nat → Nat) (S : bT0) (a1 : Int64) (a3 : Int32) (Q : Int32 → (bT0) → Prop) (h : wp_X0_insert S a1 a3 Q) : bf_M l yX0_insert cX0_insert 6 (some .int) 3 75 dC dI ac al [.ref 0, .long a1, .int a3] (bW0 S) (bf_Ki dC dI ac al bW0 Q) := by
  refine bf_start [some (.ref 0), some (.long a1), none, some (.int a3), none, none] (by decide) (Nat.le_of_ble_eq_true rfl) (bf_s1 (bf_s1 (bf_sn (bf_s1 (bf_en 2))))) ?_
  intro X hl C hR e1 e2 e3 e4
  subst e1; subst e2; subst e3; subst e4
  exact t_X0_insert C hR S a1 a3 Q h
def wp_X0_drop_16b (S : bT0) (x2 : Int32) (Q : (bT0) → Prop) (B16 : Int32 → (bT0) → Prop) : Prop := (((b0g_count S) ≤ x2 → (Q (b0s_count S ((b0g_count S) - (1 : Int32))))) ∧ (¬ (b0g_count S) ≤ x2 → (vp_in x2 64 ∧ (vp_in (x2 - (1 : Int32)) 64 ∧ (vp_in x2 64 ∧ (vp_in (x2 - (1 : Int32)) 64 ∧ (B16 ((x2 + (1 : Int32))) (b0s_lengths (b0s_bytes S (vp_updL (b0g_bytes S) ((x2 - (1 : Int32))).toNatClampNeg ((b0g_bytes S) (x2).toNatClampNeg))) (upd (b0g_lengths S) ((x2 - (1 : Int32))).toNatClampNeg ((b0g_lengths S) (x2).toNatClampNeg))))))))))
set_option maxRecDepth 20000 in
theorem t_X0_drop_16b {X : bf_X} (C : bf_C X RX0 cX0_drop 3 none) (hR : bf_Rm X 0 0) (S : bT0) (x2 : Int32) (Q : (bT0) → Prop) (B16 : Int32 → (bT0) → Prop) (hB16 : ∀ (x2 : Int32) (S : bT0), B16 x2 S → bf_A X (bf_Zv X bW0 Q) 3 16 [some (.ref 0), none, some (.int x2)] [] (bW0 S)) (h : wp_X0_drop_16b S x2 Q B16) : bf_A X (bf_Zv X bW0 Q) 3 16 [some (.ref 0), none, some (.int x2)] [] (bW0 S) := by
  unfold wp_X0_drop_16b at h
  refine bs_iload_n C (bf_dk dd_X0_drop 10 rfl) rfl ?_
  refine bs_aload_n C (bf_dk dd_X0_drop 11 rfl) rfl ?_
  refine bs_get C (bf_dk dd_X0_drop 12 rfl) cl_0 in_0 2 (Nat.le_of_ble_eq_true rfl) rfl f_0_19 rfl rfl ?_
  refine bs_icmp_ge C (bf_dk dd_X0_drop 13 rfl) (tgt := 58) rfl (fun c => ?_) (fun c => ?_)
  · replace h := h.1 c
    refine bs_aload_n C (bf_dk dd_X0_drop 36 rfl) rfl ?_
    refine bs_dup C (bf_dk dd_X0_drop 37 rfl) rfl ?_
    refine bs_get C (bf_dk dd_X0_drop 38 rfl) cl_0 in_0 2 (Nat.le_of_ble_eq_true rfl) rfl f_0_19 rfl rfl ?_
    refine bs_iconst C (bf_dk dd_X0_drop 39 rfl) (1 : Int32) (by decide) ?_
    refine bs_isub C (bf_dk dd_X0_drop 40 rfl) ?_
    refine bs_put C (bf_dk dd_X0_drop 41 rfl) tyX0_ok nmX0 cl_0 in_0 2 (Nat.le_of_ble_eq_true rfl) rfl f_0_19 rfl rfl (Nat.le_of_ble_eq_true rfl) rfl rfl (w2 := (bW0 (b0s_count S ((b0g_count S) - (1 : Int32))))) rfl ?_
    exact bs_vret (u := (b0s_count S ((b0g_count S) - (1 : Int32)))) C (bf_dk dd_X0_drop 42 rfl) rfl h
  · replace h := h.2 c
    refine bs_aload_n C (bf_dk dd_X0_drop 14 rfl) rfl ?_
    refine bs_get C (bf_dk dd_X0_drop 15 rfl) cl_0 in_0 0 (Nat.le_of_ble_eq_true rfl) rfl f_0_9 rfl rfl ?_
    refine bs_iload_n C (bf_dk dd_X0_drop 16 rfl) rfl ?_
    refine bs_iconst C (bf_dk dd_X0_drop 17 rfl) (1 : Int32) (by decide) ?_
    refine bs_isub C (bf_dk dd_X0_drop 18 rfl) ?_
    refine bs_aload_n C (bf_dk dd_X0_drop 19 rfl) rfl ?_
    refine bs_get C (bf_dk dd_X0_drop 20 rfl) cl_0 in_0 0 (Nat.le_of_ble_eq_true rfl) rfl f_0_9 rfl rfl ?_
    refine bs_iload_n C (bf_dk dd_X0_drop 21 rfl) rfl ?_
    obtain ⟨hi, h⟩ := h
    refine bs_lald C (bf_dk dd_X0_drop 22 rfl) rfl hi ?_
    obtain ⟨hi, h⟩ := h
    refine bs_last C (bf_dk dd_X0_drop 23 rfl) rfl hi (w2 := (bW0 (b0s_bytes S (vp_updL (b0g_bytes S) ((x2 - (1 : Int32))).toNatClampNeg ((b0g_bytes S) (x2).toNatClampNeg))))) rfl ?_
    refine bs_aload_n C (bf_dk dd_X0_drop 24 rfl) rfl ?_
    refine bs_get C (bf_dk dd_X0_drop 25 rfl) cl_0 in_0 1 (Nat.le_of_ble_eq_true rfl) rfl f_0_15 rfl rfl ?_
    refine bs_iload_n C (bf_dk dd_X0_drop 26 rfl) rfl ?_
    refine bs_iconst C (bf_dk dd_X0_drop 27 rfl) (1 : Int32) (by decide) ?_
    refine bs_isub C (bf_dk dd_X0_drop 28 rfl) ?_
    refine bs_aload_n C (bf_dk dd_X0_drop 29 rfl) rfl ?_
    refine bs_get C (bf_dk dd_X0_drop 30 rfl) cl_0 in_0 1 (Nat.le_of_ble_eq_true rfl) rfl f_0_15 rfl rfl ?_
    refine bs_iload_n C (bf_dk dd_X0_drop 31 rfl) rfl ?_
    obtain ⟨hi, h⟩ := h
    refine bs_iald C (bf_dk dd_X0_drop 32 rfl) rfl hi ?_
    obtain ⟨hi, h⟩ := h
    refine bs_iast C (bf_dk dd_X0_drop 33 rfl) rfl hi (w2 := (bW0 (b0s_lengths (b0s_bytes S (vp_updL (b0g_bytes S) ((x2 - (1 : Int32))).toNatClampNeg ((b0g_bytes S) (x2).toNatClampNeg))) (upd (b0g_lengths S) ((x2 - (1 : Int32))).toNatClampNeg ((b0g_lengths S) (x2).toNatClampNeg))))) rfl ?_
    refine bs_iinc C (bf_dk dd_X0_drop 34 rfl) (x2 + (1 : Int32)) rfl rfl (Nat.le_of_ble_eq_true rfl) (Nat.le_of_ble_eq_true rfl) (lv2 := [some (.ref 0), none, some (.int (x2 + (1 : Int32)))]) rfl ?_
    refine bs_goto C (bf_dk dd_X0_drop 35 rfl) (tgt := 16) rfl ?_
    exact bs_weak (bf_s1 (bf_sn (bf_s1 bf_s0))) (hB16 ((x2 + (1 : Int32))) (b0s_lengths (b0s_bytes S (vp_updL (b0g_bytes S) ((x2 - (1 : Int32))).toNatClampNeg ((b0g_bytes S) (x2).toNatClampNeg))) (upd (b0g_lengths S) ((x2 - (1 : Int32))).toNatClampNeg ((b0g_lengths S) (x2).toNatClampNeg))) h)
def wp_X0_drop_16 (S : bT0) (x2 : Int32) (Q : (bT0) → Prop) : Prop := ∃ I : Nat → Int32 → (bT0) → Prop, (∃ n : Nat, I n x2 S) ∧ ∀ (n : Nat) (x2 : Int32) (S : bT0), I n x2 S → wp_X0_drop_16b S x2 Q (fun x2 S => ∃ n2 : Nat, n2 < n ∧ I n2 x2 S)
theorem t_X0_drop_16 {X : bf_X} (C : bf_C X RX0 cX0_drop 3 none) (hR : bf_Rm X 0 0) (S : bT0) (x2 : Int32) (Q : (bT0) → Prop) (h : wp_X0_drop_16 S x2 Q) : bf_A X (bf_Zv X bW0 Q) 3 16 [some (.ref 0), none, some (.int x2)] [] (bW0 S) := by
  obtain ⟨I, ⟨n0, h0⟩, hI⟩ := h
  have key : ∀ (n : Nat) (x2 : Int32) (S : bT0), I n x2 S → bf_A X (bf_Zv X bW0 Q) 3 16 [some (.ref 0), none, some (.int x2)] [] (bW0 S) := by
    intro n
    induction n using Nat.strongRecOn with
    | _ n ih =>
      intro x2 S hi
      exact t_X0_drop_16b C hR S x2 Q _ (fun x2 S hb => by obtain ⟨n2, hn, hi2⟩ := hb; exact ih n2 hn x2 S hi2) (hI n x2 S hi)
  exact key n0 x2 S h0
def wp_X0_drop (S : bT0) (a1 : Int32) (Q : (bT0) → Prop) : Prop := ((a1 < 0 → (Q S)) ∧ (¬ a1 < 0 → (((b0g_count S) ≤ a1 → (Q S)) ∧ (¬ (b0g_count S) ≤ a1 → (wp_X0_drop_16 S ((a1 + (1 : Int32))) Q)))))
set_option maxRecDepth 20000 in
theorem t_X0_drop {X : bf_X} (C : bf_C X RX0 cX0_drop 3 none) (hR : bf_Rm X 0 0) (S : bT0) (a1 : Int32) (Q : (bT0) → Prop) (h : wp_X0_drop S a1 Q) : bf_A X (bf_Zv X bW0 Q) 3 0 [some (.ref 0), some (.int a1), none] [] (bW0 S) := by
  unfold wp_X0_drop at h
  refine bs_iload_n C (bf_dk dd_X0_drop 0 rfl) rfl ?_
  refine bs_if_lt C (bf_dk dd_X0_drop 1 rfl) (tgt := 68) rfl (fun c => ?_) (fun c => ?_)
  · replace h := h.1 c
    exact bs_vret (u := S) C (bf_dk dd_X0_drop 42 rfl) rfl h
  · replace h := h.2 c
    refine bs_iload_n C (bf_dk dd_X0_drop 2 rfl) rfl ?_
    refine bs_aload_n C (bf_dk dd_X0_drop 3 rfl) rfl ?_
    refine bs_get C (bf_dk dd_X0_drop 4 rfl) cl_0 in_0 2 (Nat.le_of_ble_eq_true rfl) rfl f_0_19 rfl rfl ?_
    refine bs_icmp_ge C (bf_dk dd_X0_drop 5 rfl) (tgt := 68) rfl (fun c => ?_) (fun c => ?_)
    · replace h := h.1 c
      exact bs_vret (u := S) C (bf_dk dd_X0_drop 42 rfl) rfl h
    · replace h := h.2 c
      refine bs_iload_n C (bf_dk dd_X0_drop 6 rfl) rfl ?_
      refine bs_iconst C (bf_dk dd_X0_drop 7 rfl) (1 : Int32) (by decide) ?_
      refine bs_iadd C (bf_dk dd_X0_drop 8 rfl) ?_
      refine bs_istore_n C (bf_dk dd_X0_drop 9 rfl) rfl (Nat.le_of_ble_eq_true rfl) (Nat.le_of_ble_eq_true rfl) (lv2 := [some (.ref 0), some (.int a1), some (.int (a1 + (1 : Int32)))]) rfl ?_
      exact bs_weak (bf_s1 (bf_sn (bf_s1 bf_s0))) (t_X0_drop_16 C hR S ((a1 + (1 : Int32))) Q h)
theorem c_X0_drop (l : Launch) (dC : Nat → ClassId) (dI : Nat → Nat → Nat) (ac : Nat → ClassId) (al : Nat → Nat) (S : bT0) (a1 : Int32) (Q : (bT0) → Prop) (h : wp_X0_drop S a1 Q) : bf_M l yX0_drop cX0_drop 3 none 0 0 dC dI ac al [.ref 0, .int a1] (bW0 S) (bf_Kv dC dI ac al bW0 Q) := by
  refine bf_start [some (.ref 0), some (.int a1), none] (by decide) (Nat.le_of_ble_eq_true rfl) (bf_s1 (bf_s1 (bf_en 1))) ?_
  intro X hl C hR e1 e2 e3 e4
  subst e1; subst e2; subst e3; subst e4
  exact t_X0_drop C hR S a1 Q h
def wp_X0_copyFrom (S : bT0 × bT0) (Q : (bT0 × bT0) → Prop) : Prop := (Q ((b0s_count (b0s_lengths (b0s_bytes S.1 (va_cpy (b0g_bytes S.2) (b0g_bytes S.1) ((0 : Int32)).toNatClampNeg ((0 : Int32)).toNatClampNeg ((64 : Int32)).toNatClampNeg)) (va_cpy (b0g_lengths S.2) (b0g_lengths S.1) ((0 : Int32)).toNatClampNeg ((0 : Int32)).toNatClampNeg ((64 : Int32)).toNatClampNeg)) (b0g_count S.2)), S.2))
set_option maxRecDepth 20000 in
theorem t_X0_copyFrom {X : bf_X} (C : bf_C X RX0 cX0_copyFrom 2 none) (hR : bf_Rm X 1 40) (S : bT0 × bT0) (Q : (bT0 × bT0) → Prop) (h : wp_X0_copyFrom S Q) : bf_A X (bf_Zv X bW0_0 Q) 2 0 [some (.ref 0), some (.ref 3)] [] (bW0_0 (S.1, S.2)) := by
  unfold wp_X0_copyFrom at h
  refine bs_aload_n C (bf_dk dd_X0_copyFrom 0 rfl) rfl ?_
  refine bs_get C (bf_dk dd_X0_copyFrom 1 rfl) cl_0 in_0 0 (Nat.le_of_ble_eq_true rfl) rfl f_0_9 rfl rfl ?_
  refine bs_iconst C (bf_dk dd_X0_copyFrom 2 rfl) (0 : Int32) (by decide) ?_
  refine bs_aload_n C (bf_dk dd_X0_copyFrom 3 rfl) rfl ?_
  refine bs_get C (bf_dk dd_X0_copyFrom 4 rfl) cl_0 in_0 0 (Nat.le_of_ble_eq_true rfl) rfl f_0_9 rfl rfl ?_
  refine bs_iconst C (bf_dk dd_X0_copyFrom 5 rfl) (0 : Int32) (by decide) ?_
  refine bs_bipush C (bf_dk dd_X0_copyFrom 6 rfl) (64 : Int32) (by decide) ?_
  refine bs_copyL C hR m_0_43 cpw.1 cpw.2.1 cpw.2.2 rfl rfl (by decide) (by decide) (by decide) (Nat.le_of_ble_eq_true rfl) (Nat.le_of_ble_eq_true rfl) (Nat.le_of_ble_eq_true rfl) (Nat.le_of_ble_eq_true rfl) (bf_dk dd_X0_copyFrom 7 rfl) (w2 := (bW0_0 ((b0s_bytes S.1 (va_cpy (b0g_bytes S.2) (b0g_bytes S.1) ((0 : Int32)).toNatClampNeg ((0 : Int32)).toNatClampNeg ((64 : Int32)).toNatClampNeg)), S.2))) rfl ?_
  refine bs_aload_n C (bf_dk dd_X0_copyFrom 8 rfl) rfl ?_
  refine bs_get C (bf_dk dd_X0_copyFrom 9 rfl) cl_0 in_0 1 (Nat.le_of_ble_eq_true rfl) rfl f_0_15 rfl rfl ?_
  refine bs_iconst C (bf_dk dd_X0_copyFrom 10 rfl) (0 : Int32) (by decide) ?_
  refine bs_aload_n C (bf_dk dd_X0_copyFrom 11 rfl) rfl ?_
  refine bs_get C (bf_dk dd_X0_copyFrom 12 rfl) cl_0 in_0 1 (Nat.le_of_ble_eq_true rfl) rfl f_0_15 rfl rfl ?_
  refine bs_iconst C (bf_dk dd_X0_copyFrom 13 rfl) (0 : Int32) (by decide) ?_
  refine bs_bipush C (bf_dk dd_X0_copyFrom 14 rfl) (64 : Int32) (by decide) ?_
  refine bs_copyI C hR m_0_43 cpw.1 cpw.2.1 cpw.2.2 rfl rfl (by decide) (by decide) (by decide) (Nat.le_of_ble_eq_true rfl) (Nat.le_of_ble_eq_true rfl) (Nat.le_of_ble_eq_true rfl) (Nat.le_of_ble_eq_true rfl) (bf_dk dd_X0_copyFrom 15 rfl) (w2 := (bW0_0 ((b0s_lengths (b0s_bytes S.1 (va_cpy (b0g_bytes S.2) (b0g_bytes S.1) ((0 : Int32)).toNatClampNeg ((0 : Int32)).toNatClampNeg ((64 : Int32)).toNatClampNeg)) (va_cpy (b0g_lengths S.2) (b0g_lengths S.1) ((0 : Int32)).toNatClampNeg ((0 : Int32)).toNatClampNeg ((64 : Int32)).toNatClampNeg)), S.2))) rfl ?_
  refine bs_aload_n C (bf_dk dd_X0_copyFrom 16 rfl) rfl ?_
  refine bs_aload_n C (bf_dk dd_X0_copyFrom 17 rfl) rfl ?_
  refine bs_get C (bf_dk dd_X0_copyFrom 18 rfl) cl_0 in_0 2 (Nat.le_of_ble_eq_true rfl) rfl f_0_19 rfl rfl ?_
  refine bs_put C (bf_dk dd_X0_copyFrom 19 rfl) tyX0_ok nmX0 cl_0 in_0 2 (Nat.le_of_ble_eq_true rfl) rfl f_0_19 rfl rfl (Nat.le_of_ble_eq_true rfl) rfl rfl (w2 := (bW0_0 ((b0s_count (b0s_lengths (b0s_bytes S.1 (va_cpy (b0g_bytes S.2) (b0g_bytes S.1) ((0 : Int32)).toNatClampNeg ((0 : Int32)).toNatClampNeg ((64 : Int32)).toNatClampNeg)) (va_cpy (b0g_lengths S.2) (b0g_lengths S.1) ((0 : Int32)).toNatClampNeg ((0 : Int32)).toNatClampNeg ((64 : Int32)).toNatClampNeg)) (b0g_count S.2)), S.2))) rfl ?_
  exact bs_vret (u := ((b0s_count (b0s_lengths (b0s_bytes S.1 (va_cpy (b0g_bytes S.2) (b0g_bytes S.1) ((0 : Int32)).toNatClampNeg ((0 : Int32)).toNatClampNeg ((64 : Int32)).toNatClampNeg)) (va_cpy (b0g_lengths S.2) (b0g_lengths S.1) ((0 : Int32)).toNatClampNeg ((0 : Int32)).toNatClampNeg ((64 : Int32)).toNatClampNeg)) (b0g_count S.2)), S.2)) C (bf_dk dd_X0_copyFrom 20 rfl) rfl h
theorem c_X0_copyFrom (l : Launch) (dC : Nat → ClassId) (dI : Nat → Nat → Nat) (ac : Nat → ClassId) (al : Nat → Nat) (S : bT0 × bT0) (Q : (bT0 × bT0) → Prop) (h : wp_X0_copyFrom S Q) : bf_M l yX0_copyFrom cX0_copyFrom 2 none 1 40 dC dI ac al [.ref 0, .ref 3] (bW0_0 S) (bf_Kv dC dI ac al bW0_0 Q) := by
  refine bf_start [some (.ref 0), some (.ref 3)] (by decide) (Nat.le_of_ble_eq_true rfl) (bf_s1 (bf_s1 bf_s0)) ?_
  intro X hl C hR e1 e2 e3 e4
  subst e1; subst e2; subst e3; subst e4
  exact t_X0_copyFrom C hR S Q h
