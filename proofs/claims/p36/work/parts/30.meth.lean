def wp_X0_bytesAt (S : bT0) (a1 : Int32) (Q : Int64 → Prop) : Prop := ((a1 < 0 → (Q (0 : Int64))) ∧ (¬ a1 < 0 → (((b0g_count S) ≤ a1 → (Q (0 : Int64))) ∧ (¬ (b0g_count S) ≤ a1 → (vp_in a1 64 ∧ (Q ((b0g_bytes S) (a1).toNatClampNeg)))))))
set_option maxRecDepth 20000 in
theorem t_X0_bytesAt {X : bf_X} (C : bf_C X RX0 cX0_bytesAt 2 (some .long)) (hR : bf_Rm X 0 0) (S : bT0) (a1 : Int32) (Q : Int64 → Prop) (h : wp_X0_bytesAt S a1 Q) : bf_A X (bf_Zl X bW0 (fun r u => u = S ∧ Q r)) 2 0 [some (.ref 0), some (.int a1)] [] (bW0 S) := by
  unfold wp_X0_bytesAt at h
  refine bs_iload_n C (bf_dk dd_X0_bytesAt 0 rfl) rfl ?_
  refine bs_if_lt C (bf_dk dd_X0_bytesAt 1 rfl) (tgt := 21) rfl (fun c => ?_) (fun c => ?_)
  · replace h := h.1 c
    refine bs_lconst C (bf_dk dd_X0_bytesAt 11 rfl) (0 : Int64) (by decide) ?_
    exact bs_lret (u := S) C (bf_dk dd_X0_bytesAt 12 rfl) rfl ⟨rfl, h⟩
  · replace h := h.2 c
    refine bs_iload_n C (bf_dk dd_X0_bytesAt 2 rfl) rfl ?_
    refine bs_aload_n C (bf_dk dd_X0_bytesAt 3 rfl) rfl ?_
    refine bs_get C (bf_dk dd_X0_bytesAt 4 rfl) cl_0 in_0 2 (Nat.le_of_ble_eq_true rfl) rfl f_0_19 (ge_bW0_0 S) rfl ?_
    refine bs_icmp_ge C (bf_dk dd_X0_bytesAt 5 rfl) (tgt := 21) rfl (fun c => ?_) (fun c => ?_)
    · replace h := h.1 c
      refine bs_lconst C (bf_dk dd_X0_bytesAt 11 rfl) (0 : Int64) (by decide) ?_
      exact bs_lret (u := S) C (bf_dk dd_X0_bytesAt 12 rfl) rfl ⟨rfl, h⟩
    · replace h := h.2 c
      refine bs_aload_n C (bf_dk dd_X0_bytesAt 6 rfl) rfl ?_
      refine bs_get C (bf_dk dd_X0_bytesAt 7 rfl) cl_0 in_0 0 (Nat.le_of_ble_eq_true rfl) rfl f_0_9 (ge_bW0_0 S) rfl ?_
      refine bs_iload_n C (bf_dk dd_X0_bytesAt 8 rfl) rfl ?_
      obtain ⟨hi, h⟩ := h
      refine bs_lald C (bf_dk dd_X0_bytesAt 9 rfl) (ge_bW0_1 S) hi ?_
      refine bs_goto C (bf_dk dd_X0_bytesAt 10 rfl) (tgt := 22) rfl ?_
      exact bs_lret (u := S) C (bf_dk dd_X0_bytesAt 12 rfl) rfl ⟨rfl, h⟩
theorem c_X0_bytesAt (l : Launch) (dC : Nat → ClassId) (dI : Nat → Nat → Nat) (ac : Nat → ClassId) (al : Nat → Nat) (S : bT0) (a1 : Int32) (Q : Int64 → Prop) (h : wp_X0_bytesAt S a1 Q) : bf_M l yX0_bytesAt cX0_bytesAt 2 (some .long) 0 0 dC dI ac al [.ref 0, .int a1] (bW0 S) (bf_Kl dC dI ac al bW0 (fun r u => u = S ∧ Q r)) := by
  refine bf_start [some (.ref 0), some (.int a1)] (by decide) (Nat.le_of_ble_eq_true rfl) (bf_s1 (bf_s1 bf_s0)) ?_
  intro X hl C hR e1 e2 e3 e4
  subst e1; subst e2; subst e3; subst e4
  exact t_X0_bytesAt C hR S a1 Q h
def wp_X0_lengthAt (S : bT0) (a1 : Int32) (Q : Int32 → Prop) : Prop := ((a1 < 0 → (Q (0 : Int32))) ∧ (¬ a1 < 0 → (((b0g_count S) ≤ a1 → (Q (0 : Int32))) ∧ (¬ (b0g_count S) ≤ a1 → (vp_in a1 64 ∧ (Q ((b0g_lengths S) (a1).toNatClampNeg)))))))
set_option maxRecDepth 20000 in
theorem t_X0_lengthAt {X : bf_X} (C : bf_C X RX0 cX0_lengthAt 2 (some .int)) (hR : bf_Rm X 0 0) (S : bT0) (a1 : Int32) (Q : Int32 → Prop) (h : wp_X0_lengthAt S a1 Q) : bf_A X (bf_Zi X bW0 (fun r u => u = S ∧ Q r)) 2 0 [some (.ref 0), some (.int a1)] [] (bW0 S) := by
  unfold wp_X0_lengthAt at h
  refine bs_iload_n C (bf_dk dd_X0_lengthAt 0 rfl) rfl ?_
  refine bs_if_lt C (bf_dk dd_X0_lengthAt 1 rfl) (tgt := 21) rfl (fun c => ?_) (fun c => ?_)
  · replace h := h.1 c
    refine bs_iconst C (bf_dk dd_X0_lengthAt 11 rfl) (0 : Int32) (by decide) ?_
    exact bs_iret (u := S) C (bf_dk dd_X0_lengthAt 12 rfl) rfl ⟨rfl, h⟩
  · replace h := h.2 c
    refine bs_iload_n C (bf_dk dd_X0_lengthAt 2 rfl) rfl ?_
    refine bs_aload_n C (bf_dk dd_X0_lengthAt 3 rfl) rfl ?_
    refine bs_get C (bf_dk dd_X0_lengthAt 4 rfl) cl_0 in_0 2 (Nat.le_of_ble_eq_true rfl) rfl f_0_19 (ge_bW0_0 S) rfl ?_
    refine bs_icmp_ge C (bf_dk dd_X0_lengthAt 5 rfl) (tgt := 21) rfl (fun c => ?_) (fun c => ?_)
    · replace h := h.1 c
      refine bs_iconst C (bf_dk dd_X0_lengthAt 11 rfl) (0 : Int32) (by decide) ?_
      exact bs_iret (u := S) C (bf_dk dd_X0_lengthAt 12 rfl) rfl ⟨rfl, h⟩
    · replace h := h.2 c
      refine bs_aload_n C (bf_dk dd_X0_lengthAt 6 rfl) rfl ?_
      refine bs_get C (bf_dk dd_X0_lengthAt 7 rfl) cl_0 in_0 1 (Nat.le_of_ble_eq_true rfl) rfl f_0_15 (ge_bW0_0 S) rfl ?_
      refine bs_iload_n C (bf_dk dd_X0_lengthAt 8 rfl) rfl ?_
      obtain ⟨hi, h⟩ := h
      refine bs_iald C (bf_dk dd_X0_lengthAt 9 rfl) (ge_bW0_2 S) hi ?_
      refine bs_goto C (bf_dk dd_X0_lengthAt 10 rfl) (tgt := 22) rfl ?_
      exact bs_iret (u := S) C (bf_dk dd_X0_lengthAt 12 rfl) rfl ⟨rfl, h⟩
theorem c_X0_lengthAt (l : Launch) (dC : Nat → ClassId) (dI : Nat → Nat → Nat) (ac : Nat → ClassId) (al : Nat → Nat) (S : bT0) (a1 : Int32) (Q : Int32 → Prop) (h : wp_X0_lengthAt S a1 Q) : bf_M l yX0_lengthAt cX0_lengthAt 2 (some .int) 0 0 dC dI ac al [.ref 0, .int a1] (bW0 S) (bf_Ki dC dI ac al bW0 (fun r u => u = S ∧ Q r)) := by
  refine bf_start [some (.ref 0), some (.int a1)] (by decide) (Nat.le_of_ble_eq_true rfl) (bf_s1 (bf_s1 bf_s0)) ?_
  intro X hl C hR e1 e2 e3 e4
  subst e1; subst e2; subst e3; subst e4
  exact t_X0_lengthAt C hR S a1 Q h
def wp_X8_order (a0 : Int64) (a2 : Int32) (a3 : Int64) (a5 : Int32) (Q : Int32 → Prop) : Prop := ((¬ (lg_cmp a0 a3) = 0 → ((0 ≤ (lg_cmp (a0 ^^^ (-9223372036854775808 : Int64)) (a3 ^^^ (-9223372036854775808 : Int64))) → (Q (1 : Int32))) ∧ (¬ 0 ≤ (lg_cmp (a0 ^^^ (-9223372036854775808 : Int64)) (a3 ^^^ (-9223372036854775808 : Int64))) → (Q (-1 : Int32))))) ∧ ((lg_cmp a0 a3) = 0 → (Q (a2 - a5))))
set_option maxRecDepth 20000 in
theorem t_X8_order {X : bf_X} (C : bf_C X RX8 cX8_order 6 (some .int)) (hR : bf_Rm X 0 0) (a0 : Int64) (a2 : Int32) (a3 : Int64) (a5 : Int32) (Q : Int32 → Prop) (h : wp_X8_order a0 a2 a3 a5 Q) : bf_A X (bf_Zi X bWu (fun r u => u = () ∧ Q r)) 6 0 [some (.long a0), none, some (.int a2), some (.long a3), none, some (.int a5)] [] (bWu ()) := by
  unfold wp_X8_order at h
  refine bs_lload_n C (bf_dk dd_X8_order 0 rfl) rfl ?_
  refine bs_lload_n C (bf_dk dd_X8_order 1 rfl) rfl ?_
  refine bs_lcmp C (bf_dk dd_X8_order 2 rfl) ?_
  refine bs_if_ne C (bf_dk dd_X8_order 3 rfl) (tgt := 11) rfl (fun c => ?_) (fun c => ?_)
  · replace h := h.1 c
    refine bs_lload_n C (bf_dk dd_X8_order 8 rfl) rfl ?_
    refine bs_ldc2 C (bf_dk dd_X8_order 9 rfl) k_8_438 ?_
    refine bs_lxor C (bf_dk dd_X8_order 10 rfl) ?_
    refine bs_lload_n C (bf_dk dd_X8_order 11 rfl) rfl ?_
    refine bs_ldc2 C (bf_dk dd_X8_order 12 rfl) k_8_438 ?_
    refine bs_lxor C (bf_dk dd_X8_order 13 rfl) ?_
    refine bs_lcmp C (bf_dk dd_X8_order 14 rfl) ?_
    refine bs_if_ge C (bf_dk dd_X8_order 15 rfl) (tgt := 29) rfl (fun c => ?_) (fun c => ?_)
    · replace h := h.1 c
      refine bs_iconst C (bf_dk dd_X8_order 18 rfl) (1 : Int32) (by decide) ?_
      exact bs_iret (u := ()) C (bf_dk dd_X8_order 19 rfl) rfl ⟨rfl, h⟩
    · replace h := h.2 c
      refine bs_iconst C (bf_dk dd_X8_order 16 rfl) (-1 : Int32) (by decide) ?_
      refine bs_goto C (bf_dk dd_X8_order 17 rfl) (tgt := 30) rfl ?_
      exact bs_iret (u := ()) C (bf_dk dd_X8_order 19 rfl) rfl ⟨rfl, h⟩
  · replace h := h.2 c
    refine bs_iload_n C (bf_dk dd_X8_order 4 rfl) rfl ?_
    refine bs_iload C (bf_dk dd_X8_order 5 rfl) rfl ?_
    refine bs_isub C (bf_dk dd_X8_order 6 rfl) ?_
    exact bs_iret (u := ()) C (bf_dk dd_X8_order 7 rfl) rfl ⟨rfl, h⟩
theorem c_X8_order (l : Launch) (dC : Nat → ClassId) (dI : Nat → Nat → Nat) (ac : Nat → ClassId) (al : Nat → Nat) (a0 : Int64) (a2 : Int32) (a3 : Int64) (a5 : Int32) (Q : Int32 → Prop) (h : wp_X8_order a0 a2 a3 a5 Q) : bf_M l yX8_order cX8_order 6 (some .int) 0 0 dC dI ac al [.long a0, .int a2, .long a3, .int a5] (bWu ()) (bf_Ki dC dI ac al bWu (fun r u => u = () ∧ Q r)) := by
  refine bf_start [some (.long a0), none, some (.int a2), some (.long a3), none, some (.int a5)] (by decide) (Nat.le_of_ble_eq_true rfl) (bf_s1 (bf_sn (bf_s1 (bf_s1 (bf_sn (bf_s1 bf_s0)))))) ?_
  intro X hl C hR e1 e2 e3 e4
  subst e1; subst e2; subst e3; subst e4
  exact t_X8_order C hR a0 a2 a3 a5 Q h
def wp_X0_counted_59 (S : bT0) (x1 : Int64) (x3 : Int32) (x4 : Int32) (x5 : Int32) (x6 : Int32) (Q : Int32 → Prop) (B7 : Int64 → Int32 → Int32 → Int32 → Int32 → Prop) : Prop := (¬ (2 : Int32) = 0 ∧ (B7 (x1) (x3) (x4) (x5) ((x6 / (2 : Int32)))))
set_option maxRecDepth 20000 in
theorem t_X0_counted_59 {X : bf_X} (C : bf_C X RX0 cX0_counted 8 (some .int)) (hR : bf_Rm X 1 25) (S : bT0) (x1 : Int64) (x3 : Int32) (x4 : Int32) (x5 : Int32) (x6 : Int32) (Q : Int32 → Prop) (B7 : Int64 → Int32 → Int32 → Int32 → Int32 → Prop) (hB7 : ∀ (x1 : Int64) (x3 : Int32) (x4 : Int32) (x5 : Int32) (x6 : Int32), B7 x1 x3 x4 x5 x6 → bf_A X (bf_Zi X bW0 (fun r u => u = S ∧ Q r)) 8 7 [some (.ref 0), some (.long x1), none, some (.int x3), some (.int x4), some (.int x5), some (.int x6), none] [] (bW0 S)) (h : wp_X0_counted_59 S x1 x3 x4 x5 x6 Q B7) : bf_A X (bf_Zi X bW0 (fun r u => u = S ∧ Q r)) 8 59 [some (.ref 0), some (.long x1), none, some (.int x3), some (.int x4), some (.int x5), some (.int x6), none] [] (bW0 S) := by
  unfold wp_X0_counted_59 at h
  refine bs_iload C (bf_dk dd_X0_counted 31 rfl) rfl ?_
  refine bs_iconst C (bf_dk dd_X0_counted 32 rfl) (2 : Int32) (by decide) ?_
  obtain ⟨hi, h⟩ := h
  refine bs_idiv C (bf_dk dd_X0_counted 33 rfl) hi ?_
  refine bs_istore C (bf_dk dd_X0_counted 34 rfl) (Nat.le_of_ble_eq_true rfl) (Nat.le_of_ble_eq_true rfl) (lv2 := [some (.ref 0), some (.long x1), none, some (.int x3), some (.int x4), some (.int x5), some (.int (x6 / (2 : Int32))), none]) rfl ?_
  refine bs_goto C (bf_dk dd_X0_counted 35 rfl) (tgt := 7) rfl ?_
  exact bs_weak (bf_s1 (bf_s1 (bf_sn (bf_s1 (bf_s1 (bf_s1 (bf_s1 (bf_sn bf_s0)))))))) (hB7 (x1) (x3) (x4) (x5) ((x6 / (2 : Int32))) h)
def wp_X0_counted_7b (S : bT0) (x1 : Int64) (x3 : Int32) (x4 : Int32) (x5 : Int32) (x6 : Int32) (Q : Int32 → Prop) (B7 : Int64 → Int32 → Int32 → Int32 → Int32 → Prop) : Prop := ((x6 ≤ 0 → (Q x5)) ∧ (¬ x6 ≤ 0 → (((b0g_count S) ≤ ((x5 + x6) - (1 : Int32)) → (wp_X0_counted_59 S (x1) (x3) (x4) (x5) (x6) Q B7)) ∧ (¬ (b0g_count S) ≤ ((x5 + x6) - (1 : Int32)) → (wp_X0_bytesAt S (((x5 + x6) - (1 : Int32))) (fun r1 => (wp_X0_lengthAt S (((x5 + x6) - (1 : Int32))) (fun r3 => (wp_X8_order (r1) (r3) (x1) (x3) (fun r5 => ((x4 ≤ r5 → (wp_X0_counted_59 S (x1) (x3) (x4) (x5) (x6) Q B7)) ∧ (¬ x4 ≤ r5 → (wp_X0_counted_59 S (x1) (x3) (x4) ((x5 + x6)) (x6) Q B7)))))))))))))
set_option maxRecDepth 20000 in
theorem t_X0_counted_7b {X : bf_X} (C : bf_C X RX0 cX0_counted 8 (some .int)) (hR : bf_Rm X 1 25) (S : bT0) (x1 : Int64) (x3 : Int32) (x4 : Int32) (x5 : Int32) (x6 : Int32) (Q : Int32 → Prop) (B7 : Int64 → Int32 → Int32 → Int32 → Int32 → Prop) (hB7 : ∀ (x1 : Int64) (x3 : Int32) (x4 : Int32) (x5 : Int32) (x6 : Int32), B7 x1 x3 x4 x5 x6 → bf_A X (bf_Zi X bW0 (fun r u => u = S ∧ Q r)) 8 7 [some (.ref 0), some (.long x1), none, some (.int x3), some (.int x4), some (.int x5), some (.int x6), none] [] (bW0 S)) (h : wp_X0_counted_7b S x1 x3 x4 x5 x6 Q B7) : bf_A X (bf_Zi X bW0 (fun r u => u = S ∧ Q r)) 8 7 [some (.ref 0), some (.long x1), none, some (.int x3), some (.int x4), some (.int x5), some (.int x6), none] [] (bW0 S) := by
  unfold wp_X0_counted_7b at h
  refine bs_iload C (bf_dk dd_X0_counted 4 rfl) rfl ?_
  refine bs_if_le C (bf_dk dd_X0_counted 5 rfl) (tgt := 68) rfl (fun c => ?_) (fun c => ?_)
  · replace h := h.1 c
    refine bs_iload C (bf_dk dd_X0_counted 36 rfl) rfl ?_
    exact bs_iret (u := S) C (bf_dk dd_X0_counted 37 rfl) rfl ⟨rfl, h⟩
  · replace h := h.2 c
    refine bs_iload C (bf_dk dd_X0_counted 6 rfl) rfl ?_
    refine bs_iload C (bf_dk dd_X0_counted 7 rfl) rfl ?_
    refine bs_iadd C (bf_dk dd_X0_counted 8 rfl) ?_
    refine bs_iconst C (bf_dk dd_X0_counted 9 rfl) (1 : Int32) (by decide) ?_
    refine bs_isub C (bf_dk dd_X0_counted 10 rfl) ?_
    refine bs_istore C (bf_dk dd_X0_counted 11 rfl) (Nat.le_of_ble_eq_true rfl) (Nat.le_of_ble_eq_true rfl) (lv2 := [some (.ref 0), some (.long x1), none, some (.int x3), some (.int x4), some (.int x5), some (.int x6), some (.int ((x5 + x6) - (1 : Int32)))]) rfl ?_
    refine bs_iload C (bf_dk dd_X0_counted 12 rfl) rfl ?_
    refine bs_aload_n C (bf_dk dd_X0_counted 13 rfl) rfl ?_
    refine bs_get C (bf_dk dd_X0_counted 14 rfl) cl_0 in_0 2 (Nat.le_of_ble_eq_true rfl) rfl f_0_19 (ge_bW0_0 S) rfl ?_
    refine bs_icmp_ge C (bf_dk dd_X0_counted 15 rfl) (tgt := 59) rfl (fun c => ?_) (fun c => ?_)
    · replace h := h.1 c
      exact bs_weak (bf_s1 (bf_s1 (bf_sn (bf_s1 (bf_s1 (bf_s1 (bf_s1 (bf_sn bf_s0)))))))) (t_X0_counted_59 C hR S (x1) (x3) (x4) (x5) (x6) Q B7 hB7 h)
    · replace h := h.2 c
      refine bs_aload_n C (bf_dk dd_X0_counted 16 rfl) rfl ?_
      refine bs_iload C (bf_dk dd_X0_counted 17 rfl) rfl ?_
      refine bs_selfPV_l C hR (c_X0_bytesAt _ _ _ _ _ S (((x5 + x6) - (1 : Int32))) _ h) my_X0_bytesAt m_0_27 rfl cl_0 (ge_bW0_0 _) rfl (Nat.le_of_ble_eq_true rfl) (Nat.le_of_ble_eq_true rfl) (st := []) (Nat.le_of_ble_eq_true rfl) (bf_dk dd_X0_counted 18 rfl) rfl (fun r1 h => ?_)
      refine bs_aload_n C (bf_dk dd_X0_counted 19 rfl) rfl ?_
      refine bs_iload C (bf_dk dd_X0_counted 20 rfl) rfl ?_
      refine bs_selfPV_i C hR (c_X0_lengthAt _ _ _ _ _ S (((x5 + x6) - (1 : Int32))) _ h) my_X0_lengthAt m_0_31 rfl cl_0 (ge_bW0_0 _) rfl (Nat.le_of_ble_eq_true rfl) (Nat.le_of_ble_eq_true rfl) (st := [.long r1]) (Nat.le_of_ble_eq_true rfl) (bf_dk dd_X0_counted 21 rfl) rfl (fun r3 h => ?_)
      refine bs_lload_n C (bf_dk dd_X0_counted 22 rfl) rfl ?_
      refine bs_iload_n C (bf_dk dd_X0_counted 23 rfl) rfl ?_
      refine bs_pureSN_i (ps := []) (w := (bW0 S)) C hR (c_X8_order _ _ _ _ _ (r1) (r3) (x1) (x3) _ h) my_X8_order m_0_35 rfl (Nat.le_of_ble_eq_true rfl) (Nat.le_of_ble_eq_true rfl) rfl rfl (st := []) (Nat.le_of_ble_eq_true rfl) (bf_dk dd_X0_counted 24 rfl) rfl (fun _ => rfl) (fun r5 h => ?_)
      refine bs_iload C (bf_dk dd_X0_counted 25 rfl) rfl ?_
      refine bs_icmp_ge C (bf_dk dd_X0_counted 26 rfl) (tgt := 59) rfl (fun c => ?_) (fun c => ?_)
      · replace h := h.1 c
        exact bs_weak (bf_s1 (bf_s1 (bf_sn (bf_s1 (bf_s1 (bf_s1 (bf_s1 (bf_sn bf_s0)))))))) (t_X0_counted_59 C hR S (x1) (x3) (x4) (x5) (x6) Q B7 hB7 h)
      · replace h := h.2 c
        refine bs_iload C (bf_dk dd_X0_counted 27 rfl) rfl ?_
        refine bs_iload C (bf_dk dd_X0_counted 28 rfl) rfl ?_
        refine bs_iadd C (bf_dk dd_X0_counted 29 rfl) ?_
        refine bs_istore C (bf_dk dd_X0_counted 30 rfl) (Nat.le_of_ble_eq_true rfl) (Nat.le_of_ble_eq_true rfl) (lv2 := [some (.ref 0), some (.long x1), none, some (.int x3), some (.int x4), some (.int (x5 + x6)), some (.int x6), some (.int ((x5 + x6) - (1 : Int32)))]) rfl ?_
        exact bs_weak (bf_s1 (bf_s1 (bf_sn (bf_s1 (bf_s1 (bf_s1 (bf_s1 (bf_sn bf_s0)))))))) (t_X0_counted_59 C hR S (x1) (x3) (x4) ((x5 + x6)) (x6) Q B7 hB7 h)
def wp_X0_counted_7 (S : bT0) (x1 : Int64) (x3 : Int32) (x4 : Int32) (x5 : Int32) (x6 : Int32) (Q : Int32 → Prop) : Prop := ∃ I : Nat → Int64 → Int32 → Int32 → Int32 → Int32 → Prop, (∃ n : Nat, I n x1 x3 x4 x5 x6) ∧ ∀ (n : Nat) (x1 : Int64) (x3 : Int32) (x4 : Int32) (x5 : Int32) (x6 : Int32), I n x1 x3 x4 x5 x6 → wp_X0_counted_7b S x1 x3 x4 x5 x6 Q (fun x1 x3 x4 x5 x6 => ∃ n2 : Nat, n2 < n ∧ I n2 x1 x3 x4 x5 x6)
theorem t_X0_counted_7 {X : bf_X} (C : bf_C X RX0 cX0_counted 8 (some .int)) (hR : bf_Rm X 1 25) (S : bT0) (x1 : Int64) (x3 : Int32) (x4 : Int32) (x5 : Int32) (x6 : Int32) (Q : Int32 → Prop) (h : wp_X0_counted_7 S x1 x3 x4 x5 x6 Q) : bf_A X (bf_Zi X bW0 (fun r u => u = S ∧ Q r)) 8 7 [some (.ref 0), some (.long x1), none, some (.int x3), some (.int x4), some (.int x5), some (.int x6), none] [] (bW0 S) := by
  obtain ⟨I, ⟨n0, h0⟩, hI⟩ := h
  have key : ∀ (n : Nat) (x1 : Int64) (x3 : Int32) (x4 : Int32) (x5 : Int32) (x6 : Int32), I n x1 x3 x4 x5 x6 → bf_A X (bf_Zi X bW0 (fun r u => u = S ∧ Q r)) 8 7 [some (.ref 0), some (.long x1), none, some (.int x3), some (.int x4), some (.int x5), some (.int x6), none] [] (bW0 S) := by
    intro n
    induction n using Nat.strongRecOn with
    | _ n ih =>
      intro x1 x3 x4 x5 x6 hi
      exact t_X0_counted_7b C hR S x1 x3 x4 x5 x6 Q _ (fun x1 x3 x4 x5 x6 hb => by obtain ⟨n2, hn, hi2⟩ := hb; exact ih n2 hn x1 x3 x4 x5 x6 hi2) (hI n x1 x3 x4 x5 x6 hi)
  exact key n0 x1 x3 x4 x5 x6 h0
def wp_X0_counted (S : bT0) (a1 : Int64) (a3 : Int32) (a4 : Int32) (Q : Int32 → Prop) : Prop := (wp_X0_counted_7 S (a1) (a3) (a4) ((0 : Int32)) ((64 : Int32)) Q)
set_option maxRecDepth 20000 in
theorem t_X0_counted {X : bf_X} (C : bf_C X RX0 cX0_counted 8 (some .int)) (hR : bf_Rm X 1 25) (S : bT0) (a1 : Int64) (a3 : Int32) (a4 : Int32) (Q : Int32 → Prop) (h : wp_X0_counted S a1 a3 a4 Q) : bf_A X (bf_Zi X bW0 (fun r u => u = S ∧ Q r)) 8 0 [some (.ref 0), some (.long a1), none, some (.int a3), some (.int a4), none, none, none] [] (bW0 S) := by
  unfold wp_X0_counted at h
  refine bs_iconst C (bf_dk dd_X0_counted 0 rfl) (0 : Int32) (by decide) ?_
  refine bs_istore C (bf_dk dd_X0_counted 1 rfl) (Nat.le_of_ble_eq_true rfl) (Nat.le_of_ble_eq_true rfl) (lv2 := [some (.ref 0), some (.long a1), none, some (.int a3), some (.int a4), some (.int (0 : Int32)), none, none]) rfl ?_
  refine bs_bipush C (bf_dk dd_X0_counted 2 rfl) (64 : Int32) (by decide) ?_
  refine bs_istore C (bf_dk dd_X0_counted 3 rfl) (Nat.le_of_ble_eq_true rfl) (Nat.le_of_ble_eq_true rfl) (lv2 := [some (.ref 0), some (.long a1), none, some (.int a3), some (.int a4), some (.int (0 : Int32)), some (.int (64 : Int32)), none]) rfl ?_
  exact bs_weak (bf_s1 (bf_s1 (bf_sn (bf_s1 (bf_s1 (bf_s1 (bf_s1 (bf_sn bf_s0)))))))) (t_X0_counted_7 C hR S (a1) (a3) (a4) ((0 : Int32)) ((64 : Int32)) Q h)
theorem c_X0_counted (l : Launch) (dC : Nat → ClassId) (dI : Nat → Nat → Nat) (ac : Nat → ClassId) (al : Nat → Nat) (S : bT0) (a1 : Int64) (a3 : Int32) (a4 : Int32) (Q : Int32 → Prop) (h : wp_X0_counted S a1 a3 a4 Q) : bf_M l yX0_counted cX0_counted 8 (some .int) 1 25 dC dI ac al [.ref 0, .long a1, .int a3, .int a4] (bW0 S) (bf_Ki dC dI ac al bW0 (fun r u => u = S ∧ Q r)) := by
  refine bf_start [some (.ref 0), some (.long a1), none, some (.int a3), some (.int a4), none, none, none] (by decide) (Nat.le_of_ble_eq_true rfl) (bf_s1 (bf_s1 (bf_sn (bf_s1 (bf_s1 (bf_en 3)))))) ?_
  intro X hl C hR e1 e2 e3 e4
  subst e1; subst e2; subst e3; subst e4
  exact t_X0_counted C hR S a1 a3 a4 Q h
def wp_X0_ahead (S : bT0) (a1 : Int64) (a3 : Int32) (Q : Int32 → Prop) : Prop := (wp_X0_counted S (a1) (a3) ((0 : Int32)) (fun r1 => (Q r1)))
set_option maxRecDepth 20000 in
theorem t_X0_ahead {X : bf_X} (C : bf_C X RX0 cX0_ahead 4 (some .int)) (hR : bf_Rm X 2 52) (S : bT0) (a1 : Int64) (a3 : Int32) (Q : Int32 → Prop) (h : wp_X0_ahead S a1 a3 Q) : bf_A X (bf_Zi X bW0 (fun r u => u = S ∧ Q r)) 4 0 [some (.ref 0), some (.long a1), none, some (.int a3)] [] (bW0 S) := by
  unfold wp_X0_ahead at h
  refine bs_aload_n C (bf_dk dd_X0_ahead 0 rfl) rfl ?_
  refine bs_lload_n C (bf_dk dd_X0_ahead 1 rfl) rfl ?_
  refine bs_iload_n C (bf_dk dd_X0_ahead 2 rfl) rfl ?_
  refine bs_iconst C (bf_dk dd_X0_ahead 3 rfl) (0 : Int32) (by decide) ?_
  refine bs_selfPV_i C hR (c_X0_counted _ _ _ _ _ S (a1) (a3) ((0 : Int32)) _ h) my_X0_counted m_0_23 rfl cl_0 (ge_bW0_0 _) rfl (Nat.le_of_ble_eq_true rfl) (Nat.le_of_ble_eq_true rfl) (st := []) (Nat.le_of_ble_eq_true rfl) (bf_dk dd_X0_ahead 4 rfl) rfl (fun r1 h => ?_)
  exact bs_iret (u := S) C (bf_dk dd_X0_ahead 5 rfl) rfl ⟨rfl, h⟩
theorem c_X0_ahead (l : Launch) (dC : Nat → ClassId) (dI : Nat → Nat → Nat) (ac : Nat → ClassId) (al : Nat → Nat) (S : bT0) (a1 : Int64) (a3 : Int32) (Q : Int32 → Prop) (h : wp_X0_ahead S a1 a3 Q) : bf_M l yX0_ahead cX0_ahead 4 (some .int) 2 52 dC dI ac al [.ref 0, .long a1, .int a3] (bW0 S) (bf_Ki dC dI ac al bW0 (fun r u => u = S ∧ Q r)) := by
  refine bf_start [some (.ref 0), some (.long a1), none, some (.int a3)] (by decide) (Nat.le_of_ble_eq_true rfl) (bf_s1 (bf_s1 (bf_sn (bf_s1 bf_s0)))) ?_
  intro X hl C hR e1 e2 e3 e4
  subst e1; subst e2; subst e3; subst e4
  exact t_X0_ahead C hR S a1 a3 Q h
def wp_X0_upTo (S : bT0) (a1 : Int64) (a3 : Int32) (Q : Int32 → Prop) : Prop := (wp_X0_counted S (a1) (a3) ((1 : Int32)) (fun r1 => (Q r1)))
set_option maxRecDepth 20000 in
theorem t_X0_upTo {X : bf_X} (C : bf_C X RX0 cX0_upTo 4 (some .int)) (hR : bf_Rm X 2 52) (S : bT0) (a1 : Int64) (a3 : Int32) (Q : Int32 → Prop) (h : wp_X0_upTo S a1 a3 Q) : bf_A X (bf_Zi X bW0 (fun r u => u = S ∧ Q r)) 4 0 [some (.ref 0), some (.long a1), none, some (.int a3)] [] (bW0 S) := by
  unfold wp_X0_upTo at h
  refine bs_aload_n C (bf_dk dd_X0_upTo 0 rfl) rfl ?_
  refine bs_lload_n C (bf_dk dd_X0_upTo 1 rfl) rfl ?_
  refine bs_iload_n C (bf_dk dd_X0_upTo 2 rfl) rfl ?_
  refine bs_iconst C (bf_dk dd_X0_upTo 3 rfl) (1 : Int32) (by decide) ?_
  refine bs_selfPV_i C hR (c_X0_counted _ _ _ _ _ S (a1) (a3) ((1 : Int32)) _ h) my_X0_counted m_0_23 rfl cl_0 (ge_bW0_0 _) rfl (Nat.le_of_ble_eq_true rfl) (Nat.le_of_ble_eq_true rfl) (st := []) (Nat.le_of_ble_eq_true rfl) (bf_dk dd_X0_upTo 4 rfl) rfl (fun r1 h => ?_)
  exact bs_iret (u := S) C (bf_dk dd_X0_upTo 5 rfl) rfl ⟨rfl, h⟩
theorem c_X0_upTo (l : Launch) (dC : Nat → ClassId) (dI : Nat → Nat → Nat) (ac : Nat → ClassId) (al : Nat → Nat) (S : bT0) (a1 : Int64) (a3 : Int32) (Q : Int32 → Prop) (h : wp_X0_upTo S a1 a3 Q) : bf_M l yX0_upTo cX0_upTo 4 (some .int) 2 52 dC dI ac al [.ref 0, .long a1, .int a3] (bW0 S) (bf_Ki dC dI ac al bW0 (fun r u => u = S ∧ Q r)) := by
  refine bf_start [some (.ref 0), some (.long a1), none, some (.int a3)] (by decide) (Nat.le_of_ble_eq_true rfl) (bf_s1 (bf_s1 (bf_sn (bf_s1 bf_s0)))) ?_
  intro X hl C hR e1 e2 e3 e4
  subst e1; subst e2; subst e3; subst e4
  exact t_X0_upTo C hR S a1 a3 Q h
def wp_X0_numberOf (S : bT0) (a1 : Int64) (a3 : Int32) (Q : Int32 → Prop) : Prop := (wp_X0_ahead S (a1) (a3) (fun r1 => (wp_X0_bytesAt S (r1) (fun r3 => ((¬ (lg_cmp r3 a1) = 0 → (Q (-1 : Int32))) ∧ ((lg_cmp r3 a1) = 0 → (wp_X0_lengthAt S (r1) (fun r5 => ((¬ r5 = a3 → (Q (-1 : Int32))) ∧ (r5 = a3 → (Q r1)))))))))))
set_option maxRecDepth 20000 in
theorem t_X0_numberOf {X : bf_X} (C : bf_C X RX0 cX0_numberOf 5 (some .int)) (hR : bf_Rm X 3 75) (S : bT0) (a1 : Int64) (a3 : Int32) (Q : Int32 → Prop) (h : wp_X0_numberOf S a1 a3 Q) : bf_A X (bf_Zi X bW0 (fun r u => u = S ∧ Q r)) 5 0 [some (.ref 0), some (.long a1), none, some (.int a3), none] [] (bW0 S) := by
  unfold wp_X0_numberOf at h
  refine bs_aload_n C (bf_dk dd_X0_numberOf 0 rfl) rfl ?_
  refine bs_lload_n C (bf_dk dd_X0_numberOf 1 rfl) rfl ?_
  refine bs_iload_n C (bf_dk dd_X0_numberOf 2 rfl) rfl ?_
  refine bs_selfPV_i C hR (c_X0_ahead _ _ _ _ _ S (a1) (a3) _ h) my_X0_ahead m_0_39 rfl cl_0 (ge_bW0_0 _) rfl (Nat.le_of_ble_eq_true rfl) (Nat.le_of_ble_eq_true rfl) (st := []) (Nat.le_of_ble_eq_true rfl) (bf_dk dd_X0_numberOf 3 rfl) rfl (fun r1 h => ?_)
  refine bs_istore C (bf_dk dd_X0_numberOf 4 rfl) (Nat.le_of_ble_eq_true rfl) (Nat.le_of_ble_eq_true rfl) (lv2 := [some (.ref 0), some (.long a1), none, some (.int a3), some (.int r1)]) rfl ?_
  refine bs_aload_n C (bf_dk dd_X0_numberOf 5 rfl) rfl ?_
  refine bs_iload C (bf_dk dd_X0_numberOf 6 rfl) rfl ?_
  refine bs_selfPV_l C hR (c_X0_bytesAt _ _ _ _ _ S (r1) _ h) my_X0_bytesAt m_0_27 rfl cl_0 (ge_bW0_0 _) rfl (Nat.le_of_ble_eq_true rfl) (Nat.le_of_ble_eq_true rfl) (st := []) (Nat.le_of_ble_eq_true rfl) (bf_dk dd_X0_numberOf 7 rfl) rfl (fun r3 h => ?_)
  refine bs_lload_n C (bf_dk dd_X0_numberOf 8 rfl) rfl ?_
  refine bs_lcmp C (bf_dk dd_X0_numberOf 9 rfl) ?_
  refine bs_if_ne C (bf_dk dd_X0_numberOf 10 rfl) (tgt := 34) rfl (fun c => ?_) (fun c => ?_)
  · replace h := h.1 c
    refine bs_iconst C (bf_dk dd_X0_numberOf 18 rfl) (-1 : Int32) (by decide) ?_
    exact bs_iret (u := S) C (bf_dk dd_X0_numberOf 19 rfl) rfl ⟨rfl, h⟩
  · replace h := h.2 c
    refine bs_aload_n C (bf_dk dd_X0_numberOf 11 rfl) rfl ?_
    refine bs_iload C (bf_dk dd_X0_numberOf 12 rfl) rfl ?_
    refine bs_selfPV_i C hR (c_X0_lengthAt _ _ _ _ _ S (r1) _ h) my_X0_lengthAt m_0_31 rfl cl_0 (ge_bW0_0 _) rfl (Nat.le_of_ble_eq_true rfl) (Nat.le_of_ble_eq_true rfl) (st := []) (Nat.le_of_ble_eq_true rfl) (bf_dk dd_X0_numberOf 13 rfl) rfl (fun r5 h => ?_)
    refine bs_iload_n C (bf_dk dd_X0_numberOf 14 rfl) rfl ?_
    refine bs_icmp_ne C (bf_dk dd_X0_numberOf 15 rfl) (tgt := 34) rfl (fun c => ?_) (fun c => ?_)
    · replace h := h.1 c
      refine bs_iconst C (bf_dk dd_X0_numberOf 18 rfl) (-1 : Int32) (by decide) ?_
      exact bs_iret (u := S) C (bf_dk dd_X0_numberOf 19 rfl) rfl ⟨rfl, h⟩
    · replace h := h.2 c
      refine bs_iload C (bf_dk dd_X0_numberOf 16 rfl) rfl ?_
      refine bs_goto C (bf_dk dd_X0_numberOf 17 rfl) (tgt := 35) rfl ?_
      exact bs_iret (u := S) C (bf_dk dd_X0_numberOf 19 rfl) rfl ⟨rfl, h⟩
theorem c_X0_numberOf (l : Launch) (dC : Nat → ClassId) (dI : Nat → Nat → Nat) (ac : Nat → ClassId) (al : Nat → Nat) (S : bT0) (a1 : Int64) (a3 : Int32) (Q : Int32 → Prop) (h : wp_X0_numberOf S a1 a3 Q) : bf_M l yX0_numberOf cX0_numberOf 5 (some .int) 3 75 dC dI ac al [.ref 0, .long a1, .int a3] (bW0 S) (bf_Ki dC dI ac al bW0 (fun r u => u = S ∧ Q r)) := by
  refine bf_start [some (.ref 0), some (.long a1), none, some (.int a3), none] (by decide) (Nat.le_of_ble_eq_true rfl) (bf_s1 (bf_s1 (bf_sn (bf_s1 (bf_en 1))))) ?_
  intro X hl C hR e1 e2 e3 e4
  subst e1; subst e2; subst e3; subst e4
  exact t_X0_numberOf C hR S a1 a3 Q h
def wp_X0_insert_46b (S : bT0) (x1 : Int64) (x3 : Int32) (x4 : Int32) (x5 : Int32) (Q : Int32 → (bT0) → Prop) (B46 : Int64 → Int32 → Int32 → Int32 → (bT0) → Prop) : Prop := ((x5 ≤ x4 → (vp_in x4 64 ∧ (∀ S1 : bT0, S1 = (b0s_bytes S (vp_updL (b0g_bytes S) (x4).toNatClampNeg x1)) → (vp_in x4 64 ∧ (∀ S2 : bT0, S2 = (b0s_lengths S1 (upd (b0g_lengths S1) (x4).toNatClampNeg x3)) → (∀ S3 : bT0, S3 = (b0s_count S2 ((b0g_count S2) + (1 : Int32))) → (Q x4 S3))))))) ∧ (¬ x5 ≤ x4 → (vp_in (x5 - (1 : Int32)) 64 ∧ (vp_in x5 64 ∧ (∀ S4 : bT0, S4 = (b0s_bytes S (vp_updL (b0g_bytes S) (x5).toNatClampNeg ((b0g_bytes S) ((x5 - (1 : Int32))).toNatClampNeg))) → (vp_in (x5 - (1 : Int32)) 64 ∧ (vp_in x5 64 ∧ (∀ S5 : bT0, S5 = (b0s_lengths S4 (upd (b0g_lengths S4) (x5).toNatClampNeg ((b0g_lengths S4) ((x5 - (1 : Int32))).toNatClampNeg))) → (B46 (x1) (x3) (x4) ((x5 + (-1 : Int32))) S5)))))))))
set_option maxRecDepth 20000 in
theorem t_X0_insert_46b {X : bf_X} (C : bf_C X RX0 cX0_insert 6 (some .int)) (hR : bf_Rm X 3 75) (S : bT0) (x1 : Int64) (x3 : Int32) (x4 : Int32) (x5 : Int32) (Q : Int32 → (bT0) → Prop) (B46 : Int64 → Int32 → Int32 → Int32 → (bT0) → Prop) (hB46 : ∀ (x1 : Int64) (x3 : Int32) (x4 : Int32) (x5 : Int32) (S : bT0), B46 x1 x3 x4 x5 S → bf_A X (bf_Zi X bW0 Q) 6 46 [some (.ref 0), some (.long x1), none, some (.int x3), some (.int x4), some (.int x5)] [] (bW0 S)) (h : wp_X0_insert_46b S x1 x3 x4 x5 Q B46) : bf_A X (bf_Zi X bW0 Q) 6 46 [some (.ref 0), some (.long x1), none, some (.int x3), some (.int x4), some (.int x5)] [] (bW0 S) := by
  unfold wp_X0_insert_46b at h
  refine bs_iload C (bf_dk dd_X0_insert 25 rfl) rfl ?_
  refine bs_iload C (bf_dk dd_X0_insert 26 rfl) rfl ?_
  refine bs_icmp_le C (bf_dk dd_X0_insert 27 rfl) (tgt := 91) rfl (fun c => ?_) (fun c => ?_)
  · replace h := h.1 c
    refine bs_aload_n C (bf_dk dd_X0_insert 50 rfl) rfl ?_
    refine bs_get C (bf_dk dd_X0_insert 51 rfl) cl_0 in_0 0 (Nat.le_of_ble_eq_true rfl) rfl f_0_9 (ge_bW0_0 S) rfl ?_
    refine bs_iload C (bf_dk dd_X0_insert 52 rfl) rfl ?_
    refine bs_lload_n C (bf_dk dd_X0_insert 53 rfl) rfl ?_
    obtain ⟨hi, h⟩ := h
    refine bs_last C (bf_dk dd_X0_insert 54 rfl) (ge_bW0_1 S) hi (ar_bW0_1 S _) ?_
    refine bs_nameS bW0 (fun S1 eS1 => ?_)
    replace h := h S1 eS1
    refine bs_aload_n C (bf_dk dd_X0_insert 55 rfl) rfl ?_
    refine bs_get C (bf_dk dd_X0_insert 56 rfl) cl_0 in_0 1 (Nat.le_of_ble_eq_true rfl) rfl f_0_15 (ge_bW0_0 S1) rfl ?_
    refine bs_iload C (bf_dk dd_X0_insert 57 rfl) rfl ?_
    refine bs_iload_n C (bf_dk dd_X0_insert 58 rfl) rfl ?_
    obtain ⟨hi, h⟩ := h
    refine bs_iast C (bf_dk dd_X0_insert 59 rfl) (ge_bW0_2 S1) hi (ar_bW0_2 S1 _) ?_
    refine bs_nameS bW0 (fun S2 eS2 => ?_)
    replace h := h S2 eS2
    refine bs_aload_n C (bf_dk dd_X0_insert 60 rfl) rfl ?_
    refine bs_dup C (bf_dk dd_X0_insert 61 rfl) rfl ?_
    refine bs_get C (bf_dk dd_X0_insert 62 rfl) cl_0 in_0 2 (Nat.le_of_ble_eq_true rfl) rfl f_0_19 (ge_bW0_0 S2) rfl ?_
    refine bs_iconst C (bf_dk dd_X0_insert 63 rfl) (1 : Int32) (by decide) ?_
    refine bs_iadd C (bf_dk dd_X0_insert 64 rfl) ?_
    refine bs_put C (bf_dk dd_X0_insert 65 rfl) tyX0_ok nmX0 cl_0 in_0 2 (Nat.le_of_ble_eq_true rfl) rfl f_0_19 rfl (ge_bW0_0 S2) (Nat.le_of_ble_eq_true rfl) rfl rfl (pu_bW0_0_2 S2 ((b0g_count S2) + (1 : Int32))) ?_
    refine bs_nameS bW0 (fun S3 eS3 => ?_)
    replace h := h S3 eS3
    refine bs_iload C (bf_dk dd_X0_insert 66 rfl) rfl ?_
    exact bs_iret (u := S3) C (bf_dk dd_X0_insert 67 rfl) rfl h
  · replace h := h.2 c
    refine bs_aload_n C (bf_dk dd_X0_insert 28 rfl) rfl ?_
    refine bs_get C (bf_dk dd_X0_insert 29 rfl) cl_0 in_0 0 (Nat.le_of_ble_eq_true rfl) rfl f_0_9 (ge_bW0_0 S) rfl ?_
    refine bs_iload C (bf_dk dd_X0_insert 30 rfl) rfl ?_
    refine bs_aload_n C (bf_dk dd_X0_insert 31 rfl) rfl ?_
    refine bs_get C (bf_dk dd_X0_insert 32 rfl) cl_0 in_0 0 (Nat.le_of_ble_eq_true rfl) rfl f_0_9 (ge_bW0_0 S) rfl ?_
    refine bs_iload C (bf_dk dd_X0_insert 33 rfl) rfl ?_
    refine bs_iconst C (bf_dk dd_X0_insert 34 rfl) (1 : Int32) (by decide) ?_
    refine bs_isub C (bf_dk dd_X0_insert 35 rfl) ?_
    obtain ⟨hi, h⟩ := h
    refine bs_lald C (bf_dk dd_X0_insert 36 rfl) (ge_bW0_1 S) hi ?_
    obtain ⟨hi, h⟩ := h
    refine bs_last C (bf_dk dd_X0_insert 37 rfl) (ge_bW0_1 S) hi (ar_bW0_1 S _) ?_
    refine bs_nameS bW0 (fun S4 eS4 => ?_)
    replace h := h S4 eS4
    refine bs_aload_n C (bf_dk dd_X0_insert 38 rfl) rfl ?_
    refine bs_get C (bf_dk dd_X0_insert 39 rfl) cl_0 in_0 1 (Nat.le_of_ble_eq_true rfl) rfl f_0_15 (ge_bW0_0 S4) rfl ?_
    refine bs_iload C (bf_dk dd_X0_insert 40 rfl) rfl ?_
    refine bs_aload_n C (bf_dk dd_X0_insert 41 rfl) rfl ?_
    refine bs_get C (bf_dk dd_X0_insert 42 rfl) cl_0 in_0 1 (Nat.le_of_ble_eq_true rfl) rfl f_0_15 (ge_bW0_0 S4) rfl ?_
    refine bs_iload C (bf_dk dd_X0_insert 43 rfl) rfl ?_
    refine bs_iconst C (bf_dk dd_X0_insert 44 rfl) (1 : Int32) (by decide) ?_
    refine bs_isub C (bf_dk dd_X0_insert 45 rfl) ?_
    obtain ⟨hi, h⟩ := h
    refine bs_iald C (bf_dk dd_X0_insert 46 rfl) (ge_bW0_2 S4) hi ?_
    obtain ⟨hi, h⟩ := h
    refine bs_iast C (bf_dk dd_X0_insert 47 rfl) (ge_bW0_2 S4) hi (ar_bW0_2 S4 _) ?_
    refine bs_nameS bW0 (fun S5 eS5 => ?_)
    replace h := h S5 eS5
    refine bs_iinc C (bf_dk dd_X0_insert 48 rfl) (x5 + (-1 : Int32)) rfl rfl (Nat.le_of_ble_eq_true rfl) (Nat.le_of_ble_eq_true rfl) (lv2 := [some (.ref 0), some (.long x1), none, some (.int x3), some (.int x4), some (.int (x5 + (-1 : Int32)))]) rfl ?_
    refine bs_goto C (bf_dk dd_X0_insert 49 rfl) (tgt := 46) rfl ?_
    exact bs_weak (bf_s1 (bf_s1 (bf_sn (bf_s1 (bf_s1 (bf_s1 bf_s0)))))) (hB46 (x1) (x3) (x4) ((x5 + (-1 : Int32))) S5 h)
def wp_X0_insert_46 (S : bT0) (x1 : Int64) (x3 : Int32) (x4 : Int32) (x5 : Int32) (Q : Int32 → (bT0) → Prop) : Prop := ∃ I : Nat → Int64 → Int32 → Int32 → Int32 → (bT0) → Prop, (∃ n : Nat, I n x1 x3 x4 x5 S) ∧ ∀ (n : Nat) (x1 : Int64) (x3 : Int32) (x4 : Int32) (x5 : Int32) (S : bT0), I n x1 x3 x4 x5 S → wp_X0_insert_46b S x1 x3 x4 x5 Q (fun x1 x3 x4 x5 S => ∃ n2 : Nat, n2 < n ∧ I n2 x1 x3 x4 x5 S)
theorem t_X0_insert_46 {X : bf_X} (C : bf_C X RX0 cX0_insert 6 (some .int)) (hR : bf_Rm X 3 75) (S : bT0) (x1 : Int64) (x3 : Int32) (x4 : Int32) (x5 : Int32) (Q : Int32 → (bT0) → Prop) (h : wp_X0_insert_46 S x1 x3 x4 x5 Q) : bf_A X (bf_Zi X bW0 Q) 6 46 [some (.ref 0), some (.long x1), none, some (.int x3), some (.int x4), some (.int x5)] [] (bW0 S) := by
  obtain ⟨I, ⟨n0, h0⟩, hI⟩ := h
  have key : ∀ (n : Nat) (x1 : Int64) (x3 : Int32) (x4 : Int32) (x5 : Int32) (S : bT0), I n x1 x3 x4 x5 S → bf_A X (bf_Zi X bW0 Q) 6 46 [some (.ref 0), some (.long x1), none, some (.int x3), some (.int x4), some (.int x5)] [] (bW0 S) := by
    intro n
    induction n using Nat.strongRecOn with
    | _ n ih =>
      intro x1 x3 x4 x5 S hi
      exact t_X0_insert_46b C hR S x1 x3 x4 x5 Q _ (fun x1 x3 x4 x5 S hb => by obtain ⟨n2, hn, hi2⟩ := hb; exact ih n2 hn x1 x3 x4 x5 S hi2) (hI n x1 x3 x4 x5 S hi)
  exact key n0 x1 x3 x4 x5 S h0
def wp_X0_insert_40 (S : bT0) (x1 : Int64) (x3 : Int32) (x4 : Int32) (Q : Int32 → (bT0) → Prop) : Prop := (wp_X0_insert_46 S (x1) (x3) (x4) ((b0g_count S)) Q)
set_option maxRecDepth 20000 in
theorem t_X0_insert_40 {X : bf_X} (C : bf_C X RX0 cX0_insert 6 (some .int)) (hR : bf_Rm X 3 75) (S : bT0) (x1 : Int64) (x3 : Int32) (x4 : Int32) (Q : Int32 → (bT0) → Prop) (h : wp_X0_insert_40 S x1 x3 x4 Q) : bf_A X (bf_Zi X bW0 Q) 6 40 [some (.ref 0), some (.long x1), none, some (.int x3), some (.int x4), none] [] (bW0 S) := by
  unfold wp_X0_insert_40 at h
  refine bs_aload_n C (bf_dk dd_X0_insert 22 rfl) rfl ?_
  refine bs_get C (bf_dk dd_X0_insert 23 rfl) cl_0 in_0 2 (Nat.le_of_ble_eq_true rfl) rfl f_0_19 (ge_bW0_0 S) rfl ?_
  refine bs_istore C (bf_dk dd_X0_insert 24 rfl) (Nat.le_of_ble_eq_true rfl) (Nat.le_of_ble_eq_true rfl) (lv2 := [some (.ref 0), some (.long x1), none, some (.int x3), some (.int x4), some (.int (b0g_count S))]) rfl ?_
  exact bs_weak (bf_s1 (bf_s1 (bf_sn (bf_s1 (bf_s1 (bf_s1 bf_s0)))))) (t_X0_insert_46 C hR S (x1) (x3) (x4) ((b0g_count S)) Q h)
def wp_X0_insert (S : bT0) (a1 : Int64) (a3 : Int32) (Q : Int32 → (bT0) → Prop) : Prop := (wp_X0_ahead S (a1) (a3) (fun r6 => (((64 : Int32) ≤ (b0g_count S) → (Q (-1 : Int32) S)) ∧ (¬ (64 : Int32) ≤ (b0g_count S) → (wp_X0_bytesAt S (r6) (fun r8 => ((¬ (lg_cmp r8 a1) = 0 → (wp_X0_insert_40 S (a1) (a3) (r6) Q)) ∧ ((lg_cmp r8 a1) = 0 → (wp_X0_lengthAt S (r6) (fun r10 => ((¬ r10 = a3 → (wp_X0_insert_40 S (a1) (a3) (r6) Q)) ∧ (r10 = a3 → (Q (-1 : Int32) S)))))))))))))
set_option maxRecDepth 20000 in
theorem t_X0_insert {X : bf_X} (C : bf_C X RX0 cX0_insert 6 (some .int)) (hR : bf_Rm X 3 75) (S : bT0) (a1 : Int64) (a3 : Int32) (Q : Int32 → (bT0) → Prop) (h : wp_X0_insert S a1 a3 Q) : bf_A X (bf_Zi X bW0 Q) 6 0 [some (.ref 0), some (.long a1), none, some (.int a3), none, none] [] (bW0 S) := by
  unfold wp_X0_insert at h
  refine bs_aload_n C (bf_dk dd_X0_insert 0 rfl) rfl ?_
  refine bs_lload_n C (bf_dk dd_X0_insert 1 rfl) rfl ?_
  refine bs_iload_n C (bf_dk dd_X0_insert 2 rfl) rfl ?_
  refine bs_selfPV_i C hR (c_X0_ahead _ _ _ _ _ S (a1) (a3) _ h) my_X0_ahead m_0_39 rfl cl_0 (ge_bW0_0 _) rfl (Nat.le_of_ble_eq_true rfl) (Nat.le_of_ble_eq_true rfl) (st := []) (Nat.le_of_ble_eq_true rfl) (bf_dk dd_X0_insert 3 rfl) rfl (fun r6 h => ?_)
  refine bs_istore C (bf_dk dd_X0_insert 4 rfl) (Nat.le_of_ble_eq_true rfl) (Nat.le_of_ble_eq_true rfl) (lv2 := [some (.ref 0), some (.long a1), none, some (.int a3), some (.int r6), none]) rfl ?_
  refine bs_aload_n C (bf_dk dd_X0_insert 5 rfl) rfl ?_
  refine bs_get C (bf_dk dd_X0_insert 6 rfl) cl_0 in_0 2 (Nat.le_of_ble_eq_true rfl) rfl f_0_19 (ge_bW0_0 S) rfl ?_
  refine bs_bipush C (bf_dk dd_X0_insert 7 rfl) (64 : Int32) (by decide) ?_
  refine bs_icmp_ge C (bf_dk dd_X0_insert 8 rfl) (tgt := 38) rfl (fun c => ?_) (fun c => ?_)
  · replace h := h.1 c
    refine bs_iconst C (bf_dk dd_X0_insert 20 rfl) (-1 : Int32) (by decide) ?_
    exact bs_iret (u := S) C (bf_dk dd_X0_insert 21 rfl) rfl h
  · replace h := h.2 c
    refine bs_aload_n C (bf_dk dd_X0_insert 9 rfl) rfl ?_
    refine bs_iload C (bf_dk dd_X0_insert 10 rfl) rfl ?_
    refine bs_selfPV_l C hR (c_X0_bytesAt _ _ _ _ _ S (r6) _ h) my_X0_bytesAt m_0_27 rfl cl_0 (ge_bW0_0 _) rfl (Nat.le_of_ble_eq_true rfl) (Nat.le_of_ble_eq_true rfl) (st := []) (Nat.le_of_ble_eq_true rfl) (bf_dk dd_X0_insert 11 rfl) rfl (fun r8 h => ?_)
    refine bs_lload_n C (bf_dk dd_X0_insert 12 rfl) rfl ?_
    refine bs_lcmp C (bf_dk dd_X0_insert 13 rfl) ?_
    refine bs_if_ne C (bf_dk dd_X0_insert 14 rfl) (tgt := 40) rfl (fun c => ?_) (fun c => ?_)
    · replace h := h.1 c
      exact bs_weak (bf_s1 (bf_s1 (bf_sn (bf_s1 (bf_s1 (bf_sn bf_s0)))))) (t_X0_insert_40 C hR S (a1) (a3) (r6) Q h)
    · replace h := h.2 c
      refine bs_aload_n C (bf_dk dd_X0_insert 15 rfl) rfl ?_
      refine bs_iload C (bf_dk dd_X0_insert 16 rfl) rfl ?_
      refine bs_selfPV_i C hR (c_X0_lengthAt _ _ _ _ _ S (r6) _ h) my_X0_lengthAt m_0_31 rfl cl_0 (ge_bW0_0 _) rfl (Nat.le_of_ble_eq_true rfl) (Nat.le_of_ble_eq_true rfl) (st := []) (Nat.le_of_ble_eq_true rfl) (bf_dk dd_X0_insert 17 rfl) rfl (fun r10 h => ?_)
      refine bs_iload_n C (bf_dk dd_X0_insert 18 rfl) rfl ?_
      refine bs_icmp_ne C (bf_dk dd_X0_insert 19 rfl) (tgt := 40) rfl (fun c => ?_) (fun c => ?_)
      · replace h := h.1 c
        exact bs_weak (bf_s1 (bf_s1 (bf_sn (bf_s1 (bf_s1 (bf_sn bf_s0)))))) (t_X0_insert_40 C hR S (a1) (a3) (r6) Q h)
      · replace h := h.2 c
        refine bs_iconst C (bf_dk dd_X0_insert 20 rfl) (-1 : Int32) (by decide) ?_
        exact bs_iret (u := S) C (bf_dk dd_X0_insert 21 rfl) rfl h
theorem c_X0_insert (l : Launch) (dC : Nat → ClassId) (dI : Nat → Nat → Nat) (ac : Nat → ClassId) (al : Nat → Nat) (S : bT0) (a1 : Int64) (a3 : Int32) (Q : Int32 → (bT0) → Prop) (h : wp_X0_insert S a1 a3 Q) : bf_M l yX0_insert cX0_insert 6 (some .int) 3 75 dC dI ac al [.ref 0, .long a1, .int a3] (bW0 S) (bf_Ki dC dI ac al bW0 Q) := by
  refine bf_start [some (.ref 0), some (.long a1), none, some (.int a3), none, none] (by decide) (Nat.le_of_ble_eq_true rfl) (bf_s1 (bf_s1 (bf_sn (bf_s1 (bf_en 2))))) ?_
  intro X hl C hR e1 e2 e3 e4
  subst e1; subst e2; subst e3; subst e4
  exact t_X0_insert C hR S a1 a3 Q h
def wp_X0_append (S : bT0) (a1 : Int64) (a3 : Int32) (Q : (bT0) → Prop) : Prop := (((64 : Int32) ≤ (b0g_count S) → (Q S)) ∧ (¬ (64 : Int32) ≤ (b0g_count S) → (vp_in (b0g_count S) 64 ∧ (∀ S1 : bT0, S1 = (b0s_bytes S (vp_updL (b0g_bytes S) ((b0g_count S)).toNatClampNeg a1)) → (vp_in (b0g_count S1) 64 ∧ (∀ S2 : bT0, S2 = (b0s_lengths S1 (upd (b0g_lengths S1) ((b0g_count S1)).toNatClampNeg a3)) → (∀ S3 : bT0, S3 = (b0s_count S2 ((b0g_count S2) + (1 : Int32))) → (Q S3))))))))
set_option maxRecDepth 20000 in
theorem t_X0_append {X : bf_X} (C : bf_C X RX0 cX0_append 4 none) (hR : bf_Rm X 0 0) (S : bT0) (a1 : Int64) (a3 : Int32) (Q : (bT0) → Prop) (h : wp_X0_append S a1 a3 Q) : bf_A X (bf_Zv X bW0 Q) 4 0 [some (.ref 0), some (.long a1), none, some (.int a3)] [] (bW0 S) := by
  unfold wp_X0_append at h
  refine bs_aload_n C (bf_dk dd_X0_append 0 rfl) rfl ?_
  refine bs_get C (bf_dk dd_X0_append 1 rfl) cl_0 in_0 2 (Nat.le_of_ble_eq_true rfl) rfl f_0_19 (ge_bW0_0 S) rfl ?_
  refine bs_bipush C (bf_dk dd_X0_append 2 rfl) (64 : Int32) (by decide) ?_
  refine bs_icmp_ge C (bf_dk dd_X0_append 3 rfl) (tgt := 39) rfl (fun c => ?_) (fun c => ?_)
  · replace h := h.1 c
    exact bs_vret (u := S) C (bf_dk dd_X0_append 22 rfl) rfl h
  · replace h := h.2 c
    refine bs_aload_n C (bf_dk dd_X0_append 4 rfl) rfl ?_
    refine bs_get C (bf_dk dd_X0_append 5 rfl) cl_0 in_0 0 (Nat.le_of_ble_eq_true rfl) rfl f_0_9 (ge_bW0_0 S) rfl ?_
    refine bs_aload_n C (bf_dk dd_X0_append 6 rfl) rfl ?_
    refine bs_get C (bf_dk dd_X0_append 7 rfl) cl_0 in_0 2 (Nat.le_of_ble_eq_true rfl) rfl f_0_19 (ge_bW0_0 S) rfl ?_
    refine bs_lload_n C (bf_dk dd_X0_append 8 rfl) rfl ?_
    obtain ⟨hi, h⟩ := h
    refine bs_last C (bf_dk dd_X0_append 9 rfl) (ge_bW0_1 S) hi (ar_bW0_1 S _) ?_
    refine bs_nameS bW0 (fun S1 eS1 => ?_)
    replace h := h S1 eS1
    refine bs_aload_n C (bf_dk dd_X0_append 10 rfl) rfl ?_
    refine bs_get C (bf_dk dd_X0_append 11 rfl) cl_0 in_0 1 (Nat.le_of_ble_eq_true rfl) rfl f_0_15 (ge_bW0_0 S1) rfl ?_
    refine bs_aload_n C (bf_dk dd_X0_append 12 rfl) rfl ?_
    refine bs_get C (bf_dk dd_X0_append 13 rfl) cl_0 in_0 2 (Nat.le_of_ble_eq_true rfl) rfl f_0_19 (ge_bW0_0 S1) rfl ?_
    refine bs_iload_n C (bf_dk dd_X0_append 14 rfl) rfl ?_
    obtain ⟨hi, h⟩ := h
    refine bs_iast C (bf_dk dd_X0_append 15 rfl) (ge_bW0_2 S1) hi (ar_bW0_2 S1 _) ?_
    refine bs_nameS bW0 (fun S2 eS2 => ?_)
    replace h := h S2 eS2
    refine bs_aload_n C (bf_dk dd_X0_append 16 rfl) rfl ?_
    refine bs_dup C (bf_dk dd_X0_append 17 rfl) rfl ?_
    refine bs_get C (bf_dk dd_X0_append 18 rfl) cl_0 in_0 2 (Nat.le_of_ble_eq_true rfl) rfl f_0_19 (ge_bW0_0 S2) rfl ?_
    refine bs_iconst C (bf_dk dd_X0_append 19 rfl) (1 : Int32) (by decide) ?_
    refine bs_iadd C (bf_dk dd_X0_append 20 rfl) ?_
    refine bs_put C (bf_dk dd_X0_append 21 rfl) tyX0_ok nmX0 cl_0 in_0 2 (Nat.le_of_ble_eq_true rfl) rfl f_0_19 rfl (ge_bW0_0 S2) (Nat.le_of_ble_eq_true rfl) rfl rfl (pu_bW0_0_2 S2 ((b0g_count S2) + (1 : Int32))) ?_
    refine bs_nameS bW0 (fun S3 eS3 => ?_)
    replace h := h S3 eS3
    exact bs_vret (u := S3) C (bf_dk dd_X0_append 22 rfl) rfl h
theorem c_X0_append (l : Launch) (dC : Nat → ClassId) (dI : Nat → Nat → Nat) (ac : Nat → ClassId) (al : Nat → Nat) (S : bT0) (a1 : Int64) (a3 : Int32) (Q : (bT0) → Prop) (h : wp_X0_append S a1 a3 Q) : bf_M l yX0_append cX0_append 4 none 0 0 dC dI ac al [.ref 0, .long a1, .int a3] (bW0 S) (bf_Kv dC dI ac al bW0 Q) := by
  refine bf_start [some (.ref 0), some (.long a1), none, some (.int a3)] (by decide) (Nat.le_of_ble_eq_true rfl) (bf_s1 (bf_s1 (bf_sn (bf_s1 bf_s0)))) ?_
  intro X hl C hR e1 e2 e3 e4
  subst e1; subst e2; subst e3; subst e4
  exact t_X0_append C hR S a1 a3 Q h
def wp_X0_drop_16b (S : bT0) (x2 : Int32) (Q : (bT0) → Prop) (B16 : Int32 → (bT0) → Prop) : Prop := (((b0g_count S) ≤ x2 → (∀ S1 : bT0, S1 = (b0s_count S ((b0g_count S) - (1 : Int32))) → (Q S1))) ∧ (¬ (b0g_count S) ≤ x2 → (vp_in x2 64 ∧ (vp_in (x2 - (1 : Int32)) 64 ∧ (∀ S2 : bT0, S2 = (b0s_bytes S (vp_updL (b0g_bytes S) ((x2 - (1 : Int32))).toNatClampNeg ((b0g_bytes S) (x2).toNatClampNeg))) → (vp_in x2 64 ∧ (vp_in (x2 - (1 : Int32)) 64 ∧ (∀ S3 : bT0, S3 = (b0s_lengths S2 (upd (b0g_lengths S2) ((x2 - (1 : Int32))).toNatClampNeg ((b0g_lengths S2) (x2).toNatClampNeg))) → (B16 ((x2 + (1 : Int32))) S3)))))))))
set_option maxRecDepth 20000 in
theorem t_X0_drop_16b {X : bf_X} (C : bf_C X RX0 cX0_drop 3 none) (hR : bf_Rm X 0 0) (S : bT0) (x2 : Int32) (Q : (bT0) → Prop) (B16 : Int32 → (bT0) → Prop) (hB16 : ∀ (x2 : Int32) (S : bT0), B16 x2 S → bf_A X (bf_Zv X bW0 Q) 3 16 [some (.ref 0), none, some (.int x2)] [] (bW0 S)) (h : wp_X0_drop_16b S x2 Q B16) : bf_A X (bf_Zv X bW0 Q) 3 16 [some (.ref 0), none, some (.int x2)] [] (bW0 S) := by
  unfold wp_X0_drop_16b at h
  refine bs_iload_n C (bf_dk dd_X0_drop 10 rfl) rfl ?_
  refine bs_aload_n C (bf_dk dd_X0_drop 11 rfl) rfl ?_
  refine bs_get C (bf_dk dd_X0_drop 12 rfl) cl_0 in_0 2 (Nat.le_of_ble_eq_true rfl) rfl f_0_19 (ge_bW0_0 S) rfl ?_
  refine bs_icmp_ge C (bf_dk dd_X0_drop 13 rfl) (tgt := 58) rfl (fun c => ?_) (fun c => ?_)
  · replace h := h.1 c
    refine bs_aload_n C (bf_dk dd_X0_drop 36 rfl) rfl ?_
    refine bs_dup C (bf_dk dd_X0_drop 37 rfl) rfl ?_
    refine bs_get C (bf_dk dd_X0_drop 38 rfl) cl_0 in_0 2 (Nat.le_of_ble_eq_true rfl) rfl f_0_19 (ge_bW0_0 S) rfl ?_
    refine bs_iconst C (bf_dk dd_X0_drop 39 rfl) (1 : Int32) (by decide) ?_
    refine bs_isub C (bf_dk dd_X0_drop 40 rfl) ?_
    refine bs_put C (bf_dk dd_X0_drop 41 rfl) tyX0_ok nmX0 cl_0 in_0 2 (Nat.le_of_ble_eq_true rfl) rfl f_0_19 rfl (ge_bW0_0 S) (Nat.le_of_ble_eq_true rfl) rfl rfl (pu_bW0_0_2 S ((b0g_count S) - (1 : Int32))) ?_
    refine bs_nameS bW0 (fun S1 eS1 => ?_)
    replace h := h S1 eS1
    exact bs_vret (u := S1) C (bf_dk dd_X0_drop 42 rfl) rfl h
  · replace h := h.2 c
    refine bs_aload_n C (bf_dk dd_X0_drop 14 rfl) rfl ?_
    refine bs_get C (bf_dk dd_X0_drop 15 rfl) cl_0 in_0 0 (Nat.le_of_ble_eq_true rfl) rfl f_0_9 (ge_bW0_0 S) rfl ?_
    refine bs_iload_n C (bf_dk dd_X0_drop 16 rfl) rfl ?_
    refine bs_iconst C (bf_dk dd_X0_drop 17 rfl) (1 : Int32) (by decide) ?_
    refine bs_isub C (bf_dk dd_X0_drop 18 rfl) ?_
    refine bs_aload_n C (bf_dk dd_X0_drop 19 rfl) rfl ?_
    refine bs_get C (bf_dk dd_X0_drop 20 rfl) cl_0 in_0 0 (Nat.le_of_ble_eq_true rfl) rfl f_0_9 (ge_bW0_0 S) rfl ?_
    refine bs_iload_n C (bf_dk dd_X0_drop 21 rfl) rfl ?_
    obtain ⟨hi, h⟩ := h
    refine bs_lald C (bf_dk dd_X0_drop 22 rfl) (ge_bW0_1 S) hi ?_
    obtain ⟨hi, h⟩ := h
    refine bs_last C (bf_dk dd_X0_drop 23 rfl) (ge_bW0_1 S) hi (ar_bW0_1 S _) ?_
    refine bs_nameS bW0 (fun S2 eS2 => ?_)
    replace h := h S2 eS2
    refine bs_aload_n C (bf_dk dd_X0_drop 24 rfl) rfl ?_
    refine bs_get C (bf_dk dd_X0_drop 25 rfl) cl_0 in_0 1 (Nat.le_of_ble_eq_true rfl) rfl f_0_15 (ge_bW0_0 S2) rfl ?_
    refine bs_iload_n C (bf_dk dd_X0_drop 26 rfl) rfl ?_
    refine bs_iconst C (bf_dk dd_X0_drop 27 rfl) (1 : Int32) (by decide) ?_
    refine bs_isub C (bf_dk dd_X0_drop 28 rfl) ?_
    refine bs_aload_n C (bf_dk dd_X0_drop 29 rfl) rfl ?_
    refine bs_get C (bf_dk dd_X0_drop 30 rfl) cl_0 in_0 1 (Nat.le_of_ble_eq_true rfl) rfl f_0_15 (ge_bW0_0 S2) rfl ?_
    refine bs_iload_n C (bf_dk dd_X0_drop 31 rfl) rfl ?_
    obtain ⟨hi, h⟩ := h
    refine bs_iald C (bf_dk dd_X0_drop 32 rfl) (ge_bW0_2 S2) hi ?_
    obtain ⟨hi, h⟩ := h
    refine bs_iast C (bf_dk dd_X0_drop 33 rfl) (ge_bW0_2 S2) hi (ar_bW0_2 S2 _) ?_
    refine bs_nameS bW0 (fun S3 eS3 => ?_)
    replace h := h S3 eS3
    refine bs_iinc C (bf_dk dd_X0_drop 34 rfl) (x2 + (1 : Int32)) rfl rfl (Nat.le_of_ble_eq_true rfl) (Nat.le_of_ble_eq_true rfl) (lv2 := [some (.ref 0), none, some (.int (x2 + (1 : Int32)))]) rfl ?_
    refine bs_goto C (bf_dk dd_X0_drop 35 rfl) (tgt := 16) rfl ?_
    exact bs_weak (bf_s1 (bf_sn (bf_s1 bf_s0))) (hB16 ((x2 + (1 : Int32))) S3 h)
def wp_X0_drop_16 (S : bT0) (x2 : Int32) (Q : (bT0) → Prop) : Prop := ∃ I : Nat → Int32 → (bT0) → Prop, (∃ n : Nat, I n x2 S) ∧ ∀ (n : Nat) (x2 : Int32) (S : bT0), I n x2 S → wp_X0_drop_16b S x2 Q (fun x2 S => ∃ n2 : Nat, n2 < n ∧ I n2 x2 S)
theorem t_X0_drop_16 {X : bf_X} (C : bf_C X RX0 cX0_drop 3 none) (hR : bf_Rm X 0 0) (S : bT0) (x2 : Int32) (Q : (bT0) → Prop) (h : wp_X0_drop_16 S x2 Q) : bf_A X (bf_Zv X bW0 Q) 3 16 [some (.ref 0), none, some (.int x2)] [] (bW0 S) := by
  obtain ⟨I, ⟨n0, h0⟩, hI⟩ := h
  have key : ∀ (n : Nat) (x2 : Int32) (S : bT0), I n x2 S → bf_A X (bf_Zv X bW0 Q) 3 16 [some (.ref 0), none, some (.int x2)] [] (bW0 S) := by
    intro n
    induction n using Nat.strongRecOn with
    | _ n ih =>
      intro x2 S hi
      exact t_X0_drop_16b C hR S x2 Q _ (fun x2 S hb => by obtain ⟨n2, hn, hi2⟩ := hb; exact ih n2 hn x2 S hi2) (hI n x2 S hi)
  exact key n0 x2 S h0
def wp_X0_drop (S : bT0) (a1 : Int32) (Q : (bT0) → Prop) : Prop := ((a1 < 0 → (Q S)) ∧ (¬ a1 < 0 → (((b0g_count S) ≤ a1 → (Q S)) ∧ (¬ (b0g_count S) ≤ a1 → (wp_X0_drop_16 S ((a1 + (1 : Int32))) Q)))))
set_option maxRecDepth 20000 in
theorem t_X0_drop {X : bf_X} (C : bf_C X RX0 cX0_drop 3 none) (hR : bf_Rm X 0 0) (S : bT0) (a1 : Int32) (Q : (bT0) → Prop) (h : wp_X0_drop S a1 Q) : bf_A X (bf_Zv X bW0 Q) 3 0 [some (.ref 0), some (.int a1), none] [] (bW0 S) := by
  unfold wp_X0_drop at h
  refine bs_iload_n C (bf_dk dd_X0_drop 0 rfl) rfl ?_
  refine bs_if_lt C (bf_dk dd_X0_drop 1 rfl) (tgt := 68) rfl (fun c => ?_) (fun c => ?_)
  · replace h := h.1 c
    exact bs_vret (u := S) C (bf_dk dd_X0_drop 42 rfl) rfl h
  · replace h := h.2 c
    refine bs_iload_n C (bf_dk dd_X0_drop 2 rfl) rfl ?_
    refine bs_aload_n C (bf_dk dd_X0_drop 3 rfl) rfl ?_
    refine bs_get C (bf_dk dd_X0_drop 4 rfl) cl_0 in_0 2 (Nat.le_of_ble_eq_true rfl) rfl f_0_19 (ge_bW0_0 S) rfl ?_
    refine bs_icmp_ge C (bf_dk dd_X0_drop 5 rfl) (tgt := 68) rfl (fun c => ?_) (fun c => ?_)
    · replace h := h.1 c
      exact bs_vret (u := S) C (bf_dk dd_X0_drop 42 rfl) rfl h
    · replace h := h.2 c
      refine bs_iload_n C (bf_dk dd_X0_drop 6 rfl) rfl ?_
      refine bs_iconst C (bf_dk dd_X0_drop 7 rfl) (1 : Int32) (by decide) ?_
      refine bs_iadd C (bf_dk dd_X0_drop 8 rfl) ?_
      refine bs_istore_n C (bf_dk dd_X0_drop 9 rfl) rfl (Nat.le_of_ble_eq_true rfl) (Nat.le_of_ble_eq_true rfl) (lv2 := [some (.ref 0), some (.int a1), some (.int (a1 + (1 : Int32)))]) rfl ?_
      exact bs_weak (bf_s1 (bf_sn (bf_s1 bf_s0))) (t_X0_drop_16 C hR S ((a1 + (1 : Int32))) Q h)
theorem c_X0_drop (l : Launch) (dC : Nat → ClassId) (dI : Nat → Nat → Nat) (ac : Nat → ClassId) (al : Nat → Nat) (S : bT0) (a1 : Int32) (Q : (bT0) → Prop) (h : wp_X0_drop S a1 Q) : bf_M l yX0_drop cX0_drop 3 none 0 0 dC dI ac al [.ref 0, .int a1] (bW0 S) (bf_Kv dC dI ac al bW0 Q) := by
  refine bf_start [some (.ref 0), some (.int a1), none] (by decide) (Nat.le_of_ble_eq_true rfl) (bf_s1 (bf_s1 (bf_en 1))) ?_
  intro X hl C hR e1 e2 e3 e4
  subst e1; subst e2; subst e3; subst e4
  exact t_X0_drop C hR S a1 Q h
def wp_X0_copyFrom (S : bT0 × bT0) (Q : (bT0 × bT0) → Prop) : Prop := (∀ S1 : bT0 × bT0, S1 = ((b0s_bytes S.1 (va_cpy (b0g_bytes S.2) (b0g_bytes S.1) ((0 : Int32)).toNatClampNeg ((0 : Int32)).toNatClampNeg ((64 : Int32)).toNatClampNeg)), S.2) → (∀ S2 : bT0 × bT0, S2 = ((b0s_lengths S1.1 (va_cpy (b0g_lengths S1.2) (b0g_lengths S1.1) ((0 : Int32)).toNatClampNeg ((0 : Int32)).toNatClampNeg ((64 : Int32)).toNatClampNeg)), S1.2) → (∀ S3 : bT0 × bT0, S3 = ((b0s_count S2.1 (b0g_count S2.2)), S2.2) → (Q S3))))
set_option maxRecDepth 20000 in
theorem t_X0_copyFrom {X : bf_X} (C : bf_C X RX0 cX0_copyFrom 2 none) (hR : bf_Rm X 1 40) (S : bT0 × bT0) (Q : (bT0 × bT0) → Prop) (h : wp_X0_copyFrom S Q) : bf_A X (bf_Zv X bW0_0 Q) 2 0 [some (.ref 0), some (.ref 3)] [] (bW0_0 S) := by
  unfold wp_X0_copyFrom at h
  refine bs_aload_n C (bf_dk dd_X0_copyFrom 0 rfl) rfl ?_
  refine bs_get C (bf_dk dd_X0_copyFrom 1 rfl) cl_0 in_0 0 (Nat.le_of_ble_eq_true rfl) rfl f_0_9 (ge_bW0_0_3 S) rfl ?_
  refine bs_iconst C (bf_dk dd_X0_copyFrom 2 rfl) (0 : Int32) (by decide) ?_
  refine bs_aload_n C (bf_dk dd_X0_copyFrom 3 rfl) rfl ?_
  refine bs_get C (bf_dk dd_X0_copyFrom 4 rfl) cl_0 in_0 0 (Nat.le_of_ble_eq_true rfl) rfl f_0_9 (ge_bW0_0_0 S) rfl ?_
  refine bs_iconst C (bf_dk dd_X0_copyFrom 5 rfl) (0 : Int32) (by decide) ?_
  refine bs_bipush C (bf_dk dd_X0_copyFrom 6 rfl) (64 : Int32) (by decide) ?_
  refine bs_copyL C hR m_0_43 cpw.1 cpw.2.1 cpw.2.2 (ge_bW0_0_4 S) (ge_bW0_0_1 S) (by decide) (by decide) (by decide) (Nat.le_of_ble_eq_true rfl) (Nat.le_of_ble_eq_true rfl) (Nat.le_of_ble_eq_true rfl) (Nat.le_of_ble_eq_true rfl) (bf_dk dd_X0_copyFrom 7 rfl) (ar_bW0_0_1 S _) ?_
  refine bs_nameS bW0_0 (fun S1 eS1 => ?_)
  replace h := h S1 eS1
  refine bs_aload_n C (bf_dk dd_X0_copyFrom 8 rfl) rfl ?_
  refine bs_get C (bf_dk dd_X0_copyFrom 9 rfl) cl_0 in_0 1 (Nat.le_of_ble_eq_true rfl) rfl f_0_15 (ge_bW0_0_3 S1) rfl ?_
  refine bs_iconst C (bf_dk dd_X0_copyFrom 10 rfl) (0 : Int32) (by decide) ?_
  refine bs_aload_n C (bf_dk dd_X0_copyFrom 11 rfl) rfl ?_
  refine bs_get C (bf_dk dd_X0_copyFrom 12 rfl) cl_0 in_0 1 (Nat.le_of_ble_eq_true rfl) rfl f_0_15 (ge_bW0_0_0 S1) rfl ?_
  refine bs_iconst C (bf_dk dd_X0_copyFrom 13 rfl) (0 : Int32) (by decide) ?_
  refine bs_bipush C (bf_dk dd_X0_copyFrom 14 rfl) (64 : Int32) (by decide) ?_
  refine bs_copyI C hR m_0_43 cpw.1 cpw.2.1 cpw.2.2 (ge_bW0_0_5 S1) (ge_bW0_0_2 S1) (by decide) (by decide) (by decide) (Nat.le_of_ble_eq_true rfl) (Nat.le_of_ble_eq_true rfl) (Nat.le_of_ble_eq_true rfl) (Nat.le_of_ble_eq_true rfl) (bf_dk dd_X0_copyFrom 15 rfl) (ar_bW0_0_2 S1 _) ?_
  refine bs_nameS bW0_0 (fun S2 eS2 => ?_)
  replace h := h S2 eS2
  refine bs_aload_n C (bf_dk dd_X0_copyFrom 16 rfl) rfl ?_
  refine bs_aload_n C (bf_dk dd_X0_copyFrom 17 rfl) rfl ?_
  refine bs_get C (bf_dk dd_X0_copyFrom 18 rfl) cl_0 in_0 2 (Nat.le_of_ble_eq_true rfl) rfl f_0_19 (ge_bW0_0_3 S2) rfl ?_
  refine bs_put C (bf_dk dd_X0_copyFrom 19 rfl) tyX0_ok nmX0 cl_0 in_0 2 (Nat.le_of_ble_eq_true rfl) rfl f_0_19 rfl (ge_bW0_0_0 S2) (Nat.le_of_ble_eq_true rfl) rfl rfl (pu_bW0_0_0_2 S2 (b0g_count S2.2)) ?_
  refine bs_nameS bW0_0 (fun S3 eS3 => ?_)
  replace h := h S3 eS3
  exact bs_vret (u := S3) C (bf_dk dd_X0_copyFrom 20 rfl) rfl h
theorem c_X0_copyFrom (l : Launch) (dC : Nat → ClassId) (dI : Nat → Nat → Nat) (ac : Nat → ClassId) (al : Nat → Nat) (S : bT0 × bT0) (Q : (bT0 × bT0) → Prop) (h : wp_X0_copyFrom S Q) : bf_M l yX0_copyFrom cX0_copyFrom 2 none 1 40 dC dI ac al [.ref 0, .ref 3] (bW0_0 S) (bf_Kv dC dI ac al bW0_0 Q) := by
  refine bf_start [some (.ref 0), some (.ref 3)] (by decide) (Nat.le_of_ble_eq_true rfl) (bf_s1 (bf_s1 bf_s0)) ?_
  intro X hl C hR e1 e2 e3 e4
  subst e1; subst e2; subst e3; subst e4
  exact t_X0_copyFrom C hR S Q h
def wp_X0_notIn_33 (S : bT0 × bT0) (x2 : Int32) (x3 : Int32) (Q : Int32 → Prop) (B4 : Int32 → Int32 → Prop) : Prop := (B4 (x2) ((x3 + (1 : Int32))))
set_option maxRecDepth 20000 in
theorem t_X0_notIn_33 {X : bf_X} (C : bf_C X RX0 cX0_notIn 4 (some .int)) (hR : bf_Rm X 4 99) (S : bT0 × bT0) (x2 : Int32) (x3 : Int32) (Q : Int32 → Prop) (B4 : Int32 → Int32 → Prop) (hB4 : ∀ (x2 : Int32) (x3 : Int32), B4 x2 x3 → bf_A X (bf_Zi X bW0_0 (fun r u => u = S ∧ Q r)) 4 4 [some (.ref 0), some (.ref 3), some (.int x2), some (.int x3)] [] (bW0_0 S)) (h : wp_X0_notIn_33 S x2 x3 Q B4) : bf_A X (bf_Zi X bW0_0 (fun r u => u = S ∧ Q r)) 4 33 [some (.ref 0), some (.ref 3), some (.int x2), some (.int x3)] [] (bW0_0 S) := by
  unfold wp_X0_notIn_33 at h
  refine bs_iinc C (bf_dk dd_X0_notIn 19 rfl) (x3 + (1 : Int32)) rfl rfl (Nat.le_of_ble_eq_true rfl) (Nat.le_of_ble_eq_true rfl) (lv2 := [some (.ref 0), some (.ref 3), some (.int x2), some (.int (x3 + (1 : Int32)))]) rfl ?_
  refine bs_goto C (bf_dk dd_X0_notIn 20 rfl) (tgt := 4) rfl ?_
  exact bs_weak (bf_s1 (bf_s1 (bf_s1 (bf_s1 bf_s0)))) (hB4 (x2) ((x3 + (1 : Int32))) h)
def wp_X0_notIn_4b (S : bT0 × bT0) (x2 : Int32) (x3 : Int32) (Q : Int32 → Prop) (B4 : Int32 → Int32 → Prop) : Prop := (((b0g_count S.1) ≤ x3 → (Q x2)) ∧ (¬ (b0g_count S.1) ≤ x3 → (wp_X0_bytesAt S.1 (x3) (fun r1 => (wp_X0_lengthAt S.1 (x3) (fun r3 => (wp_X0_numberOf S.2 (r1) (r3) (fun r5 => ((¬ r5 = (-1 : Int32) → (wp_X0_notIn_33 S (x2) (x3) Q B4)) ∧ (r5 = (-1 : Int32) → (wp_X0_notIn_33 S ((x2 + (1 : Int32))) (x3) Q B4)))))))))))
set_option maxRecDepth 20000 in
theorem t_X0_notIn_4b {X : bf_X} (C : bf_C X RX0 cX0_notIn 4 (some .int)) (hR : bf_Rm X 4 99) (S : bT0 × bT0) (x2 : Int32) (x3 : Int32) (Q : Int32 → Prop) (B4 : Int32 → Int32 → Prop) (hB4 : ∀ (x2 : Int32) (x3 : Int32), B4 x2 x3 → bf_A X (bf_Zi X bW0_0 (fun r u => u = S ∧ Q r)) 4 4 [some (.ref 0), some (.ref 3), some (.int x2), some (.int x3)] [] (bW0_0 S)) (h : wp_X0_notIn_4b S x2 x3 Q B4) : bf_A X (bf_Zi X bW0_0 (fun r u => u = S ∧ Q r)) 4 4 [some (.ref 0), some (.ref 3), some (.int x2), some (.int x3)] [] (bW0_0 S) := by
  unfold wp_X0_notIn_4b at h
  refine bs_iload_n C (bf_dk dd_X0_notIn 4 rfl) rfl ?_
  refine bs_aload_n C (bf_dk dd_X0_notIn 5 rfl) rfl ?_
  refine bs_get C (bf_dk dd_X0_notIn 6 rfl) cl_0 in_0 2 (Nat.le_of_ble_eq_true rfl) rfl f_0_19 (ge_bW0_0_0 S) rfl ?_
  refine bs_icmp_ge C (bf_dk dd_X0_notIn 7 rfl) (tgt := 39) rfl (fun c => ?_) (fun c => ?_)
  · replace h := h.1 c
    refine bs_iload_n C (bf_dk dd_X0_notIn 21 rfl) rfl ?_
    exact bs_iret (u := S) C (bf_dk dd_X0_notIn 22 rfl) rfl ⟨rfl, h⟩
  · replace h := h.2 c
    refine bs_aload_n C (bf_dk dd_X0_notIn 8 rfl) rfl ?_
    refine bs_aload_n C (bf_dk dd_X0_notIn 9 rfl) rfl ?_
    refine bs_iload_n C (bf_dk dd_X0_notIn 10 rfl) rfl ?_
    refine bs_pureV_l (ps := [0, 1, 2]) (w := (bW0_0 S)) C hR (c_X0_bytesAt _ _ _ _ _ S.1 (x3) _ h) my_X0_bytesAt m_0_27 rfl cl_0 (ge_bW0_0 _) rfl (Nat.le_of_ble_eq_true rfl) (Nat.le_of_ble_eq_true rfl) (su_bW0_0_0_bW0 S) rfl (st := [.ref 3]) (Nat.le_of_ble_eq_true rfl) (bf_dk dd_X0_notIn 11 rfl) rfl (fun _ => rfl) (fun r1 h => ?_)
    refine bs_aload_n C (bf_dk dd_X0_notIn 12 rfl) rfl ?_
    refine bs_iload_n C (bf_dk dd_X0_notIn 13 rfl) rfl ?_
    refine bs_pureV_i (ps := [0, 1, 2]) (w := (bW0_0 S)) C hR (c_X0_lengthAt _ _ _ _ _ S.1 (x3) _ h) my_X0_lengthAt m_0_31 rfl cl_0 (ge_bW0_0 _) rfl (Nat.le_of_ble_eq_true rfl) (Nat.le_of_ble_eq_true rfl) (su_bW0_0_0_bW0 S) rfl (st := [.long r1, .ref 3]) (Nat.le_of_ble_eq_true rfl) (bf_dk dd_X0_notIn 14 rfl) rfl (fun _ => rfl) (fun r3 h => ?_)
    refine bs_pureV_i (ps := [3, 4, 5]) (w := (bW0_0 S)) C hR (c_X0_numberOf _ _ _ _ _ S.2 (r1) (r3) _ h) my_X0_numberOf m_0_49 rfl cl_0 (ge_bW0_0 _) rfl (Nat.le_of_ble_eq_true rfl) (Nat.le_of_ble_eq_true rfl) (su_bW0_0_3_bW0 S) rfl (st := []) (Nat.le_of_ble_eq_true rfl) (bf_dk dd_X0_notIn 15 rfl) rfl (fun _ => rfl) (fun r5 h => ?_)
    refine bs_iconst C (bf_dk dd_X0_notIn 16 rfl) (-1 : Int32) (by decide) ?_
    refine bs_icmp_ne C (bf_dk dd_X0_notIn 17 rfl) (tgt := 33) rfl (fun c => ?_) (fun c => ?_)
    · replace h := h.1 c
      exact bs_weak (bf_s1 (bf_s1 (bf_s1 (bf_s1 bf_s0)))) (t_X0_notIn_33 C hR S (x2) (x3) Q B4 hB4 h)
    · replace h := h.2 c
      refine bs_iinc C (bf_dk dd_X0_notIn 18 rfl) (x2 + (1 : Int32)) rfl rfl (Nat.le_of_ble_eq_true rfl) (Nat.le_of_ble_eq_true rfl) (lv2 := [some (.ref 0), some (.ref 3), some (.int (x2 + (1 : Int32))), some (.int x3)]) rfl ?_
      exact bs_weak (bf_s1 (bf_s1 (bf_s1 (bf_s1 bf_s0)))) (t_X0_notIn_33 C hR S ((x2 + (1 : Int32))) (x3) Q B4 hB4 h)
def wp_X0_notIn_4 (S : bT0 × bT0) (x2 : Int32) (x3 : Int32) (Q : Int32 → Prop) : Prop := ∃ I : Nat → Int32 → Int32 → Prop, (∃ n : Nat, I n x2 x3) ∧ ∀ (n : Nat) (x2 : Int32) (x3 : Int32), I n x2 x3 → wp_X0_notIn_4b S x2 x3 Q (fun x2 x3 => ∃ n2 : Nat, n2 < n ∧ I n2 x2 x3)
theorem t_X0_notIn_4 {X : bf_X} (C : bf_C X RX0 cX0_notIn 4 (some .int)) (hR : bf_Rm X 4 99) (S : bT0 × bT0) (x2 : Int32) (x3 : Int32) (Q : Int32 → Prop) (h : wp_X0_notIn_4 S x2 x3 Q) : bf_A X (bf_Zi X bW0_0 (fun r u => u = S ∧ Q r)) 4 4 [some (.ref 0), some (.ref 3), some (.int x2), some (.int x3)] [] (bW0_0 S) := by
  obtain ⟨I, ⟨n0, h0⟩, hI⟩ := h
  have key : ∀ (n : Nat) (x2 : Int32) (x3 : Int32), I n x2 x3 → bf_A X (bf_Zi X bW0_0 (fun r u => u = S ∧ Q r)) 4 4 [some (.ref 0), some (.ref 3), some (.int x2), some (.int x3)] [] (bW0_0 S) := by
    intro n
    induction n using Nat.strongRecOn with
    | _ n ih =>
      intro x2 x3 hi
      exact t_X0_notIn_4b C hR S x2 x3 Q _ (fun x2 x3 hb => by obtain ⟨n2, hn, hi2⟩ := hb; exact ih n2 hn x2 x3 hi2) (hI n x2 x3 hi)
  exact key n0 x2 x3 h0
def wp_X0_notIn (S : bT0 × bT0) (Q : Int32 → Prop) : Prop := (wp_X0_notIn_4 S ((0 : Int32)) ((0 : Int32)) Q)
set_option maxRecDepth 20000 in
theorem t_X0_notIn {X : bf_X} (C : bf_C X RX0 cX0_notIn 4 (some .int)) (hR : bf_Rm X 4 99) (S : bT0 × bT0) (Q : Int32 → Prop) (h : wp_X0_notIn S Q) : bf_A X (bf_Zi X bW0_0 (fun r u => u = S ∧ Q r)) 4 0 [some (.ref 0), some (.ref 3), none, none] [] (bW0_0 S) := by
  unfold wp_X0_notIn at h
  refine bs_iconst C (bf_dk dd_X0_notIn 0 rfl) (0 : Int32) (by decide) ?_
  refine bs_istore_n C (bf_dk dd_X0_notIn 1 rfl) rfl (Nat.le_of_ble_eq_true rfl) (Nat.le_of_ble_eq_true rfl) (lv2 := [some (.ref 0), some (.ref 3), some (.int (0 : Int32)), none]) rfl ?_
  refine bs_iconst C (bf_dk dd_X0_notIn 2 rfl) (0 : Int32) (by decide) ?_
  refine bs_istore_n C (bf_dk dd_X0_notIn 3 rfl) rfl (Nat.le_of_ble_eq_true rfl) (Nat.le_of_ble_eq_true rfl) (lv2 := [some (.ref 0), some (.ref 3), some (.int (0 : Int32)), some (.int (0 : Int32))]) rfl ?_
  exact bs_weak (bf_s1 (bf_s1 (bf_s1 (bf_s1 bf_s0)))) (t_X0_notIn_4 C hR S ((0 : Int32)) ((0 : Int32)) Q h)
theorem c_X0_notIn (l : Launch) (dC : Nat → ClassId) (dI : Nat → Nat → Nat) (ac : Nat → ClassId) (al : Nat → Nat) (S : bT0 × bT0) (Q : Int32 → Prop) (h : wp_X0_notIn S Q) : bf_M l yX0_notIn cX0_notIn 4 (some .int) 4 99 dC dI ac al [.ref 0, .ref 3] (bW0_0 S) (bf_Ki dC dI ac al bW0_0 (fun r u => u = S ∧ Q r)) := by
  refine bf_start [some (.ref 0), some (.ref 3), none, none] (by decide) (Nat.le_of_ble_eq_true rfl) (bf_s1 (bf_s1 (bf_en 2))) ?_
  intro X hl C hR e1 e2 e3 e4
  subst e1; subst e2; subst e3; subst e4
  exact t_X0_notIn C hR S Q h
def wp_X0_ofLength_24 (S : bT0) (x1 : Int32) (x2 : Int32) (x3 : Int32) (Q : Int32 → Prop) (B4 : Int32 → Int32 → Int32 → Prop) : Prop := (B4 (x1) (x2) ((x3 + (1 : Int32))))
set_option maxRecDepth 20000 in
theorem t_X0_ofLength_24 {X : bf_X} (C : bf_C X RX0 cX0_ofLength 4 (some .int)) (hR : bf_Rm X 1 21) (S : bT0) (x1 : Int32) (x2 : Int32) (x3 : Int32) (Q : Int32 → Prop) (B4 : Int32 → Int32 → Int32 → Prop) (hB4 : ∀ (x1 : Int32) (x2 : Int32) (x3 : Int32), B4 x1 x2 x3 → bf_A X (bf_Zi X bW0 (fun r u => u = S ∧ Q r)) 4 4 [some (.ref 0), some (.int x1), some (.int x2), some (.int x3)] [] (bW0 S)) (h : wp_X0_ofLength_24 S x1 x2 x3 Q B4) : bf_A X (bf_Zi X bW0 (fun r u => u = S ∧ Q r)) 4 24 [some (.ref 0), some (.int x1), some (.int x2), some (.int x3)] [] (bW0 S) := by
  unfold wp_X0_ofLength_24 at h
  refine bs_iinc C (bf_dk dd_X0_ofLength 14 rfl) (x3 + (1 : Int32)) rfl rfl (Nat.le_of_ble_eq_true rfl) (Nat.le_of_ble_eq_true rfl) (lv2 := [some (.ref 0), some (.int x1), some (.int x2), some (.int (x3 + (1 : Int32)))]) rfl ?_
  refine bs_goto C (bf_dk dd_X0_ofLength 15 rfl) (tgt := 4) rfl ?_
  exact bs_weak (bf_s1 (bf_s1 (bf_s1 (bf_s1 bf_s0)))) (hB4 (x1) (x2) ((x3 + (1 : Int32))) h)
def wp_X0_ofLength_4b (S : bT0) (x1 : Int32) (x2 : Int32) (x3 : Int32) (Q : Int32 → Prop) (B4 : Int32 → Int32 → Int32 → Prop) : Prop := (((b0g_count S) ≤ x3 → (Q x2)) ∧ (¬ (b0g_count S) ≤ x3 → (wp_X0_lengthAt S (x3) (fun r1 => ((¬ r1 = x1 → (wp_X0_ofLength_24 S (x1) (x2) (x3) Q B4)) ∧ (r1 = x1 → (wp_X0_ofLength_24 S (x1) ((x2 + (1 : Int32))) (x3) Q B4)))))))
set_option maxRecDepth 20000 in
theorem t_X0_ofLength_4b {X : bf_X} (C : bf_C X RX0 cX0_ofLength 4 (some .int)) (hR : bf_Rm X 1 21) (S : bT0) (x1 : Int32) (x2 : Int32) (x3 : Int32) (Q : Int32 → Prop) (B4 : Int32 → Int32 → Int32 → Prop) (hB4 : ∀ (x1 : Int32) (x2 : Int32) (x3 : Int32), B4 x1 x2 x3 → bf_A X (bf_Zi X bW0 (fun r u => u = S ∧ Q r)) 4 4 [some (.ref 0), some (.int x1), some (.int x2), some (.int x3)] [] (bW0 S)) (h : wp_X0_ofLength_4b S x1 x2 x3 Q B4) : bf_A X (bf_Zi X bW0 (fun r u => u = S ∧ Q r)) 4 4 [some (.ref 0), some (.int x1), some (.int x2), some (.int x3)] [] (bW0 S) := by
  unfold wp_X0_ofLength_4b at h
  refine bs_iload_n C (bf_dk dd_X0_ofLength 4 rfl) rfl ?_
  refine bs_aload_n C (bf_dk dd_X0_ofLength 5 rfl) rfl ?_
  refine bs_get C (bf_dk dd_X0_ofLength 6 rfl) cl_0 in_0 2 (Nat.le_of_ble_eq_true rfl) rfl f_0_19 (ge_bW0_0 S) rfl ?_
  refine bs_icmp_ge C (bf_dk dd_X0_ofLength 7 rfl) (tgt := 30) rfl (fun c => ?_) (fun c => ?_)
  · replace h := h.1 c
    refine bs_iload_n C (bf_dk dd_X0_ofLength 16 rfl) rfl ?_
    exact bs_iret (u := S) C (bf_dk dd_X0_ofLength 17 rfl) rfl ⟨rfl, h⟩
  · replace h := h.2 c
    refine bs_aload_n C (bf_dk dd_X0_ofLength 8 rfl) rfl ?_
    refine bs_iload_n C (bf_dk dd_X0_ofLength 9 rfl) rfl ?_
    refine bs_selfPV_i C hR (c_X0_lengthAt _ _ _ _ _ S (x3) _ h) my_X0_lengthAt m_0_31 rfl cl_0 (ge_bW0_0 _) rfl (Nat.le_of_ble_eq_true rfl) (Nat.le_of_ble_eq_true rfl) (st := []) (Nat.le_of_ble_eq_true rfl) (bf_dk dd_X0_ofLength 10 rfl) rfl (fun r1 h => ?_)
    refine bs_iload_n C (bf_dk dd_X0_ofLength 11 rfl) rfl ?_
    refine bs_icmp_ne C (bf_dk dd_X0_ofLength 12 rfl) (tgt := 24) rfl (fun c => ?_) (fun c => ?_)
    · replace h := h.1 c
      exact bs_weak (bf_s1 (bf_s1 (bf_s1 (bf_s1 bf_s0)))) (t_X0_ofLength_24 C hR S (x1) (x2) (x3) Q B4 hB4 h)
    · replace h := h.2 c
      refine bs_iinc C (bf_dk dd_X0_ofLength 13 rfl) (x2 + (1 : Int32)) rfl rfl (Nat.le_of_ble_eq_true rfl) (Nat.le_of_ble_eq_true rfl) (lv2 := [some (.ref 0), some (.int x1), some (.int (x2 + (1 : Int32))), some (.int x3)]) rfl ?_
      exact bs_weak (bf_s1 (bf_s1 (bf_s1 (bf_s1 bf_s0)))) (t_X0_ofLength_24 C hR S (x1) ((x2 + (1 : Int32))) (x3) Q B4 hB4 h)
def wp_X0_ofLength_4 (S : bT0) (x1 : Int32) (x2 : Int32) (x3 : Int32) (Q : Int32 → Prop) : Prop := ∃ I : Nat → Int32 → Int32 → Int32 → Prop, (∃ n : Nat, I n x1 x2 x3) ∧ ∀ (n : Nat) (x1 : Int32) (x2 : Int32) (x3 : Int32), I n x1 x2 x3 → wp_X0_ofLength_4b S x1 x2 x3 Q (fun x1 x2 x3 => ∃ n2 : Nat, n2 < n ∧ I n2 x1 x2 x3)
theorem t_X0_ofLength_4 {X : bf_X} (C : bf_C X RX0 cX0_ofLength 4 (some .int)) (hR : bf_Rm X 1 21) (S : bT0) (x1 : Int32) (x2 : Int32) (x3 : Int32) (Q : Int32 → Prop) (h : wp_X0_ofLength_4 S x1 x2 x3 Q) : bf_A X (bf_Zi X bW0 (fun r u => u = S ∧ Q r)) 4 4 [some (.ref 0), some (.int x1), some (.int x2), some (.int x3)] [] (bW0 S) := by
  obtain ⟨I, ⟨n0, h0⟩, hI⟩ := h
  have key : ∀ (n : Nat) (x1 : Int32) (x2 : Int32) (x3 : Int32), I n x1 x2 x3 → bf_A X (bf_Zi X bW0 (fun r u => u = S ∧ Q r)) 4 4 [some (.ref 0), some (.int x1), some (.int x2), some (.int x3)] [] (bW0 S) := by
    intro n
    induction n using Nat.strongRecOn with
    | _ n ih =>
      intro x1 x2 x3 hi
      exact t_X0_ofLength_4b C hR S x1 x2 x3 Q _ (fun x1 x2 x3 hb => by obtain ⟨n2, hn, hi2⟩ := hb; exact ih n2 hn x1 x2 x3 hi2) (hI n x1 x2 x3 hi)
  exact key n0 x1 x2 x3 h0
def wp_X0_ofLength (S : bT0) (a1 : Int32) (Q : Int32 → Prop) : Prop := (wp_X0_ofLength_4 S (a1) ((0 : Int32)) ((0 : Int32)) Q)
set_option maxRecDepth 20000 in
theorem t_X0_ofLength {X : bf_X} (C : bf_C X RX0 cX0_ofLength 4 (some .int)) (hR : bf_Rm X 1 21) (S : bT0) (a1 : Int32) (Q : Int32 → Prop) (h : wp_X0_ofLength S a1 Q) : bf_A X (bf_Zi X bW0 (fun r u => u = S ∧ Q r)) 4 0 [some (.ref 0), some (.int a1), none, none] [] (bW0 S) := by
  unfold wp_X0_ofLength at h
  refine bs_iconst C (bf_dk dd_X0_ofLength 0 rfl) (0 : Int32) (by decide) ?_
  refine bs_istore_n C (bf_dk dd_X0_ofLength 1 rfl) rfl (Nat.le_of_ble_eq_true rfl) (Nat.le_of_ble_eq_true rfl) (lv2 := [some (.ref 0), some (.int a1), some (.int (0 : Int32)), none]) rfl ?_
  refine bs_iconst C (bf_dk dd_X0_ofLength 2 rfl) (0 : Int32) (by decide) ?_
  refine bs_istore_n C (bf_dk dd_X0_ofLength 3 rfl) rfl (Nat.le_of_ble_eq_true rfl) (Nat.le_of_ble_eq_true rfl) (lv2 := [some (.ref 0), some (.int a1), some (.int (0 : Int32)), some (.int (0 : Int32))]) rfl ?_
  exact bs_weak (bf_s1 (bf_s1 (bf_s1 (bf_s1 bf_s0)))) (t_X0_ofLength_4 C hR S (a1) ((0 : Int32)) ((0 : Int32)) Q h)
theorem c_X0_ofLength (l : Launch) (dC : Nat → ClassId) (dI : Nat → Nat → Nat) (ac : Nat → ClassId) (al : Nat → Nat) (S : bT0) (a1 : Int32) (Q : Int32 → Prop) (h : wp_X0_ofLength S a1 Q) : bf_M l yX0_ofLength cX0_ofLength 4 (some .int) 1 21 dC dI ac al [.ref 0, .int a1] (bW0 S) (bf_Ki dC dI ac al bW0 (fun r u => u = S ∧ Q r)) := by
  refine bf_start [some (.ref 0), some (.int a1), none, none] (by decide) (Nat.le_of_ble_eq_true rfl) (bf_s1 (bf_s1 (bf_en 2))) ?_
  intro X hl C hR e1 e2 e3 e4
  subst e1; subst e2; subst e3; subst e4
  exact t_X0_ofLength C hR S a1 Q h
def wp_X0_allBytes_4b (S : bT0) (x1 : Int32) (x2 : Int32) (Q : Int32 → Prop) (B4 : Int32 → Int32 → Prop) : Prop := (((b0g_count S) ≤ x2 → (Q x1)) ∧ (¬ (b0g_count S) ≤ x2 → (wp_X0_lengthAt S (x2) (fun r1 => (B4 ((x1 + r1)) ((x2 + (1 : Int32))))))))
set_option maxRecDepth 20000 in
theorem t_X0_allBytes_4b {X : bf_X} (C : bf_C X RX0 cX0_allBytes 3 (some .int)) (hR : bf_Rm X 1 21) (S : bT0) (x1 : Int32) (x2 : Int32) (Q : Int32 → Prop) (B4 : Int32 → Int32 → Prop) (hB4 : ∀ (x1 : Int32) (x2 : Int32), B4 x1 x2 → bf_A X (bf_Zi X bW0 (fun r u => u = S ∧ Q r)) 3 4 [some (.ref 0), some (.int x1), some (.int x2)] [] (bW0 S)) (h : wp_X0_allBytes_4b S x1 x2 Q B4) : bf_A X (bf_Zi X bW0 (fun r u => u = S ∧ Q r)) 3 4 [some (.ref 0), some (.int x1), some (.int x2)] [] (bW0 S) := by
  unfold wp_X0_allBytes_4b at h
  refine bs_iload_n C (bf_dk dd_X0_allBytes 4 rfl) rfl ?_
  refine bs_aload_n C (bf_dk dd_X0_allBytes 5 rfl) rfl ?_
  refine bs_get C (bf_dk dd_X0_allBytes 6 rfl) cl_0 in_0 2 (Nat.le_of_ble_eq_true rfl) rfl f_0_19 (ge_bW0_0 S) rfl ?_
  refine bs_icmp_ge C (bf_dk dd_X0_allBytes 7 rfl) (tgt := 26) rfl (fun c => ?_) (fun c => ?_)
  · replace h := h.1 c
    refine bs_iload_n C (bf_dk dd_X0_allBytes 16 rfl) rfl ?_
    exact bs_iret (u := S) C (bf_dk dd_X0_allBytes 17 rfl) rfl ⟨rfl, h⟩
  · replace h := h.2 c
    refine bs_iload_n C (bf_dk dd_X0_allBytes 8 rfl) rfl ?_
    refine bs_aload_n C (bf_dk dd_X0_allBytes 9 rfl) rfl ?_
    refine bs_iload_n C (bf_dk dd_X0_allBytes 10 rfl) rfl ?_
    refine bs_selfPV_i C hR (c_X0_lengthAt _ _ _ _ _ S (x2) _ h) my_X0_lengthAt m_0_31 rfl cl_0 (ge_bW0_0 _) rfl (Nat.le_of_ble_eq_true rfl) (Nat.le_of_ble_eq_true rfl) (st := [.int x1]) (Nat.le_of_ble_eq_true rfl) (bf_dk dd_X0_allBytes 11 rfl) rfl (fun r1 h => ?_)
    refine bs_iadd C (bf_dk dd_X0_allBytes 12 rfl) ?_
    refine bs_istore_n C (bf_dk dd_X0_allBytes 13 rfl) rfl (Nat.le_of_ble_eq_true rfl) (Nat.le_of_ble_eq_true rfl) (lv2 := [some (.ref 0), some (.int (x1 + r1)), some (.int x2)]) rfl ?_
    refine bs_iinc C (bf_dk dd_X0_allBytes 14 rfl) (x2 + (1 : Int32)) rfl rfl (Nat.le_of_ble_eq_true rfl) (Nat.le_of_ble_eq_true rfl) (lv2 := [some (.ref 0), some (.int (x1 + r1)), some (.int (x2 + (1 : Int32)))]) rfl ?_
    refine bs_goto C (bf_dk dd_X0_allBytes 15 rfl) (tgt := 4) rfl ?_
    exact bs_weak (bf_s1 (bf_s1 (bf_s1 bf_s0))) (hB4 ((x1 + r1)) ((x2 + (1 : Int32))) h)
def wp_X0_allBytes_4 (S : bT0) (x1 : Int32) (x2 : Int32) (Q : Int32 → Prop) : Prop := ∃ I : Nat → Int32 → Int32 → Prop, (∃ n : Nat, I n x1 x2) ∧ ∀ (n : Nat) (x1 : Int32) (x2 : Int32), I n x1 x2 → wp_X0_allBytes_4b S x1 x2 Q (fun x1 x2 => ∃ n2 : Nat, n2 < n ∧ I n2 x1 x2)
theorem t_X0_allBytes_4 {X : bf_X} (C : bf_C X RX0 cX0_allBytes 3 (some .int)) (hR : bf_Rm X 1 21) (S : bT0) (x1 : Int32) (x2 : Int32) (Q : Int32 → Prop) (h : wp_X0_allBytes_4 S x1 x2 Q) : bf_A X (bf_Zi X bW0 (fun r u => u = S ∧ Q r)) 3 4 [some (.ref 0), some (.int x1), some (.int x2)] [] (bW0 S) := by
  obtain ⟨I, ⟨n0, h0⟩, hI⟩ := h
  have key : ∀ (n : Nat) (x1 : Int32) (x2 : Int32), I n x1 x2 → bf_A X (bf_Zi X bW0 (fun r u => u = S ∧ Q r)) 3 4 [some (.ref 0), some (.int x1), some (.int x2)] [] (bW0 S) := by
    intro n
    induction n using Nat.strongRecOn with
    | _ n ih =>
      intro x1 x2 hi
      exact t_X0_allBytes_4b C hR S x1 x2 Q _ (fun x1 x2 hb => by obtain ⟨n2, hn, hi2⟩ := hb; exact ih n2 hn x1 x2 hi2) (hI n x1 x2 hi)
  exact key n0 x1 x2 h0
def wp_X0_allBytes (S : bT0) (Q : Int32 → Prop) : Prop := (wp_X0_allBytes_4 S ((0 : Int32)) ((0 : Int32)) Q)
set_option maxRecDepth 20000 in
theorem t_X0_allBytes {X : bf_X} (C : bf_C X RX0 cX0_allBytes 3 (some .int)) (hR : bf_Rm X 1 21) (S : bT0) (Q : Int32 → Prop) (h : wp_X0_allBytes S Q) : bf_A X (bf_Zi X bW0 (fun r u => u = S ∧ Q r)) 3 0 [some (.ref 0), none, none] [] (bW0 S) := by
  unfold wp_X0_allBytes at h
  refine bs_iconst C (bf_dk dd_X0_allBytes 0 rfl) (0 : Int32) (by decide) ?_
  refine bs_istore_n C (bf_dk dd_X0_allBytes 1 rfl) rfl (Nat.le_of_ble_eq_true rfl) (Nat.le_of_ble_eq_true rfl) (lv2 := [some (.ref 0), some (.int (0 : Int32)), none]) rfl ?_
  refine bs_iconst C (bf_dk dd_X0_allBytes 2 rfl) (0 : Int32) (by decide) ?_
  refine bs_istore_n C (bf_dk dd_X0_allBytes 3 rfl) rfl (Nat.le_of_ble_eq_true rfl) (Nat.le_of_ble_eq_true rfl) (lv2 := [some (.ref 0), some (.int (0 : Int32)), some (.int (0 : Int32))]) rfl ?_
  exact bs_weak (bf_s1 (bf_s1 (bf_s1 bf_s0))) (t_X0_allBytes_4 C hR S ((0 : Int32)) ((0 : Int32)) Q h)
theorem c_X0_allBytes (l : Launch) (dC : Nat → ClassId) (dI : Nat → Nat → Nat) (ac : Nat → ClassId) (al : Nat → Nat) (S : bT0) (Q : Int32 → Prop) (h : wp_X0_allBytes S Q) : bf_M l yX0_allBytes cX0_allBytes 3 (some .int) 1 21 dC dI ac al [.ref 0] (bW0 S) (bf_Ki dC dI ac al bW0 (fun r u => u = S ∧ Q r)) := by
  refine bf_start [some (.ref 0), none, none] (by decide) (Nat.le_of_ble_eq_true rfl) (bf_s1 (bf_en 2)) ?_
  intro X hl C hR e1 e2 e3 e4
  subst e1; subst e2; subst e3; subst e4
  exact t_X0_allBytes C hR S Q h
def wp_X8_at (N : Nat) (S : (Nat → Int32)) (a1 : Int32) (Q : Int32 → Prop) : Prop := ((a1 < 0 → (Q (-1 : Int32))) ∧ (¬ a1 < 0 → (((Int32.ofNat N) ≤ a1 → (Q (-1 : Int32))) ∧ (¬ (Int32.ofNat N) ≤ a1 → (vp_in a1 N ∧ (Q (S (a1).toNatClampNeg)))))))
set_option maxRecDepth 20000 in
theorem t_X8_at {X : bf_X} (C : bf_C X RX8 cX8_at 2 (some .int)) (hR : bf_Rm X 0 0) (N : Nat) (S : (Nat → Int32)) (a1 : Int32) (Q : Int32 → Prop) (h : wp_X8_at N S a1 Q) : bf_A X (bf_Zi X (bWa N) (fun r u => u = S ∧ Q r)) 2 0 [some (.ref 0), some (.int a1)] [] ((bWa N) S) := by
  unfold wp_X8_at at h
  refine bs_iload_n C (bf_dk dd_X8_at 0 rfl) rfl ?_
  refine bs_if_lt C (bf_dk dd_X8_at 1 rfl) (tgt := 16) rfl (fun c => ?_) (fun c => ?_)
  · replace h := h.1 c
    refine bs_iconst C (bf_dk dd_X8_at 10 rfl) (-1 : Int32) (by decide) ?_
    exact bs_iret (u := S) C (bf_dk dd_X8_at 11 rfl) rfl ⟨rfl, h⟩
  · replace h := h.2 c
    refine bs_iload_n C (bf_dk dd_X8_at 2 rfl) rfl ?_
    refine bs_aload_n C (bf_dk dd_X8_at 3 rfl) rfl ?_
    refine bs_alenI C (bf_dk dd_X8_at 4 rfl) (Int32.ofNat N) rfl (ge_bWa_0 N S) ?_
    refine bs_icmp_ge C (bf_dk dd_X8_at 5 rfl) (tgt := 16) rfl (fun c => ?_) (fun c => ?_)
    · replace h := h.1 c
      refine bs_iconst C (bf_dk dd_X8_at 10 rfl) (-1 : Int32) (by decide) ?_
      exact bs_iret (u := S) C (bf_dk dd_X8_at 11 rfl) rfl ⟨rfl, h⟩
    · replace h := h.2 c
      refine bs_aload_n C (bf_dk dd_X8_at 6 rfl) rfl ?_
      refine bs_iload_n C (bf_dk dd_X8_at 7 rfl) rfl ?_
      obtain ⟨hi, h⟩ := h
      refine bs_iald C (bf_dk dd_X8_at 8 rfl) (ge_bWa_0 N S) hi ?_
      refine bs_goto C (bf_dk dd_X8_at 9 rfl) (tgt := 17) rfl ?_
      exact bs_iret (u := S) C (bf_dk dd_X8_at 11 rfl) rfl ⟨rfl, h⟩
theorem c_X8_at (l : Launch) (dC : Nat → ClassId) (dI : Nat → Nat → Nat) (ac : Nat → ClassId) (al : Nat → Nat) (N : Nat) (S : (Nat → Int32)) (a1 : Int32) (Q : Int32 → Prop) (h : wp_X8_at N S a1 Q) : bf_M l yX8_at cX8_at 2 (some .int) 0 0 dC dI ac al [.ref 0, .int a1] ((bWa N) S) (bf_Ki dC dI ac al (bWa N) (fun r u => u = S ∧ Q r)) := by
  refine bf_start [some (.ref 0), some (.int a1)] (by decide) (Nat.le_of_ble_eq_true rfl) (bf_s1 (bf_s1 bf_s0)) ?_
  intro X hl C hR e1 e2 e3 e4
  subst e1; subst e2; subst e3; subst e4
  exact t_X8_at C hR N S a1 Q h
def wp_X1_isEnded (S : bT1) (a1 : Int32) (Q : Int32 → Prop) : Prop := (wp_X8_at 64 (b1g_commons S) (a1) (fun r1 => (wp_X0_lengthAt (b1g_owners S) (a1) (fun r3 => ((¬ r1 = r3 → (bf_bool (0 : Int32) ∧ Q (0 : Int32))) ∧ (r1 = r3 → (bf_bool (1 : Int32) ∧ Q (1 : Int32))))))))
set_option maxRecDepth 20000 in
theorem t_X1_isEnded {X : bf_X} (C : bf_C X RX1 cX1_isEnded 2 (some .boolean)) (hR : bf_Rm X 1 21) (S : bT1) (a1 : Int32) (Q : Int32 → Prop) (h : wp_X1_isEnded S a1 Q) : bf_A X (bf_Zi X bW1 (fun r u => u = S ∧ Q r)) 2 0 [some (.ref 0), some (.int a1)] [] (bW1 S) := by
  unfold wp_X1_isEnded at h
  refine bs_aload_n C (bf_dk dd_X1_isEnded 0 rfl) rfl ?_
  refine bs_get C (bf_dk dd_X1_isEnded 1 rfl) cl_1 in_1 3 (Nat.le_of_ble_eq_true rfl) rfl f_1_24 (ge_bW1_0 S) rfl ?_
  refine bs_iload_n C (bf_dk dd_X1_isEnded 2 rfl) rfl ?_
  refine bs_pureSN_i (ps := [10]) (w := (bW1 S)) C hR (c_X8_at _ _ _ _ _ 64 (b1g_commons S) (a1) _ h) my_X8_at m_1_55 rfl (Nat.le_of_ble_eq_true rfl) (Nat.le_of_ble_eq_true rfl) (su_bW1_10_bWan64 S) rfl (st := []) (Nat.le_of_ble_eq_true rfl) (bf_dk dd_X1_isEnded 3 rfl) rfl (fun _ => rfl) (fun r1 h => ?_)
  refine bs_aload_n C (bf_dk dd_X1_isEnded 4 rfl) rfl ?_
  refine bs_get C (bf_dk dd_X1_isEnded 5 rfl) cl_1 in_1 0 (Nat.le_of_ble_eq_true rfl) rfl f_1_12 (ge_bW1_0 S) rfl ?_
  refine bs_iload_n C (bf_dk dd_X1_isEnded 6 rfl) rfl ?_
  refine bs_pureV_i (ps := [1, 2, 3]) (w := (bW1 S)) C hR (c_X0_lengthAt _ _ _ _ _ (b1g_owners S) (a1) _ h) my_X0_lengthAt m_1_80 rfl cl_0 (ge_bW0_0 _) rfl (Nat.le_of_ble_eq_true rfl) (Nat.le_of_ble_eq_true rfl) (su_bW1_1_bW0 S) rfl (st := [.int r1]) (Nat.le_of_ble_eq_true rfl) (bf_dk dd_X1_isEnded 7 rfl) rfl (fun _ => rfl) (fun r3 h => ?_)
  refine bs_icmp_ne C (bf_dk dd_X1_isEnded 8 rfl) (tgt := 23) rfl (fun c => ?_) (fun c => ?_)
  · replace h := h.1 c
    refine bs_iconst C (bf_dk dd_X1_isEnded 11 rfl) (0 : Int32) (by decide) ?_
    obtain ⟨hi, h⟩ := h
    exact bs_zret (u := S) C (bf_dk dd_X1_isEnded 12 rfl) hi rfl ⟨rfl, h⟩
  · replace h := h.2 c
    refine bs_iconst C (bf_dk dd_X1_isEnded 9 rfl) (1 : Int32) (by decide) ?_
    refine bs_goto C (bf_dk dd_X1_isEnded 10 rfl) (tgt := 24) rfl ?_
    obtain ⟨hi, h⟩ := h
    exact bs_zret (u := S) C (bf_dk dd_X1_isEnded 12 rfl) hi rfl ⟨rfl, h⟩
theorem c_X1_isEnded (l : Launch) (dC : Nat → ClassId) (dI : Nat → Nat → Nat) (ac : Nat → ClassId) (al : Nat → Nat) (S : bT1) (a1 : Int32) (Q : Int32 → Prop) (h : wp_X1_isEnded S a1 Q) : bf_M l yX1_isEnded cX1_isEnded 2 (some .boolean) 1 21 dC dI ac al [.ref 0, .int a1] (bW1 S) (bf_Ki dC dI ac al bW1 (fun r u => u = S ∧ Q r)) := by
  refine bf_start [some (.ref 0), some (.int a1)] (by decide) (Nat.le_of_ble_eq_true rfl) (bf_s1 (bf_s1 bf_s0)) ?_
  intro X hl C hR e1 e2 e3 e4
  subst e1; subst e2; subst e3; subst e4
  exact t_X1_isEnded C hR S a1 Q h
def wp_X1_lengthAt (S : bT1) (a1 : Int32) (Q : Int32 → Prop) : Prop := (wp_X8_at 64 (b1g_lengths S) (a1) (fun r1 => (Q r1)))
set_option maxRecDepth 20000 in
theorem t_X1_lengthAt {X : bf_X} (C : bf_C X RX1 cX1_lengthAt 2 (some .int)) (hR : bf_Rm X 1 21) (S : bT1) (a1 : Int32) (Q : Int32 → Prop) (h : wp_X1_lengthAt S a1 Q) : bf_A X (bf_Zi X bW1 (fun r u => u = S ∧ Q r)) 2 0 [some (.ref 0), some (.int a1)] [] (bW1 S) := by
  unfold wp_X1_lengthAt at h
  refine bs_aload_n C (bf_dk dd_X1_lengthAt 0 rfl) rfl ?_
  refine bs_get C (bf_dk dd_X1_lengthAt 1 rfl) cl_1 in_1 4 (Nat.le_of_ble_eq_true rfl) rfl f_1_28 (ge_bW1_0 S) rfl ?_
  refine bs_iload_n C (bf_dk dd_X1_lengthAt 2 rfl) rfl ?_
  refine bs_pureSN_i (ps := [11]) (w := (bW1 S)) C hR (c_X8_at _ _ _ _ _ 64 (b1g_lengths S) (a1) _ h) my_X8_at m_1_55 rfl (Nat.le_of_ble_eq_true rfl) (Nat.le_of_ble_eq_true rfl) (su_bW1_11_bWan64 S) rfl (st := []) (Nat.le_of_ble_eq_true rfl) (bf_dk dd_X1_lengthAt 3 rfl) rfl (fun _ => rfl) (fun r1 h => ?_)
  exact bs_iret (u := S) C (bf_dk dd_X1_lengthAt 4 rfl) rfl ⟨rfl, h⟩
theorem c_X1_lengthAt (l : Launch) (dC : Nat → ClassId) (dI : Nat → Nat → Nat) (ac : Nat → ClassId) (al : Nat → Nat) (S : bT1) (a1 : Int32) (Q : Int32 → Prop) (h : wp_X1_lengthAt S a1 Q) : bf_M l yX1_lengthAt cX1_lengthAt 2 (some .int) 1 21 dC dI ac al [.ref 0, .int a1] (bW1 S) (bf_Ki dC dI ac al bW1 (fun r u => u = S ∧ Q r)) := by
  refine bf_start [some (.ref 0), some (.int a1)] (by decide) (Nat.le_of_ble_eq_true rfl) (bf_s1 (bf_s1 bf_s0)) ?_
  intro X hl C hR e1 e2 e3 e4
  subst e1; subst e2; subst e3; subst e4
  exact t_X1_lengthAt C hR S a1 Q h
def wp_X8_highest (a0 : Int32) (a1 : Int32) (Q : Int32 → Prop) : Prop := (Q (a0 >>> (((8 : Int32) - a1) &&& 31)))
set_option maxRecDepth 20000 in
theorem t_X8_highest {X : bf_X} (C : bf_C X RX8 cX8_highest 2 (some .int)) (hR : bf_Rm X 0 0) (a0 : Int32) (a1 : Int32) (Q : Int32 → Prop) (h : wp_X8_highest a0 a1 Q) : bf_A X (bf_Zi X bWu (fun r u => u = () ∧ Q r)) 2 0 [some (.int a0), some (.int a1)] [] (bWu ()) := by
  unfold wp_X8_highest at h
  refine bs_iload_n C (bf_dk dd_X8_highest 0 rfl) rfl ?_
  refine bs_bipush C (bf_dk dd_X8_highest 1 rfl) (8 : Int32) (by decide) ?_
  refine bs_iload_n C (bf_dk dd_X8_highest 2 rfl) rfl ?_
  refine bs_isub C (bf_dk dd_X8_highest 3 rfl) ?_
  refine bs_ishr C (bf_dk dd_X8_highest 4 rfl) ?_
  exact bs_iret (u := ()) C (bf_dk dd_X8_highest 5 rfl) rfl ⟨rfl, h⟩
theorem c_X8_highest (l : Launch) (dC : Nat → ClassId) (dI : Nat → Nat → Nat) (ac : Nat → ClassId) (al : Nat → Nat) (a0 : Int32) (a1 : Int32) (Q : Int32 → Prop) (h : wp_X8_highest a0 a1 Q) : bf_M l yX8_highest cX8_highest 2 (some .int) 0 0 dC dI ac al [.int a0, .int a1] (bWu ()) (bf_Ki dC dI ac al bWu (fun r u => u = () ∧ Q r)) := by
  refine bf_start [some (.int a0), some (.int a1)] (by decide) (Nat.le_of_ble_eq_true rfl) (bf_s1 (bf_s1 bf_s0)) ?_
  intro X hl C hR e1 e2 e3 e4
  subst e1; subst e2; subst e3; subst e4
  exact t_X8_highest C hR a0 a1 Q h
def wp_X1_nextAt (S : bT1) (a1 : Int32) (Q : Int32 → Prop) : Prop := (wp_X8_at 64 (b1g_nexts S) (a1) (fun r1 => (wp_X8_highest (r1) ((b1g_realBits S)) (fun r3 => (Q r3)))))
set_option maxRecDepth 20000 in
theorem t_X1_nextAt {X : bf_X} (C : bf_C X RX1 cX1_nextAt 2 (some .int)) (hR : bf_Rm X 1 21) (S : bT1) (a1 : Int32) (Q : Int32 → Prop) (h : wp_X1_nextAt S a1 Q) : bf_A X (bf_Zi X bW1 (fun r u => u = S ∧ Q r)) 2 0 [some (.ref 0), some (.int a1)] [] (bW1 S) := by
  unfold wp_X1_nextAt at h
  refine bs_aload_n C (bf_dk dd_X1_nextAt 0 rfl) rfl ?_
  refine bs_get C (bf_dk dd_X1_nextAt 1 rfl) cl_1 in_1 6 (Nat.le_of_ble_eq_true rfl) rfl f_1_34 (ge_bW1_0 S) rfl ?_
  refine bs_iload_n C (bf_dk dd_X1_nextAt 2 rfl) rfl ?_
  refine bs_pureSN_i (ps := [13]) (w := (bW1 S)) C hR (c_X8_at _ _ _ _ _ 64 (b1g_nexts S) (a1) _ h) my_X8_at m_1_55 rfl (Nat.le_of_ble_eq_true rfl) (Nat.le_of_ble_eq_true rfl) (su_bW1_13_bWan64 S) rfl (st := []) (Nat.le_of_ble_eq_true rfl) (bf_dk dd_X1_nextAt 3 rfl) rfl (fun _ => rfl) (fun r1 h => ?_)
  refine bs_aload_n C (bf_dk dd_X1_nextAt 4 rfl) rfl ?_
  refine bs_get C (bf_dk dd_X1_nextAt 5 rfl) cl_1 in_1 8 (Nat.le_of_ble_eq_true rfl) rfl f_1_41 (ge_bW1_0 S) rfl ?_
  refine bs_pureSN_i (ps := []) (w := (bW1 S)) C hR (c_X8_highest _ _ _ _ _ (r1) ((b1g_realBits S)) _ h) my_X8_highest m_1_129 rfl (Nat.le_of_ble_eq_true rfl) (Nat.le_of_ble_eq_true rfl) rfl rfl (st := []) (Nat.le_of_ble_eq_true rfl) (bf_dk dd_X1_nextAt 6 rfl) rfl (fun _ => rfl) (fun r3 h => ?_)
  exact bs_iret (u := S) C (bf_dk dd_X1_nextAt 7 rfl) rfl ⟨rfl, h⟩
theorem c_X1_nextAt (l : Launch) (dC : Nat → ClassId) (dI : Nat → Nat → Nat) (ac : Nat → ClassId) (al : Nat → Nat) (S : bT1) (a1 : Int32) (Q : Int32 → Prop) (h : wp_X1_nextAt S a1 Q) : bf_M l yX1_nextAt cX1_nextAt 2 (some .int) 1 21 dC dI ac al [.ref 0, .int a1] (bW1 S) (bf_Ki dC dI ac al bW1 (fun r u => u = S ∧ Q r)) := by
  refine bf_start [some (.ref 0), some (.int a1)] (by decide) (Nat.le_of_ble_eq_true rfl) (bf_s1 (bf_s1 bf_s0)) ?_
  intro X hl C hR e1 e2 e3 e4
  subst e1; subst e2; subst e3; subst e4
  exact t_X1_nextAt C hR S a1 Q h
def wp_X8_front (a0 : Int32) (Q : Int64 → Prop) : Prop := ((0 < a0 → ((a0 < (8 : Int32) → (Q ((-1 : Int64) <<< ((((64 : Int32) - ((8 : Int32) * a0))).toInt64 &&& 63)))) ∧ (¬ a0 < (8 : Int32) → (Q (-1 : Int64))))) ∧ (¬ 0 < a0 → (Q (0 : Int64))))
set_option maxRecDepth 20000 in
theorem t_X8_front {X : bf_X} (C : bf_C X RX8 cX8_front 1 (some .long)) (hR : bf_Rm X 0 0) (a0 : Int32) (Q : Int64 → Prop) (h : wp_X8_front a0 Q) : bf_A X (bf_Zl X bWu (fun r u => u = () ∧ Q r)) 1 0 [some (.int a0)] [] (bWu ()) := by
  unfold wp_X8_front at h
  refine bs_iload_n C (bf_dk dd_X8_front 0 rfl) rfl ?_
  refine bs_if_gt C (bf_dk dd_X8_front 1 rfl) (tgt := 6) rfl (fun c => ?_) (fun c => ?_)
  · replace h := h.1 c
    refine bs_iload_n C (bf_dk dd_X8_front 4 rfl) rfl ?_
    refine bs_bipush C (bf_dk dd_X8_front 5 rfl) (8 : Int32) (by decide) ?_
    refine bs_icmp_lt C (bf_dk dd_X8_front 6 rfl) (tgt := 18) rfl (fun c => ?_) (fun c => ?_)
    · replace h := h.1 c
      refine bs_ldc2 C (bf_dk dd_X8_front 9 rfl) k_8_313 ?_
      refine bs_bipush C (bf_dk dd_X8_front 10 rfl) (64 : Int32) (by decide) ?_
      refine bs_bipush C (bf_dk dd_X8_front 11 rfl) (8 : Int32) (by decide) ?_
      refine bs_iload_n C (bf_dk dd_X8_front 12 rfl) rfl ?_
      refine bs_imul C (bf_dk dd_X8_front 13 rfl) ?_
      refine bs_isub C (bf_dk dd_X8_front 14 rfl) ?_
      refine bs_lshl C (bf_dk dd_X8_front 15 rfl) ?_
      exact bs_lret (u := ()) C (bf_dk dd_X8_front 16 rfl) rfl ⟨rfl, h⟩
    · replace h := h.2 c
      refine bs_ldc2 C (bf_dk dd_X8_front 7 rfl) k_8_313 ?_
      refine bs_goto C (bf_dk dd_X8_front 8 rfl) (tgt := 29) rfl ?_
      exact bs_lret (u := ()) C (bf_dk dd_X8_front 16 rfl) rfl ⟨rfl, h⟩
  · replace h := h.2 c
    refine bs_lconst C (bf_dk dd_X8_front 2 rfl) (0 : Int64) (by decide) ?_
    exact bs_lret (u := ()) C (bf_dk dd_X8_front 3 rfl) rfl ⟨rfl, h⟩
theorem c_X8_front (l : Launch) (dC : Nat → ClassId) (dI : Nat → Nat → Nat) (ac : Nat → ClassId) (al : Nat → Nat) (a0 : Int32) (Q : Int64 → Prop) (h : wp_X8_front a0 Q) : bf_M l yX8_front cX8_front 1 (some .long) 0 0 dC dI ac al [.int a0] (bWu ()) (bf_Kl dC dI ac al bWu (fun r u => u = () ∧ Q r)) := by
  refine bf_start [some (.int a0)] (by decide) (Nat.le_of_ble_eq_true rfl) (bf_s1 bf_s0) ?_
  intro X hl C hR e1 e2 e3 e4
  subst e1; subst e2; subst e3; subst e4
  exact t_X8_front C hR a0 Q h
def wp_X8_octetTo_10 (Q : Int64 → Prop) : Prop := (Q (0 : Int64))
set_option maxRecDepth 20000 in
theorem t_X8_octetTo_10 {X : bf_X} (C : bf_C X RX8 cX8_octetTo 2 (some .long)) (hR : bf_Rm X 0 0) (Q : Int64 → Prop) (h : wp_X8_octetTo_10 Q) : bf_A X (bf_Zl X bWu (fun r u => u = () ∧ Q r)) 2 10 [none, none] [] (bWu ()) := by
  unfold wp_X8_octetTo_10 at h
  refine bs_lconst C (bf_dk dd_X8_octetTo 5 rfl) (0 : Int64) (by decide) ?_
  refine bs_goto C (bf_dk dd_X8_octetTo 6 rfl) (tgt := 24) rfl ?_
  exact bs_lret (u := ()) C (bf_dk dd_X8_octetTo 15 rfl) rfl ⟨rfl, h⟩
def wp_X8_octetTo (a0 : Int32) (a1 : Int32) (Q : Int64 → Prop) : Prop := ((a1 < 0 → (wp_X8_octetTo_10 Q)) ∧ (¬ a1 < 0 → ((a1 < (8 : Int32) → (Q ((a0).toInt64 <<< ((((56 : Int32) - ((8 : Int32) * a1))).toInt64 &&& 63)))) ∧ (¬ a1 < (8 : Int32) → (wp_X8_octetTo_10 Q)))))
set_option maxRecDepth 20000 in
theorem t_X8_octetTo {X : bf_X} (C : bf_C X RX8 cX8_octetTo 2 (some .long)) (hR : bf_Rm X 0 0) (a0 : Int32) (a1 : Int32) (Q : Int64 → Prop) (h : wp_X8_octetTo a0 a1 Q) : bf_A X (bf_Zl X bWu (fun r u => u = () ∧ Q r)) 2 0 [some (.int a0), some (.int a1)] [] (bWu ()) := by
  unfold wp_X8_octetTo at h
  refine bs_iload_n C (bf_dk dd_X8_octetTo 0 rfl) rfl ?_
  refine bs_if_lt C (bf_dk dd_X8_octetTo 1 rfl) (tgt := 10) rfl (fun c => ?_) (fun c => ?_)
  · replace h := h.1 c
    exact bs_weak (bf_sn (bf_sn bf_s0)) (t_X8_octetTo_10 C hR Q h)
  · replace h := h.2 c
    refine bs_iload_n C (bf_dk dd_X8_octetTo 2 rfl) rfl ?_
    refine bs_bipush C (bf_dk dd_X8_octetTo 3 rfl) (8 : Int32) (by decide) ?_
    refine bs_icmp_lt C (bf_dk dd_X8_octetTo 4 rfl) (tgt := 14) rfl (fun c => ?_) (fun c => ?_)
    · replace h := h.1 c
      refine bs_iload_n C (bf_dk dd_X8_octetTo 7 rfl) rfl ?_
      refine bs_i2l C (bf_dk dd_X8_octetTo 8 rfl) ?_
      refine bs_bipush C (bf_dk dd_X8_octetTo 9 rfl) (56 : Int32) (by decide) ?_
      refine bs_bipush C (bf_dk dd_X8_octetTo 10 rfl) (8 : Int32) (by decide) ?_
      refine bs_iload_n C (bf_dk dd_X8_octetTo 11 rfl) rfl ?_
      refine bs_imul C (bf_dk dd_X8_octetTo 12 rfl) ?_
      refine bs_isub C (bf_dk dd_X8_octetTo 13 rfl) ?_
      refine bs_lshl C (bf_dk dd_X8_octetTo 14 rfl) ?_
      exact bs_lret (u := ()) C (bf_dk dd_X8_octetTo 15 rfl) rfl ⟨rfl, h⟩
    · replace h := h.2 c
      exact bs_weak (bf_sn (bf_sn bf_s0)) (t_X8_octetTo_10 C hR Q h)
theorem c_X8_octetTo (l : Launch) (dC : Nat → ClassId) (dI : Nat → Nat → Nat) (ac : Nat → ClassId) (al : Nat → Nat) (a0 : Int32) (a1 : Int32) (Q : Int64 → Prop) (h : wp_X8_octetTo a0 a1 Q) : bf_M l yX8_octetTo cX8_octetTo 2 (some .long) 0 0 dC dI ac al [.int a0, .int a1] (bWu ()) (bf_Kl dC dI ac al bWu (fun r u => u = () ∧ Q r)) := by
  refine bf_start [some (.int a0), some (.int a1)] (by decide) (Nat.le_of_ble_eq_true rfl) (bf_s1 (bf_s1 bf_s0)) ?_
  intro X hl C hR e1 e2 e3 e4
  subst e1; subst e2; subst e3; subst e4
  exact t_X8_octetTo C hR a0 a1 Q h
def wp_X1_bound_105 (S : bT1) (x2 : Int32) (x3 : Int64) (x6 : Int32) (t1 : Int64) (t2 : Int32) (Q : (bT1) → Prop) : Prop := (wp_X0_append (b1g_lows S) (t1) (t2) (fun u2 => (∀ S3 : bT1, S3 = (b1s_lows S u2) → (wp_X8_octetTo (x6) (x2) (fun r4 => (wp_X8_front ((x2 + (1 : Int32))) (fun r6 => (wp_X0_append (b1g_highs S3) (((x3 ||| r4) ||| (r6 ^^^ (-1 : Int64)))) ((8 : Int32)) (fun u9 => (∀ S10 : bT1, S10 = (b1s_highs S3 u9) → (Q S10)))))))))))
set_option maxRecDepth 20000 in
theorem t_X1_bound_105 {X : bf_X} (C : bf_C X RX1 cX1_bound 7 none) (hR : bf_Rm X 2 42) (S : bT1) (x2 : Int32) (x3 : Int64) (x6 : Int32) (t1 : Int64) (t2 : Int32) (Q : (bT1) → Prop) (h : wp_X1_bound_105 S x2 x3 x6 t1 t2 Q) : bf_A X (bf_Zv X bW1 Q) 7 105 [some (.ref 0), none, some (.int x2), some (.long x3), none, none, some (.int x6)] [.int t2, .long t1, .ref 4] (bW1 S) := by
  unfold wp_X1_bound_105 at h
  refine bs_callV_v (ps := [4, 5, 6]) (w := (bW1 S)) C hR (c_X0_append _ _ _ _ _ (b1g_lows S) (t1) (t2) _ h) my_X0_append m_1_113 rfl cl_0 (ge_bW0_0 _) rfl (Nat.le_of_ble_eq_true rfl) (Nat.le_of_ble_eq_true rfl) (su_bW1_4_bW0 S) rfl (st := []) (Nat.le_of_ble_eq_true rfl) (bf_dk dd_X1_bound 60 rfl) rfl (fun _ => rfl) (w2 := fun u2 => bW1 (b1s_lows S u2)) (pt_bW1_4_bW0 S) (fun u2 h => ?_)
  refine bs_nameS bW1 (fun S3 eS3 => ?_)
  replace h := h S3 eS3
  refine bs_aload_n C (bf_dk dd_X1_bound 61 rfl) rfl ?_
  refine bs_get C (bf_dk dd_X1_bound 62 rfl) cl_1 in_1 2 (Nat.le_of_ble_eq_true rfl) rfl f_1_21 (ge_bW1_0 S3) rfl ?_
  refine bs_lload_n C (bf_dk dd_X1_bound 63 rfl) rfl ?_
  refine bs_iload C (bf_dk dd_X1_bound 64 rfl) rfl ?_
  refine bs_iload_n C (bf_dk dd_X1_bound 65 rfl) rfl ?_
  refine bs_pureSN_l (ps := []) (w := (bW1 S3)) C hR (c_X8_octetTo _ _ _ _ _ (x6) (x2) _ h) my_X8_octetTo m_1_120 rfl (Nat.le_of_ble_eq_true rfl) (Nat.le_of_ble_eq_true rfl) rfl rfl (st := [.long x3, .ref 7]) (Nat.le_of_ble_eq_true rfl) (bf_dk dd_X1_bound 66 rfl) rfl (fun _ => rfl) (fun r4 h => ?_)
  refine bs_lor C (bf_dk dd_X1_bound 67 rfl) ?_
  refine bs_iload_n C (bf_dk dd_X1_bound 68 rfl) rfl ?_
  refine bs_iconst C (bf_dk dd_X1_bound 69 rfl) (1 : Int32) (by decide) ?_
  refine bs_iadd C (bf_dk dd_X1_bound 70 rfl) ?_
  refine bs_pureSN_l (ps := []) (w := (bW1 S3)) C hR (c_X8_front _ _ _ _ _ ((x2 + (1 : Int32))) _ h) my_X8_front m_1_106 rfl (Nat.le_of_ble_eq_true rfl) (Nat.le_of_ble_eq_true rfl) rfl rfl (st := [.long (x3 ||| r4), .ref 7]) (Nat.le_of_ble_eq_true rfl) (bf_dk dd_X1_bound 71 rfl) rfl (fun _ => rfl) (fun r6 h => ?_)
  refine bs_ldc2 C (bf_dk dd_X1_bound 72 rfl) k_1_124 ?_
  refine bs_lxor C (bf_dk dd_X1_bound 73 rfl) ?_
  refine bs_lor C (bf_dk dd_X1_bound 74 rfl) ?_
  refine bs_bipush C (bf_dk dd_X1_bound 75 rfl) (8 : Int32) (by decide) ?_
  refine bs_callV_v (ps := [7, 8, 9]) (w := (bW1 S3)) C hR (c_X0_append _ _ _ _ _ (b1g_highs S3) (((x3 ||| r4) ||| (r6 ^^^ (-1 : Int64)))) ((8 : Int32)) _ h) my_X0_append m_1_113 rfl cl_0 (ge_bW0_0 _) rfl (Nat.le_of_ble_eq_true rfl) (Nat.le_of_ble_eq_true rfl) (su_bW1_7_bW0 S3) rfl (st := []) (Nat.le_of_ble_eq_true rfl) (bf_dk dd_X1_bound 76 rfl) rfl (fun _ => rfl) (w2 := fun u9 => bW1 (b1s_highs S3 u9)) (pt_bW1_7_bW0 S3) (fun u9 h => ?_)
  refine bs_nameS bW1 (fun S10 eS10 => ?_)
  replace h := h S10 eS10
  exact bs_vret (u := S10) C (bf_dk dd_X1_bound 77 rfl) rfl h
def wp_X1_bound_34 (S : bT1) (x2 : Int32) (x3 : Int64) (Q : (bT1) → Prop) : Prop := (wp_X0_append (b1g_lows S) (x3) (x2) (fun u12 => (∀ S13 : bT1, S13 = (b1s_lows S u12) → (wp_X0_append (b1g_highs S13) (x3) (x2) (fun u15 => (∀ S16 : bT1, S16 = (b1s_highs S13 u15) → (Q S16)))))))
set_option maxRecDepth 20000 in
theorem t_X1_bound_34 {X : bf_X} (C : bf_C X RX1 cX1_bound 7 none) (hR : bf_Rm X 2 42) (S : bT1) (x2 : Int32) (x3 : Int64) (Q : (bT1) → Prop) (h : wp_X1_bound_34 S x2 x3 Q) : bf_A X (bf_Zv X bW1 Q) 7 34 [some (.ref 0), none, some (.int x2), some (.long x3), none, none, none] [] (bW1 S) := by
  unfold wp_X1_bound_34 at h
  refine bs_aload_n C (bf_dk dd_X1_bound 19 rfl) rfl ?_
  refine bs_get C (bf_dk dd_X1_bound 20 rfl) cl_1 in_1 1 (Nat.le_of_ble_eq_true rfl) rfl f_1_18 (ge_bW1_0 S) rfl ?_
  refine bs_lload_n C (bf_dk dd_X1_bound 21 rfl) rfl ?_
  refine bs_iload_n C (bf_dk dd_X1_bound 22 rfl) rfl ?_
  refine bs_callV_v (ps := [4, 5, 6]) (w := (bW1 S)) C hR (c_X0_append _ _ _ _ _ (b1g_lows S) (x3) (x2) _ h) my_X0_append m_1_113 rfl cl_0 (ge_bW0_0 _) rfl (Nat.le_of_ble_eq_true rfl) (Nat.le_of_ble_eq_true rfl) (su_bW1_4_bW0 S) rfl (st := []) (Nat.le_of_ble_eq_true rfl) (bf_dk dd_X1_bound 23 rfl) rfl (fun _ => rfl) (w2 := fun u12 => bW1 (b1s_lows S u12)) (pt_bW1_4_bW0 S) (fun u12 h => ?_)
  refine bs_nameS bW1 (fun S13 eS13 => ?_)
  replace h := h S13 eS13
  refine bs_aload_n C (bf_dk dd_X1_bound 24 rfl) rfl ?_
  refine bs_get C (bf_dk dd_X1_bound 25 rfl) cl_1 in_1 2 (Nat.le_of_ble_eq_true rfl) rfl f_1_21 (ge_bW1_0 S13) rfl ?_
  refine bs_lload_n C (bf_dk dd_X1_bound 26 rfl) rfl ?_
  refine bs_iload_n C (bf_dk dd_X1_bound 27 rfl) rfl ?_
  refine bs_callV_v (ps := [7, 8, 9]) (w := (bW1 S13)) C hR (c_X0_append _ _ _ _ _ (b1g_highs S13) (x3) (x2) _ h) my_X0_append m_1_113 rfl cl_0 (ge_bW0_0 _) rfl (Nat.le_of_ble_eq_true rfl) (Nat.le_of_ble_eq_true rfl) (su_bW1_7_bW0 S13) rfl (st := []) (Nat.le_of_ble_eq_true rfl) (bf_dk dd_X1_bound 28 rfl) rfl (fun _ => rfl) (w2 := fun u15 => bW1 (b1s_highs S13 u15)) (pt_bW1_7_bW0 S13) (fun u15 h => ?_)
  refine bs_nameS bW1 (fun S16 eS16 => ?_)
  replace h := h S16 eS16
  exact bs_vret (u := S16) C (bf_dk dd_X1_bound 29 rfl) rfl h
def wp_X1_bound (S : bT1) (a1 : Int32) (Q : (bT1) → Prop) : Prop := (wp_X1_lengthAt S (a1) (fun r17 => (wp_X0_bytesAt (b1g_owners S) (a1) (fun r19 => (wp_X8_front (r17) (fun r21 => (wp_X1_isEnded S (a1) (fun r23 => ((¬ r23 = 0 → (wp_X1_bound_34 S (r17) ((r19 &&& r21)) Q)) ∧ (r23 = 0 → ((r17 < (8 : Int32) → (wp_X1_nextAt S (a1) (fun r25 => (∀ v27 : Int32, v27 = ((r25 <<< (((8 : Int32) - (b1g_realBits S)) &&& 31)) ||| ((255 : Int32) >>> ((b1g_realBits S) &&& 31))) → (wp_X8_octetTo ((r25 <<< (((8 : Int32) - (b1g_realBits S)) &&& 31))) (r17) (fun r28 => ((¬ (r25 <<< (((8 : Int32) - (b1g_realBits S)) &&& 31)) = 0 → (wp_X1_bound_105 S (r17) ((r19 &&& r21)) (v27) (((r19 &&& r21) ||| r28)) ((r17 + (1 : Int32))) Q)) ∧ ((r25 <<< (((8 : Int32) - (b1g_realBits S)) &&& 31)) = 0 → (wp_X1_bound_105 S (r17) ((r19 &&& r21)) (v27) (((r19 &&& r21) ||| r28)) (r17) Q))))))))) ∧ (¬ r17 < (8 : Int32) → (wp_X1_bound_34 S (r17) ((r19 &&& r21)) Q)))))))))))))
set_option maxRecDepth 20000 in
theorem t_X1_bound {X : bf_X} (C : bf_C X RX1 cX1_bound 7 none) (hR : bf_Rm X 2 42) (S : bT1) (a1 : Int32) (Q : (bT1) → Prop) (h : wp_X1_bound S a1 Q) : bf_A X (bf_Zv X bW1 Q) 7 0 [some (.ref 0), some (.int a1), none, none, none, none, none] [] (bW1 S) := by
  unfold wp_X1_bound at h
  refine bs_aload_n C (bf_dk dd_X1_bound 0 rfl) rfl ?_
  refine bs_iload_n C (bf_dk dd_X1_bound 1 rfl) rfl ?_
  refine bs_selfPV_i C hR (c_X1_lengthAt _ _ _ _ _ S (a1) _ h) my_X1_lengthAt m_1_105 rfl cl_1 (ge_bW1_0 _) rfl (Nat.le_of_ble_eq_true rfl) (Nat.le_of_ble_eq_true rfl) (st := []) (Nat.le_of_ble_eq_true rfl) (bf_dk dd_X1_bound 2 rfl) rfl (fun r17 h => ?_)
  refine bs_istore_n C (bf_dk dd_X1_bound 3 rfl) rfl (Nat.le_of_ble_eq_true rfl) (Nat.le_of_ble_eq_true rfl) (lv2 := [some (.ref 0), some (.int a1), some (.int r17), none, none, none, none]) rfl ?_
  refine bs_aload_n C (bf_dk dd_X1_bound 4 rfl) rfl ?_
  refine bs_get C (bf_dk dd_X1_bound 5 rfl) cl_1 in_1 0 (Nat.le_of_ble_eq_true rfl) rfl f_1_12 (ge_bW1_0 S) rfl ?_
  refine bs_iload_n C (bf_dk dd_X1_bound 6 rfl) rfl ?_
  refine bs_pureV_l (ps := [1, 2, 3]) (w := (bW1 S)) C hR (c_X0_bytesAt _ _ _ _ _ (b1g_owners S) (a1) _ h) my_X0_bytesAt m_1_76 rfl cl_0 (ge_bW0_0 _) rfl (Nat.le_of_ble_eq_true rfl) (Nat.le_of_ble_eq_true rfl) (su_bW1_1_bW0 S) rfl (st := []) (Nat.le_of_ble_eq_true rfl) (bf_dk dd_X1_bound 7 rfl) rfl (fun _ => rfl) (fun r19 h => ?_)
  refine bs_iload_n C (bf_dk dd_X1_bound 8 rfl) rfl ?_
  refine bs_pureSN_l (ps := []) (w := (bW1 S)) C hR (c_X8_front _ _ _ _ _ (r17) _ h) my_X8_front m_1_106 rfl (Nat.le_of_ble_eq_true rfl) (Nat.le_of_ble_eq_true rfl) rfl rfl (st := [.long r19]) (Nat.le_of_ble_eq_true rfl) (bf_dk dd_X1_bound 9 rfl) rfl (fun _ => rfl) (fun r21 h => ?_)
  refine bs_land C (bf_dk dd_X1_bound 10 rfl) ?_
  refine bs_lstore_n C (bf_dk dd_X1_bound 11 rfl) rfl (Nat.le_of_ble_eq_true rfl) (Nat.le_of_ble_eq_true rfl) (lv2 := [some (.ref 0), some (.int a1), some (.int r17), some (.long (r19 &&& r21)), none, none, none]) rfl ?_
  refine bs_aload_n C (bf_dk dd_X1_bound 12 rfl) rfl ?_
  refine bs_iload_n C (bf_dk dd_X1_bound 13 rfl) rfl ?_
  refine bs_selfPV_i C hR (c_X1_isEnded _ _ _ _ _ S (a1) _ h) my_X1_isEnded m_1_109 rfl cl_1 (ge_bW1_0 _) rfl (Nat.le_of_ble_eq_true rfl) (Nat.le_of_ble_eq_true rfl) (st := []) (Nat.le_of_ble_eq_true rfl) (bf_dk dd_X1_bound 14 rfl) rfl (fun r23 h => ?_)
  refine bs_if_ne C (bf_dk dd_X1_bound 15 rfl) (tgt := 34) rfl (fun c => ?_) (fun c => ?_)
  · replace h := h.1 c
    exact bs_weak (bf_s1 (bf_sn (bf_s1 (bf_s1 (bf_sn (bf_sn (bf_sn bf_s0))))))) (t_X1_bound_34 C hR S (r17) ((r19 &&& r21)) Q h)
  · replace h := h.2 c
    refine bs_iload_n C (bf_dk dd_X1_bound 16 rfl) rfl ?_
    refine bs_bipush C (bf_dk dd_X1_bound 17 rfl) (8 : Int32) (by decide) ?_
    refine bs_icmp_lt C (bf_dk dd_X1_bound 18 rfl) (tgt := 53) rfl (fun c => ?_) (fun c => ?_)
    · replace h := h.1 c
      refine bs_aload_n C (bf_dk dd_X1_bound 30 rfl) rfl ?_
      refine bs_iload_n C (bf_dk dd_X1_bound 31 rfl) rfl ?_
      refine bs_selfPV_i C hR (c_X1_nextAt _ _ _ _ _ S (a1) _ h) my_X1_nextAt m_1_117 rfl cl_1 (ge_bW1_0 _) rfl (Nat.le_of_ble_eq_true rfl) (Nat.le_of_ble_eq_true rfl) (st := []) (Nat.le_of_ble_eq_true rfl) (bf_dk dd_X1_bound 32 rfl) rfl (fun r25 h => ?_)
      refine bs_bipush C (bf_dk dd_X1_bound 33 rfl) (8 : Int32) (by decide) ?_
      refine bs_aload_n C (bf_dk dd_X1_bound 34 rfl) rfl ?_
      refine bs_get C (bf_dk dd_X1_bound 35 rfl) cl_1 in_1 8 (Nat.le_of_ble_eq_true rfl) rfl f_1_41 (ge_bW1_0 S) rfl ?_
      refine bs_isub C (bf_dk dd_X1_bound 36 rfl) ?_
      refine bs_ishl C (bf_dk dd_X1_bound 37 rfl) ?_
      refine bs_istore C (bf_dk dd_X1_bound 38 rfl) (Nat.le_of_ble_eq_true rfl) (Nat.le_of_ble_eq_true rfl) (lv2 := [some (.ref 0), some (.int a1), some (.int r17), some (.long (r19 &&& r21)), none, some (.int (r25 <<< (((8 : Int32) - (b1g_realBits S)) &&& 31))), none]) rfl ?_
      refine bs_iload C (bf_dk dd_X1_bound 39 rfl) rfl ?_
      refine bs_sipush C (bf_dk dd_X1_bound 40 rfl) (255 : Int32) (by decide) ?_
      refine bs_aload_n C (bf_dk dd_X1_bound 41 rfl) rfl ?_
      refine bs_get C (bf_dk dd_X1_bound 42 rfl) cl_1 in_1 8 (Nat.le_of_ble_eq_true rfl) rfl f_1_41 (ge_bW1_0 S) rfl ?_
      refine bs_ishr C (bf_dk dd_X1_bound 43 rfl) ?_
      refine bs_ior C (bf_dk dd_X1_bound 44 rfl) ?_
      refine bs_name (fun v27 ev27 => ?_)
      replace h := h v27 ev27
      refine bs_istore C (bf_dk dd_X1_bound 45 rfl) (Nat.le_of_ble_eq_true rfl) (Nat.le_of_ble_eq_true rfl) (lv2 := [some (.ref 0), some (.int a1), some (.int r17), some (.long (r19 &&& r21)), none, some (.int (r25 <<< (((8 : Int32) - (b1g_realBits S)) &&& 31))), some (.int v27)]) rfl ?_
      refine bs_aload_n C (bf_dk dd_X1_bound 46 rfl) rfl ?_
      refine bs_get C (bf_dk dd_X1_bound 47 rfl) cl_1 in_1 1 (Nat.le_of_ble_eq_true rfl) rfl f_1_18 (ge_bW1_0 S) rfl ?_
      refine bs_lload_n C (bf_dk dd_X1_bound 48 rfl) rfl ?_
      refine bs_iload C (bf_dk dd_X1_bound 49 rfl) rfl ?_
      refine bs_iload_n C (bf_dk dd_X1_bound 50 rfl) rfl ?_
      refine bs_pureSN_l (ps := []) (w := (bW1 S)) C hR (c_X8_octetTo _ _ _ _ _ ((r25 <<< (((8 : Int32) - (b1g_realBits S)) &&& 31))) (r17) _ h) my_X8_octetTo m_1_120 rfl (Nat.le_of_ble_eq_true rfl) (Nat.le_of_ble_eq_true rfl) rfl rfl (st := [.long (r19 &&& r21), .ref 4]) (Nat.le_of_ble_eq_true rfl) (bf_dk dd_X1_bound 51 rfl) rfl (fun _ => rfl) (fun r28 h => ?_)
      refine bs_lor C (bf_dk dd_X1_bound 52 rfl) ?_
      refine bs_iload C (bf_dk dd_X1_bound 53 rfl) rfl ?_
      refine bs_if_ne C (bf_dk dd_X1_bound 54 rfl) (tgt := 102) rfl (fun c => ?_) (fun c => ?_)
      · replace h := h.1 c
        refine bs_iload_n C (bf_dk dd_X1_bound 57 rfl) rfl ?_
        refine bs_iconst C (bf_dk dd_X1_bound 58 rfl) (1 : Int32) (by decide) ?_
        refine bs_iadd C (bf_dk dd_X1_bound 59 rfl) ?_
        exact bs_weak (bf_s1 (bf_sn (bf_s1 (bf_s1 (bf_sn (bf_sn (bf_s1 bf_s0))))))) (t_X1_bound_105 C hR S (r17) ((r19 &&& r21)) (v27) (((r19 &&& r21) ||| r28)) ((r17 + (1 : Int32))) Q h)
      · replace h := h.2 c
        refine bs_iload_n C (bf_dk dd_X1_bound 55 rfl) rfl ?_
        refine bs_goto C (bf_dk dd_X1_bound 56 rfl) (tgt := 105) rfl ?_
        exact bs_weak (bf_s1 (bf_sn (bf_s1 (bf_s1 (bf_sn (bf_sn (bf_s1 bf_s0))))))) (t_X1_bound_105 C hR S (r17) ((r19 &&& r21)) (v27) (((r19 &&& r21) ||| r28)) (r17) Q h)
    · replace h := h.2 c
      exact bs_weak (bf_s1 (bf_sn (bf_s1 (bf_s1 (bf_sn (bf_sn (bf_sn bf_s0))))))) (t_X1_bound_34 C hR S (r17) ((r19 &&& r21)) Q h)
theorem c_X1_bound (l : Launch) (dC : Nat → ClassId) (dI : Nat → Nat → Nat) (ac : Nat → ClassId) (al : Nat → Nat) (S : bT1) (a1 : Int32) (Q : (bT1) → Prop) (h : wp_X1_bound S a1 Q) : bf_M l yX1_bound cX1_bound 7 none 2 42 dC dI ac al [.ref 0, .int a1] (bW1 S) (bf_Kv dC dI ac al bW1 Q) := by
  refine bf_start [some (.ref 0), some (.int a1), none, none, none, none, none] (by decide) (Nat.le_of_ble_eq_true rfl) (bf_s1 (bf_s1 (bf_en 5))) ?_
  intro X hl C hR e1 e2 e3 e4
  subst e1; subst e2; subst e3; subst e4
  exact t_X1_bound C hR S a1 Q h
def wp_X8_octetAt_10 (Q : Int32 → Prop) : Prop := (Q (0 : Int32))
set_option maxRecDepth 20000 in
theorem t_X8_octetAt_10 {X : bf_X} (C : bf_C X RX8 cX8_octetAt 3 (some .int)) (hR : bf_Rm X 0 0) (Q : Int32 → Prop) (h : wp_X8_octetAt_10 Q) : bf_A X (bf_Zi X bWu (fun r u => u = () ∧ Q r)) 3 10 [none, none, none] [] (bWu ()) := by
  unfold wp_X8_octetAt_10 at h
  refine bs_iconst C (bf_dk dd_X8_octetAt 5 rfl) (0 : Int32) (by decide) ?_
  refine bs_goto C (bf_dk dd_X8_octetAt 6 rfl) (tgt := 28) rfl ?_
  exact bs_iret (u := ()) C (bf_dk dd_X8_octetAt 17 rfl) rfl ⟨rfl, h⟩
def wp_X8_octetAt (a0 : Int64) (a2 : Int32) (Q : Int32 → Prop) : Prop := ((a2 < 0 → (wp_X8_octetAt_10 Q)) ∧ (¬ a2 < 0 → ((a2 < (8 : Int32) → (Q (((((a0).toUInt64 >>> ((((56 : Int32) - ((8 : Int32) * a2))).toInt64.toUInt64 &&& Int64.toUInt64 63)).toInt64)).toInt32 &&& (255 : Int32)))) ∧ (¬ a2 < (8 : Int32) → (wp_X8_octetAt_10 Q)))))
set_option maxRecDepth 20000 in
theorem t_X8_octetAt {X : bf_X} (C : bf_C X RX8 cX8_octetAt 3 (some .int)) (hR : bf_Rm X 0 0) (a0 : Int64) (a2 : Int32) (Q : Int32 → Prop) (h : wp_X8_octetAt a0 a2 Q) : bf_A X (bf_Zi X bWu (fun r u => u = () ∧ Q r)) 3 0 [some (.long a0), none, some (.int a2)] [] (bWu ()) := by
  unfold wp_X8_octetAt at h
  refine bs_iload_n C (bf_dk dd_X8_octetAt 0 rfl) rfl ?_
  refine bs_if_lt C (bf_dk dd_X8_octetAt 1 rfl) (tgt := 10) rfl (fun c => ?_) (fun c => ?_)
  · replace h := h.1 c
    exact bs_weak (bf_sn (bf_sn (bf_sn bf_s0))) (t_X8_octetAt_10 C hR Q h)
  · replace h := h.2 c
    refine bs_iload_n C (bf_dk dd_X8_octetAt 2 rfl) rfl ?_
    refine bs_bipush C (bf_dk dd_X8_octetAt 3 rfl) (8 : Int32) (by decide) ?_
    refine bs_icmp_lt C (bf_dk dd_X8_octetAt 4 rfl) (tgt := 14) rfl (fun c => ?_) (fun c => ?_)
    · replace h := h.1 c
      refine bs_lload_n C (bf_dk dd_X8_octetAt 7 rfl) rfl ?_
      refine bs_bipush C (bf_dk dd_X8_octetAt 8 rfl) (56 : Int32) (by decide) ?_
      refine bs_bipush C (bf_dk dd_X8_octetAt 9 rfl) (8 : Int32) (by decide) ?_
      refine bs_iload_n C (bf_dk dd_X8_octetAt 10 rfl) rfl ?_
      refine bs_imul C (bf_dk dd_X8_octetAt 11 rfl) ?_
      refine bs_isub C (bf_dk dd_X8_octetAt 12 rfl) ?_
      refine bs_lushr C (bf_dk dd_X8_octetAt 13 rfl) ?_
      refine bs_l2i C (bf_dk dd_X8_octetAt 14 rfl) ?_
      refine bs_sipush C (bf_dk dd_X8_octetAt 15 rfl) (255 : Int32) (by decide) ?_
      refine bs_iand C (bf_dk dd_X8_octetAt 16 rfl) ?_
      exact bs_iret (u := ()) C (bf_dk dd_X8_octetAt 17 rfl) rfl ⟨rfl, h⟩
    · replace h := h.2 c
      exact bs_weak (bf_sn (bf_sn (bf_sn bf_s0))) (t_X8_octetAt_10 C hR Q h)
theorem c_X8_octetAt (l : Launch) (dC : Nat → ClassId) (dI : Nat → Nat → Nat) (ac : Nat → ClassId) (al : Nat → Nat) (a0 : Int64) (a2 : Int32) (Q : Int32 → Prop) (h : wp_X8_octetAt a0 a2 Q) : bf_M l yX8_octetAt cX8_octetAt 3 (some .int) 0 0 dC dI ac al [.long a0, .int a2] (bWu ()) (bf_Ki dC dI ac al bWu (fun r u => u = () ∧ Q r)) := by
  refine bf_start [some (.long a0), none, some (.int a2)] (by decide) (Nat.le_of_ble_eq_true rfl) (bf_s1 (bf_sn (bf_s1 bf_s0))) ?_
  intro X hl C hR e1 e2 e3 e4
  subst e1; subst e2; subst e3; subst e4
  exact t_X8_octetAt C hR a0 a2 Q h
def wp_X8_alike_11b (x0 : Int64) (x3 : Int64) (x6 : Int32) (x7 : Int32) (Q : Int32 → Prop) (B11 : Int64 → Int64 → Int32 → Int32 → Prop) : Prop := ((x6 ≤ x7 → (Q x6)) ∧ (¬ x6 ≤ x7 → (wp_X8_octetAt (x0) (x7) (fun r1 => (wp_X8_octetAt (x3) (x7) (fun r3 => ((r1 = r3 → (B11 (x0) (x3) (x6) ((x7 + (1 : Int32))))) ∧ (¬ r1 = r3 → (Q x7)))))))))
set_option maxRecDepth 20000 in
theorem t_X8_alike_11b {X : bf_X} (C : bf_C X RX8 cX8_alike 8 (some .int)) (hR : bf_Rm X 1 40) (x0 : Int64) (x3 : Int64) (x6 : Int32) (x7 : Int32) (Q : Int32 → Prop) (B11 : Int64 → Int64 → Int32 → Int32 → Prop) (hB11 : ∀ (x0 : Int64) (x3 : Int64) (x6 : Int32) (x7 : Int32), B11 x0 x3 x6 x7 → bf_A X (bf_Zi X bWu (fun r u => u = () ∧ Q r)) 8 11 [some (.long x0), none, none, some (.long x3), none, none, some (.int x6), some (.int x7)] [] (bWu ())) (h : wp_X8_alike_11b x0 x3 x6 x7 Q B11) : bf_A X (bf_Zi X bWu (fun r u => u = () ∧ Q r)) 8 11 [some (.long x0), none, none, some (.long x3), none, none, some (.int x6), some (.int x7)] [] (bWu ()) := by
  unfold wp_X8_alike_11b at h
  refine bs_iload C (bf_dk dd_X8_alike 6 rfl) rfl ?_
  refine bs_iload C (bf_dk dd_X8_alike 7 rfl) rfl ?_
  refine bs_icmp_ge C (bf_dk dd_X8_alike 8 rfl) (tgt := 42) rfl (fun c => ?_) (fun c => ?_)
  · replace h := h.1 c
    refine bs_iload C (bf_dk dd_X8_alike 20 rfl) rfl ?_
    exact bs_iret (u := ()) C (bf_dk dd_X8_alike 21 rfl) rfl ⟨rfl, h⟩
  · replace h := h.2 c
    refine bs_lload_n C (bf_dk dd_X8_alike 9 rfl) rfl ?_
    refine bs_iload C (bf_dk dd_X8_alike 10 rfl) rfl ?_
    refine bs_pureS_i (ps := []) (w := (bWu ())) C hR (c_X8_octetAt _ _ _ _ _ (x0) (x7) _ h) my_X8_octetAt m_8_222 rfl (Nat.le_of_ble_eq_true rfl) (Nat.le_of_ble_eq_true rfl) rfl rfl (st := []) (Nat.le_of_ble_eq_true rfl) (bf_dk dd_X8_alike 11 rfl) rfl (fun _ => rfl) (fun r1 h => ?_)
    refine bs_lload_n C (bf_dk dd_X8_alike 12 rfl) rfl ?_
    refine bs_iload C (bf_dk dd_X8_alike 13 rfl) rfl ?_
    refine bs_pureS_i (ps := []) (w := (bWu ())) C hR (c_X8_octetAt _ _ _ _ _ (x3) (x7) _ h) my_X8_octetAt m_8_222 rfl (Nat.le_of_ble_eq_true rfl) (Nat.le_of_ble_eq_true rfl) rfl rfl (st := [.int r1]) (Nat.le_of_ble_eq_true rfl) (bf_dk dd_X8_alike 14 rfl) rfl (fun _ => rfl) (fun r3 h => ?_)
    refine bs_icmp_eq C (bf_dk dd_X8_alike 15 rfl) (tgt := 36) rfl (fun c => ?_) (fun c => ?_)
    · replace h := h.1 c
      refine bs_iinc C (bf_dk dd_X8_alike 18 rfl) (x7 + (1 : Int32)) rfl rfl (Nat.le_of_ble_eq_true rfl) (Nat.le_of_ble_eq_true rfl) (lv2 := [some (.long x0), none, none, some (.long x3), none, none, some (.int x6), some (.int (x7 + (1 : Int32)))]) rfl ?_
      refine bs_goto C (bf_dk dd_X8_alike 19 rfl) (tgt := 11) rfl ?_
      exact bs_weak (bf_s1 (bf_sn (bf_sn (bf_s1 (bf_sn (bf_sn (bf_s1 (bf_s1 bf_s0)))))))) (hB11 (x0) (x3) (x6) ((x7 + (1 : Int32))) h)
    · replace h := h.2 c
      refine bs_iload C (bf_dk dd_X8_alike 16 rfl) rfl ?_
      exact bs_iret (u := ()) C (bf_dk dd_X8_alike 17 rfl) rfl ⟨rfl, h⟩
def wp_X8_alike_11 (x0 : Int64) (x3 : Int64) (x6 : Int32) (x7 : Int32) (Q : Int32 → Prop) : Prop := ∃ I : Nat → Int64 → Int64 → Int32 → Int32 → Prop, (∃ n : Nat, I n x0 x3 x6 x7) ∧ ∀ (n : Nat) (x0 : Int64) (x3 : Int64) (x6 : Int32) (x7 : Int32), I n x0 x3 x6 x7 → wp_X8_alike_11b x0 x3 x6 x7 Q (fun x0 x3 x6 x7 => ∃ n2 : Nat, n2 < n ∧ I n2 x0 x3 x6 x7)
theorem t_X8_alike_11 {X : bf_X} (C : bf_C X RX8 cX8_alike 8 (some .int)) (hR : bf_Rm X 1 40) (x0 : Int64) (x3 : Int64) (x6 : Int32) (x7 : Int32) (Q : Int32 → Prop) (h : wp_X8_alike_11 x0 x3 x6 x7 Q) : bf_A X (bf_Zi X bWu (fun r u => u = () ∧ Q r)) 8 11 [some (.long x0), none, none, some (.long x3), none, none, some (.int x6), some (.int x7)] [] (bWu ()) := by
  obtain ⟨I, ⟨n0, h0⟩, hI⟩ := h
  have key : ∀ (n : Nat) (x0 : Int64) (x3 : Int64) (x6 : Int32) (x7 : Int32), I n x0 x3 x6 x7 → bf_A X (bf_Zi X bWu (fun r u => u = () ∧ Q r)) 8 11 [some (.long x0), none, none, some (.long x3), none, none, some (.int x6), some (.int x7)] [] (bWu ()) := by
    intro n
    induction n using Nat.strongRecOn with
    | _ n ih =>
      intro x0 x3 x6 x7 hi
      exact t_X8_alike_11b C hR x0 x3 x6 x7 Q _ (fun x0 x3 x6 x7 hb => by obtain ⟨n2, hn, hi2⟩ := hb; exact ih n2 hn x0 x3 x6 x7 hi2) (hI n x0 x3 x6 x7 hi)
  exact key n0 x0 x3 x6 x7 h0
def wp_X8_alike (a0 : Int64) (a2 : Int32) (a3 : Int64) (a5 : Int32) (Q : Int32 → Prop) : Prop := (wp_X8_alike_11 (a0) (a3) ((if a5 < a2 then a5 else a2)) ((0 : Int32)) Q)
set_option maxRecDepth 20000 in
theorem t_X8_alike {X : bf_X} (C : bf_C X RX8 cX8_alike 8 (some .int)) (hR : bf_Rm X 1 40) (a0 : Int64) (a2 : Int32) (a3 : Int64) (a5 : Int32) (Q : Int32 → Prop) (h : wp_X8_alike a0 a2 a3 a5 Q) : bf_A X (bf_Zi X bWu (fun r u => u = () ∧ Q r)) 8 0 [some (.long a0), none, some (.int a2), some (.long a3), none, some (.int a5), none, none] [] (bWu ()) := by
  unfold wp_X8_alike at h
  refine bs_iload_n C (bf_dk dd_X8_alike 0 rfl) rfl ?_
  refine bs_iload C (bf_dk dd_X8_alike 1 rfl) rfl ?_
  refine bs_mmin C hR m_8_356 ma_min.1 ma_min.2.1 ma_min.2.2 (Nat.le_of_ble_eq_true rfl) (Nat.le_of_ble_eq_true rfl) (bf_dk dd_X8_alike 2 rfl) ?_
  refine bs_istore C (bf_dk dd_X8_alike 3 rfl) (Nat.le_of_ble_eq_true rfl) (Nat.le_of_ble_eq_true rfl) (lv2 := [some (.long a0), none, some (.int a2), some (.long a3), none, some (.int a5), some (.int (if a5 < a2 then a5 else a2)), none]) rfl ?_
  refine bs_iconst C (bf_dk dd_X8_alike 4 rfl) (0 : Int32) (by decide) ?_
  refine bs_istore C (bf_dk dd_X8_alike 5 rfl) (Nat.le_of_ble_eq_true rfl) (Nat.le_of_ble_eq_true rfl) (lv2 := [some (.long a0), none, some (.int a2), some (.long a3), none, some (.int a5), some (.int (if a5 < a2 then a5 else a2)), some (.int (0 : Int32))]) rfl ?_
  exact bs_weak (bf_s1 (bf_sn (bf_sn (bf_s1 (bf_sn (bf_sn (bf_s1 (bf_s1 bf_s0)))))))) (t_X8_alike_11 C hR (a0) (a3) ((if a5 < a2 then a5 else a2)) ((0 : Int32)) Q h)
theorem c_X8_alike (l : Launch) (dC : Nat → ClassId) (dI : Nat → Nat → Nat) (ac : Nat → ClassId) (al : Nat → Nat) (a0 : Int64) (a2 : Int32) (a3 : Int64) (a5 : Int32) (Q : Int32 → Prop) (h : wp_X8_alike a0 a2 a3 a5 Q) : bf_M l yX8_alike cX8_alike 8 (some .int) 1 40 dC dI ac al [.long a0, .int a2, .long a3, .int a5] (bWu ()) (bf_Ki dC dI ac al bWu (fun r u => u = () ∧ Q r)) := by
  refine bf_start [some (.long a0), none, some (.int a2), some (.long a3), none, some (.int a5), none, none] (by decide) (Nat.le_of_ble_eq_true rfl) (bf_s1 (bf_sn (bf_s1 (bf_s1 (bf_sn (bf_s1 (bf_en 2))))))) ?_
  intro X hl C hR e1 e2 e3 e4
  subst e1; subst e2; subst e3; subst e4
  exact t_X8_alike C hR a0 a2 a3 a5 Q h
def wp_X8_mixed_6b (x1 : Int64) (x3 : Int32) (x4 : Int32) (x5 : Int32) (Q : Int32 → Prop) (B6 : Int64 → Int32 → Int32 → Int32 → Prop) : Prop := ((x3 ≤ x5 → (Q (x4 ^^^ (((x4).toUInt32 >>> (((15 : Int32)).toUInt32 &&& Int32.toUInt32 31)).toInt32)))) ∧ (¬ x3 ≤ x5 → (wp_X8_octetAt (x1) (x5) (fun r1 => (∀ v3 : Int32, v3 = ((x4 ^^^ r1) * (16777619 : Int32)) → (B6 (x1) (x3) (v3) ((x5 + (1 : Int32)))))))))
set_option maxRecDepth 20000 in
theorem t_X8_mixed_6b {X : bf_X} (C : bf_C X RX8 cX8_mixed 6 (some .int)) (hR : bf_Rm X 1 22) (x1 : Int64) (x3 : Int32) (x4 : Int32) (x5 : Int32) (Q : Int32 → Prop) (B6 : Int64 → Int32 → Int32 → Int32 → Prop) (hB6 : ∀ (x1 : Int64) (x3 : Int32) (x4 : Int32) (x5 : Int32), B6 x1 x3 x4 x5 → bf_A X (bf_Zi X bWu (fun r u => u = () ∧ Q r)) 6 6 [none, some (.long x1), none, some (.int x3), some (.int x4), some (.int x5)] [] (bWu ())) (h : wp_X8_mixed_6b x1 x3 x4 x5 Q B6) : bf_A X (bf_Zi X bWu (fun r u => u = () ∧ Q r)) 6 6 [none, some (.long x1), none, some (.int x3), some (.int x4), some (.int x5)] [] (bWu ()) := by
  unfold wp_X8_mixed_6b at h
  refine bs_iload C (bf_dk dd_X8_mixed 4 rfl) rfl ?_
  refine bs_iload_n C (bf_dk dd_X8_mixed 5 rfl) rfl ?_
  refine bs_icmp_ge C (bf_dk dd_X8_mixed 6 rfl) (tgt := 33) rfl (fun c => ?_) (fun c => ?_)
  · replace h := h.1 c
    refine bs_iload C (bf_dk dd_X8_mixed 17 rfl) rfl ?_
    refine bs_iload C (bf_dk dd_X8_mixed 18 rfl) rfl ?_
    refine bs_bipush C (bf_dk dd_X8_mixed 19 rfl) (15 : Int32) (by decide) ?_
    refine bs_iushr C (bf_dk dd_X8_mixed 20 rfl) ?_
    refine bs_ixor C (bf_dk dd_X8_mixed 21 rfl) ?_
    exact bs_iret (u := ()) C (bf_dk dd_X8_mixed 22 rfl) rfl ⟨rfl, h⟩
  · replace h := h.2 c
    refine bs_iload C (bf_dk dd_X8_mixed 7 rfl) rfl ?_
    refine bs_lload_n C (bf_dk dd_X8_mixed 8 rfl) rfl ?_
    refine bs_iload C (bf_dk dd_X8_mixed 9 rfl) rfl ?_
    refine bs_pureS_i (ps := []) (w := (bWu ())) C hR (c_X8_octetAt _ _ _ _ _ (x1) (x5) _ h) my_X8_octetAt m_8_222 rfl (Nat.le_of_ble_eq_true rfl) (Nat.le_of_ble_eq_true rfl) rfl rfl (st := [.int x4]) (Nat.le_of_ble_eq_true rfl) (bf_dk dd_X8_mixed 10 rfl) rfl (fun _ => rfl) (fun r1 h => ?_)
    refine bs_ixor C (bf_dk dd_X8_mixed 11 rfl) ?_
    refine bs_ldcw C (bf_dk dd_X8_mixed 12 rfl) k_8_440 ?_
    refine bs_imul C (bf_dk dd_X8_mixed 13 rfl) ?_
    refine bs_name (fun v3 ev3 => ?_)
    replace h := h v3 ev3
    refine bs_istore C (bf_dk dd_X8_mixed 14 rfl) (Nat.le_of_ble_eq_true rfl) (Nat.le_of_ble_eq_true rfl) (lv2 := [none, some (.long x1), none, some (.int x3), some (.int v3), some (.int x5)]) rfl ?_
    refine bs_iinc C (bf_dk dd_X8_mixed 15 rfl) (x5 + (1 : Int32)) rfl rfl (Nat.le_of_ble_eq_true rfl) (Nat.le_of_ble_eq_true rfl) (lv2 := [none, some (.long x1), none, some (.int x3), some (.int v3), some (.int (x5 + (1 : Int32)))]) rfl ?_
    refine bs_goto C (bf_dk dd_X8_mixed 16 rfl) (tgt := 6) rfl ?_
    exact bs_weak (bf_sn (bf_s1 (bf_sn (bf_s1 (bf_s1 (bf_s1 bf_s0)))))) (hB6 (x1) (x3) (v3) ((x5 + (1 : Int32))) h)
def wp_X8_mixed_6 (x1 : Int64) (x3 : Int32) (x4 : Int32) (x5 : Int32) (Q : Int32 → Prop) : Prop := ∃ I : Nat → Int64 → Int32 → Int32 → Int32 → Prop, (∃ n : Nat, I n x1 x3 x4 x5) ∧ ∀ (n : Nat) (x1 : Int64) (x3 : Int32) (x4 : Int32) (x5 : Int32), I n x1 x3 x4 x5 → wp_X8_mixed_6b x1 x3 x4 x5 Q (fun x1 x3 x4 x5 => ∃ n2 : Nat, n2 < n ∧ I n2 x1 x3 x4 x5)
theorem t_X8_mixed_6 {X : bf_X} (C : bf_C X RX8 cX8_mixed 6 (some .int)) (hR : bf_Rm X 1 22) (x1 : Int64) (x3 : Int32) (x4 : Int32) (x5 : Int32) (Q : Int32 → Prop) (h : wp_X8_mixed_6 x1 x3 x4 x5 Q) : bf_A X (bf_Zi X bWu (fun r u => u = () ∧ Q r)) 6 6 [none, some (.long x1), none, some (.int x3), some (.int x4), some (.int x5)] [] (bWu ()) := by
  obtain ⟨I, ⟨n0, h0⟩, hI⟩ := h
  have key : ∀ (n : Nat) (x1 : Int64) (x3 : Int32) (x4 : Int32) (x5 : Int32), I n x1 x3 x4 x5 → bf_A X (bf_Zi X bWu (fun r u => u = () ∧ Q r)) 6 6 [none, some (.long x1), none, some (.int x3), some (.int x4), some (.int x5)] [] (bWu ()) := by
    intro n
    induction n using Nat.strongRecOn with
    | _ n ih =>
      intro x1 x3 x4 x5 hi
      exact t_X8_mixed_6b C hR x1 x3 x4 x5 Q _ (fun x1 x3 x4 x5 hb => by obtain ⟨n2, hn, hi2⟩ := hb; exact ih n2 hn x1 x3 x4 x5 hi2) (hI n x1 x3 x4 x5 hi)
  exact key n0 x1 x3 x4 x5 h0
def wp_X8_mixed (a0 : Int32) (a1 : Int64) (a3 : Int32) (Q : Int32 → Prop) : Prop := (wp_X8_mixed_6 (a1) (a3) (a0) ((0 : Int32)) Q)
set_option maxRecDepth 20000 in
theorem t_X8_mixed {X : bf_X} (C : bf_C X RX8 cX8_mixed 6 (some .int)) (hR : bf_Rm X 1 22) (a0 : Int32) (a1 : Int64) (a3 : Int32) (Q : Int32 → Prop) (h : wp_X8_mixed a0 a1 a3 Q) : bf_A X (bf_Zi X bWu (fun r u => u = () ∧ Q r)) 6 0 [some (.int a0), some (.long a1), none, some (.int a3), none, none] [] (bWu ()) := by
  unfold wp_X8_mixed at h
  refine bs_iload_n C (bf_dk dd_X8_mixed 0 rfl) rfl ?_
  refine bs_istore C (bf_dk dd_X8_mixed 1 rfl) (Nat.le_of_ble_eq_true rfl) (Nat.le_of_ble_eq_true rfl) (lv2 := [some (.int a0), some (.long a1), none, some (.int a3), some (.int a0), none]) rfl ?_
  refine bs_iconst C (bf_dk dd_X8_mixed 2 rfl) (0 : Int32) (by decide) ?_
  refine bs_istore C (bf_dk dd_X8_mixed 3 rfl) (Nat.le_of_ble_eq_true rfl) (Nat.le_of_ble_eq_true rfl) (lv2 := [some (.int a0), some (.long a1), none, some (.int a3), some (.int a0), some (.int (0 : Int32))]) rfl ?_
  exact bs_weak (bf_sn (bf_s1 (bf_sn (bf_s1 (bf_s1 (bf_s1 bf_s0)))))) (t_X8_mixed_6 C hR (a1) (a3) (a0) ((0 : Int32)) Q h)
theorem c_X8_mixed (l : Launch) (dC : Nat → ClassId) (dI : Nat → Nat → Nat) (ac : Nat → ClassId) (al : Nat → Nat) (a0 : Int32) (a1 : Int64) (a3 : Int32) (Q : Int32 → Prop) (h : wp_X8_mixed a0 a1 a3 Q) : bf_M l yX8_mixed cX8_mixed 6 (some .int) 1 22 dC dI ac al [.int a0, .long a1, .int a3] (bWu ()) (bf_Ki dC dI ac al bWu (fun r u => u = () ∧ Q r)) := by
  refine bf_start [some (.int a0), some (.long a1), none, some (.int a3), none, none] (by decide) (Nat.le_of_ble_eq_true rfl) (bf_s1 (bf_s1 (bf_sn (bf_s1 (bf_en 2))))) ?_
  intro X hl C hR e1 e2 e3 e4
  subst e1; subst e2; subst e3; subst e4
  exact t_X8_mixed C hR a0 a1 a3 Q h
def wp_X1_cut (S : bT1) (a1 : Int32) (Q : (bT1) → Prop) : Prop := (wp_X0_bytesAt (b1g_owners S) (a1) (fun r1 => (wp_X0_lengthAt (b1g_owners S) (a1) (fun r3 => (wp_X0_bytesAt (b1g_owners S) ((a1 - (1 : Int32))) (fun r5 => (wp_X0_lengthAt (b1g_owners S) ((a1 - (1 : Int32))) (fun r7 => (wp_X8_alike (r1) (r3) (r5) (r7) (fun r9 => (wp_X0_bytesAt (b1g_owners S) ((a1 + (1 : Int32))) (fun r11 => (wp_X0_lengthAt (b1g_owners S) ((a1 + (1 : Int32))) (fun r13 => (wp_X8_alike (r1) (r3) (r11) (r13) (fun r15 => (vp_in a1 64 ∧ (∀ S17 : bT1, S17 = (b1s_commons S (upd (b1g_commons S) (a1).toNatClampNeg (if r9 < r15 then r15 else r9))) → (∀ v18 : Int32, v18 = (if r3 < ((if r9 < r15 then r15 else r9) + (1 : Int32)) then r3 else ((if r9 < r15 then r15 else r9) + (1 : Int32))) → (vp_in a1 64 ∧ (∀ S19 : bT1, S19 = (b1s_lengths S17 (upd (b1g_lengths S17) (a1).toNatClampNeg v18)) → (wp_X8_mixed ((b1g_salt S19)) (r1) (r3) (fun r20 => (vp_in a1 64 ∧ (∀ S22 : bT1, S22 = (b1s_hashes S19 (upd (b1g_hashes S19) (a1).toNatClampNeg r20)) → (vp_in a1 64 ∧ (wp_X8_octetAt (r1) (((b1g_lengths S22) (a1).toNatClampNeg)) (fun r23 => (vp_in a1 64 ∧ (∀ S25 : bT1, S25 = (b1s_nexts S22 (upd (b1g_nexts S22) (a1).toNatClampNeg r23)) → (Q S25)))))))))))))))))))))))))))))))
set_option maxRecDepth 20000 in
theorem t_X1_cut {X : bf_X} (C : bf_C X RX1 cX1_cut 6 none) (hR : bf_Rm X 2 67) (S : bT1) (a1 : Int32) (Q : (bT1) → Prop) (h : wp_X1_cut S a1 Q) : bf_A X (bf_Zv X bW1 Q) 6 0 [some (.ref 0), some (.int a1), none, none, none, none] [] (bW1 S) := by
  unfold wp_X1_cut at h
  refine bs_aload_n C (bf_dk dd_X1_cut 0 rfl) rfl ?_
  refine bs_get C (bf_dk dd_X1_cut 1 rfl) cl_1 in_1 0 (Nat.le_of_ble_eq_true rfl) rfl f_1_12 (ge_bW1_0 S) rfl ?_
  refine bs_iload_n C (bf_dk dd_X1_cut 2 rfl) rfl ?_
  refine bs_pureV_l (ps := [1, 2, 3]) (w := (bW1 S)) C hR (c_X0_bytesAt _ _ _ _ _ (b1g_owners S) (a1) _ h) my_X0_bytesAt m_1_76 rfl cl_0 (ge_bW0_0 _) rfl (Nat.le_of_ble_eq_true rfl) (Nat.le_of_ble_eq_true rfl) (su_bW1_1_bW0 S) rfl (st := []) (Nat.le_of_ble_eq_true rfl) (bf_dk dd_X1_cut 3 rfl) rfl (fun _ => rfl) (fun r1 h => ?_)
  refine bs_lstore_n C (bf_dk dd_X1_cut 4 rfl) rfl (Nat.le_of_ble_eq_true rfl) (Nat.le_of_ble_eq_true rfl) (lv2 := [some (.ref 0), some (.int a1), some (.long r1), none, none, none]) rfl ?_
  refine bs_aload_n C (bf_dk dd_X1_cut 5 rfl) rfl ?_
  refine bs_get C (bf_dk dd_X1_cut 6 rfl) cl_1 in_1 0 (Nat.le_of_ble_eq_true rfl) rfl f_1_12 (ge_bW1_0 S) rfl ?_
  refine bs_iload_n C (bf_dk dd_X1_cut 7 rfl) rfl ?_
  refine bs_pureV_i (ps := [1, 2, 3]) (w := (bW1 S)) C hR (c_X0_lengthAt _ _ _ _ _ (b1g_owners S) (a1) _ h) my_X0_lengthAt m_1_80 rfl cl_0 (ge_bW0_0 _) rfl (Nat.le_of_ble_eq_true rfl) (Nat.le_of_ble_eq_true rfl) (su_bW1_1_bW0 S) rfl (st := []) (Nat.le_of_ble_eq_true rfl) (bf_dk dd_X1_cut 8 rfl) rfl (fun _ => rfl) (fun r3 h => ?_)
  refine bs_istore C (bf_dk dd_X1_cut 9 rfl) (Nat.le_of_ble_eq_true rfl) (Nat.le_of_ble_eq_true rfl) (lv2 := [some (.ref 0), some (.int a1), some (.long r1), none, some (.int r3), none]) rfl ?_
  refine bs_lload_n C (bf_dk dd_X1_cut 10 rfl) rfl ?_
  refine bs_iload C (bf_dk dd_X1_cut 11 rfl) rfl ?_
  refine bs_aload_n C (bf_dk dd_X1_cut 12 rfl) rfl ?_
  refine bs_get C (bf_dk dd_X1_cut 13 rfl) cl_1 in_1 0 (Nat.le_of_ble_eq_true rfl) rfl f_1_12 (ge_bW1_0 S) rfl ?_
  refine bs_iload_n C (bf_dk dd_X1_cut 14 rfl) rfl ?_
  refine bs_iconst C (bf_dk dd_X1_cut 15 rfl) (1 : Int32) (by decide) ?_
  refine bs_isub C (bf_dk dd_X1_cut 16 rfl) ?_
  refine bs_pureV_l (ps := [1, 2, 3]) (w := (bW1 S)) C hR (c_X0_bytesAt _ _ _ _ _ (b1g_owners S) ((a1 - (1 : Int32))) _ h) my_X0_bytesAt m_1_76 rfl cl_0 (ge_bW0_0 _) rfl (Nat.le_of_ble_eq_true rfl) (Nat.le_of_ble_eq_true rfl) (su_bW1_1_bW0 S) rfl (st := [.int r3, .long r1]) (Nat.le_of_ble_eq_true rfl) (bf_dk dd_X1_cut 17 rfl) rfl (fun _ => rfl) (fun r5 h => ?_)
  refine bs_aload_n C (bf_dk dd_X1_cut 18 rfl) rfl ?_
  refine bs_get C (bf_dk dd_X1_cut 19 rfl) cl_1 in_1 0 (Nat.le_of_ble_eq_true rfl) rfl f_1_12 (ge_bW1_0 S) rfl ?_
  refine bs_iload_n C (bf_dk dd_X1_cut 20 rfl) rfl ?_
  refine bs_iconst C (bf_dk dd_X1_cut 21 rfl) (1 : Int32) (by decide) ?_
  refine bs_isub C (bf_dk dd_X1_cut 22 rfl) ?_
  refine bs_pureV_i (ps := [1, 2, 3]) (w := (bW1 S)) C hR (c_X0_lengthAt _ _ _ _ _ (b1g_owners S) ((a1 - (1 : Int32))) _ h) my_X0_lengthAt m_1_80 rfl cl_0 (ge_bW0_0 _) rfl (Nat.le_of_ble_eq_true rfl) (Nat.le_of_ble_eq_true rfl) (su_bW1_1_bW0 S) rfl (st := [.long r5, .int r3, .long r1]) (Nat.le_of_ble_eq_true rfl) (bf_dk dd_X1_cut 23 rfl) rfl (fun _ => rfl) (fun r7 h => ?_)
  refine bs_pureSN_i (ps := []) (w := (bW1 S)) C hR (c_X8_alike _ _ _ _ _ (r1) (r3) (r5) (r7) _ h) my_X8_alike m_1_84 rfl (Nat.le_of_ble_eq_true rfl) (Nat.le_of_ble_eq_true rfl) rfl rfl (st := []) (Nat.le_of_ble_eq_true rfl) (bf_dk dd_X1_cut 24 rfl) rfl (fun _ => rfl) (fun r9 h => ?_)
  refine bs_lload_n C (bf_dk dd_X1_cut 25 rfl) rfl ?_
  refine bs_iload C (bf_dk dd_X1_cut 26 rfl) rfl ?_
  refine bs_aload_n C (bf_dk dd_X1_cut 27 rfl) rfl ?_
  refine bs_get C (bf_dk dd_X1_cut 28 rfl) cl_1 in_1 0 (Nat.le_of_ble_eq_true rfl) rfl f_1_12 (ge_bW1_0 S) rfl ?_
  refine bs_iload_n C (bf_dk dd_X1_cut 29 rfl) rfl ?_
  refine bs_iconst C (bf_dk dd_X1_cut 30 rfl) (1 : Int32) (by decide) ?_
  refine bs_iadd C (bf_dk dd_X1_cut 31 rfl) ?_
  refine bs_pureV_l (ps := [1, 2, 3]) (w := (bW1 S)) C hR (c_X0_bytesAt _ _ _ _ _ (b1g_owners S) ((a1 + (1 : Int32))) _ h) my_X0_bytesAt m_1_76 rfl cl_0 (ge_bW0_0 _) rfl (Nat.le_of_ble_eq_true rfl) (Nat.le_of_ble_eq_true rfl) (su_bW1_1_bW0 S) rfl (st := [.int r3, .long r1, .int r9]) (Nat.le_of_ble_eq_true rfl) (bf_dk dd_X1_cut 32 rfl) rfl (fun _ => rfl) (fun r11 h => ?_)
  refine bs_aload_n C (bf_dk dd_X1_cut 33 rfl) rfl ?_
  refine bs_get C (bf_dk dd_X1_cut 34 rfl) cl_1 in_1 0 (Nat.le_of_ble_eq_true rfl) rfl f_1_12 (ge_bW1_0 S) rfl ?_
  refine bs_iload_n C (bf_dk dd_X1_cut 35 rfl) rfl ?_
  refine bs_iconst C (bf_dk dd_X1_cut 36 rfl) (1 : Int32) (by decide) ?_
  refine bs_iadd C (bf_dk dd_X1_cut 37 rfl) ?_
  refine bs_pureV_i (ps := [1, 2, 3]) (w := (bW1 S)) C hR (c_X0_lengthAt _ _ _ _ _ (b1g_owners S) ((a1 + (1 : Int32))) _ h) my_X0_lengthAt m_1_80 rfl cl_0 (ge_bW0_0 _) rfl (Nat.le_of_ble_eq_true rfl) (Nat.le_of_ble_eq_true rfl) (su_bW1_1_bW0 S) rfl (st := [.long r11, .int r3, .long r1, .int r9]) (Nat.le_of_ble_eq_true rfl) (bf_dk dd_X1_cut 38 rfl) rfl (fun _ => rfl) (fun r13 h => ?_)
  refine bs_pureSN_i (ps := []) (w := (bW1 S)) C hR (c_X8_alike _ _ _ _ _ (r1) (r3) (r11) (r13) _ h) my_X8_alike m_1_84 rfl (Nat.le_of_ble_eq_true rfl) (Nat.le_of_ble_eq_true rfl) rfl rfl (st := [.int r9]) (Nat.le_of_ble_eq_true rfl) (bf_dk dd_X1_cut 39 rfl) rfl (fun _ => rfl) (fun r15 h => ?_)
  refine bs_mmax C hR m_1_88 ma_max.1 ma_max.2.1 ma_max.2.2 (Nat.le_of_ble_eq_true rfl) (Nat.le_of_ble_eq_true rfl) (bf_dk dd_X1_cut 40 rfl) ?_
  refine bs_istore C (bf_dk dd_X1_cut 41 rfl) (Nat.le_of_ble_eq_true rfl) (Nat.le_of_ble_eq_true rfl) (lv2 := [some (.ref 0), some (.int a1), some (.long r1), none, some (.int r3), some (.int (if r9 < r15 then r15 else r9))]) rfl ?_
  refine bs_aload_n C (bf_dk dd_X1_cut 42 rfl) rfl ?_
  refine bs_get C (bf_dk dd_X1_cut 43 rfl) cl_1 in_1 3 (Nat.le_of_ble_eq_true rfl) rfl f_1_24 (ge_bW1_0 S) rfl ?_
  refine bs_iload_n C (bf_dk dd_X1_cut 44 rfl) rfl ?_
  refine bs_iload C (bf_dk dd_X1_cut 45 rfl) rfl ?_
  obtain ⟨hi, h⟩ := h
  refine bs_iast C (bf_dk dd_X1_cut 46 rfl) (ge_bW1_10 S) hi (ar_bW1_10 S _) ?_
  refine bs_nameS bW1 (fun S17 eS17 => ?_)
  replace h := h S17 eS17
  refine bs_aload_n C (bf_dk dd_X1_cut 47 rfl) rfl ?_
  refine bs_get C (bf_dk dd_X1_cut 48 rfl) cl_1 in_1 4 (Nat.le_of_ble_eq_true rfl) rfl f_1_28 (ge_bW1_0 S17) rfl ?_
  refine bs_iload_n C (bf_dk dd_X1_cut 49 rfl) rfl ?_
  refine bs_iload C (bf_dk dd_X1_cut 50 rfl) rfl ?_
  refine bs_iconst C (bf_dk dd_X1_cut 51 rfl) (1 : Int32) (by decide) ?_
  refine bs_iadd C (bf_dk dd_X1_cut 52 rfl) ?_
  refine bs_iload C (bf_dk dd_X1_cut 53 rfl) rfl ?_
  refine bs_mmin C hR m_1_94 ma_min.1 ma_min.2.1 ma_min.2.2 (Nat.le_of_ble_eq_true rfl) (Nat.le_of_ble_eq_true rfl) (bf_dk dd_X1_cut 54 rfl) ?_
  refine bs_name (fun v18 ev18 => ?_)
  replace h := h v18 ev18
  obtain ⟨hi, h⟩ := h
  refine bs_iast C (bf_dk dd_X1_cut 55 rfl) (ge_bW1_11 S17) hi (ar_bW1_11 S17 _) ?_
  refine bs_nameS bW1 (fun S19 eS19 => ?_)
  replace h := h S19 eS19
  refine bs_aload_n C (bf_dk dd_X1_cut 56 rfl) rfl ?_
  refine bs_get C (bf_dk dd_X1_cut 57 rfl) cl_1 in_1 5 (Nat.le_of_ble_eq_true rfl) rfl f_1_31 (ge_bW1_0 S19) rfl ?_
  refine bs_iload_n C (bf_dk dd_X1_cut 58 rfl) rfl ?_
  refine bs_aload_n C (bf_dk dd_X1_cut 59 rfl) rfl ?_
  refine bs_get C (bf_dk dd_X1_cut 60 rfl) cl_1 in_1 9 (Nat.le_of_ble_eq_true rfl) rfl f_1_44 (ge_bW1_0 S19) rfl ?_
  refine bs_lload_n C (bf_dk dd_X1_cut 61 rfl) rfl ?_
  refine bs_iload C (bf_dk dd_X1_cut 62 rfl) rfl ?_
  refine bs_pureSN_i (ps := []) (w := (bW1 S19)) C hR (c_X8_mixed _ _ _ _ _ ((b1g_salt S19)) (r1) (r3) _ h) my_X8_mixed m_1_97 rfl (Nat.le_of_ble_eq_true rfl) (Nat.le_of_ble_eq_true rfl) rfl rfl (st := [.int a1, .ref 12]) (Nat.le_of_ble_eq_true rfl) (bf_dk dd_X1_cut 63 rfl) rfl (fun _ => rfl) (fun r20 h => ?_)
  obtain ⟨hi, h⟩ := h
  refine bs_iast C (bf_dk dd_X1_cut 64 rfl) (ge_bW1_12 S19) hi (ar_bW1_12 S19 _) ?_
  refine bs_nameS bW1 (fun S22 eS22 => ?_)
  replace h := h S22 eS22
  refine bs_aload_n C (bf_dk dd_X1_cut 65 rfl) rfl ?_
  refine bs_get C (bf_dk dd_X1_cut 66 rfl) cl_1 in_1 6 (Nat.le_of_ble_eq_true rfl) rfl f_1_34 (ge_bW1_0 S22) rfl ?_
  refine bs_iload_n C (bf_dk dd_X1_cut 67 rfl) rfl ?_
  refine bs_lload_n C (bf_dk dd_X1_cut 68 rfl) rfl ?_
  refine bs_aload_n C (bf_dk dd_X1_cut 69 rfl) rfl ?_
  refine bs_get C (bf_dk dd_X1_cut 70 rfl) cl_1 in_1 4 (Nat.le_of_ble_eq_true rfl) rfl f_1_28 (ge_bW1_0 S22) rfl ?_
  refine bs_iload_n C (bf_dk dd_X1_cut 71 rfl) rfl ?_
  obtain ⟨hi, h⟩ := h
  refine bs_iald C (bf_dk dd_X1_cut 72 rfl) (ge_bW1_11 S22) hi ?_
  refine bs_pureSN_i (ps := []) (w := (bW1 S22)) C hR (c_X8_octetAt _ _ _ _ _ (r1) (((b1g_lengths S22) (a1).toNatClampNeg)) _ h) my_X8_octetAt m_1_101 rfl (Nat.le_of_ble_eq_true rfl) (Nat.le_of_ble_eq_true rfl) rfl rfl (st := [.int a1, .ref 13]) (Nat.le_of_ble_eq_true rfl) (bf_dk dd_X1_cut 73 rfl) rfl (fun _ => rfl) (fun r23 h => ?_)
  obtain ⟨hi, h⟩ := h
  refine bs_iast C (bf_dk dd_X1_cut 74 rfl) (ge_bW1_13 S22) hi (ar_bW1_13 S22 _) ?_
  refine bs_nameS bW1 (fun S25 eS25 => ?_)
  replace h := h S25 eS25
  exact bs_vret (u := S25) C (bf_dk dd_X1_cut 75 rfl) rfl h
theorem c_X1_cut (l : Launch) (dC : Nat → ClassId) (dI : Nat → Nat → Nat) (ac : Nat → ClassId) (al : Nat → Nat) (S : bT1) (a1 : Int32) (Q : (bT1) → Prop) (h : wp_X1_cut S a1 Q) : bf_M l yX1_cut cX1_cut 6 none 2 67 dC dI ac al [.ref 0, .int a1] (bW1 S) (bf_Kv dC dI ac al bW1 Q) := by
  refine bf_start [some (.ref 0), some (.int a1), none, none, none, none] (by decide) (Nat.le_of_ble_eq_true rfl) (bf_s1 (bf_s1 (bf_en 4))) ?_
  intro X hl C hR e1 e2 e3 e4
  subst e1; subst e2; subst e3; subst e4
  exact t_X1_cut C hR S a1 Q h
def wp_X1_make_126b (S : bT1 × bT3) (x4 : Int32) (Q : (bT1 × bT3) → Prop) (B126 : Int32 → (bT1 × bT3) → Prop) : Prop := (((b0g_count (b1g_owners S.1)) ≤ x4 → (Q S)) ∧ (¬ (b0g_count (b1g_owners S.1)) ≤ x4 → (wp_X1_cut S.1 (x4) (fun u2 => (∀ S3 : bT1 × bT3, S3 = (u2, S.2) → (wp_X1_bound S3.1 (x4) (fun u5 => (∀ S6 : bT1 × bT3, S6 = (u5, S3.2) → (B126 ((x4 + (1 : Int32))) S6)))))))))
set_option maxRecDepth 20000 in
theorem t_X1_make_126b {X : bf_X} (C : bf_C X RX1 cX1_make 5 none) (hR : bf_Rm X 3 92) (S : bT1 × bT3) (x4 : Int32) (Q : (bT1 × bT3) → Prop) (B126 : Int32 → (bT1 × bT3) → Prop) (hB126 : ∀ (x4 : Int32) (S : bT1 × bT3), B126 x4 S → bf_A X (bf_Zv X bW1_3 Q) 5 126 [some (.ref 0), none, none, none, some (.int x4)] [] (bW1_3 S)) (h : wp_X1_make_126b S x4 Q B126) : bf_A X (bf_Zv X bW1_3 Q) 5 126 [some (.ref 0), none, none, none, some (.int x4)] [] (bW1_3 S) := by
  unfold wp_X1_make_126b at h
  refine bs_iload C (bf_dk dd_X1_make 65 rfl) rfl ?_
  refine bs_aload_n C (bf_dk dd_X1_make 66 rfl) rfl ?_
  refine bs_get C (bf_dk dd_X1_make 67 rfl) cl_1 in_1 0 (Nat.le_of_ble_eq_true rfl) rfl f_1_12 (ge_bW1_3_0 S) rfl ?_
  refine bs_get C (bf_dk dd_X1_make 68 rfl) cl_0 in_0 2 (Nat.le_of_ble_eq_true rfl) rfl f_1_66 (ge_bW1_3_1 S) rfl ?_
  refine bs_icmp_ge C (bf_dk dd_X1_make 69 rfl) (tgt := 156) rfl (fun c => ?_) (fun c => ?_)
  · replace h := h.1 c
    exact bs_vret (u := S) C (bf_dk dd_X1_make 78 rfl) rfl h
  · replace h := h.2 c
    refine bs_aload_n C (bf_dk dd_X1_make 70 rfl) rfl ?_
    refine bs_iload C (bf_dk dd_X1_make 71 rfl) rfl ?_
    refine bs_callV_v (ps := [0, 1, 2, 3, 4, 5, 6, 7, 8, 9, 10, 11, 12, 13]) (w := (bW1_3 S)) C hR (c_X1_cut _ _ _ _ _ S.1 (x4) _ h) my_X1_cut m_1_69 rfl cl_1 (ge_bW1_0 _) rfl (Nat.le_of_ble_eq_true rfl) (Nat.le_of_ble_eq_true rfl) (su_bW1_3_0_bW1 S) bnd_0t13 (st := []) (Nat.le_of_ble_eq_true rfl) (bf_dk dd_X1_make 72 rfl) rfl (fun _ => rfl) (w2 := fun u2 => bW1_3 (u2, S.2)) (pt_bW1_3_0_bW1 S) (fun u2 h => ?_)
    refine bs_nameS bW1_3 (fun S3 eS3 => ?_)
    replace h := h S3 eS3
    refine bs_aload_n C (bf_dk dd_X1_make 73 rfl) rfl ?_
    refine bs_iload C (bf_dk dd_X1_make 74 rfl) rfl ?_
    refine bs_callV_v (ps := [0, 1, 2, 3, 4, 5, 6, 7, 8, 9, 10, 11, 12, 13]) (w := (bW1_3 S3)) C hR (c_X1_bound _ _ _ _ _ S3.1 (x4) _ h) my_X1_bound m_1_73 rfl cl_1 (ge_bW1_0 _) rfl (Nat.le_of_ble_eq_true rfl) (Nat.le_of_ble_eq_true rfl) (su_bW1_3_0_bW1 S3) bnd_0t13 (st := []) (Nat.le_of_ble_eq_true rfl) (bf_dk dd_X1_make 75 rfl) rfl (fun _ => rfl) (w2 := fun u5 => bW1_3 (u5, S3.2)) (pt_bW1_3_0_bW1 S3) (fun u5 h => ?_)
    refine bs_nameS bW1_3 (fun S6 eS6 => ?_)
    replace h := h S6 eS6
    refine bs_iinc C (bf_dk dd_X1_make 76 rfl) (x4 + (1 : Int32)) rfl rfl (Nat.le_of_ble_eq_true rfl) (Nat.le_of_ble_eq_true rfl) (lv2 := [some (.ref 0), none, none, none, some (.int (x4 + (1 : Int32)))]) rfl ?_
    refine bs_goto C (bf_dk dd_X1_make 77 rfl) (tgt := 126) rfl ?_
    exact bs_weak (bf_s1 (bf_sn (bf_sn (bf_sn (bf_s1 bf_s0))))) (hB126 ((x4 + (1 : Int32))) S6 h)
def wp_X1_make_126 (S : bT1 × bT3) (x4 : Int32) (Q : (bT1 × bT3) → Prop) : Prop := ∃ I : Nat → Int32 → (bT1 × bT3) → Prop, (∃ n : Nat, I n x4 S) ∧ ∀ (n : Nat) (x4 : Int32) (S : bT1 × bT3), I n x4 S → wp_X1_make_126b S x4 Q (fun x4 S => ∃ n2 : Nat, n2 < n ∧ I n2 x4 S)
theorem t_X1_make_126 {X : bf_X} (C : bf_C X RX1 cX1_make 5 none) (hR : bf_Rm X 3 92) (S : bT1 × bT3) (x4 : Int32) (Q : (bT1 × bT3) → Prop) (h : wp_X1_make_126 S x4 Q) : bf_A X (bf_Zv X bW1_3 Q) 5 126 [some (.ref 0), none, none, none, some (.int x4)] [] (bW1_3 S) := by
  obtain ⟨I, ⟨n0, h0⟩, hI⟩ := h
  have key : ∀ (n : Nat) (x4 : Int32) (S : bT1 × bT3), I n x4 S → bf_A X (bf_Zv X bW1_3 Q) 5 126 [some (.ref 0), none, none, none, some (.int x4)] [] (bW1_3 S) := by
    intro n
    induction n using Nat.strongRecOn with
    | _ n ih =>
      intro x4 S hi
      exact t_X1_make_126b C hR S x4 Q _ (fun x4 S hb => by obtain ⟨n2, hn, hi2⟩ := hb; exact ih n2 hn x4 S hi2) (hI n x4 S hi)
  exact key n0 x4 S h0
def wp_X1_make_81 (S : bT1 × bT3) (t1 : Int32) (Q : (bT1 × bT3) → Prop) : Prop := (∀ S7 : bT1 × bT3, S7 = ((b1s_realBits S.1 t1), S.2) → (wp_X8_at 6 (b3g_values S7.2) ((5 : Int32)) (fun r8 => (∀ S10 : bT1 × bT3, S10 = ((b1s_salt S7.1 r8), S7.2) → (wp_X0_copyFrom ((b1g_owners S10.1), (b3g_members S10.2)) (fun u12 => (∀ S13 : bT1 × bT3, S13 = (((b1s_owners S10.1 u12.1), S10.2).1, (b3s_members ((b1s_owners S10.1 u12.1), S10.2).2 u12.2)) → (∀ S14 : bT1 × bT3, S14 = ((b1s_lows S13.1 (b0s_count (b1g_lows S13.1) (0 : Int32))), S13.2) → (∀ S15 : bT1 × bT3, S15 = ((b1s_highs S14.1 (b0s_count (b1g_highs S14.1) (0 : Int32))), S14.2) → (wp_X1_make_126 S15 ((0 : Int32)) Q))))))))))
set_option maxRecDepth 20000 in
theorem t_X1_make_81 {X : bf_X} (C : bf_C X RX1 cX1_make 5 none) (hR : bf_Rm X 3 92) (S : bT1 × bT3) (t1 : Int32) (Q : (bT1 × bT3) → Prop) (h : wp_X1_make_81 S t1 Q) : bf_A X (bf_Zv X bW1_3 Q) 5 81 [some (.ref 0), some (.ref 14), none, none, none] [.int t1, .ref 0] (bW1_3 S) := by
  unfold wp_X1_make_81 at h
  refine bs_put C (bf_dk dd_X1_make 43 rfl) tyX1_ok nmX1 cl_1 in_1 8 (Nat.le_of_ble_eq_true rfl) rfl f_1_41 rfl (ge_bW1_3_0 S) (Nat.le_of_ble_eq_true rfl) rfl rfl (pu_bW1_3_0_8 S t1) ?_
  refine bs_nameS bW1_3 (fun S7 eS7 => ?_)
  replace h := h S7 eS7
  refine bs_aload_n C (bf_dk dd_X1_make 44 rfl) rfl ?_
  refine bs_aload_n C (bf_dk dd_X1_make 45 rfl) rfl ?_
  refine bs_get C (bf_dk dd_X1_make 46 rfl) cl_3 in_3 1 (Nat.le_of_ble_eq_true rfl) rfl f_1_52 (ge_bW1_3_14 S7) rfl ?_
  refine bs_iconst C (bf_dk dd_X1_make 47 rfl) (5 : Int32) (by decide) ?_
  refine bs_pureSN_i (ps := [18]) (w := (bW1_3 S7)) C hR (c_X8_at _ _ _ _ _ 6 (b3g_values S7.2) ((5 : Int32)) _ h) my_X8_at m_1_55 rfl (Nat.le_of_ble_eq_true rfl) (Nat.le_of_ble_eq_true rfl) (su_bW1_3_18_bWan6 S7) rfl (st := [.ref 0]) (Nat.le_of_ble_eq_true rfl) (bf_dk dd_X1_make 48 rfl) rfl (fun _ => rfl) (fun r8 h => ?_)
  refine bs_put C (bf_dk dd_X1_make 49 rfl) tyX1_ok nmX1 cl_1 in_1 9 (Nat.le_of_ble_eq_true rfl) rfl f_1_44 rfl (ge_bW1_3_0 S7) (Nat.le_of_ble_eq_true rfl) rfl rfl (pu_bW1_3_0_9 S7 r8) ?_
  refine bs_nameS bW1_3 (fun S10 eS10 => ?_)
  replace h := h S10 eS10
  refine bs_aload_n C (bf_dk dd_X1_make 50 rfl) rfl ?_
  refine bs_get C (bf_dk dd_X1_make 51 rfl) cl_1 in_1 0 (Nat.le_of_ble_eq_true rfl) rfl f_1_12 (ge_bW1_3_0 S10) rfl ?_
  refine bs_aload_n C (bf_dk dd_X1_make 52 rfl) rfl ?_
  refine bs_get C (bf_dk dd_X1_make 53 rfl) cl_3 in_3 0 (Nat.le_of_ble_eq_true rfl) rfl f_1_59 (ge_bW1_3_14 S10) rfl ?_
  refine bs_callV_v (ps := [1, 2, 3, 15, 16, 17]) (w := (bW1_3 S10)) C hR (c_X0_copyFrom _ _ _ _ _ ((b1g_owners S10.1), (b3g_members S10.2)) _ h) my_X0_copyFrom m_1_62 rfl cl_0 (ge_bW0_0_0 _) rfl (Nat.le_of_ble_eq_true rfl) (Nat.le_of_ble_eq_true rfl) (su_bW1_3_1_15_bW0_0 S10) bnd_1t3_15t17 (st := []) (Nat.le_of_ble_eq_true rfl) (bf_dk dd_X1_make 54 rfl) rfl (fun _ => rfl) (w2 := fun u12 => bW1_3 (((b1s_owners S10.1 u12.1), S10.2).1, (b3s_members ((b1s_owners S10.1 u12.1), S10.2).2 u12.2))) (pt_bW1_3_1_15_bW0_0 S10) (fun u12 h => ?_)
  refine bs_nameS bW1_3 (fun S13 eS13 => ?_)
  replace h := h S13 eS13
  refine bs_aload_n C (bf_dk dd_X1_make 55 rfl) rfl ?_
  refine bs_get C (bf_dk dd_X1_make 56 rfl) cl_1 in_1 1 (Nat.le_of_ble_eq_true rfl) rfl f_1_18 (ge_bW1_3_0 S13) rfl ?_
  refine bs_iconst C (bf_dk dd_X1_make 57 rfl) (0 : Int32) (by decide) ?_
  refine bs_put C (bf_dk dd_X1_make 58 rfl) tyX0_ok nmX0 cl_0 in_0 2 (Nat.le_of_ble_eq_true rfl) rfl f_1_66 rfl (ge_bW1_3_4 S13) (Nat.le_of_ble_eq_true rfl) rfl rfl (pu_bW1_3_4_2 S13 (0 : Int32)) ?_
  refine bs_nameS bW1_3 (fun S14 eS14 => ?_)
  replace h := h S14 eS14
  refine bs_aload_n C (bf_dk dd_X1_make 59 rfl) rfl ?_
  refine bs_get C (bf_dk dd_X1_make 60 rfl) cl_1 in_1 2 (Nat.le_of_ble_eq_true rfl) rfl f_1_21 (ge_bW1_3_0 S14) rfl ?_
  refine bs_iconst C (bf_dk dd_X1_make 61 rfl) (0 : Int32) (by decide) ?_
  refine bs_put C (bf_dk dd_X1_make 62 rfl) tyX0_ok nmX0 cl_0 in_0 2 (Nat.le_of_ble_eq_true rfl) rfl f_1_66 rfl (ge_bW1_3_7 S14) (Nat.le_of_ble_eq_true rfl) rfl rfl (pu_bW1_3_7_2 S14 (0 : Int32)) ?_
  refine bs_nameS bW1_3 (fun S15 eS15 => ?_)
  replace h := h S15 eS15
  refine bs_iconst C (bf_dk dd_X1_make 63 rfl) (0 : Int32) (by decide) ?_
  refine bs_istore C (bf_dk dd_X1_make 64 rfl) (Nat.le_of_ble_eq_true rfl) (Nat.le_of_ble_eq_true rfl) (lv2 := [some (.ref 0), some (.ref 14), none, none, some (.int (0 : Int32))]) rfl ?_
  exact bs_weak (bf_s1 (bf_sn (bf_sn (bf_sn (bf_s1 bf_s0))))) (t_X1_make_126 C hR S15 ((0 : Int32)) Q h)
def wp_X1_make_61 (S : bT1 × bT3) (x3 : Int32) (t1 : Int32) (Q : (bT1 × bT3) → Prop) : Prop := (∀ S16 : bT1 × bT3, S16 = ((b1s_hashBits S.1 t1), S.2) → ((x3 = 0 → (wp_X1_make_81 S16 ((0 : Int32)) Q)) ∧ (¬ x3 = 0 → (wp_X8_at 6 (b3g_values S16.2) ((1 : Int32)) (fun r17 => (wp_X1_make_81 S16 (r17) Q))))))
set_option maxRecDepth 20000 in
theorem t_X1_make_61 {X : bf_X} (C : bf_C X RX1 cX1_make 5 none) (hR : bf_Rm X 3 92) (S : bT1 × bT3) (x3 : Int32) (t1 : Int32) (Q : (bT1 × bT3) → Prop) (h : wp_X1_make_61 S x3 t1 Q) : bf_A X (bf_Zv X bW1_3 Q) 5 61 [some (.ref 0), some (.ref 14), none, some (.int x3), none] [.int t1, .ref 0] (bW1_3 S) := by
  unfold wp_X1_make_61 at h
  refine bs_put C (bf_dk dd_X1_make 33 rfl) tyX1_ok nmX1 cl_1 in_1 7 (Nat.le_of_ble_eq_true rfl) rfl f_1_37 rfl (ge_bW1_3_0 S) (Nat.le_of_ble_eq_true rfl) rfl rfl (pu_bW1_3_0_7 S t1) ?_
  refine bs_nameS bW1_3 (fun S16 eS16 => ?_)
  replace h := h S16 eS16
  refine bs_aload_n C (bf_dk dd_X1_make 34 rfl) rfl ?_
  refine bs_iload_n C (bf_dk dd_X1_make 35 rfl) rfl ?_
  refine bs_if_eq C (bf_dk dd_X1_make 36 rfl) (tgt := 80) rfl (fun c => ?_) (fun c => ?_)
  · replace h := h.1 c
    refine bs_iconst C (bf_dk dd_X1_make 42 rfl) (0 : Int32) (by decide) ?_
    exact bs_weak (bf_s1 (bf_s1 (bf_sn (bf_sn (bf_sn bf_s0))))) (t_X1_make_81 C hR S16 ((0 : Int32)) Q h)
  · replace h := h.2 c
    refine bs_aload_n C (bf_dk dd_X1_make 37 rfl) rfl ?_
    refine bs_get C (bf_dk dd_X1_make 38 rfl) cl_3 in_3 1 (Nat.le_of_ble_eq_true rfl) rfl f_1_52 (ge_bW1_3_14 S16) rfl ?_
    refine bs_iconst C (bf_dk dd_X1_make 39 rfl) (1 : Int32) (by decide) ?_
    refine bs_pureSN_i (ps := [18]) (w := (bW1_3 S16)) C hR (c_X8_at _ _ _ _ _ 6 (b3g_values S16.2) ((1 : Int32)) _ h) my_X8_at m_1_55 rfl (Nat.le_of_ble_eq_true rfl) (Nat.le_of_ble_eq_true rfl) (su_bW1_3_18_bWan6 S16) rfl (st := [.ref 0]) (Nat.le_of_ble_eq_true rfl) (bf_dk dd_X1_make 40 rfl) rfl (fun _ => rfl) (fun r17 h => ?_)
    refine bs_goto C (bf_dk dd_X1_make 41 rfl) (tgt := 81) rfl ?_
    exact bs_weak (bf_s1 (bf_s1 (bf_sn (bf_sn (bf_sn bf_s0))))) (t_X1_make_81 C hR S16 (r17) Q h)
def wp_X1_make_43 (S : bT1 × bT3) (x2 : Int32) (t0 : Int32) (Q : (bT1 × bT3) → Prop) : Prop := ((x2 = 0 → (wp_X1_make_61 S (t0) ((0 : Int32)) Q)) ∧ (¬ x2 = 0 → (wp_X8_at 6 (b3g_values S.2) ((0 : Int32)) (fun r19 => (wp_X1_make_61 S (t0) (r19) Q)))))
set_option maxRecDepth 20000 in
theorem t_X1_make_43 {X : bf_X} (C : bf_C X RX1 cX1_make 5 none) (hR : bf_Rm X 3 92) (S : bT1 × bT3) (x2 : Int32) (t0 : Int32) (Q : (bT1 × bT3) → Prop) (h : wp_X1_make_43 S x2 t0 Q) : bf_A X (bf_Zv X bW1_3 Q) 5 43 [some (.ref 0), some (.ref 14), some (.int x2), none, none] [.int t0] (bW1_3 S) := by
  unfold wp_X1_make_43 at h
  refine bs_istore_n C (bf_dk dd_X1_make 23 rfl) rfl (Nat.le_of_ble_eq_true rfl) (Nat.le_of_ble_eq_true rfl) (lv2 := [some (.ref 0), some (.ref 14), some (.int x2), some (.int t0), none]) rfl ?_
  refine bs_aload_n C (bf_dk dd_X1_make 24 rfl) rfl ?_
  refine bs_iload_n C (bf_dk dd_X1_make 25 rfl) rfl ?_
  refine bs_if_eq C (bf_dk dd_X1_make 26 rfl) (tgt := 60) rfl (fun c => ?_) (fun c => ?_)
  · replace h := h.1 c
    refine bs_iconst C (bf_dk dd_X1_make 32 rfl) (0 : Int32) (by decide) ?_
    exact bs_weak (bf_s1 (bf_s1 (bf_sn (bf_s1 (bf_sn bf_s0))))) (t_X1_make_61 C hR S (t0) ((0 : Int32)) Q h)
  · replace h := h.2 c
    refine bs_aload_n C (bf_dk dd_X1_make 27 rfl) rfl ?_
    refine bs_get C (bf_dk dd_X1_make 28 rfl) cl_3 in_3 1 (Nat.le_of_ble_eq_true rfl) rfl f_1_52 (ge_bW1_3_14 S) rfl ?_
    refine bs_iconst C (bf_dk dd_X1_make 29 rfl) (0 : Int32) (by decide) ?_
    refine bs_pureSN_i (ps := [18]) (w := (bW1_3 S)) C hR (c_X8_at _ _ _ _ _ 6 (b3g_values S.2) ((0 : Int32)) _ h) my_X8_at m_1_55 rfl (Nat.le_of_ble_eq_true rfl) (Nat.le_of_ble_eq_true rfl) (su_bW1_3_18_bWan6 S) rfl (st := [.ref 0]) (Nat.le_of_ble_eq_true rfl) (bf_dk dd_X1_make 30 rfl) rfl (fun _ => rfl) (fun r19 h => ?_)
    refine bs_goto C (bf_dk dd_X1_make 31 rfl) (tgt := 61) rfl ?_
    exact bs_weak (bf_s1 (bf_s1 (bf_sn (bf_s1 (bf_sn bf_s0))))) (t_X1_make_61 C hR S (t0) (r19) Q h)
def wp_X1_make_38 (S : bT1 × bT3) (x2 : Int32) (Q : (bT1 × bT3) → Prop) : Prop := (wp_X1_make_43 S (x2) ((1 : Int32)) Q)
set_option maxRecDepth 20000 in
theorem t_X1_make_38 {X : bf_X} (C : bf_C X RX1 cX1_make 5 none) (hR : bf_Rm X 3 92) (S : bT1 × bT3) (x2 : Int32) (Q : (bT1 × bT3) → Prop) (h : wp_X1_make_38 S x2 Q) : bf_A X (bf_Zv X bW1_3 Q) 5 38 [some (.ref 0), some (.ref 14), some (.int x2), none, none] [] (bW1_3 S) := by
  unfold wp_X1_make_38 at h
  refine bs_iconst C (bf_dk dd_X1_make 20 rfl) (1 : Int32) (by decide) ?_
  refine bs_goto C (bf_dk dd_X1_make 21 rfl) (tgt := 43) rfl ?_
  exact bs_weak (bf_s1 (bf_s1 (bf_s1 (bf_sn (bf_sn bf_s0))))) (t_X1_make_43 C hR S (x2) ((1 : Int32)) Q h)
def wp_X1_make_21 (S : bT1 × bT3) (t0 : Int32) (Q : (bT1 × bT3) → Prop) : Prop := (((b3g_mode S.2) = (2 : Int32) → (wp_X1_make_38 S (t0) Q)) ∧ (¬ (b3g_mode S.2) = (2 : Int32) → ((¬ (b3g_mode S.2) = (3 : Int32) → (wp_X1_make_43 S (t0) ((0 : Int32)) Q)) ∧ ((b3g_mode S.2) = (3 : Int32) → (wp_X1_make_38 S (t0) Q)))))
set_option maxRecDepth 20000 in
theorem t_X1_make_21 {X : bf_X} (C : bf_C X RX1 cX1_make 5 none) (hR : bf_Rm X 3 92) (S : bT1 × bT3) (t0 : Int32) (Q : (bT1 × bT3) → Prop) (h : wp_X1_make_21 S t0 Q) : bf_A X (bf_Zv X bW1_3 Q) 5 21 [some (.ref 0), some (.ref 14), none, none, none] [.int t0] (bW1_3 S) := by
  unfold wp_X1_make_21 at h
  refine bs_istore_n C (bf_dk dd_X1_make 11 rfl) rfl (Nat.le_of_ble_eq_true rfl) (Nat.le_of_ble_eq_true rfl) (lv2 := [some (.ref 0), some (.ref 14), some (.int t0), none, none]) rfl ?_
  refine bs_aload_n C (bf_dk dd_X1_make 12 rfl) rfl ?_
  refine bs_get C (bf_dk dd_X1_make 13 rfl) cl_3 in_3 2 (Nat.le_of_ble_eq_true rfl) rfl f_1_47 (ge_bW1_3_14 S) rfl ?_
  refine bs_iconst C (bf_dk dd_X1_make 14 rfl) (2 : Int32) (by decide) ?_
  refine bs_icmp_eq C (bf_dk dd_X1_make 15 rfl) (tgt := 38) rfl (fun c => ?_) (fun c => ?_)
  · replace h := h.1 c
    exact bs_weak (bf_s1 (bf_s1 (bf_s1 (bf_sn (bf_sn bf_s0))))) (t_X1_make_38 C hR S (t0) Q h)
  · replace h := h.2 c
    refine bs_aload_n C (bf_dk dd_X1_make 16 rfl) rfl ?_
    refine bs_get C (bf_dk dd_X1_make 17 rfl) cl_3 in_3 2 (Nat.le_of_ble_eq_true rfl) rfl f_1_47 (ge_bW1_3_14 S) rfl ?_
    refine bs_iconst C (bf_dk dd_X1_make 18 rfl) (3 : Int32) (by decide) ?_
    refine bs_icmp_ne C (bf_dk dd_X1_make 19 rfl) (tgt := 42) rfl (fun c => ?_) (fun c => ?_)
    · replace h := h.1 c
      refine bs_iconst C (bf_dk dd_X1_make 22 rfl) (0 : Int32) (by decide) ?_
      exact bs_weak (bf_s1 (bf_s1 (bf_s1 (bf_sn (bf_sn bf_s0))))) (t_X1_make_43 C hR S (t0) ((0 : Int32)) Q h)
    · replace h := h.2 c
      exact bs_weak (bf_s1 (bf_s1 (bf_s1 (bf_sn (bf_sn bf_s0))))) (t_X1_make_38 C hR S (t0) Q h)
def wp_X1_make_16 (S : bT1 × bT3) (Q : (bT1 × bT3) → Prop) : Prop := (wp_X1_make_21 S ((1 : Int32)) Q)
set_option maxRecDepth 20000 in
theorem t_X1_make_16 {X : bf_X} (C : bf_C X RX1 cX1_make 5 none) (hR : bf_Rm X 3 92) (S : bT1 × bT3) (Q : (bT1 × bT3) → Prop) (h : wp_X1_make_16 S Q) : bf_A X (bf_Zv X bW1_3 Q) 5 16 [some (.ref 0), some (.ref 14), none, none, none] [] (bW1_3 S) := by
  unfold wp_X1_make_16 at h
  refine bs_iconst C (bf_dk dd_X1_make 8 rfl) (1 : Int32) (by decide) ?_
  refine bs_goto C (bf_dk dd_X1_make 9 rfl) (tgt := 21) rfl ?_
  exact bs_weak (bf_s1 (bf_s1 (bf_sn (bf_sn (bf_sn bf_s0))))) (t_X1_make_21 C hR S ((1 : Int32)) Q h)
def wp_X1_make (S : bT1 × bT3) (Q : (bT1 × bT3) → Prop) : Prop := (((b3g_mode S.2) = (1 : Int32) → (wp_X1_make_16 S Q)) ∧ (¬ (b3g_mode S.2) = (1 : Int32) → ((¬ (b3g_mode S.2) = (3 : Int32) → (wp_X1_make_21 S ((0 : Int32)) Q)) ∧ ((b3g_mode S.2) = (3 : Int32) → (wp_X1_make_16 S Q)))))
set_option maxRecDepth 20000 in
theorem t_X1_make {X : bf_X} (C : bf_C X RX1 cX1_make 5 none) (hR : bf_Rm X 3 92) (S : bT1 × bT3) (Q : (bT1 × bT3) → Prop) (h : wp_X1_make S Q) : bf_A X (bf_Zv X bW1_3 Q) 5 0 [some (.ref 0), some (.ref 14), none, none, none] [] (bW1_3 S) := by
  unfold wp_X1_make at h
  refine bs_aload_n C (bf_dk dd_X1_make 0 rfl) rfl ?_
  refine bs_get C (bf_dk dd_X1_make 1 rfl) cl_3 in_3 2 (Nat.le_of_ble_eq_true rfl) rfl f_1_47 (ge_bW1_3_14 S) rfl ?_
  refine bs_iconst C (bf_dk dd_X1_make 2 rfl) (1 : Int32) (by decide) ?_
  refine bs_icmp_eq C (bf_dk dd_X1_make 3 rfl) (tgt := 16) rfl (fun c => ?_) (fun c => ?_)
  · replace h := h.1 c
    exact bs_weak (bf_s1 (bf_s1 (bf_sn (bf_sn (bf_sn bf_s0))))) (t_X1_make_16 C hR S Q h)
  · replace h := h.2 c
    refine bs_aload_n C (bf_dk dd_X1_make 4 rfl) rfl ?_
    refine bs_get C (bf_dk dd_X1_make 5 rfl) cl_3 in_3 2 (Nat.le_of_ble_eq_true rfl) rfl f_1_47 (ge_bW1_3_14 S) rfl ?_
    refine bs_iconst C (bf_dk dd_X1_make 6 rfl) (3 : Int32) (by decide) ?_
    refine bs_icmp_ne C (bf_dk dd_X1_make 7 rfl) (tgt := 20) rfl (fun c => ?_) (fun c => ?_)
    · replace h := h.1 c
      refine bs_iconst C (bf_dk dd_X1_make 10 rfl) (0 : Int32) (by decide) ?_
      exact bs_weak (bf_s1 (bf_s1 (bf_sn (bf_sn (bf_sn bf_s0))))) (t_X1_make_21 C hR S ((0 : Int32)) Q h)
    · replace h := h.2 c
      exact bs_weak (bf_s1 (bf_s1 (bf_sn (bf_sn (bf_sn bf_s0))))) (t_X1_make_16 C hR S Q h)
theorem c_X1_make (l : Launch) (dC : Nat → ClassId) (dI : Nat → Nat → Nat) (ac : Nat → ClassId) (al : Nat → Nat) (S : bT1 × bT3) (Q : (bT1 × bT3) → Prop) (h : wp_X1_make S Q) : bf_M l yX1_make cX1_make 5 none 3 92 dC dI ac al [.ref 0, .ref 14] (bW1_3 S) (bf_Kv dC dI ac al bW1_3 Q) := by
  refine bf_start [some (.ref 0), some (.ref 14), none, none, none] (by decide) (Nat.le_of_ble_eq_true rfl) (bf_s1 (bf_s1 (bf_en 3))) ?_
  intro X hl C hR e1 e2 e3 e4
  subst e1; subst e2; subst e3; subst e4
  exact t_X1_make C hR S Q h
def wp_X1_count (S : bT1) (Q : Int32 → Prop) : Prop := (Q (b0g_count (b1g_owners S)))
set_option maxRecDepth 20000 in
theorem t_X1_count {X : bf_X} (C : bf_C X RX1 cX1_count 1 (some .int)) (hR : bf_Rm X 0 0) (S : bT1) (Q : Int32 → Prop) (h : wp_X1_count S Q) : bf_A X (bf_Zi X bW1 (fun r u => u = S ∧ Q r)) 1 0 [some (.ref 0)] [] (bW1 S) := by
  unfold wp_X1_count at h
  refine bs_aload_n C (bf_dk dd_X1_count 0 rfl) rfl ?_
  refine bs_get C (bf_dk dd_X1_count 1 rfl) cl_1 in_1 0 (Nat.le_of_ble_eq_true rfl) rfl f_1_12 (ge_bW1_0 S) rfl ?_
  refine bs_get C (bf_dk dd_X1_count 2 rfl) cl_0 in_0 2 (Nat.le_of_ble_eq_true rfl) rfl f_1_66 (ge_bW1_1 S) rfl ?_
  exact bs_iret (u := S) C (bf_dk dd_X1_count 3 rfl) rfl ⟨rfl, h⟩
theorem c_X1_count (l : Launch) (dC : Nat → ClassId) (dI : Nat → Nat → Nat) (ac : Nat → ClassId) (al : Nat → Nat) (S : bT1) (Q : Int32 → Prop) (h : wp_X1_count S Q) : bf_M l yX1_count cX1_count 1 (some .int) 0 0 dC dI ac al [.ref 0] (bW1 S) (bf_Ki dC dI ac al bW1 (fun r u => u = S ∧ Q r)) := by
  refine bf_start [some (.ref 0)] (by decide) (Nat.le_of_ble_eq_true rfl) (bf_s1 bf_s0) ?_
  intro X hl C hR e1 e2 e3 e4
  subst e1; subst e2; subst e3; subst e4
  exact t_X1_count C hR S Q h
def wp_X8_lowest (a0 : Int32) (a1 : Int32) (Q : Int32 → Prop) : Prop := (Q (a0 &&& (((1 : Int32) <<< (a1 &&& 31)) - (1 : Int32))))
set_option maxRecDepth 20000 in
theorem t_X8_lowest {X : bf_X} (C : bf_C X RX8 cX8_lowest 2 (some .int)) (hR : bf_Rm X 0 0) (a0 : Int32) (a1 : Int32) (Q : Int32 → Prop) (h : wp_X8_lowest a0 a1 Q) : bf_A X (bf_Zi X bWu (fun r u => u = () ∧ Q r)) 2 0 [some (.int a0), some (.int a1)] [] (bWu ()) := by
  unfold wp_X8_lowest at h
  refine bs_iload_n C (bf_dk dd_X8_lowest 0 rfl) rfl ?_
  refine bs_iconst C (bf_dk dd_X8_lowest 1 rfl) (1 : Int32) (by decide) ?_
  refine bs_iload_n C (bf_dk dd_X8_lowest 2 rfl) rfl ?_
  refine bs_ishl C (bf_dk dd_X8_lowest 3 rfl) ?_
  refine bs_iconst C (bf_dk dd_X8_lowest 4 rfl) (1 : Int32) (by decide) ?_
  refine bs_isub C (bf_dk dd_X8_lowest 5 rfl) ?_
  refine bs_iand C (bf_dk dd_X8_lowest 6 rfl) ?_
  exact bs_iret (u := ()) C (bf_dk dd_X8_lowest 7 rfl) rfl ⟨rfl, h⟩
theorem c_X8_lowest (l : Launch) (dC : Nat → ClassId) (dI : Nat → Nat → Nat) (ac : Nat → ClassId) (al : Nat → Nat) (a0 : Int32) (a1 : Int32) (Q : Int32 → Prop) (h : wp_X8_lowest a0 a1 Q) : bf_M l yX8_lowest cX8_lowest 2 (some .int) 0 0 dC dI ac al [.int a0, .int a1] (bWu ()) (bf_Ki dC dI ac al bWu (fun r u => u = () ∧ Q r)) := by
  refine bf_start [some (.int a0), some (.int a1)] (by decide) (Nat.le_of_ble_eq_true rfl) (bf_s1 (bf_s1 bf_s0)) ?_
  intro X hl C hR e1 e2 e3 e4
  subst e1; subst e2; subst e3; subst e4
  exact t_X8_lowest C hR a0 a1 Q h
def wp_X1_hashAt (S : bT1) (a1 : Int32) (Q : Int32 → Prop) : Prop := (wp_X8_at 64 (b1g_hashes S) (a1) (fun r1 => (wp_X8_lowest (r1) ((b1g_hashBits S)) (fun r3 => (Q r3)))))
set_option maxRecDepth 20000 in
theorem t_X1_hashAt {X : bf_X} (C : bf_C X RX1 cX1_hashAt 2 (some .int)) (hR : bf_Rm X 1 21) (S : bT1) (a1 : Int32) (Q : Int32 → Prop) (h : wp_X1_hashAt S a1 Q) : bf_A X (bf_Zi X bW1 (fun r u => u = S ∧ Q r)) 2 0 [some (.ref 0), some (.int a1)] [] (bW1 S) := by
  unfold wp_X1_hashAt at h
  refine bs_aload_n C (bf_dk dd_X1_hashAt 0 rfl) rfl ?_
  refine bs_get C (bf_dk dd_X1_hashAt 1 rfl) cl_1 in_1 5 (Nat.le_of_ble_eq_true rfl) rfl f_1_31 (ge_bW1_0 S) rfl ?_
  refine bs_iload_n C (bf_dk dd_X1_hashAt 2 rfl) rfl ?_
  refine bs_pureSN_i (ps := [12]) (w := (bW1 S)) C hR (c_X8_at _ _ _ _ _ 64 (b1g_hashes S) (a1) _ h) my_X8_at m_1_55 rfl (Nat.le_of_ble_eq_true rfl) (Nat.le_of_ble_eq_true rfl) (su_bW1_12_bWan64 S) rfl (st := []) (Nat.le_of_ble_eq_true rfl) (bf_dk dd_X1_hashAt 3 rfl) rfl (fun _ => rfl) (fun r1 h => ?_)
  refine bs_aload_n C (bf_dk dd_X1_hashAt 4 rfl) rfl ?_
  refine bs_get C (bf_dk dd_X1_hashAt 5 rfl) cl_1 in_1 7 (Nat.le_of_ble_eq_true rfl) rfl f_1_37 (ge_bW1_0 S) rfl ?_
  refine bs_pureSN_i (ps := []) (w := (bW1 S)) C hR (c_X8_lowest _ _ _ _ _ (r1) ((b1g_hashBits S)) _ h) my_X8_lowest m_1_126 rfl (Nat.le_of_ble_eq_true rfl) (Nat.le_of_ble_eq_true rfl) rfl rfl (st := []) (Nat.le_of_ble_eq_true rfl) (bf_dk dd_X1_hashAt 6 rfl) rfl (fun _ => rfl) (fun r3 h => ?_)
  exact bs_iret (u := S) C (bf_dk dd_X1_hashAt 7 rfl) rfl ⟨rfl, h⟩
theorem c_X1_hashAt (l : Launch) (dC : Nat → ClassId) (dI : Nat → Nat → Nat) (ac : Nat → ClassId) (al : Nat → Nat) (S : bT1) (a1 : Int32) (Q : Int32 → Prop) (h : wp_X1_hashAt S a1 Q) : bf_M l yX1_hashAt cX1_hashAt 2 (some .int) 1 21 dC dI ac al [.ref 0, .int a1] (bW1 S) (bf_Ki dC dI ac al bW1 (fun r u => u = S ∧ Q r)) := by
  refine bf_start [some (.ref 0), some (.int a1)] (by decide) (Nat.le_of_ble_eq_true rfl) (bf_s1 (bf_s1 bf_s0)) ?_
  intro X hl C hR e1 e2 e3 e4
  subst e1; subst e2; subst e3; subst e4
  exact t_X1_hashAt C hR S a1 Q h
def wp_X1_possibleAt_49 (S : bT1) (x4 : Int32) (t0 : Int32) (Q : Int32 → Prop) : Prop := ((t0 = 0 → (Q (-1 : Int32))) ∧ (¬ t0 = 0 → (Q x4)))
set_option maxRecDepth 20000 in
theorem t_X1_possibleAt_49 {X : bf_X} (C : bf_C X RX1 cX1_possibleAt 6 (some .int)) (hR : bf_Rm X 3 75) (S : bT1) (x4 : Int32) (t0 : Int32) (Q : Int32 → Prop) (h : wp_X1_possibleAt_49 S x4 t0 Q) : bf_A X (bf_Zi X bW1 (fun r u => u = S ∧ Q r)) 6 49 [none, none, none, none, some (.int x4), none] [.int t0] (bW1 S) := by
  unfold wp_X1_possibleAt_49 at h
  refine bs_istore C (bf_dk dd_X1_possibleAt 25 rfl) (Nat.le_of_ble_eq_true rfl) (Nat.le_of_ble_eq_true rfl) (lv2 := [none, none, none, none, some (.int x4), some (.int t0)]) rfl ?_
  refine bs_iload C (bf_dk dd_X1_possibleAt 26 rfl) rfl ?_
  refine bs_if_eq C (bf_dk dd_X1_possibleAt 27 rfl) (tgt := 61) rfl (fun c => ?_) (fun c => ?_)
  · replace h := h.1 c
    refine bs_iconst C (bf_dk dd_X1_possibleAt 30 rfl) (-1 : Int32) (by decide) ?_
    exact bs_iret (u := S) C (bf_dk dd_X1_possibleAt 31 rfl) rfl ⟨rfl, h⟩
  · replace h := h.2 c
    refine bs_iload C (bf_dk dd_X1_possibleAt 28 rfl) rfl ?_
    refine bs_goto C (bf_dk dd_X1_possibleAt 29 rfl) (tgt := 62) rfl ?_
    exact bs_iret (u := S) C (bf_dk dd_X1_possibleAt 31 rfl) rfl ⟨rfl, h⟩
def wp_X1_possibleAt_48 (S : bT1) (x4 : Int32) (Q : Int32 → Prop) : Prop := (wp_X1_possibleAt_49 S (x4) ((0 : Int32)) Q)
set_option maxRecDepth 20000 in
theorem t_X1_possibleAt_48 {X : bf_X} (C : bf_C X RX1 cX1_possibleAt 6 (some .int)) (hR : bf_Rm X 3 75) (S : bT1) (x4 : Int32) (Q : Int32 → Prop) (h : wp_X1_possibleAt_48 S x4 Q) : bf_A X (bf_Zi X bW1 (fun r u => u = S ∧ Q r)) 6 48 [none, none, none, none, some (.int x4), none] [] (bW1 S) := by
  unfold wp_X1_possibleAt_48 at h
  refine bs_iconst C (bf_dk dd_X1_possibleAt 24 rfl) (0 : Int32) (by decide) ?_
  exact bs_weak (bf_sn (bf_sn (bf_sn (bf_sn (bf_s1 (bf_sn bf_s0)))))) (t_X1_possibleAt_49 C hR S (x4) ((0 : Int32)) Q h)
def wp_X1_possibleAt (S : bT1) (a1 : Int64) (a3 : Int32) (Q : Int32 → Prop) : Prop := (wp_X0_upTo (b1g_lows S) (a1) (a3) (fun r1 => (((r1 - (1 : Int32)) < 0 → (wp_X1_possibleAt_48 S ((r1 - (1 : Int32))) Q)) ∧ (¬ (r1 - (1 : Int32)) < 0 → (wp_X0_bytesAt (b1g_highs S) ((r1 - (1 : Int32))) (fun r3 => (wp_X0_lengthAt (b1g_highs S) ((r1 - (1 : Int32))) (fun r5 => (wp_X8_order (a1) (a3) (r3) (r5) (fun r7 => ((0 < r7 → (wp_X1_possibleAt_48 S ((r1 - (1 : Int32))) Q)) ∧ (¬ 0 < r7 → (wp_X1_possibleAt_49 S ((r1 - (1 : Int32))) ((1 : Int32)) Q)))))))))))))
set_option maxRecDepth 20000 in
theorem t_X1_possibleAt {X : bf_X} (C : bf_C X RX1 cX1_possibleAt 6 (some .int)) (hR : bf_Rm X 3 75) (S : bT1) (a1 : Int64) (a3 : Int32) (Q : Int32 → Prop) (h : wp_X1_possibleAt S a1 a3 Q) : bf_A X (bf_Zi X bW1 (fun r u => u = S ∧ Q r)) 6 0 [some (.ref 0), some (.long a1), none, some (.int a3), none, none] [] (bW1 S) := by
  unfold wp_X1_possibleAt at h
  refine bs_aload_n C (bf_dk dd_X1_possibleAt 0 rfl) rfl ?_
  refine bs_get C (bf_dk dd_X1_possibleAt 1 rfl) cl_1 in_1 1 (Nat.le_of_ble_eq_true rfl) rfl f_1_18 (ge_bW1_0 S) rfl ?_
  refine bs_lload_n C (bf_dk dd_X1_possibleAt 2 rfl) rfl ?_
  refine bs_iload_n C (bf_dk dd_X1_possibleAt 3 rfl) rfl ?_
  refine bs_pureV_i (ps := [4, 5, 6]) (w := (bW1 S)) C hR (c_X0_upTo _ _ _ _ _ (b1g_lows S) (a1) (a3) _ h) my_X0_upTo m_1_132 rfl cl_0 (ge_bW0_0 _) rfl (Nat.le_of_ble_eq_true rfl) (Nat.le_of_ble_eq_true rfl) (su_bW1_4_bW0 S) rfl (st := []) (Nat.le_of_ble_eq_true rfl) (bf_dk dd_X1_possibleAt 4 rfl) rfl (fun _ => rfl) (fun r1 h => ?_)
  refine bs_iconst C (bf_dk dd_X1_possibleAt 5 rfl) (1 : Int32) (by decide) ?_
  refine bs_isub C (bf_dk dd_X1_possibleAt 6 rfl) ?_
  refine bs_istore C (bf_dk dd_X1_possibleAt 7 rfl) (Nat.le_of_ble_eq_true rfl) (Nat.le_of_ble_eq_true rfl) (lv2 := [some (.ref 0), some (.long a1), none, some (.int a3), some (.int (r1 - (1 : Int32))), none]) rfl ?_
  refine bs_iload C (bf_dk dd_X1_possibleAt 8 rfl) rfl ?_
  refine bs_if_lt C (bf_dk dd_X1_possibleAt 9 rfl) (tgt := 48) rfl (fun c => ?_) (fun c => ?_)
  · replace h := h.1 c
    exact bs_weak (bf_sn (bf_sn (bf_sn (bf_sn (bf_s1 (bf_sn bf_s0)))))) (t_X1_possibleAt_48 C hR S ((r1 - (1 : Int32))) Q h)
  · replace h := h.2 c
    refine bs_lload_n C (bf_dk dd_X1_possibleAt 10 rfl) rfl ?_
    refine bs_iload_n C (bf_dk dd_X1_possibleAt 11 rfl) rfl ?_
    refine bs_aload_n C (bf_dk dd_X1_possibleAt 12 rfl) rfl ?_
    refine bs_get C (bf_dk dd_X1_possibleAt 13 rfl) cl_1 in_1 2 (Nat.le_of_ble_eq_true rfl) rfl f_1_21 (ge_bW1_0 S) rfl ?_
    refine bs_iload C (bf_dk dd_X1_possibleAt 14 rfl) rfl ?_
    refine bs_pureV_l (ps := [7, 8, 9]) (w := (bW1 S)) C hR (c_X0_bytesAt _ _ _ _ _ (b1g_highs S) ((r1 - (1 : Int32))) _ h) my_X0_bytesAt m_1_76 rfl cl_0 (ge_bW0_0 _) rfl (Nat.le_of_ble_eq_true rfl) (Nat.le_of_ble_eq_true rfl) (su_bW1_7_bW0 S) rfl (st := [.int a3, .long a1]) (Nat.le_of_ble_eq_true rfl) (bf_dk dd_X1_possibleAt 15 rfl) rfl (fun _ => rfl) (fun r3 h => ?_)
    refine bs_aload_n C (bf_dk dd_X1_possibleAt 16 rfl) rfl ?_
    refine bs_get C (bf_dk dd_X1_possibleAt 17 rfl) cl_1 in_1 2 (Nat.le_of_ble_eq_true rfl) rfl f_1_21 (ge_bW1_0 S) rfl ?_
    refine bs_iload C (bf_dk dd_X1_possibleAt 18 rfl) rfl ?_
    refine bs_pureV_i (ps := [7, 8, 9]) (w := (bW1 S)) C hR (c_X0_lengthAt _ _ _ _ _ (b1g_highs S) ((r1 - (1 : Int32))) _ h) my_X0_lengthAt m_1_80 rfl cl_0 (ge_bW0_0 _) rfl (Nat.le_of_ble_eq_true rfl) (Nat.le_of_ble_eq_true rfl) (su_bW1_7_bW0 S) rfl (st := [.long r3, .int a3, .long a1]) (Nat.le_of_ble_eq_true rfl) (bf_dk dd_X1_possibleAt 19 rfl) rfl (fun _ => rfl) (fun r5 h => ?_)
    refine bs_pureSN_i (ps := []) (w := (bW1 S)) C hR (c_X8_order _ _ _ _ _ (a1) (a3) (r3) (r5) _ h) my_X8_order m_1_135 rfl (Nat.le_of_ble_eq_true rfl) (Nat.le_of_ble_eq_true rfl) rfl rfl (st := []) (Nat.le_of_ble_eq_true rfl) (bf_dk dd_X1_possibleAt 20 rfl) rfl (fun _ => rfl) (fun r7 h => ?_)
    refine bs_if_gt C (bf_dk dd_X1_possibleAt 21 rfl) (tgt := 48) rfl (fun c => ?_) (fun c => ?_)
    · replace h := h.1 c
      exact bs_weak (bf_sn (bf_sn (bf_sn (bf_sn (bf_s1 (bf_sn bf_s0)))))) (t_X1_possibleAt_48 C hR S ((r1 - (1 : Int32))) Q h)
    · replace h := h.2 c
      refine bs_iconst C (bf_dk dd_X1_possibleAt 22 rfl) (1 : Int32) (by decide) ?_
      refine bs_goto C (bf_dk dd_X1_possibleAt 23 rfl) (tgt := 49) rfl ?_
      exact bs_weak (bf_sn (bf_sn (bf_sn (bf_sn (bf_s1 (bf_sn bf_s0)))))) (t_X1_possibleAt_49 C hR S ((r1 - (1 : Int32))) ((1 : Int32)) Q h)
theorem c_X1_possibleAt (l : Launch) (dC : Nat → ClassId) (dI : Nat → Nat → Nat) (ac : Nat → ClassId) (al : Nat → Nat) (S : bT1) (a1 : Int64) (a3 : Int32) (Q : Int32 → Prop) (h : wp_X1_possibleAt S a1 a3 Q) : bf_M l yX1_possibleAt cX1_possibleAt 6 (some .int) 3 75 dC dI ac al [.ref 0, .long a1, .int a3] (bW1 S) (bf_Ki dC dI ac al bW1 (fun r u => u = S ∧ Q r)) := by
  refine bf_start [some (.ref 0), some (.long a1), none, some (.int a3), none, none] (by decide) (Nat.le_of_ble_eq_true rfl) (bf_s1 (bf_s1 (bf_sn (bf_s1 (bf_en 2))))) ?_
  intro X hl C hR e1 e2 e3 e4
  subst e1; subst e2; subst e3; subst e4
  exact t_X1_possibleAt C hR S a1 a3 Q h
def wp_X1_verdictOf (S : bT1) (a1 : Int64) (a3 : Int32) (Q : Int32 → Prop) : Prop := (wp_X1_possibleAt S (a1) (a3) (fun r1 => ((r1 = (-1 : Int32) → (Q (0 : Int32))) ∧ (¬ r1 = (-1 : Int32) → (wp_X8_mixed ((b1g_salt S)) (a1) (a3) (fun r3 => (wp_X8_lowest (r3) ((b1g_hashBits S)) (fun r5 => (wp_X1_hashAt S (r1) (fun r7 => ((r5 = r7 → (wp_X0_bytesAt (b1g_owners S) (r1) (fun r9 => ((¬ (lg_cmp r9 a1) = 0 → (Q (2 : Int32))) ∧ ((lg_cmp r9 a1) = 0 → (wp_X0_lengthAt (b1g_owners S) (r1) (fun r11 => ((¬ r11 = a3 → (Q (2 : Int32))) ∧ (r11 = a3 → (Q (1 : Int32))))))))))) ∧ (¬ r5 = r7 → (Q (0 : Int32))))))))))))))
set_option maxRecDepth 20000 in
theorem t_X1_verdictOf {X : bf_X} (C : bf_C X RX1 cX1_verdictOf 5 (some .int)) (hR : bf_Rm X 4 100) (S : bT1) (a1 : Int64) (a3 : Int32) (Q : Int32 → Prop) (h : wp_X1_verdictOf S a1 a3 Q) : bf_A X (bf_Zi X bW1 (fun r u => u = S ∧ Q r)) 5 0 [some (.ref 0), some (.long a1), none, some (.int a3), none] [] (bW1 S) := by
  unfold wp_X1_verdictOf at h
  refine bs_aload_n C (bf_dk dd_X1_verdictOf 0 rfl) rfl ?_
  refine bs_lload_n C (bf_dk dd_X1_verdictOf 1 rfl) rfl ?_
  refine bs_iload_n C (bf_dk dd_X1_verdictOf 2 rfl) rfl ?_
  refine bs_selfPV_i C hR (c_X1_possibleAt _ _ _ _ _ S (a1) (a3) _ h) my_X1_possibleAt m_1_138 rfl cl_1 (ge_bW1_0 _) rfl (Nat.le_of_ble_eq_true rfl) (Nat.le_of_ble_eq_true rfl) (st := []) (Nat.le_of_ble_eq_true rfl) (bf_dk dd_X1_verdictOf 3 rfl) rfl (fun r1 h => ?_)
  refine bs_istore C (bf_dk dd_X1_verdictOf 4 rfl) (Nat.le_of_ble_eq_true rfl) (Nat.le_of_ble_eq_true rfl) (lv2 := [some (.ref 0), some (.long a1), none, some (.int a3), some (.int r1)]) rfl ?_
  refine bs_iload C (bf_dk dd_X1_verdictOf 5 rfl) rfl ?_
  refine bs_iconst C (bf_dk dd_X1_verdictOf 6 rfl) (-1 : Int32) (by decide) ?_
  refine bs_icmp_eq C (bf_dk dd_X1_verdictOf 7 rfl) (tgt := 39) rfl (fun c => ?_) (fun c => ?_)
  · replace h := h.1 c
    refine bs_iconst C (bf_dk dd_X1_verdictOf 20 rfl) (0 : Int32) (by decide) ?_
    exact bs_iret (u := S) C (bf_dk dd_X1_verdictOf 21 rfl) rfl ⟨rfl, h⟩
  · replace h := h.2 c
    refine bs_aload_n C (bf_dk dd_X1_verdictOf 8 rfl) rfl ?_
    refine bs_get C (bf_dk dd_X1_verdictOf 9 rfl) cl_1 in_1 9 (Nat.le_of_ble_eq_true rfl) rfl f_1_44 (ge_bW1_0 S) rfl ?_
    refine bs_lload_n C (bf_dk dd_X1_verdictOf 10 rfl) rfl ?_
    refine bs_iload_n C (bf_dk dd_X1_verdictOf 11 rfl) rfl ?_
    refine bs_pureSN_i (ps := []) (w := (bW1 S)) C hR (c_X8_mixed _ _ _ _ _ ((b1g_salt S)) (a1) (a3) _ h) my_X8_mixed m_1_97 rfl (Nat.le_of_ble_eq_true rfl) (Nat.le_of_ble_eq_true rfl) rfl rfl (st := []) (Nat.le_of_ble_eq_true rfl) (bf_dk dd_X1_verdictOf 12 rfl) rfl (fun _ => rfl) (fun r3 h => ?_)
    refine bs_aload_n C (bf_dk dd_X1_verdictOf 13 rfl) rfl ?_
    refine bs_get C (bf_dk dd_X1_verdictOf 14 rfl) cl_1 in_1 7 (Nat.le_of_ble_eq_true rfl) rfl f_1_37 (ge_bW1_0 S) rfl ?_
    refine bs_pureSN_i (ps := []) (w := (bW1 S)) C hR (c_X8_lowest _ _ _ _ _ (r3) ((b1g_hashBits S)) _ h) my_X8_lowest m_1_126 rfl (Nat.le_of_ble_eq_true rfl) (Nat.le_of_ble_eq_true rfl) rfl rfl (st := []) (Nat.le_of_ble_eq_true rfl) (bf_dk dd_X1_verdictOf 15 rfl) rfl (fun _ => rfl) (fun r5 h => ?_)
    refine bs_aload_n C (bf_dk dd_X1_verdictOf 16 rfl) rfl ?_
    refine bs_iload C (bf_dk dd_X1_verdictOf 17 rfl) rfl ?_
    refine bs_selfPV_i C hR (c_X1_hashAt _ _ _ _ _ S (r1) _ h) my_X1_hashAt m_1_141 rfl cl_1 (ge_bW1_0 _) rfl (Nat.le_of_ble_eq_true rfl) (Nat.le_of_ble_eq_true rfl) (st := [.int r5]) (Nat.le_of_ble_eq_true rfl) (bf_dk dd_X1_verdictOf 18 rfl) rfl (fun r7 h => ?_)
    refine bs_icmp_eq C (bf_dk dd_X1_verdictOf 19 rfl) (tgt := 41) rfl (fun c => ?_) (fun c => ?_)
    · replace h := h.1 c
      refine bs_aload_n C (bf_dk dd_X1_verdictOf 22 rfl) rfl ?_
      refine bs_get C (bf_dk dd_X1_verdictOf 23 rfl) cl_1 in_1 0 (Nat.le_of_ble_eq_true rfl) rfl f_1_12 (ge_bW1_0 S) rfl ?_
      refine bs_iload C (bf_dk dd_X1_verdictOf 24 rfl) rfl ?_
      refine bs_pureV_l (ps := [1, 2, 3]) (w := (bW1 S)) C hR (c_X0_bytesAt _ _ _ _ _ (b1g_owners S) (r1) _ h) my_X0_bytesAt m_1_76 rfl cl_0 (ge_bW0_0 _) rfl (Nat.le_of_ble_eq_true rfl) (Nat.le_of_ble_eq_true rfl) (su_bW1_1_bW0 S) rfl (st := []) (Nat.le_of_ble_eq_true rfl) (bf_dk dd_X1_verdictOf 25 rfl) rfl (fun _ => rfl) (fun r9 h => ?_)
      refine bs_lload_n C (bf_dk dd_X1_verdictOf 26 rfl) rfl ?_
      refine bs_lcmp C (bf_dk dd_X1_verdictOf 27 rfl) ?_
      refine bs_if_ne C (bf_dk dd_X1_verdictOf 28 rfl) (tgt := 72) rfl (fun c => ?_) (fun c => ?_)
      · replace h := h.1 c
        refine bs_iconst C (bf_dk dd_X1_verdictOf 37 rfl) (2 : Int32) (by decide) ?_
        exact bs_iret (u := S) C (bf_dk dd_X1_verdictOf 38 rfl) rfl ⟨rfl, h⟩
      · replace h := h.2 c
        refine bs_aload_n C (bf_dk dd_X1_verdictOf 29 rfl) rfl ?_
        refine bs_get C (bf_dk dd_X1_verdictOf 30 rfl) cl_1 in_1 0 (Nat.le_of_ble_eq_true rfl) rfl f_1_12 (ge_bW1_0 S) rfl ?_
        refine bs_iload C (bf_dk dd_X1_verdictOf 31 rfl) rfl ?_
        refine bs_pureV_i (ps := [1, 2, 3]) (w := (bW1 S)) C hR (c_X0_lengthAt _ _ _ _ _ (b1g_owners S) (r1) _ h) my_X0_lengthAt m_1_80 rfl cl_0 (ge_bW0_0 _) rfl (Nat.le_of_ble_eq_true rfl) (Nat.le_of_ble_eq_true rfl) (su_bW1_1_bW0 S) rfl (st := []) (Nat.le_of_ble_eq_true rfl) (bf_dk dd_X1_verdictOf 32 rfl) rfl (fun _ => rfl) (fun r11 h => ?_)
        refine bs_iload_n C (bf_dk dd_X1_verdictOf 33 rfl) rfl ?_
        refine bs_icmp_ne C (bf_dk dd_X1_verdictOf 34 rfl) (tgt := 72) rfl (fun c => ?_) (fun c => ?_)
        · replace h := h.1 c
          refine bs_iconst C (bf_dk dd_X1_verdictOf 37 rfl) (2 : Int32) (by decide) ?_
          exact bs_iret (u := S) C (bf_dk dd_X1_verdictOf 38 rfl) rfl ⟨rfl, h⟩
        · replace h := h.2 c
          refine bs_iconst C (bf_dk dd_X1_verdictOf 35 rfl) (1 : Int32) (by decide) ?_
          refine bs_goto C (bf_dk dd_X1_verdictOf 36 rfl) (tgt := 73) rfl ?_
          exact bs_iret (u := S) C (bf_dk dd_X1_verdictOf 38 rfl) rfl ⟨rfl, h⟩
    · replace h := h.2 c
      refine bs_iconst C (bf_dk dd_X1_verdictOf 20 rfl) (0 : Int32) (by decide) ?_
      exact bs_iret (u := S) C (bf_dk dd_X1_verdictOf 21 rfl) rfl ⟨rfl, h⟩
theorem c_X1_verdictOf (l : Launch) (dC : Nat → ClassId) (dI : Nat → Nat → Nat) (ac : Nat → ClassId) (al : Nat → Nat) (S : bT1) (a1 : Int64) (a3 : Int32) (Q : Int32 → Prop) (h : wp_X1_verdictOf S a1 a3 Q) : bf_M l yX1_verdictOf cX1_verdictOf 5 (some .int) 4 100 dC dI ac al [.ref 0, .long a1, .int a3] (bW1 S) (bf_Ki dC dI ac al bW1 (fun r u => u = S ∧ Q r)) := by
  refine bf_start [some (.ref 0), some (.long a1), none, some (.int a3), none] (by decide) (Nat.le_of_ble_eq_true rfl) (bf_s1 (bf_s1 (bf_sn (bf_s1 (bf_en 1))))) ?_
  intro X hl C hR e1 e2 e3 e4
  subst e1; subst e2; subst e3; subst e4
  exact t_X1_verdictOf C hR S a1 a3 Q h
def wp_X1_met (S : bT1) (a1 : Int64) (a3 : Int32) (a4 : Int64) (a6 : Int32) (Q : Int32 → Prop) : Prop := (wp_X0_upTo (b1g_lows S) (a4) (a6) (fun r1 => (wp_X0_ahead (b1g_highs S) (a1) (a3) (fun r3 => (Q (if (r1 - r3) < (0 : Int32) then (0 : Int32) else (r1 - r3)))))))
set_option maxRecDepth 20000 in
theorem t_X1_met {X : bf_X} (C : bf_C X RX1 cX1_met 7 (some .int)) (hR : bf_Rm X 3 75) (S : bT1) (a1 : Int64) (a3 : Int32) (a4 : Int64) (a6 : Int32) (Q : Int32 → Prop) (h : wp_X1_met S a1 a3 a4 a6 Q) : bf_A X (bf_Zi X bW1 (fun r u => u = S ∧ Q r)) 7 0 [some (.ref 0), some (.long a1), none, some (.int a3), some (.long a4), none, some (.int a6)] [] (bW1 S) := by
  unfold wp_X1_met at h
  refine bs_aload_n C (bf_dk dd_X1_met 0 rfl) rfl ?_
  refine bs_get C (bf_dk dd_X1_met 1 rfl) cl_1 in_1 1 (Nat.le_of_ble_eq_true rfl) rfl f_1_18 (ge_bW1_0 S) rfl ?_
  refine bs_lload C (bf_dk dd_X1_met 2 rfl) rfl ?_
  refine bs_iload C (bf_dk dd_X1_met 3 rfl) rfl ?_
  refine bs_pureV_i (ps := [4, 5, 6]) (w := (bW1 S)) C hR (c_X0_upTo _ _ _ _ _ (b1g_lows S) (a4) (a6) _ h) my_X0_upTo m_1_132 rfl cl_0 (ge_bW0_0 _) rfl (Nat.le_of_ble_eq_true rfl) (Nat.le_of_ble_eq_true rfl) (su_bW1_4_bW0 S) rfl (st := []) (Nat.le_of_ble_eq_true rfl) (bf_dk dd_X1_met 4 rfl) rfl (fun _ => rfl) (fun r1 h => ?_)
  refine bs_aload_n C (bf_dk dd_X1_met 5 rfl) rfl ?_
  refine bs_get C (bf_dk dd_X1_met 6 rfl) cl_1 in_1 2 (Nat.le_of_ble_eq_true rfl) rfl f_1_21 (ge_bW1_0 S) rfl ?_
  refine bs_lload_n C (bf_dk dd_X1_met 7 rfl) rfl ?_
  refine bs_iload_n C (bf_dk dd_X1_met 8 rfl) rfl ?_
  refine bs_pureV_i (ps := [7, 8, 9]) (w := (bW1 S)) C hR (c_X0_ahead _ _ _ _ _ (b1g_highs S) (a1) (a3) _ h) my_X0_ahead m_1_144 rfl cl_0 (ge_bW0_0 _) rfl (Nat.le_of_ble_eq_true rfl) (Nat.le_of_ble_eq_true rfl) (su_bW1_7_bW0 S) rfl (st := [.int r1]) (Nat.le_of_ble_eq_true rfl) (bf_dk dd_X1_met 9 rfl) rfl (fun _ => rfl) (fun r3 h => ?_)
  refine bs_isub C (bf_dk dd_X1_met 10 rfl) ?_
  refine bs_iconst C (bf_dk dd_X1_met 11 rfl) (0 : Int32) (by decide) ?_
  refine bs_mmax C hR m_1_88 ma_max.1 ma_max.2.1 ma_max.2.2 (Nat.le_of_ble_eq_true rfl) (Nat.le_of_ble_eq_true rfl) (bf_dk dd_X1_met 12 rfl) ?_
  exact bs_iret (u := S) C (bf_dk dd_X1_met 13 rfl) rfl ⟨rfl, h⟩
theorem c_X1_met (l : Launch) (dC : Nat → ClassId) (dI : Nat → Nat → Nat) (ac : Nat → ClassId) (al : Nat → Nat) (S : bT1) (a1 : Int64) (a3 : Int32) (a4 : Int64) (a6 : Int32) (Q : Int32 → Prop) (h : wp_X1_met S a1 a3 a4 a6 Q) : bf_M l yX1_met cX1_met 7 (some .int) 3 75 dC dI ac al [.ref 0, .long a1, .int a3, .long a4, .int a6] (bW1 S) (bf_Ki dC dI ac al bW1 (fun r u => u = S ∧ Q r)) := by
  refine bf_start [some (.ref 0), some (.long a1), none, some (.int a3), some (.long a4), none, some (.int a6)] (by decide) (Nat.le_of_ble_eq_true rfl) (bf_s1 (bf_s1 (bf_sn (bf_s1 (bf_s1 (bf_sn (bf_s1 bf_s0))))))) ?_
  intro X hl C hR e1 e2 e3 e4
  subst e1; subst e2; subst e3; subst e4
  exact t_X1_met C hR S a1 a3 a4 a6 Q h
def wp_X1_held (S : bT1) (a1 : Int64) (a3 : Int32) (a4 : Int64) (a6 : Int32) (Q : Int32 → Prop) : Prop := (wp_X0_upTo (b1g_highs S) (a4) (a6) (fun r1 => (wp_X0_ahead (b1g_lows S) (a1) (a3) (fun r3 => (Q (if (r1 - r3) < (0 : Int32) then (0 : Int32) else (r1 - r3)))))))
set_option maxRecDepth 20000 in
theorem t_X1_held {X : bf_X} (C : bf_C X RX1 cX1_held 7 (some .int)) (hR : bf_Rm X 3 75) (S : bT1) (a1 : Int64) (a3 : Int32) (a4 : Int64) (a6 : Int32) (Q : Int32 → Prop) (h : wp_X1_held S a1 a3 a4 a6 Q) : bf_A X (bf_Zi X bW1 (fun r u => u = S ∧ Q r)) 7 0 [some (.ref 0), some (.long a1), none, some (.int a3), some (.long a4), none, some (.int a6)] [] (bW1 S) := by
  unfold wp_X1_held at h
  refine bs_aload_n C (bf_dk dd_X1_held 0 rfl) rfl ?_
  refine bs_get C (bf_dk dd_X1_held 1 rfl) cl_1 in_1 2 (Nat.le_of_ble_eq_true rfl) rfl f_1_21 (ge_bW1_0 S) rfl ?_
  refine bs_lload C (bf_dk dd_X1_held 2 rfl) rfl ?_
  refine bs_iload C (bf_dk dd_X1_held 3 rfl) rfl ?_
  refine bs_pureV_i (ps := [7, 8, 9]) (w := (bW1 S)) C hR (c_X0_upTo _ _ _ _ _ (b1g_highs S) (a4) (a6) _ h) my_X0_upTo m_1_132 rfl cl_0 (ge_bW0_0 _) rfl (Nat.le_of_ble_eq_true rfl) (Nat.le_of_ble_eq_true rfl) (su_bW1_7_bW0 S) rfl (st := []) (Nat.le_of_ble_eq_true rfl) (bf_dk dd_X1_held 4 rfl) rfl (fun _ => rfl) (fun r1 h => ?_)
  refine bs_aload_n C (bf_dk dd_X1_held 5 rfl) rfl ?_
  refine bs_get C (bf_dk dd_X1_held 6 rfl) cl_1 in_1 1 (Nat.le_of_ble_eq_true rfl) rfl f_1_18 (ge_bW1_0 S) rfl ?_
  refine bs_lload_n C (bf_dk dd_X1_held 7 rfl) rfl ?_
  refine bs_iload_n C (bf_dk dd_X1_held 8 rfl) rfl ?_
  refine bs_pureV_i (ps := [4, 5, 6]) (w := (bW1 S)) C hR (c_X0_ahead _ _ _ _ _ (b1g_lows S) (a1) (a3) _ h) my_X0_ahead m_1_144 rfl cl_0 (ge_bW0_0 _) rfl (Nat.le_of_ble_eq_true rfl) (Nat.le_of_ble_eq_true rfl) (su_bW1_4_bW0 S) rfl (st := [.int r1]) (Nat.le_of_ble_eq_true rfl) (bf_dk dd_X1_held 9 rfl) rfl (fun _ => rfl) (fun r3 h => ?_)
  refine bs_isub C (bf_dk dd_X1_held 10 rfl) ?_
  refine bs_iconst C (bf_dk dd_X1_held 11 rfl) (0 : Int32) (by decide) ?_
  refine bs_mmax C hR m_1_88 ma_max.1 ma_max.2.1 ma_max.2.2 (Nat.le_of_ble_eq_true rfl) (Nat.le_of_ble_eq_true rfl) (bf_dk dd_X1_held 12 rfl) ?_
  exact bs_iret (u := S) C (bf_dk dd_X1_held 13 rfl) rfl ⟨rfl, h⟩
theorem c_X1_held (l : Launch) (dC : Nat → ClassId) (dI : Nat → Nat → Nat) (ac : Nat → ClassId) (al : Nat → Nat) (S : bT1) (a1 : Int64) (a3 : Int32) (a4 : Int64) (a6 : Int32) (Q : Int32 → Prop) (h : wp_X1_held S a1 a3 a4 a6 Q) : bf_M l yX1_held cX1_held 7 (some .int) 3 75 dC dI ac al [.ref 0, .long a1, .int a3, .long a4, .int a6] (bW1 S) (bf_Ki dC dI ac al bW1 (fun r u => u = S ∧ Q r)) := by
  refine bf_start [some (.ref 0), some (.long a1), none, some (.int a3), some (.long a4), none, some (.int a6)] (by decide) (Nat.le_of_ble_eq_true rfl) (bf_s1 (bf_s1 (bf_sn (bf_s1 (bf_s1 (bf_sn (bf_s1 bf_s0))))))) ?_
  intro X hl C hR e1 e2 e3 e4
  subst e1; subst e2; subst e3; subst e4
  exact t_X1_held C hR S a1 a3 a4 a6 Q h
def wp_X8_countAhead (a0 : Int64) (a2 : Int32) (a3 : Int32) (Q : Int64 → Prop) : Prop := ((a2 ≤ a3 → (Q ((((a0).toUInt64 >>> ((((64 : Int32) - ((8 : Int32) * a3))).toInt64.toUInt64 &&& Int64.toUInt64 63)).toInt64) + (0 : Int64)))) ∧ (¬ a2 ≤ a3 → (Q ((((a0).toUInt64 >>> ((((64 : Int32) - ((8 : Int32) * a3))).toInt64.toUInt64 &&& Int64.toUInt64 63)).toInt64) + (1 : Int64)))))
set_option maxRecDepth 20000 in
theorem t_X8_countAhead {X : bf_X} (C : bf_C X RX8 cX8_countAhead 4 (some .long)) (hR : bf_Rm X 0 0) (a0 : Int64) (a2 : Int32) (a3 : Int32) (Q : Int64 → Prop) (h : wp_X8_countAhead a0 a2 a3 Q) : bf_A X (bf_Zl X bWu (fun r u => u = () ∧ Q r)) 4 0 [some (.long a0), none, some (.int a2), some (.int a3)] [] (bWu ()) := by
  unfold wp_X8_countAhead at h
  refine bs_lload_n C (bf_dk dd_X8_countAhead 0 rfl) rfl ?_
  refine bs_bipush C (bf_dk dd_X8_countAhead 1 rfl) (64 : Int32) (by decide) ?_
  refine bs_bipush C (bf_dk dd_X8_countAhead 2 rfl) (8 : Int32) (by decide) ?_
  refine bs_iload_n C (bf_dk dd_X8_countAhead 3 rfl) rfl ?_
  refine bs_imul C (bf_dk dd_X8_countAhead 4 rfl) ?_
  refine bs_isub C (bf_dk dd_X8_countAhead 5 rfl) ?_
  refine bs_lushr C (bf_dk dd_X8_countAhead 6 rfl) ?_
  refine bs_iload_n C (bf_dk dd_X8_countAhead 7 rfl) rfl ?_
  refine bs_iload_n C (bf_dk dd_X8_countAhead 8 rfl) rfl ?_
  refine bs_icmp_le C (bf_dk dd_X8_countAhead 9 rfl) (tgt := 18) rfl (fun c => ?_) (fun c => ?_)
  · replace h := h.1 c
    refine bs_lconst C (bf_dk dd_X8_countAhead 12 rfl) (0 : Int64) (by decide) ?_
    refine bs_ladd C (bf_dk dd_X8_countAhead 13 rfl) ?_
    exact bs_lret (u := ()) C (bf_dk dd_X8_countAhead 14 rfl) rfl ⟨rfl, h⟩
  · replace h := h.2 c
    refine bs_lconst C (bf_dk dd_X8_countAhead 10 rfl) (1 : Int64) (by decide) ?_
    refine bs_goto C (bf_dk dd_X8_countAhead 11 rfl) (tgt := 19) rfl ?_
    refine bs_ladd C (bf_dk dd_X8_countAhead 13 rfl) ?_
    exact bs_lret (u := ()) C (bf_dk dd_X8_countAhead 14 rfl) rfl ⟨rfl, h⟩
theorem c_X8_countAhead (l : Launch) (dC : Nat → ClassId) (dI : Nat → Nat → Nat) (ac : Nat → ClassId) (al : Nat → Nat) (a0 : Int64) (a2 : Int32) (a3 : Int32) (Q : Int64 → Prop) (h : wp_X8_countAhead a0 a2 a3 Q) : bf_M l yX8_countAhead cX8_countAhead 4 (some .long) 0 0 dC dI ac al [.long a0, .int a2, .int a3] (bWu ()) (bf_Kl dC dI ac al bWu (fun r u => u = () ∧ Q r)) := by
  refine bf_start [some (.long a0), none, some (.int a2), some (.int a3)] (by decide) (Nat.le_of_ble_eq_true rfl) (bf_s1 (bf_sn (bf_s1 (bf_s1 bf_s0)))) ?_
  intro X hl C hR e1 e2 e3 e4
  subst e1; subst e2; subst e3; subst e4
  exact t_X8_countAhead C hR a0 a2 a3 Q h
def wp_X8_countUpTo (a0 : Int64) (a2 : Int32) (a3 : Int32) (Q : Int64 → Prop) : Prop := ((a2 < a3 → (Q ((((a0).toUInt64 >>> ((((64 : Int32) - ((8 : Int32) * a3))).toInt64.toUInt64 &&& Int64.toUInt64 63)).toInt64) + (0 : Int64)))) ∧ (¬ a2 < a3 → (Q ((((a0).toUInt64 >>> ((((64 : Int32) - ((8 : Int32) * a3))).toInt64.toUInt64 &&& Int64.toUInt64 63)).toInt64) + (1 : Int64)))))
set_option maxRecDepth 20000 in
theorem t_X8_countUpTo {X : bf_X} (C : bf_C X RX8 cX8_countUpTo 4 (some .long)) (hR : bf_Rm X 0 0) (a0 : Int64) (a2 : Int32) (a3 : Int32) (Q : Int64 → Prop) (h : wp_X8_countUpTo a0 a2 a3 Q) : bf_A X (bf_Zl X bWu (fun r u => u = () ∧ Q r)) 4 0 [some (.long a0), none, some (.int a2), some (.int a3)] [] (bWu ()) := by
  unfold wp_X8_countUpTo at h
  refine bs_lload_n C (bf_dk dd_X8_countUpTo 0 rfl) rfl ?_
  refine bs_bipush C (bf_dk dd_X8_countUpTo 1 rfl) (64 : Int32) (by decide) ?_
  refine bs_bipush C (bf_dk dd_X8_countUpTo 2 rfl) (8 : Int32) (by decide) ?_
  refine bs_iload_n C (bf_dk dd_X8_countUpTo 3 rfl) rfl ?_
  refine bs_imul C (bf_dk dd_X8_countUpTo 4 rfl) ?_
  refine bs_isub C (bf_dk dd_X8_countUpTo 5 rfl) ?_
  refine bs_lushr C (bf_dk dd_X8_countUpTo 6 rfl) ?_
  refine bs_iload_n C (bf_dk dd_X8_countUpTo 7 rfl) rfl ?_
  refine bs_iload_n C (bf_dk dd_X8_countUpTo 8 rfl) rfl ?_
  refine bs_icmp_lt C (bf_dk dd_X8_countUpTo 9 rfl) (tgt := 18) rfl (fun c => ?_) (fun c => ?_)
  · replace h := h.1 c
    refine bs_lconst C (bf_dk dd_X8_countUpTo 12 rfl) (0 : Int64) (by decide) ?_
    refine bs_ladd C (bf_dk dd_X8_countUpTo 13 rfl) ?_
    exact bs_lret (u := ()) C (bf_dk dd_X8_countUpTo 14 rfl) rfl ⟨rfl, h⟩
  · replace h := h.2 c
    refine bs_lconst C (bf_dk dd_X8_countUpTo 10 rfl) (1 : Int64) (by decide) ?_
    refine bs_goto C (bf_dk dd_X8_countUpTo 11 rfl) (tgt := 19) rfl ?_
    refine bs_ladd C (bf_dk dd_X8_countUpTo 13 rfl) ?_
    exact bs_lret (u := ()) C (bf_dk dd_X8_countUpTo 14 rfl) rfl ⟨rfl, h⟩
theorem c_X8_countUpTo (l : Launch) (dC : Nat → ClassId) (dI : Nat → Nat → Nat) (ac : Nat → ClassId) (al : Nat → Nat) (a0 : Int64) (a2 : Int32) (a3 : Int32) (Q : Int64 → Prop) (h : wp_X8_countUpTo a0 a2 a3 Q) : bf_M l yX8_countUpTo cX8_countUpTo 4 (some .long) 0 0 dC dI ac al [.long a0, .int a2, .int a3] (bWu ()) (bf_Kl dC dI ac al bWu (fun r u => u = () ∧ Q r)) := by
  refine bf_start [some (.long a0), none, some (.int a2), some (.int a3)] (by decide) (Nat.le_of_ble_eq_true rfl) (bf_s1 (bf_sn (bf_s1 (bf_s1 bf_s0)))) ?_
  intro X hl C hR e1 e2 e3 e4
  subst e1; subst e2; subst e3; subst e4
  exact t_X8_countUpTo C hR a0 a2 a3 Q h
def wp_X1_covered_5b (S : bT1) (x1 : Int32) (x2 : Int64) (x4 : Int32) (Q : Int64 → Prop) (B5 : Int32 → Int64 → Int32 → Prop) : Prop := (((b0g_count (b1g_owners S)) ≤ x4 → (Q x2)) ∧ (¬ (b0g_count (b1g_owners S)) ≤ x4 → (wp_X0_bytesAt (b1g_highs S) (x4) (fun r1 => (wp_X0_lengthAt (b1g_highs S) (x4) (fun r3 => (wp_X8_countUpTo (r1) (r3) (x1) (fun r5 => (wp_X0_bytesAt (b1g_lows S) (x4) (fun r7 => (wp_X0_lengthAt (b1g_lows S) (x4) (fun r9 => (wp_X8_countAhead (r7) (r9) (x1) (fun r11 => (B5 (x1) (((x2 + r5) - r11)) ((x4 + (1 : Int32))))))))))))))))))
set_option maxRecDepth 20000 in
theorem t_X1_covered_5b {X : bf_X} (C : bf_C X RX1 cX1_covered 5 (some .long)) (hR : bf_Rm X 1 23) (S : bT1) (x1 : Int32) (x2 : Int64) (x4 : Int32) (Q : Int64 → Prop) (B5 : Int32 → Int64 → Int32 → Prop) (hB5 : ∀ (x1 : Int32) (x2 : Int64) (x4 : Int32), B5 x1 x2 x4 → bf_A X (bf_Zl X bW1 (fun r u => u = S ∧ Q r)) 5 5 [some (.ref 0), some (.int x1), some (.long x2), none, some (.int x4)] [] (bW1 S)) (h : wp_X1_covered_5b S x1 x2 x4 Q B5) : bf_A X (bf_Zl X bW1 (fun r u => u = S ∧ Q r)) 5 5 [some (.ref 0), some (.int x1), some (.long x2), none, some (.int x4)] [] (bW1 S) := by
  unfold wp_X1_covered_5b at h
  refine bs_iload C (bf_dk dd_X1_covered 4 rfl) rfl ?_
  refine bs_aload_n C (bf_dk dd_X1_covered 5 rfl) rfl ?_
  refine bs_get C (bf_dk dd_X1_covered 6 rfl) cl_1 in_1 0 (Nat.le_of_ble_eq_true rfl) rfl f_1_12 (ge_bW1_0 S) rfl ?_
  refine bs_get C (bf_dk dd_X1_covered 7 rfl) cl_0 in_0 2 (Nat.le_of_ble_eq_true rfl) rfl f_1_66 (ge_bW1_1 S) rfl ?_
  refine bs_icmp_ge C (bf_dk dd_X1_covered 8 rfl) (tgt := 73) rfl (fun c => ?_) (fun c => ?_)
  · replace h := h.1 c
    refine bs_lload_n C (bf_dk dd_X1_covered 37 rfl) rfl ?_
    exact bs_lret (u := S) C (bf_dk dd_X1_covered 38 rfl) rfl ⟨rfl, h⟩
  · replace h := h.2 c
    refine bs_lload_n C (bf_dk dd_X1_covered 9 rfl) rfl ?_
    refine bs_aload_n C (bf_dk dd_X1_covered 10 rfl) rfl ?_
    refine bs_get C (bf_dk dd_X1_covered 11 rfl) cl_1 in_1 2 (Nat.le_of_ble_eq_true rfl) rfl f_1_21 (ge_bW1_0 S) rfl ?_
    refine bs_iload C (bf_dk dd_X1_covered 12 rfl) rfl ?_
    refine bs_pureV_l (ps := [7, 8, 9]) (w := (bW1 S)) C hR (c_X0_bytesAt _ _ _ _ _ (b1g_highs S) (x4) _ h) my_X0_bytesAt m_1_76 rfl cl_0 (ge_bW0_0 _) rfl (Nat.le_of_ble_eq_true rfl) (Nat.le_of_ble_eq_true rfl) (su_bW1_7_bW0 S) rfl (st := [.long x2]) (Nat.le_of_ble_eq_true rfl) (bf_dk dd_X1_covered 13 rfl) rfl (fun _ => rfl) (fun r1 h => ?_)
    refine bs_aload_n C (bf_dk dd_X1_covered 14 rfl) rfl ?_
    refine bs_get C (bf_dk dd_X1_covered 15 rfl) cl_1 in_1 2 (Nat.le_of_ble_eq_true rfl) rfl f_1_21 (ge_bW1_0 S) rfl ?_
    refine bs_iload C (bf_dk dd_X1_covered 16 rfl) rfl ?_
    refine bs_pureV_i (ps := [7, 8, 9]) (w := (bW1 S)) C hR (c_X0_lengthAt _ _ _ _ _ (b1g_highs S) (x4) _ h) my_X0_lengthAt m_1_80 rfl cl_0 (ge_bW0_0 _) rfl (Nat.le_of_ble_eq_true rfl) (Nat.le_of_ble_eq_true rfl) (su_bW1_7_bW0 S) rfl (st := [.long r1, .long x2]) (Nat.le_of_ble_eq_true rfl) (bf_dk dd_X1_covered 17 rfl) rfl (fun _ => rfl) (fun r3 h => ?_)
    refine bs_iload_n C (bf_dk dd_X1_covered 18 rfl) rfl ?_
    refine bs_pureSN_l (ps := []) (w := (bW1 S)) C hR (c_X8_countUpTo _ _ _ _ _ (r1) (r3) (x1) _ h) my_X8_countUpTo m_1_147 rfl (Nat.le_of_ble_eq_true rfl) (Nat.le_of_ble_eq_true rfl) rfl rfl (st := [.long x2]) (Nat.le_of_ble_eq_true rfl) (bf_dk dd_X1_covered 19 rfl) rfl (fun _ => rfl) (fun r5 h => ?_)
    refine bs_ladd C (bf_dk dd_X1_covered 20 rfl) ?_
    refine bs_lstore_n C (bf_dk dd_X1_covered 21 rfl) rfl (Nat.le_of_ble_eq_true rfl) (Nat.le_of_ble_eq_true rfl) (lv2 := [some (.ref 0), some (.int x1), some (.long (x2 + r5)), none, some (.int x4)]) rfl ?_
    refine bs_lload_n C (bf_dk dd_X1_covered 22 rfl) rfl ?_
    refine bs_aload_n C (bf_dk dd_X1_covered 23 rfl) rfl ?_
    refine bs_get C (bf_dk dd_X1_covered 24 rfl) cl_1 in_1 1 (Nat.le_of_ble_eq_true rfl) rfl f_1_18 (ge_bW1_0 S) rfl ?_
    refine bs_iload C (bf_dk dd_X1_covered 25 rfl) rfl ?_
    refine bs_pureV_l (ps := [4, 5, 6]) (w := (bW1 S)) C hR (c_X0_bytesAt _ _ _ _ _ (b1g_lows S) (x4) _ h) my_X0_bytesAt m_1_76 rfl cl_0 (ge_bW0_0 _) rfl (Nat.le_of_ble_eq_true rfl) (Nat.le_of_ble_eq_true rfl) (su_bW1_4_bW0 S) rfl (st := [.long (x2 + r5)]) (Nat.le_of_ble_eq_true rfl) (bf_dk dd_X1_covered 26 rfl) rfl (fun _ => rfl) (fun r7 h => ?_)
    refine bs_aload_n C (bf_dk dd_X1_covered 27 rfl) rfl ?_
    refine bs_get C (bf_dk dd_X1_covered 28 rfl) cl_1 in_1 1 (Nat.le_of_ble_eq_true rfl) rfl f_1_18 (ge_bW1_0 S) rfl ?_
    refine bs_iload C (bf_dk dd_X1_covered 29 rfl) rfl ?_
    refine bs_pureV_i (ps := [4, 5, 6]) (w := (bW1 S)) C hR (c_X0_lengthAt _ _ _ _ _ (b1g_lows S) (x4) _ h) my_X0_lengthAt m_1_80 rfl cl_0 (ge_bW0_0 _) rfl (Nat.le_of_ble_eq_true rfl) (Nat.le_of_ble_eq_true rfl) (su_bW1_4_bW0 S) rfl (st := [.long r7, .long (x2 + r5)]) (Nat.le_of_ble_eq_true rfl) (bf_dk dd_X1_covered 30 rfl) rfl (fun _ => rfl) (fun r9 h => ?_)
    refine bs_iload_n C (bf_dk dd_X1_covered 31 rfl) rfl ?_
    refine bs_pureSN_l (ps := []) (w := (bW1 S)) C hR (c_X8_countAhead _ _ _ _ _ (r7) (r9) (x1) _ h) my_X8_countAhead m_1_151 rfl (Nat.le_of_ble_eq_true rfl) (Nat.le_of_ble_eq_true rfl) rfl rfl (st := [.long (x2 + r5)]) (Nat.le_of_ble_eq_true rfl) (bf_dk dd_X1_covered 32 rfl) rfl (fun _ => rfl) (fun r11 h => ?_)
    refine bs_lsub C (bf_dk dd_X1_covered 33 rfl) ?_
    refine bs_lstore_n C (bf_dk dd_X1_covered 34 rfl) rfl (Nat.le_of_ble_eq_true rfl) (Nat.le_of_ble_eq_true rfl) (lv2 := [some (.ref 0), some (.int x1), some (.long ((x2 + r5) - r11)), none, some (.int x4)]) rfl ?_
    refine bs_iinc C (bf_dk dd_X1_covered 35 rfl) (x4 + (1 : Int32)) rfl rfl (Nat.le_of_ble_eq_true rfl) (Nat.le_of_ble_eq_true rfl) (lv2 := [some (.ref 0), some (.int x1), some (.long ((x2 + r5) - r11)), none, some (.int (x4 + (1 : Int32)))]) rfl ?_
    refine bs_goto C (bf_dk dd_X1_covered 36 rfl) (tgt := 5) rfl ?_
    exact bs_weak (bf_s1 (bf_s1 (bf_s1 (bf_sn (bf_s1 bf_s0))))) (hB5 (x1) (((x2 + r5) - r11)) ((x4 + (1 : Int32))) h)
def wp_X1_covered_5 (S : bT1) (x1 : Int32) (x2 : Int64) (x4 : Int32) (Q : Int64 → Prop) : Prop := ∃ I : Nat → Int32 → Int64 → Int32 → Prop, (∃ n : Nat, I n x1 x2 x4) ∧ ∀ (n : Nat) (x1 : Int32) (x2 : Int64) (x4 : Int32), I n x1 x2 x4 → wp_X1_covered_5b S x1 x2 x4 Q (fun x1 x2 x4 => ∃ n2 : Nat, n2 < n ∧ I n2 x1 x2 x4)
theorem t_X1_covered_5 {X : bf_X} (C : bf_C X RX1 cX1_covered 5 (some .long)) (hR : bf_Rm X 1 23) (S : bT1) (x1 : Int32) (x2 : Int64) (x4 : Int32) (Q : Int64 → Prop) (h : wp_X1_covered_5 S x1 x2 x4 Q) : bf_A X (bf_Zl X bW1 (fun r u => u = S ∧ Q r)) 5 5 [some (.ref 0), some (.int x1), some (.long x2), none, some (.int x4)] [] (bW1 S) := by
  obtain ⟨I, ⟨n0, h0⟩, hI⟩ := h
  have key : ∀ (n : Nat) (x1 : Int32) (x2 : Int64) (x4 : Int32), I n x1 x2 x4 → bf_A X (bf_Zl X bW1 (fun r u => u = S ∧ Q r)) 5 5 [some (.ref 0), some (.int x1), some (.long x2), none, some (.int x4)] [] (bW1 S) := by
    intro n
    induction n using Nat.strongRecOn with
    | _ n ih =>
      intro x1 x2 x4 hi
      exact t_X1_covered_5b C hR S x1 x2 x4 Q _ (fun x1 x2 x4 hb => by obtain ⟨n2, hn, hi2⟩ := hb; exact ih n2 hn x1 x2 x4 hi2) (hI n x1 x2 x4 hi)
  exact key n0 x1 x2 x4 h0
def wp_X1_covered (S : bT1) (a1 : Int32) (Q : Int64 → Prop) : Prop := (wp_X1_covered_5 S (a1) ((0 : Int64)) ((0 : Int32)) Q)
set_option maxRecDepth 20000 in
theorem t_X1_covered {X : bf_X} (C : bf_C X RX1 cX1_covered 5 (some .long)) (hR : bf_Rm X 1 23) (S : bT1) (a1 : Int32) (Q : Int64 → Prop) (h : wp_X1_covered S a1 Q) : bf_A X (bf_Zl X bW1 (fun r u => u = S ∧ Q r)) 5 0 [some (.ref 0), some (.int a1), none, none, none] [] (bW1 S) := by
  unfold wp_X1_covered at h
  refine bs_lconst C (bf_dk dd_X1_covered 0 rfl) (0 : Int64) (by decide) ?_
  refine bs_lstore_n C (bf_dk dd_X1_covered 1 rfl) rfl (Nat.le_of_ble_eq_true rfl) (Nat.le_of_ble_eq_true rfl) (lv2 := [some (.ref 0), some (.int a1), some (.long (0 : Int64)), none, none]) rfl ?_
  refine bs_iconst C (bf_dk dd_X1_covered 2 rfl) (0 : Int32) (by decide) ?_
  refine bs_istore C (bf_dk dd_X1_covered 3 rfl) (Nat.le_of_ble_eq_true rfl) (Nat.le_of_ble_eq_true rfl) (lv2 := [some (.ref 0), some (.int a1), some (.long (0 : Int64)), none, some (.int (0 : Int32))]) rfl ?_
  exact bs_weak (bf_s1 (bf_s1 (bf_s1 (bf_sn (bf_s1 bf_s0))))) (t_X1_covered_5 C hR S (a1) ((0 : Int64)) ((0 : Int32)) Q h)
theorem c_X1_covered (l : Launch) (dC : Nat → ClassId) (dI : Nat → Nat → Nat) (ac : Nat → ClassId) (al : Nat → Nat) (S : bT1) (a1 : Int32) (Q : Int64 → Prop) (h : wp_X1_covered S a1 Q) : bf_M l yX1_covered cX1_covered 5 (some .long) 1 23 dC dI ac al [.ref 0, .int a1] (bW1 S) (bf_Kl dC dI ac al bW1 (fun r u => u = S ∧ Q r)) := by
  refine bf_start [some (.ref 0), some (.int a1), none, none, none] (by decide) (Nat.le_of_ble_eq_true rfl) (bf_s1 (bf_s1 (bf_en 3))) ?_
  intro X hl C hR e1 e2 e3 e4
  subst e1; subst e2; subst e3; subst e4
  exact t_X1_covered C hR S a1 Q h
def wp_X1_beginningOf_75 (S : bT1) (x1 : Int64) (x3 : Int32) (x4 : Int32) (Q : Int32 → Prop) (B3 : Int64 → Int32 → Int32 → Prop) : Prop := (B3 (x1) (x3) ((x4 + (1 : Int32))))
set_option maxRecDepth 20000 in
theorem t_X1_beginningOf_75 {X : bf_X} (C : bf_C X RX1 cX1_beginningOf 6 (some .int)) (hR : bf_Rm X 2 42) (S : bT1) (x1 : Int64) (x3 : Int32) (x4 : Int32) (Q : Int32 → Prop) (B3 : Int64 → Int32 → Int32 → Prop) (hB3 : ∀ (x1 : Int64) (x3 : Int32) (x4 : Int32), B3 x1 x3 x4 → bf_A X (bf_Zi X bW1 (fun r u => u = S ∧ Q r)) 6 3 [some (.ref 0), some (.long x1), none, some (.int x3), some (.int x4), none] [] (bW1 S)) (h : wp_X1_beginningOf_75 S x1 x3 x4 Q B3) : bf_A X (bf_Zi X bW1 (fun r u => u = S ∧ Q r)) 6 75 [some (.ref 0), some (.long x1), none, some (.int x3), some (.int x4), none] [] (bW1 S) := by
  unfold wp_X1_beginningOf_75 at h
  refine bs_iinc C (bf_dk dd_X1_beginningOf 38 rfl) (x4 + (1 : Int32)) rfl rfl (Nat.le_of_ble_eq_true rfl) (Nat.le_of_ble_eq_true rfl) (lv2 := [some (.ref 0), some (.long x1), none, some (.int x3), some (.int (x4 + (1 : Int32))), none]) rfl ?_
  refine bs_goto C (bf_dk dd_X1_beginningOf 39 rfl) (tgt := 3) rfl ?_
  exact bs_weak (bf_s1 (bf_s1 (bf_sn (bf_s1 (bf_s1 (bf_sn bf_s0)))))) (hB3 (x1) (x3) ((x4 + (1 : Int32))) h)
def wp_X1_beginningOf_56 (S : bT1) (x1 : Int64) (x3 : Int32) (x4 : Int32) (t0 : Int32) (Q : Int32 → Prop) (B3 : Int64 → Int32 → Int32 → Prop) : Prop := ((t0 = 0 → (wp_X1_beginningOf_75 S (x1) (x3) (x4) Q B3)) ∧ (¬ t0 = 0 → (wp_X1_isEnded S (x4) (fun r1 => ((¬ r1 = 0 → (wp_X1_beginningOf_75 S (x1) (x3) (x4) Q B3)) ∧ (r1 = 0 → (Q x4)))))))
set_option maxRecDepth 20000 in
theorem t_X1_beginningOf_56 {X : bf_X} (C : bf_C X RX1 cX1_beginningOf 6 (some .int)) (hR : bf_Rm X 2 42) (S : bT1) (x1 : Int64) (x3 : Int32) (x4 : Int32) (t0 : Int32) (Q : Int32 → Prop) (B3 : Int64 → Int32 → Int32 → Prop) (hB3 : ∀ (x1 : Int64) (x3 : Int32) (x4 : Int32), B3 x1 x3 x4 → bf_A X (bf_Zi X bW1 (fun r u => u = S ∧ Q r)) 6 3 [some (.ref 0), some (.long x1), none, some (.int x3), some (.int x4), none] [] (bW1 S)) (h : wp_X1_beginningOf_56 S x1 x3 x4 t0 Q B3) : bf_A X (bf_Zi X bW1 (fun r u => u = S ∧ Q r)) 6 56 [some (.ref 0), some (.long x1), none, some (.int x3), some (.int x4), none] [.int t0] (bW1 S) := by
  unfold wp_X1_beginningOf_56 at h
  refine bs_istore C (bf_dk dd_X1_beginningOf 29 rfl) (Nat.le_of_ble_eq_true rfl) (Nat.le_of_ble_eq_true rfl) (lv2 := [some (.ref 0), some (.long x1), none, some (.int x3), some (.int x4), some (.int t0)]) rfl ?_
  refine bs_iload C (bf_dk dd_X1_beginningOf 30 rfl) rfl ?_
  refine bs_if_eq C (bf_dk dd_X1_beginningOf 31 rfl) (tgt := 75) rfl (fun c => ?_) (fun c => ?_)
  · replace h := h.1 c
    exact bs_weak (bf_s1 (bf_s1 (bf_sn (bf_s1 (bf_s1 (bf_sn bf_s0)))))) (t_X1_beginningOf_75 C hR S (x1) (x3) (x4) Q B3 hB3 h)
  · replace h := h.2 c
    refine bs_aload_n C (bf_dk dd_X1_beginningOf 32 rfl) rfl ?_
    refine bs_iload C (bf_dk dd_X1_beginningOf 33 rfl) rfl ?_
    refine bs_selfPV_i C hR (c_X1_isEnded _ _ _ _ _ S (x4) _ h) my_X1_isEnded m_1_109 rfl cl_1 (ge_bW1_0 _) rfl (Nat.le_of_ble_eq_true rfl) (Nat.le_of_ble_eq_true rfl) (st := []) (Nat.le_of_ble_eq_true rfl) (bf_dk dd_X1_beginningOf 34 rfl) rfl (fun r1 h => ?_)
    refine bs_if_ne C (bf_dk dd_X1_beginningOf 35 rfl) (tgt := 75) rfl (fun c => ?_) (fun c => ?_)
    · replace h := h.1 c
      exact bs_weak (bf_s1 (bf_s1 (bf_sn (bf_s1 (bf_s1 (bf_sn bf_s0)))))) (t_X1_beginningOf_75 C hR S (x1) (x3) (x4) Q B3 hB3 h)
    · replace h := h.2 c
      refine bs_iload C (bf_dk dd_X1_beginningOf 36 rfl) rfl ?_
      exact bs_iret (u := S) C (bf_dk dd_X1_beginningOf 37 rfl) rfl ⟨rfl, h⟩
def wp_X1_beginningOf_55 (S : bT1) (x1 : Int64) (x3 : Int32) (x4 : Int32) (Q : Int32 → Prop) (B3 : Int64 → Int32 → Int32 → Prop) : Prop := (wp_X1_beginningOf_56 S (x1) (x3) (x4) ((0 : Int32)) Q B3)
set_option maxRecDepth 20000 in
theorem t_X1_beginningOf_55 {X : bf_X} (C : bf_C X RX1 cX1_beginningOf 6 (some .int)) (hR : bf_Rm X 2 42) (S : bT1) (x1 : Int64) (x3 : Int32) (x4 : Int32) (Q : Int32 → Prop) (B3 : Int64 → Int32 → Int32 → Prop) (hB3 : ∀ (x1 : Int64) (x3 : Int32) (x4 : Int32), B3 x1 x3 x4 → bf_A X (bf_Zi X bW1 (fun r u => u = S ∧ Q r)) 6 3 [some (.ref 0), some (.long x1), none, some (.int x3), some (.int x4), none] [] (bW1 S)) (h : wp_X1_beginningOf_55 S x1 x3 x4 Q B3) : bf_A X (bf_Zi X bW1 (fun r u => u = S ∧ Q r)) 6 55 [some (.ref 0), some (.long x1), none, some (.int x3), some (.int x4), none] [] (bW1 S) := by
  unfold wp_X1_beginningOf_55 at h
  refine bs_iconst C (bf_dk dd_X1_beginningOf 28 rfl) (0 : Int32) (by decide) ?_
  exact bs_weak (bf_s1 (bf_s1 (bf_sn (bf_s1 (bf_s1 (bf_sn bf_s0)))))) (t_X1_beginningOf_56 C hR S (x1) (x3) (x4) ((0 : Int32)) Q B3 hB3 h)
def wp_X1_beginningOf_3b (S : bT1) (x1 : Int64) (x3 : Int32) (x4 : Int32) (Q : Int32 → Prop) (B3 : Int64 → Int32 → Int32 → Prop) : Prop := (((b0g_count (b1g_owners S)) ≤ x4 → (Q (-1 : Int32))) ∧ (¬ (b0g_count (b1g_owners S)) ≤ x4 → (wp_X1_lengthAt S (x4) (fun r3 => ((x3 < r3 → (wp_X1_beginningOf_55 S (x1) (x3) (x4) Q B3)) ∧ (¬ x3 < r3 → (wp_X0_bytesAt (b1g_owners S) (x4) (fun r5 => (wp_X1_lengthAt S (x4) (fun r7 => (wp_X8_front (r7) (fun r9 => ((¬ (lg_cmp ((x1 ^^^ r5) &&& r9) (0 : Int64)) = 0 → (wp_X1_beginningOf_55 S (x1) (x3) (x4) Q B3)) ∧ ((lg_cmp ((x1 ^^^ r5) &&& r9) (0 : Int64)) = 0 → (wp_X1_beginningOf_56 S (x1) (x3) (x4) ((1 : Int32)) Q B3)))))))))))))))
set_option maxRecDepth 20000 in
theorem t_X1_beginningOf_3b {X : bf_X} (C : bf_C X RX1 cX1_beginningOf 6 (some .int)) (hR : bf_Rm X 2 42) (S : bT1) (x1 : Int64) (x3 : Int32) (x4 : Int32) (Q : Int32 → Prop) (B3 : Int64 → Int32 → Int32 → Prop) (hB3 : ∀ (x1 : Int64) (x3 : Int32) (x4 : Int32), B3 x1 x3 x4 → bf_A X (bf_Zi X bW1 (fun r u => u = S ∧ Q r)) 6 3 [some (.ref 0), some (.long x1), none, some (.int x3), some (.int x4), none] [] (bW1 S)) (h : wp_X1_beginningOf_3b S x1 x3 x4 Q B3) : bf_A X (bf_Zi X bW1 (fun r u => u = S ∧ Q r)) 6 3 [some (.ref 0), some (.long x1), none, some (.int x3), some (.int x4), none] [] (bW1 S) := by
  unfold wp_X1_beginningOf_3b at h
  refine bs_iload C (bf_dk dd_X1_beginningOf 2 rfl) rfl ?_
  refine bs_aload_n C (bf_dk dd_X1_beginningOf 3 rfl) rfl ?_
  refine bs_get C (bf_dk dd_X1_beginningOf 4 rfl) cl_1 in_1 0 (Nat.le_of_ble_eq_true rfl) rfl f_1_12 (ge_bW1_0 S) rfl ?_
  refine bs_get C (bf_dk dd_X1_beginningOf 5 rfl) cl_0 in_0 2 (Nat.le_of_ble_eq_true rfl) rfl f_1_66 (ge_bW1_1 S) rfl ?_
  refine bs_icmp_ge C (bf_dk dd_X1_beginningOf 6 rfl) (tgt := 81) rfl (fun c => ?_) (fun c => ?_)
  · replace h := h.1 c
    refine bs_iconst C (bf_dk dd_X1_beginningOf 40 rfl) (-1 : Int32) (by decide) ?_
    exact bs_iret (u := S) C (bf_dk dd_X1_beginningOf 41 rfl) rfl ⟨rfl, h⟩
  · replace h := h.2 c
    refine bs_aload_n C (bf_dk dd_X1_beginningOf 7 rfl) rfl ?_
    refine bs_iload C (bf_dk dd_X1_beginningOf 8 rfl) rfl ?_
    refine bs_selfPV_i C hR (c_X1_lengthAt _ _ _ _ _ S (x4) _ h) my_X1_lengthAt m_1_105 rfl cl_1 (ge_bW1_0 _) rfl (Nat.le_of_ble_eq_true rfl) (Nat.le_of_ble_eq_true rfl) (st := []) (Nat.le_of_ble_eq_true rfl) (bf_dk dd_X1_beginningOf 9 rfl) rfl (fun r3 h => ?_)
    refine bs_iload_n C (bf_dk dd_X1_beginningOf 10 rfl) rfl ?_
    refine bs_icmp_gt C (bf_dk dd_X1_beginningOf 11 rfl) (tgt := 55) rfl (fun c => ?_) (fun c => ?_)
    · replace h := h.1 c
      exact bs_weak (bf_s1 (bf_s1 (bf_sn (bf_s1 (bf_s1 (bf_sn bf_s0)))))) (t_X1_beginningOf_55 C hR S (x1) (x3) (x4) Q B3 hB3 h)
    · replace h := h.2 c
      refine bs_lload_n C (bf_dk dd_X1_beginningOf 12 rfl) rfl ?_
      refine bs_aload_n C (bf_dk dd_X1_beginningOf 13 rfl) rfl ?_
      refine bs_get C (bf_dk dd_X1_beginningOf 14 rfl) cl_1 in_1 0 (Nat.le_of_ble_eq_true rfl) rfl f_1_12 (ge_bW1_0 S) rfl ?_
      refine bs_iload C (bf_dk dd_X1_beginningOf 15 rfl) rfl ?_
      refine bs_pureV_l (ps := [1, 2, 3]) (w := (bW1 S)) C hR (c_X0_bytesAt _ _ _ _ _ (b1g_owners S) (x4) _ h) my_X0_bytesAt m_1_76 rfl cl_0 (ge_bW0_0 _) rfl (Nat.le_of_ble_eq_true rfl) (Nat.le_of_ble_eq_true rfl) (su_bW1_1_bW0 S) rfl (st := [.long x1]) (Nat.le_of_ble_eq_true rfl) (bf_dk dd_X1_beginningOf 16 rfl) rfl (fun _ => rfl) (fun r5 h => ?_)
      refine bs_lxor C (bf_dk dd_X1_beginningOf 17 rfl) ?_
      refine bs_aload_n C (bf_dk dd_X1_beginningOf 18 rfl) rfl ?_
      refine bs_iload C (bf_dk dd_X1_beginningOf 19 rfl) rfl ?_
      refine bs_selfPV_i C hR (c_X1_lengthAt _ _ _ _ _ S (x4) _ h) my_X1_lengthAt m_1_105 rfl cl_1 (ge_bW1_0 _) rfl (Nat.le_of_ble_eq_true rfl) (Nat.le_of_ble_eq_true rfl) (st := [.long (x1 ^^^ r5)]) (Nat.le_of_ble_eq_true rfl) (bf_dk dd_X1_beginningOf 20 rfl) rfl (fun r7 h => ?_)
      refine bs_pureSN_l (ps := []) (w := (bW1 S)) C hR (c_X8_front _ _ _ _ _ (r7) _ h) my_X8_front m_1_106 rfl (Nat.le_of_ble_eq_true rfl) (Nat.le_of_ble_eq_true rfl) rfl rfl (st := [.long (x1 ^^^ r5)]) (Nat.le_of_ble_eq_true rfl) (bf_dk dd_X1_beginningOf 21 rfl) rfl (fun _ => rfl) (fun r9 h => ?_)
      refine bs_land C (bf_dk dd_X1_beginningOf 22 rfl) ?_
      refine bs_lconst C (bf_dk dd_X1_beginningOf 23 rfl) (0 : Int64) (by decide) ?_
      refine bs_lcmp C (bf_dk dd_X1_beginningOf 24 rfl) ?_
      refine bs_if_ne C (bf_dk dd_X1_beginningOf 25 rfl) (tgt := 55) rfl (fun c => ?_) (fun c => ?_)
      · replace h := h.1 c
        exact bs_weak (bf_s1 (bf_s1 (bf_sn (bf_s1 (bf_s1 (bf_sn bf_s0)))))) (t_X1_beginningOf_55 C hR S (x1) (x3) (x4) Q B3 hB3 h)
      · replace h := h.2 c
        refine bs_iconst C (bf_dk dd_X1_beginningOf 26 rfl) (1 : Int32) (by decide) ?_
        refine bs_goto C (bf_dk dd_X1_beginningOf 27 rfl) (tgt := 56) rfl ?_
        exact bs_weak (bf_s1 (bf_s1 (bf_sn (bf_s1 (bf_s1 (bf_sn bf_s0)))))) (t_X1_beginningOf_56 C hR S (x1) (x3) (x4) ((1 : Int32)) Q B3 hB3 h)
def wp_X1_beginningOf_3 (S : bT1) (x1 : Int64) (x3 : Int32) (x4 : Int32) (Q : Int32 → Prop) : Prop := ∃ I : Nat → Int64 → Int32 → Int32 → Prop, (∃ n : Nat, I n x1 x3 x4) ∧ ∀ (n : Nat) (x1 : Int64) (x3 : Int32) (x4 : Int32), I n x1 x3 x4 → wp_X1_beginningOf_3b S x1 x3 x4 Q (fun x1 x3 x4 => ∃ n2 : Nat, n2 < n ∧ I n2 x1 x3 x4)
theorem t_X1_beginningOf_3 {X : bf_X} (C : bf_C X RX1 cX1_beginningOf 6 (some .int)) (hR : bf_Rm X 2 42) (S : bT1) (x1 : Int64) (x3 : Int32) (x4 : Int32) (Q : Int32 → Prop) (h : wp_X1_beginningOf_3 S x1 x3 x4 Q) : bf_A X (bf_Zi X bW1 (fun r u => u = S ∧ Q r)) 6 3 [some (.ref 0), some (.long x1), none, some (.int x3), some (.int x4), none] [] (bW1 S) := by
  obtain ⟨I, ⟨n0, h0⟩, hI⟩ := h
  have key : ∀ (n : Nat) (x1 : Int64) (x3 : Int32) (x4 : Int32), I n x1 x3 x4 → bf_A X (bf_Zi X bW1 (fun r u => u = S ∧ Q r)) 6 3 [some (.ref 0), some (.long x1), none, some (.int x3), some (.int x4), none] [] (bW1 S) := by
    intro n
    induction n using Nat.strongRecOn with
    | _ n ih =>
      intro x1 x3 x4 hi
      exact t_X1_beginningOf_3b C hR S x1 x3 x4 Q _ (fun x1 x3 x4 hb => by obtain ⟨n2, hn, hi2⟩ := hb; exact ih n2 hn x1 x3 x4 hi2) (hI n x1 x3 x4 hi)
  exact key n0 x1 x3 x4 h0
def wp_X1_beginningOf (S : bT1) (a1 : Int64) (a3 : Int32) (Q : Int32 → Prop) : Prop := (wp_X1_beginningOf_3 S (a1) (a3) ((0 : Int32)) Q)
set_option maxRecDepth 20000 in
theorem t_X1_beginningOf {X : bf_X} (C : bf_C X RX1 cX1_beginningOf 6 (some .int)) (hR : bf_Rm X 2 42) (S : bT1) (a1 : Int64) (a3 : Int32) (Q : Int32 → Prop) (h : wp_X1_beginningOf S a1 a3 Q) : bf_A X (bf_Zi X bW1 (fun r u => u = S ∧ Q r)) 6 0 [some (.ref 0), some (.long a1), none, some (.int a3), none, none] [] (bW1 S) := by
  unfold wp_X1_beginningOf at h
  refine bs_iconst C (bf_dk dd_X1_beginningOf 0 rfl) (0 : Int32) (by decide) ?_
  refine bs_istore C (bf_dk dd_X1_beginningOf 1 rfl) (Nat.le_of_ble_eq_true rfl) (Nat.le_of_ble_eq_true rfl) (lv2 := [some (.ref 0), some (.long a1), none, some (.int a3), some (.int (0 : Int32)), none]) rfl ?_
  exact bs_weak (bf_s1 (bf_s1 (bf_sn (bf_s1 (bf_s1 (bf_sn bf_s0)))))) (t_X1_beginningOf_3 C hR S (a1) (a3) ((0 : Int32)) Q h)
theorem c_X1_beginningOf (l : Launch) (dC : Nat → ClassId) (dI : Nat → Nat → Nat) (ac : Nat → ClassId) (al : Nat → Nat) (S : bT1) (a1 : Int64) (a3 : Int32) (Q : Int32 → Prop) (h : wp_X1_beginningOf S a1 a3 Q) : bf_M l yX1_beginningOf cX1_beginningOf 6 (some .int) 2 42 dC dI ac al [.ref 0, .long a1, .int a3] (bW1 S) (bf_Ki dC dI ac al bW1 (fun r u => u = S ∧ Q r)) := by
  refine bf_start [some (.ref 0), some (.long a1), none, some (.int a3), none, none] (by decide) (Nat.le_of_ble_eq_true rfl) (bf_s1 (bf_s1 (bf_sn (bf_s1 (bf_en 2))))) ?_
  intro X hl C hR e1 e2 e3 e4
  subst e1; subst e2; subst e3; subst e4
  exact t_X1_beginningOf C hR S a1 a3 Q h
def wp_X1_ofLevel_46 (S : bT1) (x1 : Int32) (x2 : Int32) (x3 : Int32) (Q : Int32 → Prop) (B4 : Int32 → Int32 → Int32 → Prop) : Prop := (B4 (x1) (x2) ((x3 + (1 : Int32))))
set_option maxRecDepth 20000 in
theorem t_X1_ofLevel_46 {X : bf_X} (C : bf_C X RX1 cX1_ofLevel 4 (some .int)) (hR : bf_Rm X 2 42) (S : bT1) (x1 : Int32) (x2 : Int32) (x3 : Int32) (Q : Int32 → Prop) (B4 : Int32 → Int32 → Int32 → Prop) (hB4 : ∀ (x1 : Int32) (x2 : Int32) (x3 : Int32), B4 x1 x2 x3 → bf_A X (bf_Zi X bW1 (fun r u => u = S ∧ Q r)) 4 4 [some (.ref 0), some (.int x1), some (.int x2), some (.int x3)] [] (bW1 S)) (h : wp_X1_ofLevel_46 S x1 x2 x3 Q B4) : bf_A X (bf_Zi X bW1 (fun r u => u = S ∧ Q r)) 4 46 [some (.ref 0), some (.int x1), some (.int x2), some (.int x3)] [] (bW1 S) := by
  unfold wp_X1_ofLevel_46 at h
  refine bs_iinc C (bf_dk dd_X1_ofLevel 26 rfl) (x3 + (1 : Int32)) rfl rfl (Nat.le_of_ble_eq_true rfl) (Nat.le_of_ble_eq_true rfl) (lv2 := [some (.ref 0), some (.int x1), some (.int x2), some (.int (x3 + (1 : Int32)))]) rfl ?_
  refine bs_goto C (bf_dk dd_X1_ofLevel 27 rfl) (tgt := 4) rfl ?_
  exact bs_weak (bf_s1 (bf_s1 (bf_s1 (bf_s1 bf_s0)))) (hB4 (x1) (x2) ((x3 + (1 : Int32))) h)
def wp_X1_ofLevel_43 (S : bT1) (x1 : Int32) (x2 : Int32) (x3 : Int32) (Q : Int32 → Prop) (B4 : Int32 → Int32 → Int32 → Prop) : Prop := (wp_X1_ofLevel_46 S (x1) ((x2 + (1 : Int32))) (x3) Q B4)
set_option maxRecDepth 20000 in
theorem t_X1_ofLevel_43 {X : bf_X} (C : bf_C X RX1 cX1_ofLevel 4 (some .int)) (hR : bf_Rm X 2 42) (S : bT1) (x1 : Int32) (x2 : Int32) (x3 : Int32) (Q : Int32 → Prop) (B4 : Int32 → Int32 → Int32 → Prop) (hB4 : ∀ (x1 : Int32) (x2 : Int32) (x3 : Int32), B4 x1 x2 x3 → bf_A X (bf_Zi X bW1 (fun r u => u = S ∧ Q r)) 4 4 [some (.ref 0), some (.int x1), some (.int x2), some (.int x3)] [] (bW1 S)) (h : wp_X1_ofLevel_43 S x1 x2 x3 Q B4) : bf_A X (bf_Zi X bW1 (fun r u => u = S ∧ Q r)) 4 43 [some (.ref 0), some (.int x1), some (.int x2), some (.int x3)] [] (bW1 S) := by
  unfold wp_X1_ofLevel_43 at h
  refine bs_iinc C (bf_dk dd_X1_ofLevel 25 rfl) (x2 + (1 : Int32)) rfl rfl (Nat.le_of_ble_eq_true rfl) (Nat.le_of_ble_eq_true rfl) (lv2 := [some (.ref 0), some (.int x1), some (.int (x2 + (1 : Int32))), some (.int x3)]) rfl ?_
  exact bs_weak (bf_s1 (bf_s1 (bf_s1 (bf_s1 bf_s0)))) (t_X1_ofLevel_46 C hR S (x1) ((x2 + (1 : Int32))) (x3) Q B4 hB4 h)
def wp_X1_ofLevel_4b (S : bT1) (x1 : Int32) (x2 : Int32) (x3 : Int32) (Q : Int32 → Prop) (B4 : Int32 → Int32 → Int32 → Prop) : Prop := (((b0g_count (b1g_owners S)) ≤ x3 → (Q x2)) ∧ (¬ (b0g_count (b1g_owners S)) ≤ x3 → (wp_X1_lengthAt S (x3) (fun r1 => ((r1 = (x1 + (1 : Int32)) → (wp_X1_ofLevel_43 S (x1) (x2) (x3) Q B4)) ∧ (¬ r1 = (x1 + (1 : Int32)) → (wp_X1_isEnded S (x3) (fun r3 => ((r3 = 0 → (wp_X1_ofLevel_46 S (x1) (x2) (x3) Q B4)) ∧ (¬ r3 = 0 → (wp_X1_lengthAt S (x3) (fun r5 => ((¬ r5 = x1 → (wp_X1_ofLevel_46 S (x1) (x2) (x3) Q B4)) ∧ (r5 = x1 → (wp_X1_ofLevel_43 S (x1) (x2) (x3) Q B4)))))))))))))))
set_option maxRecDepth 20000 in
theorem t_X1_ofLevel_4b {X : bf_X} (C : bf_C X RX1 cX1_ofLevel 4 (some .int)) (hR : bf_Rm X 2 42) (S : bT1) (x1 : Int32) (x2 : Int32) (x3 : Int32) (Q : Int32 → Prop) (B4 : Int32 → Int32 → Int32 → Prop) (hB4 : ∀ (x1 : Int32) (x2 : Int32) (x3 : Int32), B4 x1 x2 x3 → bf_A X (bf_Zi X bW1 (fun r u => u = S ∧ Q r)) 4 4 [some (.ref 0), some (.int x1), some (.int x2), some (.int x3)] [] (bW1 S)) (h : wp_X1_ofLevel_4b S x1 x2 x3 Q B4) : bf_A X (bf_Zi X bW1 (fun r u => u = S ∧ Q r)) 4 4 [some (.ref 0), some (.int x1), some (.int x2), some (.int x3)] [] (bW1 S) := by
  unfold wp_X1_ofLevel_4b at h
  refine bs_iload_n C (bf_dk dd_X1_ofLevel 4 rfl) rfl ?_
  refine bs_aload_n C (bf_dk dd_X1_ofLevel 5 rfl) rfl ?_
  refine bs_get C (bf_dk dd_X1_ofLevel 6 rfl) cl_1 in_1 0 (Nat.le_of_ble_eq_true rfl) rfl f_1_12 (ge_bW1_0 S) rfl ?_
  refine bs_get C (bf_dk dd_X1_ofLevel 7 rfl) cl_0 in_0 2 (Nat.le_of_ble_eq_true rfl) rfl f_1_66 (ge_bW1_1 S) rfl ?_
  refine bs_icmp_ge C (bf_dk dd_X1_ofLevel 8 rfl) (tgt := 52) rfl (fun c => ?_) (fun c => ?_)
  · replace h := h.1 c
    refine bs_iload_n C (bf_dk dd_X1_ofLevel 28 rfl) rfl ?_
    exact bs_iret (u := S) C (bf_dk dd_X1_ofLevel 29 rfl) rfl ⟨rfl, h⟩
  · replace h := h.2 c
    refine bs_aload_n C (bf_dk dd_X1_ofLevel 9 rfl) rfl ?_
    refine bs_iload_n C (bf_dk dd_X1_ofLevel 10 rfl) rfl ?_
    refine bs_selfPV_i C hR (c_X1_lengthAt _ _ _ _ _ S (x3) _ h) my_X1_lengthAt m_1_105 rfl cl_1 (ge_bW1_0 _) rfl (Nat.le_of_ble_eq_true rfl) (Nat.le_of_ble_eq_true rfl) (st := []) (Nat.le_of_ble_eq_true rfl) (bf_dk dd_X1_ofLevel 11 rfl) rfl (fun r1 h => ?_)
    refine bs_iload_n C (bf_dk dd_X1_ofLevel 12 rfl) rfl ?_
    refine bs_iconst C (bf_dk dd_X1_ofLevel 13 rfl) (1 : Int32) (by decide) ?_
    refine bs_iadd C (bf_dk dd_X1_ofLevel 14 rfl) ?_
    refine bs_icmp_eq C (bf_dk dd_X1_ofLevel 15 rfl) (tgt := 43) rfl (fun c => ?_) (fun c => ?_)
    · replace h := h.1 c
      exact bs_weak (bf_s1 (bf_s1 (bf_s1 (bf_s1 bf_s0)))) (t_X1_ofLevel_43 C hR S (x1) (x2) (x3) Q B4 hB4 h)
    · replace h := h.2 c
      refine bs_aload_n C (bf_dk dd_X1_ofLevel 16 rfl) rfl ?_
      refine bs_iload_n C (bf_dk dd_X1_ofLevel 17 rfl) rfl ?_
      refine bs_selfPV_i C hR (c_X1_isEnded _ _ _ _ _ S (x3) _ h) my_X1_isEnded m_1_109 rfl cl_1 (ge_bW1_0 _) rfl (Nat.le_of_ble_eq_true rfl) (Nat.le_of_ble_eq_true rfl) (st := []) (Nat.le_of_ble_eq_true rfl) (bf_dk dd_X1_ofLevel 18 rfl) rfl (fun r3 h => ?_)
      refine bs_if_eq C (bf_dk dd_X1_ofLevel 19 rfl) (tgt := 46) rfl (fun c => ?_) (fun c => ?_)
      · replace h := h.1 c
        exact bs_weak (bf_s1 (bf_s1 (bf_s1 (bf_s1 bf_s0)))) (t_X1_ofLevel_46 C hR S (x1) (x2) (x3) Q B4 hB4 h)
      · replace h := h.2 c
        refine bs_aload_n C (bf_dk dd_X1_ofLevel 20 rfl) rfl ?_
        refine bs_iload_n C (bf_dk dd_X1_ofLevel 21 rfl) rfl ?_
        refine bs_selfPV_i C hR (c_X1_lengthAt _ _ _ _ _ S (x3) _ h) my_X1_lengthAt m_1_105 rfl cl_1 (ge_bW1_0 _) rfl (Nat.le_of_ble_eq_true rfl) (Nat.le_of_ble_eq_true rfl) (st := []) (Nat.le_of_ble_eq_true rfl) (bf_dk dd_X1_ofLevel 22 rfl) rfl (fun r5 h => ?_)
        refine bs_iload_n C (bf_dk dd_X1_ofLevel 23 rfl) rfl ?_
        refine bs_icmp_ne C (bf_dk dd_X1_ofLevel 24 rfl) (tgt := 46) rfl (fun c => ?_) (fun c => ?_)
        · replace h := h.1 c
          exact bs_weak (bf_s1 (bf_s1 (bf_s1 (bf_s1 bf_s0)))) (t_X1_ofLevel_46 C hR S (x1) (x2) (x3) Q B4 hB4 h)
        · replace h := h.2 c
          exact bs_weak (bf_s1 (bf_s1 (bf_s1 (bf_s1 bf_s0)))) (t_X1_ofLevel_43 C hR S (x1) (x2) (x3) Q B4 hB4 h)
def wp_X1_ofLevel_4 (S : bT1) (x1 : Int32) (x2 : Int32) (x3 : Int32) (Q : Int32 → Prop) : Prop := ∃ I : Nat → Int32 → Int32 → Int32 → Prop, (∃ n : Nat, I n x1 x2 x3) ∧ ∀ (n : Nat) (x1 : Int32) (x2 : Int32) (x3 : Int32), I n x1 x2 x3 → wp_X1_ofLevel_4b S x1 x2 x3 Q (fun x1 x2 x3 => ∃ n2 : Nat, n2 < n ∧ I n2 x1 x2 x3)
theorem t_X1_ofLevel_4 {X : bf_X} (C : bf_C X RX1 cX1_ofLevel 4 (some .int)) (hR : bf_Rm X 2 42) (S : bT1) (x1 : Int32) (x2 : Int32) (x3 : Int32) (Q : Int32 → Prop) (h : wp_X1_ofLevel_4 S x1 x2 x3 Q) : bf_A X (bf_Zi X bW1 (fun r u => u = S ∧ Q r)) 4 4 [some (.ref 0), some (.int x1), some (.int x2), some (.int x3)] [] (bW1 S) := by
  obtain ⟨I, ⟨n0, h0⟩, hI⟩ := h
  have key : ∀ (n : Nat) (x1 : Int32) (x2 : Int32) (x3 : Int32), I n x1 x2 x3 → bf_A X (bf_Zi X bW1 (fun r u => u = S ∧ Q r)) 4 4 [some (.ref 0), some (.int x1), some (.int x2), some (.int x3)] [] (bW1 S) := by
    intro n
    induction n using Nat.strongRecOn with
    | _ n ih =>
      intro x1 x2 x3 hi
      exact t_X1_ofLevel_4b C hR S x1 x2 x3 Q _ (fun x1 x2 x3 hb => by obtain ⟨n2, hn, hi2⟩ := hb; exact ih n2 hn x1 x2 x3 hi2) (hI n x1 x2 x3 hi)
  exact key n0 x1 x2 x3 h0
def wp_X1_ofLevel (S : bT1) (a1 : Int32) (Q : Int32 → Prop) : Prop := (wp_X1_ofLevel_4 S (a1) ((0 : Int32)) ((0 : Int32)) Q)
set_option maxRecDepth 20000 in
theorem t_X1_ofLevel {X : bf_X} (C : bf_C X RX1 cX1_ofLevel 4 (some .int)) (hR : bf_Rm X 2 42) (S : bT1) (a1 : Int32) (Q : Int32 → Prop) (h : wp_X1_ofLevel S a1 Q) : bf_A X (bf_Zi X bW1 (fun r u => u = S ∧ Q r)) 4 0 [some (.ref 0), some (.int a1), none, none] [] (bW1 S) := by
  unfold wp_X1_ofLevel at h
  refine bs_iconst C (bf_dk dd_X1_ofLevel 0 rfl) (0 : Int32) (by decide) ?_
  refine bs_istore_n C (bf_dk dd_X1_ofLevel 1 rfl) rfl (Nat.le_of_ble_eq_true rfl) (Nat.le_of_ble_eq_true rfl) (lv2 := [some (.ref 0), some (.int a1), some (.int (0 : Int32)), none]) rfl ?_
  refine bs_iconst C (bf_dk dd_X1_ofLevel 2 rfl) (0 : Int32) (by decide) ?_
  refine bs_istore_n C (bf_dk dd_X1_ofLevel 3 rfl) rfl (Nat.le_of_ble_eq_true rfl) (Nat.le_of_ble_eq_true rfl) (lv2 := [some (.ref 0), some (.int a1), some (.int (0 : Int32)), some (.int (0 : Int32))]) rfl ?_
  exact bs_weak (bf_s1 (bf_s1 (bf_s1 (bf_s1 bf_s0)))) (t_X1_ofLevel_4 C hR S (a1) ((0 : Int32)) ((0 : Int32)) Q h)
theorem c_X1_ofLevel (l : Launch) (dC : Nat → ClassId) (dI : Nat → Nat → Nat) (ac : Nat → ClassId) (al : Nat → Nat) (S : bT1) (a1 : Int32) (Q : Int32 → Prop) (h : wp_X1_ofLevel S a1 Q) : bf_M l yX1_ofLevel cX1_ofLevel 4 (some .int) 2 42 dC dI ac al [.ref 0, .int a1] (bW1 S) (bf_Ki dC dI ac al bW1 (fun r u => u = S ∧ Q r)) := by
  refine bf_start [some (.ref 0), some (.int a1), none, none] (by decide) (Nat.le_of_ble_eq_true rfl) (bf_s1 (bf_s1 (bf_en 2))) ?_
  intro X hl C hR e1 e2 e3 e4
  subst e1; subst e2; subst e3; subst e4
  exact t_X1_ofLevel C hR S a1 Q h
def wp_X1_allEnded_29 (S : bT1) (x2 : Int32) (t0 : Int32) (t1 : Int32) (Q : Int32 → Prop) (B4 : Int32 → Int32 → Prop) : Prop := (B4 ((t0 + t1)) ((x2 + (1 : Int32))))
set_option maxRecDepth 20000 in
theorem t_X1_allEnded_29 {X : bf_X} (C : bf_C X RX1 cX1_allEnded 3 (some .int)) (hR : bf_Rm X 2 42) (S : bT1) (x2 : Int32) (t0 : Int32) (t1 : Int32) (Q : Int32 → Prop) (B4 : Int32 → Int32 → Prop) (hB4 : ∀ (x1 : Int32) (x2 : Int32), B4 x1 x2 → bf_A X (bf_Zi X bW1 (fun r u => u = S ∧ Q r)) 3 4 [some (.ref 0), some (.int x1), some (.int x2)] [] (bW1 S)) (h : wp_X1_allEnded_29 S x2 t0 t1 Q B4) : bf_A X (bf_Zi X bW1 (fun r u => u = S ∧ Q r)) 3 29 [some (.ref 0), none, some (.int x2)] [.int t1, .int t0] (bW1 S) := by
  unfold wp_X1_allEnded_29 at h
  refine bs_iadd C (bf_dk dd_X1_allEnded 17 rfl) ?_
  refine bs_istore_n C (bf_dk dd_X1_allEnded 18 rfl) rfl (Nat.le_of_ble_eq_true rfl) (Nat.le_of_ble_eq_true rfl) (lv2 := [some (.ref 0), some (.int (t0 + t1)), some (.int x2)]) rfl ?_
  refine bs_iinc C (bf_dk dd_X1_allEnded 19 rfl) (x2 + (1 : Int32)) rfl rfl (Nat.le_of_ble_eq_true rfl) (Nat.le_of_ble_eq_true rfl) (lv2 := [some (.ref 0), some (.int (t0 + t1)), some (.int (x2 + (1 : Int32)))]) rfl ?_
  refine bs_goto C (bf_dk dd_X1_allEnded 20 rfl) (tgt := 4) rfl ?_
  exact bs_weak (bf_s1 (bf_s1 (bf_s1 bf_s0))) (hB4 ((t0 + t1)) ((x2 + (1 : Int32))) h)
def wp_X1_allEnded_4b (S : bT1) (x1 : Int32) (x2 : Int32) (Q : Int32 → Prop) (B4 : Int32 → Int32 → Prop) : Prop := (((b0g_count (b1g_owners S)) ≤ x2 → (Q x1)) ∧ (¬ (b0g_count (b1g_owners S)) ≤ x2 → (wp_X1_isEnded S (x2) (fun r1 => ((r1 = 0 → (wp_X1_allEnded_29 S (x2) (x1) ((0 : Int32)) Q B4)) ∧ (¬ r1 = 0 → (wp_X1_allEnded_29 S (x2) (x1) ((1 : Int32)) Q B4)))))))
set_option maxRecDepth 20000 in
theorem t_X1_allEnded_4b {X : bf_X} (C : bf_C X RX1 cX1_allEnded 3 (some .int)) (hR : bf_Rm X 2 42) (S : bT1) (x1 : Int32) (x2 : Int32) (Q : Int32 → Prop) (B4 : Int32 → Int32 → Prop) (hB4 : ∀ (x1 : Int32) (x2 : Int32), B4 x1 x2 → bf_A X (bf_Zi X bW1 (fun r u => u = S ∧ Q r)) 3 4 [some (.ref 0), some (.int x1), some (.int x2)] [] (bW1 S)) (h : wp_X1_allEnded_4b S x1 x2 Q B4) : bf_A X (bf_Zi X bW1 (fun r u => u = S ∧ Q r)) 3 4 [some (.ref 0), some (.int x1), some (.int x2)] [] (bW1 S) := by
  unfold wp_X1_allEnded_4b at h
  refine bs_iload_n C (bf_dk dd_X1_allEnded 4 rfl) rfl ?_
  refine bs_aload_n C (bf_dk dd_X1_allEnded 5 rfl) rfl ?_
  refine bs_get C (bf_dk dd_X1_allEnded 6 rfl) cl_1 in_1 0 (Nat.le_of_ble_eq_true rfl) rfl f_1_12 (ge_bW1_0 S) rfl ?_
  refine bs_get C (bf_dk dd_X1_allEnded 7 rfl) cl_0 in_0 2 (Nat.le_of_ble_eq_true rfl) rfl f_1_66 (ge_bW1_1 S) rfl ?_
  refine bs_icmp_ge C (bf_dk dd_X1_allEnded 8 rfl) (tgt := 37) rfl (fun c => ?_) (fun c => ?_)
  · replace h := h.1 c
    refine bs_iload_n C (bf_dk dd_X1_allEnded 21 rfl) rfl ?_
    exact bs_iret (u := S) C (bf_dk dd_X1_allEnded 22 rfl) rfl ⟨rfl, h⟩
  · replace h := h.2 c
    refine bs_iload_n C (bf_dk dd_X1_allEnded 9 rfl) rfl ?_
    refine bs_aload_n C (bf_dk dd_X1_allEnded 10 rfl) rfl ?_
    refine bs_iload_n C (bf_dk dd_X1_allEnded 11 rfl) rfl ?_
    refine bs_selfPV_i C hR (c_X1_isEnded _ _ _ _ _ S (x2) _ h) my_X1_isEnded m_1_109 rfl cl_1 (ge_bW1_0 _) rfl (Nat.le_of_ble_eq_true rfl) (Nat.le_of_ble_eq_true rfl) (st := [.int x1]) (Nat.le_of_ble_eq_true rfl) (bf_dk dd_X1_allEnded 12 rfl) rfl (fun r1 h => ?_)
    refine bs_if_eq C (bf_dk dd_X1_allEnded 13 rfl) (tgt := 28) rfl (fun c => ?_) (fun c => ?_)
    · replace h := h.1 c
      refine bs_iconst C (bf_dk dd_X1_allEnded 16 rfl) (0 : Int32) (by decide) ?_
      exact bs_weak (bf_s1 (bf_sn (bf_s1 bf_s0))) (t_X1_allEnded_29 C hR S (x2) (x1) ((0 : Int32)) Q B4 hB4 h)
    · replace h := h.2 c
      refine bs_iconst C (bf_dk dd_X1_allEnded 14 rfl) (1 : Int32) (by decide) ?_
      refine bs_goto C (bf_dk dd_X1_allEnded 15 rfl) (tgt := 29) rfl ?_
      exact bs_weak (bf_s1 (bf_sn (bf_s1 bf_s0))) (t_X1_allEnded_29 C hR S (x2) (x1) ((1 : Int32)) Q B4 hB4 h)
def wp_X1_allEnded_4 (S : bT1) (x1 : Int32) (x2 : Int32) (Q : Int32 → Prop) : Prop := ∃ I : Nat → Int32 → Int32 → Prop, (∃ n : Nat, I n x1 x2) ∧ ∀ (n : Nat) (x1 : Int32) (x2 : Int32), I n x1 x2 → wp_X1_allEnded_4b S x1 x2 Q (fun x1 x2 => ∃ n2 : Nat, n2 < n ∧ I n2 x1 x2)
theorem t_X1_allEnded_4 {X : bf_X} (C : bf_C X RX1 cX1_allEnded 3 (some .int)) (hR : bf_Rm X 2 42) (S : bT1) (x1 : Int32) (x2 : Int32) (Q : Int32 → Prop) (h : wp_X1_allEnded_4 S x1 x2 Q) : bf_A X (bf_Zi X bW1 (fun r u => u = S ∧ Q r)) 3 4 [some (.ref 0), some (.int x1), some (.int x2)] [] (bW1 S) := by
  obtain ⟨I, ⟨n0, h0⟩, hI⟩ := h
  have key : ∀ (n : Nat) (x1 : Int32) (x2 : Int32), I n x1 x2 → bf_A X (bf_Zi X bW1 (fun r u => u = S ∧ Q r)) 3 4 [some (.ref 0), some (.int x1), some (.int x2)] [] (bW1 S) := by
    intro n
    induction n using Nat.strongRecOn with
    | _ n ih =>
      intro x1 x2 hi
      exact t_X1_allEnded_4b C hR S x1 x2 Q _ (fun x1 x2 hb => by obtain ⟨n2, hn, hi2⟩ := hb; exact ih n2 hn x1 x2 hi2) (hI n x1 x2 hi)
  exact key n0 x1 x2 h0
def wp_X1_allEnded (S : bT1) (Q : Int32 → Prop) : Prop := (wp_X1_allEnded_4 S ((0 : Int32)) ((0 : Int32)) Q)
set_option maxRecDepth 20000 in
theorem t_X1_allEnded {X : bf_X} (C : bf_C X RX1 cX1_allEnded 3 (some .int)) (hR : bf_Rm X 2 42) (S : bT1) (Q : Int32 → Prop) (h : wp_X1_allEnded S Q) : bf_A X (bf_Zi X bW1 (fun r u => u = S ∧ Q r)) 3 0 [some (.ref 0), none, none] [] (bW1 S) := by
  unfold wp_X1_allEnded at h
  refine bs_iconst C (bf_dk dd_X1_allEnded 0 rfl) (0 : Int32) (by decide) ?_
  refine bs_istore_n C (bf_dk dd_X1_allEnded 1 rfl) rfl (Nat.le_of_ble_eq_true rfl) (Nat.le_of_ble_eq_true rfl) (lv2 := [some (.ref 0), some (.int (0 : Int32)), none]) rfl ?_
  refine bs_iconst C (bf_dk dd_X1_allEnded 2 rfl) (0 : Int32) (by decide) ?_
  refine bs_istore_n C (bf_dk dd_X1_allEnded 3 rfl) rfl (Nat.le_of_ble_eq_true rfl) (Nat.le_of_ble_eq_true rfl) (lv2 := [some (.ref 0), some (.int (0 : Int32)), some (.int (0 : Int32))]) rfl ?_
  exact bs_weak (bf_s1 (bf_s1 (bf_s1 bf_s0))) (t_X1_allEnded_4 C hR S ((0 : Int32)) ((0 : Int32)) Q h)
theorem c_X1_allEnded (l : Launch) (dC : Nat → ClassId) (dI : Nat → Nat → Nat) (ac : Nat → ClassId) (al : Nat → Nat) (S : bT1) (Q : Int32 → Prop) (h : wp_X1_allEnded S Q) : bf_M l yX1_allEnded cX1_allEnded 3 (some .int) 2 42 dC dI ac al [.ref 0] (bW1 S) (bf_Ki dC dI ac al bW1 (fun r u => u = S ∧ Q r)) := by
  refine bf_start [some (.ref 0), none, none] (by decide) (Nat.le_of_ble_eq_true rfl) (bf_s1 (bf_en 2)) ?_
  intro X hl C hR e1 e2 e3 e4
  subst e1; subst e2; subst e3; subst e4
  exact t_X1_allEnded C hR S Q h
def wp_X1_allBytes_4b (S : bT1) (x1 : Int32) (x2 : Int32) (Q : Int32 → Prop) (B4 : Int32 → Int32 → Prop) : Prop := (((b0g_count (b1g_owners S)) ≤ x2 → (Q x1)) ∧ (¬ (b0g_count (b1g_owners S)) ≤ x2 → (wp_X1_lengthAt S (x2) (fun r1 => (B4 ((x1 + r1)) ((x2 + (1 : Int32))))))))
set_option maxRecDepth 20000 in
theorem t_X1_allBytes_4b {X : bf_X} (C : bf_C X RX1 cX1_allBytes 3 (some .int)) (hR : bf_Rm X 2 42) (S : bT1) (x1 : Int32) (x2 : Int32) (Q : Int32 → Prop) (B4 : Int32 → Int32 → Prop) (hB4 : ∀ (x1 : Int32) (x2 : Int32), B4 x1 x2 → bf_A X (bf_Zi X bW1 (fun r u => u = S ∧ Q r)) 3 4 [some (.ref 0), some (.int x1), some (.int x2)] [] (bW1 S)) (h : wp_X1_allBytes_4b S x1 x2 Q B4) : bf_A X (bf_Zi X bW1 (fun r u => u = S ∧ Q r)) 3 4 [some (.ref 0), some (.int x1), some (.int x2)] [] (bW1 S) := by
  unfold wp_X1_allBytes_4b at h
  refine bs_iload_n C (bf_dk dd_X1_allBytes 4 rfl) rfl ?_
  refine bs_aload_n C (bf_dk dd_X1_allBytes 5 rfl) rfl ?_
  refine bs_get C (bf_dk dd_X1_allBytes 6 rfl) cl_1 in_1 0 (Nat.le_of_ble_eq_true rfl) rfl f_1_12 (ge_bW1_0 S) rfl ?_
  refine bs_get C (bf_dk dd_X1_allBytes 7 rfl) cl_0 in_0 2 (Nat.le_of_ble_eq_true rfl) rfl f_1_66 (ge_bW1_1 S) rfl ?_
  refine bs_icmp_ge C (bf_dk dd_X1_allBytes 8 rfl) (tgt := 29) rfl (fun c => ?_) (fun c => ?_)
  · replace h := h.1 c
    refine bs_iload_n C (bf_dk dd_X1_allBytes 17 rfl) rfl ?_
    exact bs_iret (u := S) C (bf_dk dd_X1_allBytes 18 rfl) rfl ⟨rfl, h⟩
  · replace h := h.2 c
    refine bs_iload_n C (bf_dk dd_X1_allBytes 9 rfl) rfl ?_
    refine bs_aload_n C (bf_dk dd_X1_allBytes 10 rfl) rfl ?_
    refine bs_iload_n C (bf_dk dd_X1_allBytes 11 rfl) rfl ?_
    refine bs_selfPV_i C hR (c_X1_lengthAt _ _ _ _ _ S (x2) _ h) my_X1_lengthAt m_1_105 rfl cl_1 (ge_bW1_0 _) rfl (Nat.le_of_ble_eq_true rfl) (Nat.le_of_ble_eq_true rfl) (st := [.int x1]) (Nat.le_of_ble_eq_true rfl) (bf_dk dd_X1_allBytes 12 rfl) rfl (fun r1 h => ?_)
    refine bs_iadd C (bf_dk dd_X1_allBytes 13 rfl) ?_
    refine bs_istore_n C (bf_dk dd_X1_allBytes 14 rfl) rfl (Nat.le_of_ble_eq_true rfl) (Nat.le_of_ble_eq_true rfl) (lv2 := [some (.ref 0), some (.int (x1 + r1)), some (.int x2)]) rfl ?_
    refine bs_iinc C (bf_dk dd_X1_allBytes 15 rfl) (x2 + (1 : Int32)) rfl rfl (Nat.le_of_ble_eq_true rfl) (Nat.le_of_ble_eq_true rfl) (lv2 := [some (.ref 0), some (.int (x1 + r1)), some (.int (x2 + (1 : Int32)))]) rfl ?_
    refine bs_goto C (bf_dk dd_X1_allBytes 16 rfl) (tgt := 4) rfl ?_
    exact bs_weak (bf_s1 (bf_s1 (bf_s1 bf_s0))) (hB4 ((x1 + r1)) ((x2 + (1 : Int32))) h)
def wp_X1_allBytes_4 (S : bT1) (x1 : Int32) (x2 : Int32) (Q : Int32 → Prop) : Prop := ∃ I : Nat → Int32 → Int32 → Prop, (∃ n : Nat, I n x1 x2) ∧ ∀ (n : Nat) (x1 : Int32) (x2 : Int32), I n x1 x2 → wp_X1_allBytes_4b S x1 x2 Q (fun x1 x2 => ∃ n2 : Nat, n2 < n ∧ I n2 x1 x2)
theorem t_X1_allBytes_4 {X : bf_X} (C : bf_C X RX1 cX1_allBytes 3 (some .int)) (hR : bf_Rm X 2 42) (S : bT1) (x1 : Int32) (x2 : Int32) (Q : Int32 → Prop) (h : wp_X1_allBytes_4 S x1 x2 Q) : bf_A X (bf_Zi X bW1 (fun r u => u = S ∧ Q r)) 3 4 [some (.ref 0), some (.int x1), some (.int x2)] [] (bW1 S) := by
  obtain ⟨I, ⟨n0, h0⟩, hI⟩ := h
  have key : ∀ (n : Nat) (x1 : Int32) (x2 : Int32), I n x1 x2 → bf_A X (bf_Zi X bW1 (fun r u => u = S ∧ Q r)) 3 4 [some (.ref 0), some (.int x1), some (.int x2)] [] (bW1 S) := by
    intro n
    induction n using Nat.strongRecOn with
    | _ n ih =>
      intro x1 x2 hi
      exact t_X1_allBytes_4b C hR S x1 x2 Q _ (fun x1 x2 hb => by obtain ⟨n2, hn, hi2⟩ := hb; exact ih n2 hn x1 x2 hi2) (hI n x1 x2 hi)
  exact key n0 x1 x2 h0
def wp_X1_allBytes (S : bT1) (Q : Int32 → Prop) : Prop := (wp_X1_allBytes_4 S ((0 : Int32)) ((0 : Int32)) Q)
set_option maxRecDepth 20000 in
theorem t_X1_allBytes {X : bf_X} (C : bf_C X RX1 cX1_allBytes 3 (some .int)) (hR : bf_Rm X 2 42) (S : bT1) (Q : Int32 → Prop) (h : wp_X1_allBytes S Q) : bf_A X (bf_Zi X bW1 (fun r u => u = S ∧ Q r)) 3 0 [some (.ref 0), none, none] [] (bW1 S) := by
  unfold wp_X1_allBytes at h
  refine bs_iconst C (bf_dk dd_X1_allBytes 0 rfl) (0 : Int32) (by decide) ?_
  refine bs_istore_n C (bf_dk dd_X1_allBytes 1 rfl) rfl (Nat.le_of_ble_eq_true rfl) (Nat.le_of_ble_eq_true rfl) (lv2 := [some (.ref 0), some (.int (0 : Int32)), none]) rfl ?_
  refine bs_iconst C (bf_dk dd_X1_allBytes 2 rfl) (0 : Int32) (by decide) ?_
  refine bs_istore_n C (bf_dk dd_X1_allBytes 3 rfl) rfl (Nat.le_of_ble_eq_true rfl) (Nat.le_of_ble_eq_true rfl) (lv2 := [some (.ref 0), some (.int (0 : Int32)), some (.int (0 : Int32))]) rfl ?_
  exact bs_weak (bf_s1 (bf_s1 (bf_s1 bf_s0))) (t_X1_allBytes_4 C hR S ((0 : Int32)) ((0 : Int32)) Q h)
theorem c_X1_allBytes (l : Launch) (dC : Nat → ClassId) (dI : Nat → Nat → Nat) (ac : Nat → ClassId) (al : Nat → Nat) (S : bT1) (Q : Int32 → Prop) (h : wp_X1_allBytes S Q) : bf_M l yX1_allBytes cX1_allBytes 3 (some .int) 2 42 dC dI ac al [.ref 0] (bW1 S) (bf_Ki dC dI ac al bW1 (fun r u => u = S ∧ Q r)) := by
  refine bf_start [some (.ref 0), none, none] (by decide) (Nat.le_of_ble_eq_true rfl) (bf_s1 (bf_en 2)) ?_
  intro X hl C hR e1 e2 e3 e4
  subst e1; subst e2; subst e3; subst e4
  exact t_X1_allBytes C hR S Q h
def wp_X1_tailBits (S : bT1) (Q : Int32 → Prop) : Prop := (Q ((b0g_count (b1g_owners S)) * ((b1g_hashBits S) + (b1g_realBits S))))
set_option maxRecDepth 20000 in
theorem t_X1_tailBits {X : bf_X} (C : bf_C X RX1 cX1_tailBits 1 (some .int)) (hR : bf_Rm X 0 0) (S : bT1) (Q : Int32 → Prop) (h : wp_X1_tailBits S Q) : bf_A X (bf_Zi X bW1 (fun r u => u = S ∧ Q r)) 1 0 [some (.ref 0)] [] (bW1 S) := by
  unfold wp_X1_tailBits at h
  refine bs_aload_n C (bf_dk dd_X1_tailBits 0 rfl) rfl ?_
  refine bs_get C (bf_dk dd_X1_tailBits 1 rfl) cl_1 in_1 0 (Nat.le_of_ble_eq_true rfl) rfl f_1_12 (ge_bW1_0 S) rfl ?_
  refine bs_get C (bf_dk dd_X1_tailBits 2 rfl) cl_0 in_0 2 (Nat.le_of_ble_eq_true rfl) rfl f_1_66 (ge_bW1_1 S) rfl ?_
  refine bs_aload_n C (bf_dk dd_X1_tailBits 3 rfl) rfl ?_
  refine bs_get C (bf_dk dd_X1_tailBits 4 rfl) cl_1 in_1 7 (Nat.le_of_ble_eq_true rfl) rfl f_1_37 (ge_bW1_0 S) rfl ?_
  refine bs_aload_n C (bf_dk dd_X1_tailBits 5 rfl) rfl ?_
  refine bs_get C (bf_dk dd_X1_tailBits 6 rfl) cl_1 in_1 8 (Nat.le_of_ble_eq_true rfl) rfl f_1_41 (ge_bW1_0 S) rfl ?_
  refine bs_iadd C (bf_dk dd_X1_tailBits 7 rfl) ?_
  refine bs_imul C (bf_dk dd_X1_tailBits 8 rfl) ?_
  exact bs_iret (u := S) C (bf_dk dd_X1_tailBits 9 rfl) rfl ⟨rfl, h⟩
theorem c_X1_tailBits (l : Launch) (dC : Nat → ClassId) (dI : Nat → Nat → Nat) (ac : Nat → ClassId) (al : Nat → Nat) (S : bT1) (Q : Int32 → Prop) (h : wp_X1_tailBits S Q) : bf_M l yX1_tailBits cX1_tailBits 1 (some .int) 0 0 dC dI ac al [.ref 0] (bW1 S) (bf_Ki dC dI ac al bW1 (fun r u => u = S ∧ Q r)) := by
  refine bf_start [some (.ref 0)] (by decide) (Nat.le_of_ble_eq_true rfl) (bf_s1 bf_s0) ?_
  intro X hl C hR e1 e2 e3 e4
  subst e1; subst e2; subst e3; subst e4
  exact t_X1_tailBits C hR S Q h
def wp_X3_copyFrom (S : bT3 × bT3) (Q : (bT3 × bT3) → Prop) : Prop := (wp_X0_copyFrom ((b3g_members S.1), (b3g_members S.2)) (fun u2 => (∀ S3 : bT3 × bT3, S3 = (((b3s_members S.1 u2.1), S.2).1, (b3s_members ((b3s_members S.1 u2.1), S.2).2 u2.2)) → (∀ S4 : bT3 × bT3, S4 = ((b3s_values S3.1 (va_cpy (b3g_values S3.2) (b3g_values S3.1) ((0 : Int32)).toNatClampNeg ((0 : Int32)).toNatClampNeg ((6 : Int32)).toNatClampNeg)), S3.2) → (∀ S5 : bT3 × bT3, S5 = ((b3s_mode S4.1 (b3g_mode S4.2)), S4.2) → (Q S5))))))
set_option maxRecDepth 20000 in
theorem t_X3_copyFrom {X : bf_X} (C : bf_C X RX3 cX3_copyFrom 2 none) (hR : bf_Rm X 2 61) (S : bT3 × bT3) (Q : (bT3 × bT3) → Prop) (h : wp_X3_copyFrom S Q) : bf_A X (bf_Zv X bW3_3 Q) 2 0 [some (.ref 0), some (.ref 5)] [] (bW3_3 S) := by
  unfold wp_X3_copyFrom at h
  refine bs_aload_n C (bf_dk dd_X3_copyFrom 0 rfl) rfl ?_
  refine bs_get C (bf_dk dd_X3_copyFrom 1 rfl) cl_3 in_3 0 (Nat.le_of_ble_eq_true rfl) rfl f_3_12 (ge_bW3_3_0 S) rfl ?_
  refine bs_aload_n C (bf_dk dd_X3_copyFrom 2 rfl) rfl ?_
  refine bs_get C (bf_dk dd_X3_copyFrom 3 rfl) cl_3 in_3 0 (Nat.le_of_ble_eq_true rfl) rfl f_3_12 (ge_bW3_3_5 S) rfl ?_
  refine bs_callV_v (ps := [1, 2, 3, 6, 7, 8]) (w := (bW3_3 S)) C hR (c_X0_copyFrom _ _ _ _ _ ((b3g_members S.1), (b3g_members S.2)) _ h) my_X0_copyFrom m_3_35 rfl cl_0 (ge_bW0_0_0 _) rfl (Nat.le_of_ble_eq_true rfl) (Nat.le_of_ble_eq_true rfl) (su_bW3_3_1_6_bW0_0 S) bnd_1t3_6t8 (st := []) (Nat.le_of_ble_eq_true rfl) (bf_dk dd_X3_copyFrom 4 rfl) rfl (fun _ => rfl) (w2 := fun u2 => bW3_3 (((b3s_members S.1 u2.1), S.2).1, (b3s_members ((b3s_members S.1 u2.1), S.2).2 u2.2))) (pt_bW3_3_1_6_bW0_0 S) (fun u2 h => ?_)
  refine bs_nameS bW3_3 (fun S3 eS3 => ?_)
  replace h := h S3 eS3
  refine bs_aload_n C (bf_dk dd_X3_copyFrom 5 rfl) rfl ?_
  refine bs_get C (bf_dk dd_X3_copyFrom 6 rfl) cl_3 in_3 1 (Nat.le_of_ble_eq_true rfl) rfl f_3_18 (ge_bW3_3_5 S3) rfl ?_
  refine bs_iconst C (bf_dk dd_X3_copyFrom 7 rfl) (0 : Int32) (by decide) ?_
  refine bs_aload_n C (bf_dk dd_X3_copyFrom 8 rfl) rfl ?_
  refine bs_get C (bf_dk dd_X3_copyFrom 9 rfl) cl_3 in_3 1 (Nat.le_of_ble_eq_true rfl) rfl f_3_18 (ge_bW3_3_0 S3) rfl ?_
  refine bs_iconst C (bf_dk dd_X3_copyFrom 10 rfl) (0 : Int32) (by decide) ?_
  refine bs_bipush C (bf_dk dd_X3_copyFrom 11 rfl) (6 : Int32) (by decide) ?_
  refine bs_copyI C hR m_3_29 cpw.1 cpw.2.1 cpw.2.2 (ge_bW3_3_9 S3) (ge_bW3_3_4 S3) (by decide) (by decide) (by decide) (Nat.le_of_ble_eq_true rfl) (Nat.le_of_ble_eq_true rfl) (Nat.le_of_ble_eq_true rfl) (Nat.le_of_ble_eq_true rfl) (bf_dk dd_X3_copyFrom 12 rfl) (ar_bW3_3_4 S3 _) ?_
  refine bs_nameS bW3_3 (fun S4 eS4 => ?_)
  replace h := h S4 eS4
  refine bs_aload_n C (bf_dk dd_X3_copyFrom 13 rfl) rfl ?_
  refine bs_aload_n C (bf_dk dd_X3_copyFrom 14 rfl) rfl ?_
  refine bs_get C (bf_dk dd_X3_copyFrom 15 rfl) cl_3 in_3 2 (Nat.le_of_ble_eq_true rfl) rfl f_3_22 (ge_bW3_3_5 S4) rfl ?_
  refine bs_put C (bf_dk dd_X3_copyFrom 16 rfl) tyX3_ok nmX3 cl_3 in_3 2 (Nat.le_of_ble_eq_true rfl) rfl f_3_22 rfl (ge_bW3_3_0 S4) (Nat.le_of_ble_eq_true rfl) rfl rfl (pu_bW3_3_0_2 S4 (b3g_mode S4.2)) ?_
  refine bs_nameS bW3_3 (fun S5 eS5 => ?_)
  replace h := h S5 eS5
  exact bs_vret (u := S5) C (bf_dk dd_X3_copyFrom 17 rfl) rfl h
theorem c_X3_copyFrom (l : Launch) (dC : Nat → ClassId) (dI : Nat → Nat → Nat) (ac : Nat → ClassId) (al : Nat → Nat) (S : bT3 × bT3) (Q : (bT3 × bT3) → Prop) (h : wp_X3_copyFrom S Q) : bf_M l yX3_copyFrom cX3_copyFrom 2 none 2 61 dC dI ac al [.ref 0, .ref 5] (bW3_3 S) (bf_Kv dC dI ac al bW3_3 Q) := by
  refine bf_start [some (.ref 0), some (.ref 5)] (by decide) (Nat.le_of_ble_eq_true rfl) (bf_s1 (bf_s1 bf_s0)) ?_
  intro X hl C hR e1 e2 e3 e4
  subst e1; subst e2; subst e3; subst e4
  exact t_X3_copyFrom C hR S Q h
def wp_X2_copyFrom (S : bT2 × bT2) (Q : (bT2 × bT2) → Prop) : Prop := (wp_X3_copyFrom ((b2g_told S.1), (b2g_told S.2)) (fun u2 => (∀ S3 : bT2 × bT2, S3 = (((b2s_told S.1 u2.1), S.2).1, (b2s_told ((b2s_told S.1 u2.1), S.2).2 u2.2)) → (wp_X3_copyFrom ((b2g_built S3.1), (b2g_built S3.2)) (fun u5 => (∀ S6 : bT2 × bT2, S6 = (((b2s_built S3.1 u5.1), S3.2).1, (b2s_built ((b2s_built S3.1 u5.1), S3.2).2 u5.2)) → (wp_X0_copyFrom ((b2g_questions S6.1), (b2g_questions S6.2)) (fun u8 => (∀ S9 : bT2 × bT2, S9 = (((b2s_questions S6.1 u8.1), S6.2).1, (b2s_questions ((b2s_questions S6.1 u8.1), S6.2).2 u8.2)) → (∀ S10 : bT2 × bT2, S10 = ((b2s_answers S9.1 (va_cpy (b2g_answers S9.2) (b2g_answers S9.1) ((0 : Int32)).toNatClampNeg ((0 : Int32)).toNatClampNeg ((6 : Int32)).toNatClampNeg)), S9.2) → (∀ S11 : bT2 × bT2, S11 = ((b2s_draws S10.1 (b2g_draws S10.2)), S10.2) → (Q S11))))))))))))
set_option maxRecDepth 20000 in
theorem t_X2_copyFrom {X : bf_X} (C : bf_C X RX2 cX2_copyFrom 2 none) (hR : bf_Rm X 3 82) (S : bT2 × bT2) (Q : (bT2 × bT2) → Prop) (h : wp_X2_copyFrom S Q) : bf_A X (bf_Zv X bW2_2 Q) 2 0 [some (.ref 0), some (.ref 15)] [] (bW2_2 S) := by
  unfold wp_X2_copyFrom at h
  refine bs_aload_n C (bf_dk dd_X2_copyFrom 0 rfl) rfl ?_
  refine bs_get C (bf_dk dd_X2_copyFrom 1 rfl) cl_2 in_2 0 (Nat.le_of_ble_eq_true rfl) rfl f_2_12 (ge_bW2_2_0 S) rfl ?_
  refine bs_aload_n C (bf_dk dd_X2_copyFrom 2 rfl) rfl ?_
  refine bs_get C (bf_dk dd_X2_copyFrom 3 rfl) cl_2 in_2 0 (Nat.le_of_ble_eq_true rfl) rfl f_2_12 (ge_bW2_2_15 S) rfl ?_
  refine bs_callV_v (ps := [1, 2, 3, 4, 5, 16, 17, 18, 19, 20]) (w := (bW2_2 S)) C hR (c_X3_copyFrom _ _ _ _ _ ((b2g_told S.1), (b2g_told S.2)) _ h) my_X3_copyFrom m_2_36 rfl cl_3 (ge_bW3_3_0 _) rfl (Nat.le_of_ble_eq_true rfl) (Nat.le_of_ble_eq_true rfl) (su_bW2_2_1_16_bW3_3 S) bnd_1t5_16t20 (st := []) (Nat.le_of_ble_eq_true rfl) (bf_dk dd_X2_copyFrom 4 rfl) rfl (fun _ => rfl) (w2 := fun u2 => bW2_2 (((b2s_told S.1 u2.1), S.2).1, (b2s_told ((b2s_told S.1 u2.1), S.2).2 u2.2))) (pt_bW2_2_1_16_bW3_3 S) (fun u2 h => ?_)
  refine bs_nameS bW2_2 (fun S3 eS3 => ?_)
  replace h := h S3 eS3
  refine bs_aload_n C (bf_dk dd_X2_copyFrom 5 rfl) rfl ?_
  refine bs_get C (bf_dk dd_X2_copyFrom 6 rfl) cl_2 in_2 1 (Nat.le_of_ble_eq_true rfl) rfl f_2_18 (ge_bW2_2_0 S3) rfl ?_
  refine bs_aload_n C (bf_dk dd_X2_copyFrom 7 rfl) rfl ?_
  refine bs_get C (bf_dk dd_X2_copyFrom 8 rfl) cl_2 in_2 1 (Nat.le_of_ble_eq_true rfl) rfl f_2_18 (ge_bW2_2_15 S3) rfl ?_
  refine bs_callV_v (ps := [6, 7, 8, 9, 10, 21, 22, 23, 24, 25]) (w := (bW2_2 S3)) C hR (c_X3_copyFrom _ _ _ _ _ ((b2g_built S3.1), (b2g_built S3.2)) _ h) my_X3_copyFrom m_2_36 rfl cl_3 (ge_bW3_3_0 _) rfl (Nat.le_of_ble_eq_true rfl) (Nat.le_of_ble_eq_true rfl) (su_bW2_2_6_21_bW3_3 S3) bnd_6t10_21t25 (st := []) (Nat.le_of_ble_eq_true rfl) (bf_dk dd_X2_copyFrom 9 rfl) rfl (fun _ => rfl) (w2 := fun u5 => bW2_2 (((b2s_built S3.1 u5.1), S3.2).1, (b2s_built ((b2s_built S3.1 u5.1), S3.2).2 u5.2))) (pt_bW2_2_6_21_bW3_3 S3) (fun u5 h => ?_)
  refine bs_nameS bW2_2 (fun S6 eS6 => ?_)
  replace h := h S6 eS6
  refine bs_aload_n C (bf_dk dd_X2_copyFrom 10 rfl) rfl ?_
  refine bs_get C (bf_dk dd_X2_copyFrom 11 rfl) cl_2 in_2 2 (Nat.le_of_ble_eq_true rfl) rfl f_2_24 (ge_bW2_2_0 S6) rfl ?_
  refine bs_aload_n C (bf_dk dd_X2_copyFrom 12 rfl) rfl ?_
  refine bs_get C (bf_dk dd_X2_copyFrom 13 rfl) cl_2 in_2 2 (Nat.le_of_ble_eq_true rfl) rfl f_2_24 (ge_bW2_2_15 S6) rfl ?_
  refine bs_callV_v (ps := [11, 12, 13, 26, 27, 28]) (w := (bW2_2 S6)) C hR (c_X0_copyFrom _ _ _ _ _ ((b2g_questions S6.1), (b2g_questions S6.2)) _ h) my_X0_copyFrom m_2_40 rfl cl_0 (ge_bW0_0_0 _) rfl (Nat.le_of_ble_eq_true rfl) (Nat.le_of_ble_eq_true rfl) (su_bW2_2_11_26_bW0_0 S6) bnd_11t13_26t28 (st := []) (Nat.le_of_ble_eq_true rfl) (bf_dk dd_X2_copyFrom 14 rfl) rfl (fun _ => rfl) (w2 := fun u8 => bW2_2 (((b2s_questions S6.1 u8.1), S6.2).1, (b2s_questions ((b2s_questions S6.1 u8.1), S6.2).2 u8.2))) (pt_bW2_2_11_26_bW0_0 S6) (fun u8 h => ?_)
  refine bs_nameS bW2_2 (fun S9 eS9 => ?_)
  replace h := h S9 eS9
  refine bs_aload_n C (bf_dk dd_X2_copyFrom 15 rfl) rfl ?_
  refine bs_get C (bf_dk dd_X2_copyFrom 16 rfl) cl_2 in_2 3 (Nat.le_of_ble_eq_true rfl) rfl f_2_28 (ge_bW2_2_15 S9) rfl ?_
  refine bs_iconst C (bf_dk dd_X2_copyFrom 17 rfl) (0 : Int32) (by decide) ?_
  refine bs_aload_n C (bf_dk dd_X2_copyFrom 18 rfl) rfl ?_
  refine bs_get C (bf_dk dd_X2_copyFrom 19 rfl) cl_2 in_2 3 (Nat.le_of_ble_eq_true rfl) rfl f_2_28 (ge_bW2_2_0 S9) rfl ?_
  refine bs_iconst C (bf_dk dd_X2_copyFrom 20 rfl) (0 : Int32) (by decide) ?_
  refine bs_bipush C (bf_dk dd_X2_copyFrom 21 rfl) (6 : Int32) (by decide) ?_
  refine bs_copyI C hR m_2_43 cpw.1 cpw.2.1 cpw.2.2 (ge_bW2_2_29 S9) (ge_bW2_2_14 S9) (by decide) (by decide) (by decide) (Nat.le_of_ble_eq_true rfl) (Nat.le_of_ble_eq_true rfl) (Nat.le_of_ble_eq_true rfl) (Nat.le_of_ble_eq_true rfl) (bf_dk dd_X2_copyFrom 22 rfl) (ar_bW2_2_14 S9 _) ?_
  refine bs_nameS bW2_2 (fun S10 eS10 => ?_)
  replace h := h S10 eS10
  refine bs_aload_n C (bf_dk dd_X2_copyFrom 23 rfl) rfl ?_
  refine bs_aload_n C (bf_dk dd_X2_copyFrom 24 rfl) rfl ?_
  refine bs_get C (bf_dk dd_X2_copyFrom 25 rfl) cl_2 in_2 4 (Nat.le_of_ble_eq_true rfl) rfl f_2_32 (ge_bW2_2_15 S10) rfl ?_
  refine bs_put C (bf_dk dd_X2_copyFrom 26 rfl) tyX2_ok nmX2 cl_2 in_2 4 (Nat.le_of_ble_eq_true rfl) rfl f_2_32 rfl (ge_bW2_2_0 S10) (Nat.le_of_ble_eq_true rfl) rfl rfl (pu_bW2_2_0_4 S10 (b2g_draws S10.2)) ?_
  refine bs_nameS bW2_2 (fun S11 eS11 => ?_)
  replace h := h S11 eS11
  exact bs_vret (u := S11) C (bf_dk dd_X2_copyFrom 27 rfl) rfl h
theorem c_X2_copyFrom (l : Launch) (dC : Nat → ClassId) (dI : Nat → Nat → Nat) (ac : Nat → ClassId) (al : Nat → Nat) (S : bT2 × bT2) (Q : (bT2 × bT2) → Prop) (h : wp_X2_copyFrom S Q) : bf_M l yX2_copyFrom cX2_copyFrom 2 none 3 82 dC dI ac al [.ref 0, .ref 15] (bW2_2 S) (bf_Kv dC dI ac al bW2_2 Q) := by
  refine bf_start [some (.ref 0), some (.ref 15)] (by decide) (Nat.le_of_ble_eq_true rfl) (bf_s1 (bf_s1 bf_s0)) ?_
  intro X hl C hR e1 e2 e3 e4
  subst e1; subst e2; subst e3; subst e4
  exact t_X2_copyFrom C hR S Q h
def wp_X2_draw (S : bT2) (a1 : Int32) (Q : Int32 → (bT2) → Prop) : Prop := (∀ v1 : Int32, v1 = (((1664525 : Int32) * (b2g_draws S)) + (1013904223 : Int32)) → (∀ S2 : bT2, S2 = (b2s_draws S v1) → ((a1 ≤ 0 → (Q (0 : Int32) S2)) ∧ (¬ a1 ≤ 0 → (¬ a1 = 0 ∧ (Q (((((b2g_draws S2)).toUInt32 >>> (((8 : Int32)).toUInt32 &&& Int32.toUInt32 31)).toInt32) - ((((b2g_draws S2)).toUInt32 >>> (((8 : Int32)).toUInt32 &&& Int32.toUInt32 31)).toInt32) / a1 * a1) S2))))))
set_option maxRecDepth 20000 in
theorem t_X2_draw {X : bf_X} (C : bf_C X RX2 cX2_draw 2 (some .int)) (hR : bf_Rm X 0 0) (S : bT2) (a1 : Int32) (Q : Int32 → (bT2) → Prop) (h : wp_X2_draw S a1 Q) : bf_A X (bf_Zi X bW2 Q) 2 0 [some (.ref 0), some (.int a1)] [] (bW2 S) := by
  unfold wp_X2_draw at h
  refine bs_aload_n C (bf_dk dd_X2_draw 0 rfl) rfl ?_
  refine bs_ldc C (bf_dk dd_X2_draw 1 rfl) k_2_49 ?_
  refine bs_aload_n C (bf_dk dd_X2_draw 2 rfl) rfl ?_
  refine bs_get C (bf_dk dd_X2_draw 3 rfl) cl_2 in_2 4 (Nat.le_of_ble_eq_true rfl) rfl f_2_32 (ge_bW2_0 S) rfl ?_
  refine bs_imul C (bf_dk dd_X2_draw 4 rfl) ?_
  refine bs_ldc C (bf_dk dd_X2_draw 5 rfl) k_2_50 ?_
  refine bs_iadd C (bf_dk dd_X2_draw 6 rfl) ?_
  refine bs_name (fun v1 ev1 => ?_)
  replace h := h v1 ev1
  refine bs_put C (bf_dk dd_X2_draw 7 rfl) tyX2_ok nmX2 cl_2 in_2 4 (Nat.le_of_ble_eq_true rfl) rfl f_2_32 rfl (ge_bW2_0 S) (Nat.le_of_ble_eq_true rfl) rfl rfl (pu_bW2_0_4 S v1) ?_
  refine bs_nameS bW2 (fun S2 eS2 => ?_)
  replace h := h S2 eS2
  refine bs_iload_n C (bf_dk dd_X2_draw 8 rfl) rfl ?_
  refine bs_if_le C (bf_dk dd_X2_draw 9 rfl) (tgt := 30) rfl (fun c => ?_) (fun c => ?_)
  · replace h := h.1 c
    refine bs_iconst C (bf_dk dd_X2_draw 17 rfl) (0 : Int32) (by decide) ?_
    exact bs_iret (u := S2) C (bf_dk dd_X2_draw 18 rfl) rfl h
  · replace h := h.2 c
    refine bs_aload_n C (bf_dk dd_X2_draw 10 rfl) rfl ?_
    refine bs_get C (bf_dk dd_X2_draw 11 rfl) cl_2 in_2 4 (Nat.le_of_ble_eq_true rfl) rfl f_2_32 (ge_bW2_0 S2) rfl ?_
    refine bs_bipush C (bf_dk dd_X2_draw 12 rfl) (8 : Int32) (by decide) ?_
    refine bs_iushr C (bf_dk dd_X2_draw 13 rfl) ?_
    refine bs_iload_n C (bf_dk dd_X2_draw 14 rfl) rfl ?_
    obtain ⟨hi, h⟩ := h
    refine bs_irem C (bf_dk dd_X2_draw 15 rfl) hi ?_
    refine bs_goto C (bf_dk dd_X2_draw 16 rfl) (tgt := 31) rfl ?_
    exact bs_iret (u := S2) C (bf_dk dd_X2_draw 18 rfl) rfl h
theorem c_X2_draw (l : Launch) (dC : Nat → ClassId) (dI : Nat → Nat → Nat) (ac : Nat → ClassId) (al : Nat → Nat) (S : bT2) (a1 : Int32) (Q : Int32 → (bT2) → Prop) (h : wp_X2_draw S a1 Q) : bf_M l yX2_draw cX2_draw 2 (some .int) 0 0 dC dI ac al [.ref 0, .int a1] (bW2 S) (bf_Ki dC dI ac al bW2 Q) := by
  refine bf_start [some (.ref 0), some (.int a1)] (by decide) (Nat.le_of_ble_eq_true rfl) (bf_s1 (bf_s1 bf_s0)) ?_
  intro X hl C hR e1 e2 e3 e4
  subst e1; subst e2; subst e3; subst e4
  exact t_X2_draw C hR S a1 Q h
def wp_X2_drawBytes_5b (S : bT2) (x1 : Int32) (x2 : Int64) (x4 : Int32) (Q : Int64 → (bT2) → Prop) (B5 : Int32 → Int64 → Int32 → (bT2) → Prop) : Prop := ((x1 ≤ x4 → (Q x2 S)) ∧ (¬ x1 ≤ x4 → (wp_X8_at 6 (b3g_values (b2g_told S)) ((4 : Int32)) (fun r1 => (wp_X2_draw S (r1) (fun r3 u4 => (wp_X8_octetTo (r3) (x4) (fun r5 => (B5 (x1) ((x2 ||| r5)) ((x4 + (1 : Int32))) u4)))))))))
set_option maxRecDepth 20000 in
theorem t_X2_drawBytes_5b {X : bf_X} (C : bf_C X RX2 cX2_drawBytes 5 (some .long)) (hR : bf_Rm X 1 21) (S : bT2) (x1 : Int32) (x2 : Int64) (x4 : Int32) (Q : Int64 → (bT2) → Prop) (B5 : Int32 → Int64 → Int32 → (bT2) → Prop) (hB5 : ∀ (x1 : Int32) (x2 : Int64) (x4 : Int32) (S : bT2), B5 x1 x2 x4 S → bf_A X (bf_Zl X bW2 Q) 5 5 [some (.ref 0), some (.int x1), some (.long x2), none, some (.int x4)] [] (bW2 S)) (h : wp_X2_drawBytes_5b S x1 x2 x4 Q B5) : bf_A X (bf_Zl X bW2 Q) 5 5 [some (.ref 0), some (.int x1), some (.long x2), none, some (.int x4)] [] (bW2 S) := by
  unfold wp_X2_drawBytes_5b at h
  refine bs_iload C (bf_dk dd_X2_drawBytes 4 rfl) rfl ?_
  refine bs_iload_n C (bf_dk dd_X2_drawBytes 5 rfl) rfl ?_
  refine bs_icmp_ge C (bf_dk dd_X2_drawBytes 6 rfl) (tgt := 40) rfl (fun c => ?_) (fun c => ?_)
  · replace h := h.1 c
    refine bs_lload_n C (bf_dk dd_X2_drawBytes 21 rfl) rfl ?_
    exact bs_lret (u := S) C (bf_dk dd_X2_drawBytes 22 rfl) rfl h
  · replace h := h.2 c
    refine bs_lload_n C (bf_dk dd_X2_drawBytes 7 rfl) rfl ?_
    refine bs_aload_n C (bf_dk dd_X2_drawBytes 8 rfl) rfl ?_
    refine bs_aload_n C (bf_dk dd_X2_drawBytes 9 rfl) rfl ?_
    refine bs_get C (bf_dk dd_X2_drawBytes 10 rfl) cl_2 in_2 0 (Nat.le_of_ble_eq_true rfl) rfl f_2_12 (ge_bW2_0 S) rfl ?_
    refine bs_get C (bf_dk dd_X2_drawBytes 11 rfl) cl_3 in_3 1 (Nat.le_of_ble_eq_true rfl) rfl f_2_51 (ge_bW2_1 S) rfl ?_
    refine bs_iconst C (bf_dk dd_X2_drawBytes 12 rfl) (4 : Int32) (by decide) ?_
    refine bs_pureSN_i (ps := [5]) (w := (bW2 S)) C hR (c_X8_at _ _ _ _ _ 6 (b3g_values (b2g_told S)) ((4 : Int32)) _ h) my_X8_at m_2_54 rfl (Nat.le_of_ble_eq_true rfl) (Nat.le_of_ble_eq_true rfl) (su_bW2_5_bWan6 S) rfl (st := [.ref 0, .long x2]) (Nat.le_of_ble_eq_true rfl) (bf_dk dd_X2_drawBytes 13 rfl) rfl (fun _ => rfl) (fun r1 h => ?_)
    refine bs_selfV_i C hR (c_X2_draw _ _ _ _ _ S (r1) _ h) my_X2_draw m_2_58 rfl cl_2 (ge_bW2_0 _) rfl (Nat.le_of_ble_eq_true rfl) (Nat.le_of_ble_eq_true rfl) (st := [.long x2]) (Nat.le_of_ble_eq_true rfl) (bf_dk dd_X2_drawBytes 14 rfl) rfl (len := 15) (fun _ => rfl) (fun r3 u4 h => ?_)
    refine bs_iload C (bf_dk dd_X2_drawBytes 15 rfl) rfl ?_
    refine bs_pureSN_l (ps := []) (w := (bW2 u4)) C hR (c_X8_octetTo _ _ _ _ _ (r3) (x4) _ h) my_X8_octetTo m_2_62 rfl (Nat.le_of_ble_eq_true rfl) (Nat.le_of_ble_eq_true rfl) rfl rfl (st := [.long x2]) (Nat.le_of_ble_eq_true rfl) (bf_dk dd_X2_drawBytes 16 rfl) rfl (fun _ => rfl) (fun r5 h => ?_)
    refine bs_lor C (bf_dk dd_X2_drawBytes 17 rfl) ?_
    refine bs_lstore_n C (bf_dk dd_X2_drawBytes 18 rfl) rfl (Nat.le_of_ble_eq_true rfl) (Nat.le_of_ble_eq_true rfl) (lv2 := [some (.ref 0), some (.int x1), some (.long (x2 ||| r5)), none, some (.int x4)]) rfl ?_
    refine bs_iinc C (bf_dk dd_X2_drawBytes 19 rfl) (x4 + (1 : Int32)) rfl rfl (Nat.le_of_ble_eq_true rfl) (Nat.le_of_ble_eq_true rfl) (lv2 := [some (.ref 0), some (.int x1), some (.long (x2 ||| r5)), none, some (.int (x4 + (1 : Int32)))]) rfl ?_
    refine bs_goto C (bf_dk dd_X2_drawBytes 20 rfl) (tgt := 5) rfl ?_
    exact bs_weak (bf_s1 (bf_s1 (bf_s1 (bf_sn (bf_s1 bf_s0))))) (hB5 (x1) ((x2 ||| r5)) ((x4 + (1 : Int32))) u4 h)
def wp_X2_drawBytes_5 (S : bT2) (x1 : Int32) (x2 : Int64) (x4 : Int32) (Q : Int64 → (bT2) → Prop) : Prop := ∃ I : Nat → Int32 → Int64 → Int32 → (bT2) → Prop, (∃ n : Nat, I n x1 x2 x4 S) ∧ ∀ (n : Nat) (x1 : Int32) (x2 : Int64) (x4 : Int32) (S : bT2), I n x1 x2 x4 S → wp_X2_drawBytes_5b S x1 x2 x4 Q (fun x1 x2 x4 S => ∃ n2 : Nat, n2 < n ∧ I n2 x1 x2 x4 S)
theorem t_X2_drawBytes_5 {X : bf_X} (C : bf_C X RX2 cX2_drawBytes 5 (some .long)) (hR : bf_Rm X 1 21) (S : bT2) (x1 : Int32) (x2 : Int64) (x4 : Int32) (Q : Int64 → (bT2) → Prop) (h : wp_X2_drawBytes_5 S x1 x2 x4 Q) : bf_A X (bf_Zl X bW2 Q) 5 5 [some (.ref 0), some (.int x1), some (.long x2), none, some (.int x4)] [] (bW2 S) := by
  obtain ⟨I, ⟨n0, h0⟩, hI⟩ := h
  have key : ∀ (n : Nat) (x1 : Int32) (x2 : Int64) (x4 : Int32) (S : bT2), I n x1 x2 x4 S → bf_A X (bf_Zl X bW2 Q) 5 5 [some (.ref 0), some (.int x1), some (.long x2), none, some (.int x4)] [] (bW2 S) := by
    intro n
    induction n using Nat.strongRecOn with
    | _ n ih =>
      intro x1 x2 x4 S hi
      exact t_X2_drawBytes_5b C hR S x1 x2 x4 Q _ (fun x1 x2 x4 S hb => by obtain ⟨n2, hn, hi2⟩ := hb; exact ih n2 hn x1 x2 x4 S hi2) (hI n x1 x2 x4 S hi)
  exact key n0 x1 x2 x4 S h0
def wp_X2_drawBytes (S : bT2) (a1 : Int32) (Q : Int64 → (bT2) → Prop) : Prop := (wp_X2_drawBytes_5 S (a1) ((0 : Int64)) ((0 : Int32)) Q)
set_option maxRecDepth 20000 in
theorem t_X2_drawBytes {X : bf_X} (C : bf_C X RX2 cX2_drawBytes 5 (some .long)) (hR : bf_Rm X 1 21) (S : bT2) (a1 : Int32) (Q : Int64 → (bT2) → Prop) (h : wp_X2_drawBytes S a1 Q) : bf_A X (bf_Zl X bW2 Q) 5 0 [some (.ref 0), some (.int a1), none, none, none] [] (bW2 S) := by
  unfold wp_X2_drawBytes at h
  refine bs_lconst C (bf_dk dd_X2_drawBytes 0 rfl) (0 : Int64) (by decide) ?_
  refine bs_lstore_n C (bf_dk dd_X2_drawBytes 1 rfl) rfl (Nat.le_of_ble_eq_true rfl) (Nat.le_of_ble_eq_true rfl) (lv2 := [some (.ref 0), some (.int a1), some (.long (0 : Int64)), none, none]) rfl ?_
  refine bs_iconst C (bf_dk dd_X2_drawBytes 2 rfl) (0 : Int32) (by decide) ?_
  refine bs_istore C (bf_dk dd_X2_drawBytes 3 rfl) (Nat.le_of_ble_eq_true rfl) (Nat.le_of_ble_eq_true rfl) (lv2 := [some (.ref 0), some (.int a1), some (.long (0 : Int64)), none, some (.int (0 : Int32))]) rfl ?_
  exact bs_weak (bf_s1 (bf_s1 (bf_s1 (bf_sn (bf_s1 bf_s0))))) (t_X2_drawBytes_5 C hR S (a1) ((0 : Int64)) ((0 : Int32)) Q h)
theorem c_X2_drawBytes (l : Launch) (dC : Nat → ClassId) (dI : Nat → Nat → Nat) (ac : Nat → ClassId) (al : Nat → Nat) (S : bT2) (a1 : Int32) (Q : Int64 → (bT2) → Prop) (h : wp_X2_drawBytes S a1 Q) : bf_M l yX2_drawBytes cX2_drawBytes 5 (some .long) 1 21 dC dI ac al [.ref 0, .int a1] (bW2 S) (bf_Kl dC dI ac al bW2 Q) := by
  refine bf_start [some (.ref 0), some (.int a1), none, none, none] (by decide) (Nat.le_of_ble_eq_true rfl) (bf_s1 (bf_s1 (bf_en 3))) ?_
  intro X hl C hR e1 e2 e3 e4
  subst e1; subst e2; subst e3; subst e4
  exact t_X2_drawBytes C hR S a1 Q h
def wp_X2_note_40 (S : bT2) (x1 : Int32) (x2 : Int32) (t1 : Int32) (t2 : Int32) (t3 : Int32) (Q : (bT2) → Prop) : Prop := (vp_in t1 6 ∧ (∀ S1 : bT2, S1 = (b2s_answers S (upd (b2g_answers S) (t1).toNatClampNeg (t2 + t3))) → (vp_in (x1 + (2 : Int32)) 6 ∧ ((¬ x2 = (2 : Int32) → (∀ v2 : Int32, v2 = (((b2g_answers S1) ((x1 + (2 : Int32))).toNatClampNeg) + (0 : Int32)) → (vp_in (x1 + (2 : Int32)) 6 ∧ (∀ S3 : bT2, S3 = (b2s_answers S1 (upd (b2g_answers S1) ((x1 + (2 : Int32))).toNatClampNeg v2)) → (Q S3))))) ∧ (x2 = (2 : Int32) → (∀ v4 : Int32, v4 = (((b2g_answers S1) ((x1 + (2 : Int32))).toNatClampNeg) + (1 : Int32)) → (vp_in (x1 + (2 : Int32)) 6 ∧ (∀ S5 : bT2, S5 = (b2s_answers S1 (upd (b2g_answers S1) ((x1 + (2 : Int32))).toNatClampNeg v4)) → (Q S5)))))))))
set_option maxRecDepth 20000 in
theorem t_X2_note_40 {X : bf_X} (C : bf_C X RX2 cX2_note 3 none) (hR : bf_Rm X 0 0) (S : bT2) (x1 : Int32) (x2 : Int32) (t1 : Int32) (t2 : Int32) (t3 : Int32) (Q : (bT2) → Prop) (h : wp_X2_note_40 S x1 x2 t1 t2 t3 Q) : bf_A X (bf_Zv X bW2 Q) 3 40 [some (.ref 0), some (.int x1), some (.int x2)] [.int t3, .int t2, .int t1, .ref 14] (bW2 S) := by
  unfold wp_X2_note_40 at h
  refine bs_iadd C (bf_dk dd_X2_note 27 rfl) ?_
  obtain ⟨hi, h⟩ := h
  refine bs_iast C (bf_dk dd_X2_note 28 rfl) (ge_bW2_14 S) hi (ar_bW2_14 S _) ?_
  refine bs_nameS bW2 (fun S1 eS1 => ?_)
  replace h := h S1 eS1
  refine bs_aload_n C (bf_dk dd_X2_note 29 rfl) rfl ?_
  refine bs_get C (bf_dk dd_X2_note 30 rfl) cl_2 in_2 3 (Nat.le_of_ble_eq_true rfl) rfl f_2_28 (ge_bW2_0 S1) rfl ?_
  refine bs_iload_n C (bf_dk dd_X2_note 31 rfl) rfl ?_
  refine bs_iconst C (bf_dk dd_X2_note 32 rfl) (2 : Int32) (by decide) ?_
  refine bs_iadd C (bf_dk dd_X2_note 33 rfl) ?_
  refine bs_dup2 C (bf_dk dd_X2_note 34 rfl) rfl rfl ?_
  obtain ⟨hi, h⟩ := h
  refine bs_iald C (bf_dk dd_X2_note 35 rfl) (ge_bW2_14 S1) hi ?_
  refine bs_iload_n C (bf_dk dd_X2_note 36 rfl) rfl ?_
  refine bs_iconst C (bf_dk dd_X2_note 37 rfl) (2 : Int32) (by decide) ?_
  refine bs_icmp_ne C (bf_dk dd_X2_note 38 rfl) (tgt := 60) rfl (fun c => ?_) (fun c => ?_)
  · replace h := h.1 c
    refine bs_iconst C (bf_dk dd_X2_note 41 rfl) (0 : Int32) (by decide) ?_
    refine bs_iadd C (bf_dk dd_X2_note 42 rfl) ?_
    refine bs_name (fun v2 ev2 => ?_)
    replace h := h v2 ev2
    obtain ⟨hi, h⟩ := h
    refine bs_iast C (bf_dk dd_X2_note 43 rfl) (ge_bW2_14 S1) hi (ar_bW2_14 S1 _) ?_
    refine bs_nameS bW2 (fun S3 eS3 => ?_)
    replace h := h S3 eS3
    exact bs_vret (u := S3) C (bf_dk dd_X2_note 44 rfl) rfl h
  · replace h := h.2 c
    refine bs_iconst C (bf_dk dd_X2_note 39 rfl) (1 : Int32) (by decide) ?_
    refine bs_goto C (bf_dk dd_X2_note 40 rfl) (tgt := 61) rfl ?_
    refine bs_iadd C (bf_dk dd_X2_note 42 rfl) ?_
    refine bs_name (fun v4 ev4 => ?_)
    replace h := h v4 ev4
    obtain ⟨hi, h⟩ := h
    refine bs_iast C (bf_dk dd_X2_note 43 rfl) (ge_bW2_14 S1) hi (ar_bW2_14 S1 _) ?_
    refine bs_nameS bW2 (fun S5 eS5 => ?_)
    replace h := h S5 eS5
    exact bs_vret (u := S5) C (bf_dk dd_X2_note 44 rfl) rfl h
def wp_X2_note (S : bT2) (a1 : Int32) (a2 : Int32) (Q : (bT2) → Prop) : Prop := ((a1 < 0 → (Q S)) ∧ (¬ a1 < 0 → (((6 : Int32) ≤ (a1 + (2 : Int32)) → (Q S)) ∧ (¬ (6 : Int32) ≤ (a1 + (2 : Int32)) → (vp_in a1 6 ∧ (vp_in a1 6 ∧ (∀ S6 : bT2, S6 = (b2s_answers S (upd (b2g_answers S) (a1).toNatClampNeg (((b2g_answers S) (a1).toNatClampNeg) + (1 : Int32)))) → (vp_in (a1 + (1 : Int32)) 6 ∧ ((¬ a2 = 0 → (wp_X2_note_40 S6 (a1) (a2) ((a1 + (1 : Int32))) (((b2g_answers S6) ((a1 + (1 : Int32))).toNatClampNeg)) ((1 : Int32)) Q)) ∧ (a2 = 0 → (wp_X2_note_40 S6 (a1) (a2) ((a1 + (1 : Int32))) (((b2g_answers S6) ((a1 + (1 : Int32))).toNatClampNeg)) ((0 : Int32)) Q)))))))))))
set_option maxRecDepth 20000 in
theorem t_X2_note {X : bf_X} (C : bf_C X RX2 cX2_note 3 none) (hR : bf_Rm X 0 0) (S : bT2) (a1 : Int32) (a2 : Int32) (Q : (bT2) → Prop) (h : wp_X2_note S a1 a2 Q) : bf_A X (bf_Zv X bW2 Q) 3 0 [some (.ref 0), some (.int a1), some (.int a2)] [] (bW2 S) := by
  unfold wp_X2_note at h
  refine bs_iload_n C (bf_dk dd_X2_note 0 rfl) rfl ?_
  refine bs_if_lt C (bf_dk dd_X2_note 1 rfl) (tgt := 63) rfl (fun c => ?_) (fun c => ?_)
  · replace h := h.1 c
    exact bs_vret (u := S) C (bf_dk dd_X2_note 44 rfl) rfl h
  · replace h := h.2 c
    refine bs_iload_n C (bf_dk dd_X2_note 2 rfl) rfl ?_
    refine bs_iconst C (bf_dk dd_X2_note 3 rfl) (2 : Int32) (by decide) ?_
    refine bs_iadd C (bf_dk dd_X2_note 4 rfl) ?_
    refine bs_bipush C (bf_dk dd_X2_note 5 rfl) (6 : Int32) (by decide) ?_
    refine bs_icmp_ge C (bf_dk dd_X2_note 6 rfl) (tgt := 63) rfl (fun c => ?_) (fun c => ?_)
    · replace h := h.1 c
      exact bs_vret (u := S) C (bf_dk dd_X2_note 44 rfl) rfl h
    · replace h := h.2 c
      refine bs_aload_n C (bf_dk dd_X2_note 7 rfl) rfl ?_
      refine bs_get C (bf_dk dd_X2_note 8 rfl) cl_2 in_2 3 (Nat.le_of_ble_eq_true rfl) rfl f_2_28 (ge_bW2_0 S) rfl ?_
      refine bs_iload_n C (bf_dk dd_X2_note 9 rfl) rfl ?_
      refine bs_dup2 C (bf_dk dd_X2_note 10 rfl) rfl rfl ?_
      obtain ⟨hi, h⟩ := h
      refine bs_iald C (bf_dk dd_X2_note 11 rfl) (ge_bW2_14 S) hi ?_
      refine bs_iconst C (bf_dk dd_X2_note 12 rfl) (1 : Int32) (by decide) ?_
      refine bs_iadd C (bf_dk dd_X2_note 13 rfl) ?_
      obtain ⟨hi, h⟩ := h
      refine bs_iast C (bf_dk dd_X2_note 14 rfl) (ge_bW2_14 S) hi (ar_bW2_14 S _) ?_
      refine bs_nameS bW2 (fun S6 eS6 => ?_)
      replace h := h S6 eS6
      refine bs_aload_n C (bf_dk dd_X2_note 15 rfl) rfl ?_
      refine bs_get C (bf_dk dd_X2_note 16 rfl) cl_2 in_2 3 (Nat.le_of_ble_eq_true rfl) rfl f_2_28 (ge_bW2_0 S6) rfl ?_
      refine bs_iload_n C (bf_dk dd_X2_note 17 rfl) rfl ?_
      refine bs_iconst C (bf_dk dd_X2_note 18 rfl) (1 : Int32) (by decide) ?_
      refine bs_iadd C (bf_dk dd_X2_note 19 rfl) ?_
      refine bs_dup2 C (bf_dk dd_X2_note 20 rfl) rfl rfl ?_
      obtain ⟨hi, h⟩ := h
      refine bs_iald C (bf_dk dd_X2_note 21 rfl) (ge_bW2_14 S6) hi ?_
      refine bs_iload_n C (bf_dk dd_X2_note 22 rfl) rfl ?_
      refine bs_if_ne C (bf_dk dd_X2_note 23 rfl) (tgt := 39) rfl (fun c => ?_) (fun c => ?_)
      · replace h := h.1 c
        refine bs_iconst C (bf_dk dd_X2_note 26 rfl) (1 : Int32) (by decide) ?_
        exact bs_weak (bf_s1 (bf_s1 (bf_s1 bf_s0))) (t_X2_note_40 C hR S6 (a1) (a2) ((a1 + (1 : Int32))) (((b2g_answers S6) ((a1 + (1 : Int32))).toNatClampNeg)) ((1 : Int32)) Q h)
      · replace h := h.2 c
        refine bs_iconst C (bf_dk dd_X2_note 24 rfl) (0 : Int32) (by decide) ?_
        refine bs_goto C (bf_dk dd_X2_note 25 rfl) (tgt := 40) rfl ?_
        exact bs_weak (bf_s1 (bf_s1 (bf_s1 bf_s0))) (t_X2_note_40 C hR S6 (a1) (a2) ((a1 + (1 : Int32))) (((b2g_answers S6) ((a1 + (1 : Int32))).toNatClampNeg)) ((0 : Int32)) Q h)
theorem c_X2_note (l : Launch) (dC : Nat → ClassId) (dI : Nat → Nat → Nat) (ac : Nat → ClassId) (al : Nat → Nat) (S : bT2) (a1 : Int32) (a2 : Int32) (Q : (bT2) → Prop) (h : wp_X2_note S a1 a2 Q) : bf_M l yX2_note cX2_note 3 none 0 0 dC dI ac al [.ref 0, .int a1, .int a2] (bW2 S) (bf_Kv dC dI ac al bW2 Q) := by
  refine bf_start [some (.ref 0), some (.int a1), some (.int a2)] (by decide) (Nat.le_of_ble_eq_true rfl) (bf_s1 (bf_s1 (bf_s1 bf_s0))) ?_
  intro X hl C hR e1 e2 e3 e4
  subst e1; subst e2; subst e3; subst e4
  exact t_X2_note C hR S a1 a2 Q h
def wp_X4_putFour_43 (S : bT4) (x1 : Int32) (x2 : Int32) (Q : (bT4) → Prop) (B3 : Int32 → Int32 → (bT4) → Prop) : Prop := (B3 (x1) ((x2 + (-8 : Int32))) S)
set_option maxRecDepth 20000 in
theorem t_X4_putFour_43 {X : bf_X} (C : bf_C X RX4 cX4_putFour 3 none) (hR : bf_Rm X 0 0) (S : bT4) (x1 : Int32) (x2 : Int32) (Q : (bT4) → Prop) (B3 : Int32 → Int32 → (bT4) → Prop) (hB3 : ∀ (x1 : Int32) (x2 : Int32) (S : bT4), B3 x1 x2 S → bf_A X (bf_Zv X bW4 Q) 3 3 [some (.ref 0), some (.int x1), some (.int x2)] [] (bW4 S)) (h : wp_X4_putFour_43 S x1 x2 Q B3) : bf_A X (bf_Zv X bW4 Q) 3 43 [some (.ref 0), some (.int x1), some (.int x2)] [] (bW4 S) := by
  unfold wp_X4_putFour_43 at h
  refine bs_iinc C (bf_dk dd_X4_putFour 24 rfl) (x2 + (-8 : Int32)) rfl rfl (Nat.le_of_ble_eq_true rfl) (Nat.le_of_ble_eq_true rfl) (lv2 := [some (.ref 0), some (.int x1), some (.int (x2 + (-8 : Int32)))]) rfl ?_
  refine bs_goto C (bf_dk dd_X4_putFour 25 rfl) (tgt := 3) rfl ?_
  exact bs_weak (bf_s1 (bf_s1 (bf_s1 bf_s0))) (hB3 (x1) ((x2 + (-8 : Int32))) S h)
def wp_X4_putFour_3b (S : bT4) (x1 : Int32) (x2 : Int32) (Q : (bT4) → Prop) (B3 : Int32 → Int32 → (bT4) → Prop) : Prop := ((x2 < 0 → (Q S)) ∧ (¬ x2 < 0 → (((160 : Int32) ≤ (b4g_count S) → (wp_X4_putFour_43 S (x1) (x2) Q B3)) ∧ (¬ (160 : Int32) ≤ (b4g_count S) → (∀ v1 : Int32, v1 = ((((x1).toUInt32 >>> ((x2).toUInt32 &&& Int32.toUInt32 31)).toInt32) &&& (255 : Int32)) → (vp_in (b4g_count S) 160 ∧ (∀ S2 : bT4, S2 = (b4s_octets S (upd (b4g_octets S) ((b4g_count S)).toNatClampNeg v1)) → (∀ S3 : bT4, S3 = (b4s_count S2 ((b4g_count S2) + (1 : Int32))) → (wp_X4_putFour_43 S3 (x1) (x2) Q B3)))))))))
set_option maxRecDepth 20000 in
theorem t_X4_putFour_3b {X : bf_X} (C : bf_C X RX4 cX4_putFour 3 none) (hR : bf_Rm X 0 0) (S : bT4) (x1 : Int32) (x2 : Int32) (Q : (bT4) → Prop) (B3 : Int32 → Int32 → (bT4) → Prop) (hB3 : ∀ (x1 : Int32) (x2 : Int32) (S : bT4), B3 x1 x2 S → bf_A X (bf_Zv X bW4 Q) 3 3 [some (.ref 0), some (.int x1), some (.int x2)] [] (bW4 S)) (h : wp_X4_putFour_3b S x1 x2 Q B3) : bf_A X (bf_Zv X bW4 Q) 3 3 [some (.ref 0), some (.int x1), some (.int x2)] [] (bW4 S) := by
  unfold wp_X4_putFour_3b at h
  refine bs_iload_n C (bf_dk dd_X4_putFour 2 rfl) rfl ?_
  refine bs_if_lt C (bf_dk dd_X4_putFour 3 rfl) (tgt := 49) rfl (fun c => ?_) (fun c => ?_)
  · replace h := h.1 c
    exact bs_vret (u := S) C (bf_dk dd_X4_putFour 26 rfl) rfl h
  · replace h := h.2 c
    refine bs_aload_n C (bf_dk dd_X4_putFour 4 rfl) rfl ?_
    refine bs_get C (bf_dk dd_X4_putFour 5 rfl) cl_4 in_4 1 (Nat.le_of_ble_eq_true rfl) rfl f_4_15 (ge_bW4_0 S) rfl ?_
    refine bs_sipush C (bf_dk dd_X4_putFour 6 rfl) (160 : Int32) (by decide) ?_
    refine bs_icmp_ge C (bf_dk dd_X4_putFour 7 rfl) (tgt := 43) rfl (fun c => ?_) (fun c => ?_)
    · replace h := h.1 c
      exact bs_weak (bf_s1 (bf_s1 (bf_s1 bf_s0))) (t_X4_putFour_43 C hR S (x1) (x2) Q B3 hB3 h)
    · replace h := h.2 c
      refine bs_aload_n C (bf_dk dd_X4_putFour 8 rfl) rfl ?_
      refine bs_get C (bf_dk dd_X4_putFour 9 rfl) cl_4 in_4 0 (Nat.le_of_ble_eq_true rfl) rfl f_4_9 (ge_bW4_0 S) rfl ?_
      refine bs_aload_n C (bf_dk dd_X4_putFour 10 rfl) rfl ?_
      refine bs_get C (bf_dk dd_X4_putFour 11 rfl) cl_4 in_4 1 (Nat.le_of_ble_eq_true rfl) rfl f_4_15 (ge_bW4_0 S) rfl ?_
      refine bs_iload_n C (bf_dk dd_X4_putFour 12 rfl) rfl ?_
      refine bs_iload_n C (bf_dk dd_X4_putFour 13 rfl) rfl ?_
      refine bs_iushr C (bf_dk dd_X4_putFour 14 rfl) ?_
      refine bs_sipush C (bf_dk dd_X4_putFour 15 rfl) (255 : Int32) (by decide) ?_
      refine bs_iand C (bf_dk dd_X4_putFour 16 rfl) ?_
      refine bs_name (fun v1 ev1 => ?_)
      replace h := h v1 ev1
      obtain ⟨hi, h⟩ := h
      refine bs_iast C (bf_dk dd_X4_putFour 17 rfl) (ge_bW4_1 S) hi (ar_bW4_1 S _) ?_
      refine bs_nameS bW4 (fun S2 eS2 => ?_)
      replace h := h S2 eS2
      refine bs_aload_n C (bf_dk dd_X4_putFour 18 rfl) rfl ?_
      refine bs_dup C (bf_dk dd_X4_putFour 19 rfl) rfl ?_
      refine bs_get C (bf_dk dd_X4_putFour 20 rfl) cl_4 in_4 1 (Nat.le_of_ble_eq_true rfl) rfl f_4_15 (ge_bW4_0 S2) rfl ?_
      refine bs_iconst C (bf_dk dd_X4_putFour 21 rfl) (1 : Int32) (by decide) ?_
      refine bs_iadd C (bf_dk dd_X4_putFour 22 rfl) ?_
      refine bs_put C (bf_dk dd_X4_putFour 23 rfl) tyX4_ok nmX4 cl_4 in_4 1 (Nat.le_of_ble_eq_true rfl) rfl f_4_15 rfl (ge_bW4_0 S2) (Nat.le_of_ble_eq_true rfl) rfl rfl (pu_bW4_0_1 S2 ((b4g_count S2) + (1 : Int32))) ?_
      refine bs_nameS bW4 (fun S3 eS3 => ?_)
      replace h := h S3 eS3
      exact bs_weak (bf_s1 (bf_s1 (bf_s1 bf_s0))) (t_X4_putFour_43 C hR S3 (x1) (x2) Q B3 hB3 h)
def wp_X4_putFour_3 (S : bT4) (x1 : Int32) (x2 : Int32) (Q : (bT4) → Prop) : Prop := ∃ I : Nat → Int32 → Int32 → (bT4) → Prop, (∃ n : Nat, I n x1 x2 S) ∧ ∀ (n : Nat) (x1 : Int32) (x2 : Int32) (S : bT4), I n x1 x2 S → wp_X4_putFour_3b S x1 x2 Q (fun x1 x2 S => ∃ n2 : Nat, n2 < n ∧ I n2 x1 x2 S)
theorem t_X4_putFour_3 {X : bf_X} (C : bf_C X RX4 cX4_putFour 3 none) (hR : bf_Rm X 0 0) (S : bT4) (x1 : Int32) (x2 : Int32) (Q : (bT4) → Prop) (h : wp_X4_putFour_3 S x1 x2 Q) : bf_A X (bf_Zv X bW4 Q) 3 3 [some (.ref 0), some (.int x1), some (.int x2)] [] (bW4 S) := by
  obtain ⟨I, ⟨n0, h0⟩, hI⟩ := h
  have key : ∀ (n : Nat) (x1 : Int32) (x2 : Int32) (S : bT4), I n x1 x2 S → bf_A X (bf_Zv X bW4 Q) 3 3 [some (.ref 0), some (.int x1), some (.int x2)] [] (bW4 S) := by
    intro n
    induction n using Nat.strongRecOn with
    | _ n ih =>
      intro x1 x2 S hi
      exact t_X4_putFour_3b C hR S x1 x2 Q _ (fun x1 x2 S hb => by obtain ⟨n2, hn, hi2⟩ := hb; exact ih n2 hn x1 x2 S hi2) (hI n x1 x2 S hi)
  exact key n0 x1 x2 S h0
def wp_X4_putFour (S : bT4) (a1 : Int32) (Q : (bT4) → Prop) : Prop := (wp_X4_putFour_3 S (a1) ((24 : Int32)) Q)
set_option maxRecDepth 20000 in
theorem t_X4_putFour {X : bf_X} (C : bf_C X RX4 cX4_putFour 3 none) (hR : bf_Rm X 0 0) (S : bT4) (a1 : Int32) (Q : (bT4) → Prop) (h : wp_X4_putFour S a1 Q) : bf_A X (bf_Zv X bW4 Q) 3 0 [some (.ref 0), some (.int a1), none] [] (bW4 S) := by
  unfold wp_X4_putFour at h
  refine bs_bipush C (bf_dk dd_X4_putFour 0 rfl) (24 : Int32) (by decide) ?_
  refine bs_istore_n C (bf_dk dd_X4_putFour 1 rfl) rfl (Nat.le_of_ble_eq_true rfl) (Nat.le_of_ble_eq_true rfl) (lv2 := [some (.ref 0), some (.int a1), some (.int (24 : Int32))]) rfl ?_
  exact bs_weak (bf_s1 (bf_s1 (bf_s1 bf_s0))) (t_X4_putFour_3 C hR S (a1) ((24 : Int32)) Q h)
theorem c_X4_putFour (l : Launch) (dC : Nat → ClassId) (dI : Nat → Nat → Nat) (ac : Nat → ClassId) (al : Nat → Nat) (S : bT4) (a1 : Int32) (Q : (bT4) → Prop) (h : wp_X4_putFour S a1 Q) : bf_M l yX4_putFour cX4_putFour 3 none 0 0 dC dI ac al [.ref 0, .int a1] (bW4 S) (bf_Kv dC dI ac al bW4 Q) := by
  refine bf_start [some (.ref 0), some (.int a1), none] (by decide) (Nat.le_of_ble_eq_true rfl) (bf_s1 (bf_s1 (bf_en 1))) ?_
  intro X hl C hR e1 e2 e3 e4
  subst e1; subst e2; subst e3; subst e4
  exact t_X4_putFour C hR S a1 Q h
def wp_X4_keyAt_5b (S : bT4) (x1 : Int32) (x2 : Int32) (x3 : Int64) (x5 : Int32) (Q : Int64 → Prop) (B5 : Int32 → Int32 → Int64 → Int32 → Prop) : Prop := ((x2 ≤ x5 → (Q x3)) ∧ (¬ x2 ≤ x5 → (wp_X8_at 160 (b4g_octets S) ((x1 + x5)) (fun r1 => (wp_X8_octetTo (r1) (x5) (fun r3 => (B5 (x1) (x2) ((x3 ||| r3)) ((x5 + (1 : Int32))))))))))
set_option maxRecDepth 20000 in
theorem t_X4_keyAt_5b {X : bf_X} (C : bf_C X RX4 cX4_keyAt 6 (some .long)) (hR : bf_Rm X 1 21) (S : bT4) (x1 : Int32) (x2 : Int32) (x3 : Int64) (x5 : Int32) (Q : Int64 → Prop) (B5 : Int32 → Int32 → Int64 → Int32 → Prop) (hB5 : ∀ (x1 : Int32) (x2 : Int32) (x3 : Int64) (x5 : Int32), B5 x1 x2 x3 x5 → bf_A X (bf_Zl X bW4 (fun r u => u = S ∧ Q r)) 6 5 [some (.ref 0), some (.int x1), some (.int x2), some (.long x3), none, some (.int x5)] [] (bW4 S)) (h : wp_X4_keyAt_5b S x1 x2 x3 x5 Q B5) : bf_A X (bf_Zl X bW4 (fun r u => u = S ∧ Q r)) 6 5 [some (.ref 0), some (.int x1), some (.int x2), some (.long x3), none, some (.int x5)] [] (bW4 S) := by
  unfold wp_X4_keyAt_5b at h
  refine bs_iload C (bf_dk dd_X4_keyAt 4 rfl) rfl ?_
  refine bs_iload_n C (bf_dk dd_X4_keyAt 5 rfl) rfl ?_
  refine bs_icmp_ge C (bf_dk dd_X4_keyAt 6 rfl) (tgt := 36) rfl (fun c => ?_) (fun c => ?_)
  · replace h := h.1 c
    refine bs_lload_n C (bf_dk dd_X4_keyAt 20 rfl) rfl ?_
    exact bs_lret (u := S) C (bf_dk dd_X4_keyAt 21 rfl) rfl ⟨rfl, h⟩
  · replace h := h.2 c
    refine bs_lload_n C (bf_dk dd_X4_keyAt 7 rfl) rfl ?_
    refine bs_aload_n C (bf_dk dd_X4_keyAt 8 rfl) rfl ?_
    refine bs_get C (bf_dk dd_X4_keyAt 9 rfl) cl_4 in_4 0 (Nat.le_of_ble_eq_true rfl) rfl f_4_9 (ge_bW4_0 S) rfl ?_
    refine bs_iload_n C (bf_dk dd_X4_keyAt 10 rfl) rfl ?_
    refine bs_iload C (bf_dk dd_X4_keyAt 11 rfl) rfl ?_
    refine bs_iadd C (bf_dk dd_X4_keyAt 12 rfl) ?_
    refine bs_pureSN_i (ps := [1]) (w := (bW4 S)) C hR (c_X8_at _ _ _ _ _ 160 (b4g_octets S) ((x1 + x5)) _ h) my_X8_at m_4_29 rfl (Nat.le_of_ble_eq_true rfl) (Nat.le_of_ble_eq_true rfl) (su_bW4_1_bWan160 S) rfl (st := [.long x3]) (Nat.le_of_ble_eq_true rfl) (bf_dk dd_X4_keyAt 13 rfl) rfl (fun _ => rfl) (fun r1 h => ?_)
    refine bs_iload C (bf_dk dd_X4_keyAt 14 rfl) rfl ?_
    refine bs_pureSN_l (ps := []) (w := (bW4 S)) C hR (c_X8_octetTo _ _ _ _ _ (r1) (x5) _ h) my_X8_octetTo m_4_50 rfl (Nat.le_of_ble_eq_true rfl) (Nat.le_of_ble_eq_true rfl) rfl rfl (st := [.long x3]) (Nat.le_of_ble_eq_true rfl) (bf_dk dd_X4_keyAt 15 rfl) rfl (fun _ => rfl) (fun r3 h => ?_)
    refine bs_lor C (bf_dk dd_X4_keyAt 16 rfl) ?_
    refine bs_lstore_n C (bf_dk dd_X4_keyAt 17 rfl) rfl (Nat.le_of_ble_eq_true rfl) (Nat.le_of_ble_eq_true rfl) (lv2 := [some (.ref 0), some (.int x1), some (.int x2), some (.long (x3 ||| r3)), none, some (.int x5)]) rfl ?_
    refine bs_iinc C (bf_dk dd_X4_keyAt 18 rfl) (x5 + (1 : Int32)) rfl rfl (Nat.le_of_ble_eq_true rfl) (Nat.le_of_ble_eq_true rfl) (lv2 := [some (.ref 0), some (.int x1), some (.int x2), some (.long (x3 ||| r3)), none, some (.int (x5 + (1 : Int32)))]) rfl ?_
    refine bs_goto C (bf_dk dd_X4_keyAt 19 rfl) (tgt := 5) rfl ?_
    exact bs_weak (bf_s1 (bf_s1 (bf_s1 (bf_s1 (bf_sn (bf_s1 bf_s0)))))) (hB5 (x1) (x2) ((x3 ||| r3)) ((x5 + (1 : Int32))) h)
def wp_X4_keyAt_5 (S : bT4) (x1 : Int32) (x2 : Int32) (x3 : Int64) (x5 : Int32) (Q : Int64 → Prop) : Prop := ∃ I : Nat → Int32 → Int32 → Int64 → Int32 → Prop, (∃ n : Nat, I n x1 x2 x3 x5) ∧ ∀ (n : Nat) (x1 : Int32) (x2 : Int32) (x3 : Int64) (x5 : Int32), I n x1 x2 x3 x5 → wp_X4_keyAt_5b S x1 x2 x3 x5 Q (fun x1 x2 x3 x5 => ∃ n2 : Nat, n2 < n ∧ I n2 x1 x2 x3 x5)
theorem t_X4_keyAt_5 {X : bf_X} (C : bf_C X RX4 cX4_keyAt 6 (some .long)) (hR : bf_Rm X 1 21) (S : bT4) (x1 : Int32) (x2 : Int32) (x3 : Int64) (x5 : Int32) (Q : Int64 → Prop) (h : wp_X4_keyAt_5 S x1 x2 x3 x5 Q) : bf_A X (bf_Zl X bW4 (fun r u => u = S ∧ Q r)) 6 5 [some (.ref 0), some (.int x1), some (.int x2), some (.long x3), none, some (.int x5)] [] (bW4 S) := by
  obtain ⟨I, ⟨n0, h0⟩, hI⟩ := h
  have key : ∀ (n : Nat) (x1 : Int32) (x2 : Int32) (x3 : Int64) (x5 : Int32), I n x1 x2 x3 x5 → bf_A X (bf_Zl X bW4 (fun r u => u = S ∧ Q r)) 6 5 [some (.ref 0), some (.int x1), some (.int x2), some (.long x3), none, some (.int x5)] [] (bW4 S) := by
    intro n
    induction n using Nat.strongRecOn with
    | _ n ih =>
      intro x1 x2 x3 x5 hi
      exact t_X4_keyAt_5b C hR S x1 x2 x3 x5 Q _ (fun x1 x2 x3 x5 hb => by obtain ⟨n2, hn, hi2⟩ := hb; exact ih n2 hn x1 x2 x3 x5 hi2) (hI n x1 x2 x3 x5 hi)
  exact key n0 x1 x2 x3 x5 h0
def wp_X4_keyAt (S : bT4) (a1 : Int32) (a2 : Int32) (Q : Int64 → Prop) : Prop := (wp_X4_keyAt_5 S (a1) (a2) ((0 : Int64)) ((0 : Int32)) Q)
set_option maxRecDepth 20000 in
theorem t_X4_keyAt {X : bf_X} (C : bf_C X RX4 cX4_keyAt 6 (some .long)) (hR : bf_Rm X 1 21) (S : bT4) (a1 : Int32) (a2 : Int32) (Q : Int64 → Prop) (h : wp_X4_keyAt S a1 a2 Q) : bf_A X (bf_Zl X bW4 (fun r u => u = S ∧ Q r)) 6 0 [some (.ref 0), some (.int a1), some (.int a2), none, none, none] [] (bW4 S) := by
  unfold wp_X4_keyAt at h
  refine bs_lconst C (bf_dk dd_X4_keyAt 0 rfl) (0 : Int64) (by decide) ?_
  refine bs_lstore_n C (bf_dk dd_X4_keyAt 1 rfl) rfl (Nat.le_of_ble_eq_true rfl) (Nat.le_of_ble_eq_true rfl) (lv2 := [some (.ref 0), some (.int a1), some (.int a2), some (.long (0 : Int64)), none, none]) rfl ?_
  refine bs_iconst C (bf_dk dd_X4_keyAt 2 rfl) (0 : Int32) (by decide) ?_
  refine bs_istore C (bf_dk dd_X4_keyAt 3 rfl) (Nat.le_of_ble_eq_true rfl) (Nat.le_of_ble_eq_true rfl) (lv2 := [some (.ref 0), some (.int a1), some (.int a2), some (.long (0 : Int64)), none, some (.int (0 : Int32))]) rfl ?_
  exact bs_weak (bf_s1 (bf_s1 (bf_s1 (bf_s1 (bf_sn (bf_s1 bf_s0)))))) (t_X4_keyAt_5 C hR S (a1) (a2) ((0 : Int64)) ((0 : Int32)) Q h)
theorem c_X4_keyAt (l : Launch) (dC : Nat → ClassId) (dI : Nat → Nat → Nat) (ac : Nat → ClassId) (al : Nat → Nat) (S : bT4) (a1 : Int32) (a2 : Int32) (Q : Int64 → Prop) (h : wp_X4_keyAt S a1 a2 Q) : bf_M l yX4_keyAt cX4_keyAt 6 (some .long) 1 21 dC dI ac al [.ref 0, .int a1, .int a2] (bW4 S) (bf_Kl dC dI ac al bW4 (fun r u => u = S ∧ Q r)) := by
  refine bf_start [some (.ref 0), some (.int a1), some (.int a2), none, none, none] (by decide) (Nat.le_of_ble_eq_true rfl) (bf_s1 (bf_s1 (bf_s1 (bf_en 3)))) ?_
  intro X hl C hR e1 e2 e3 e4
  subst e1; subst e2; subst e3; subst e4
  exact t_X4_keyAt C hR S a1 a2 Q h
def wp_X8_isLength (a0 : Int32) (Q : Int32 → Prop) : Prop := ((a0 < (1 : Int32) → (bf_bool (0 : Int32) ∧ Q (0 : Int32))) ∧ (¬ a0 < (1 : Int32) → (((8 : Int32) < a0 → (bf_bool (0 : Int32) ∧ Q (0 : Int32))) ∧ (¬ (8 : Int32) < a0 → (bf_bool (1 : Int32) ∧ Q (1 : Int32))))))
set_option maxRecDepth 20000 in
theorem t_X8_isLength {X : bf_X} (C : bf_C X RX8 cX8_isLength 1 (some .boolean)) (hR : bf_Rm X 0 0) (a0 : Int32) (Q : Int32 → Prop) (h : wp_X8_isLength a0 Q) : bf_A X (bf_Zi X bWu (fun r u => u = () ∧ Q r)) 1 0 [some (.int a0)] [] (bWu ()) := by
  unfold wp_X8_isLength at h
  refine bs_iload_n C (bf_dk dd_X8_isLength 0 rfl) rfl ?_
  refine bs_iconst C (bf_dk dd_X8_isLength 1 rfl) (1 : Int32) (by decide) ?_
  refine bs_icmp_lt C (bf_dk dd_X8_isLength 2 rfl) (tgt := 15) rfl (fun c => ?_) (fun c => ?_)
  · replace h := h.1 c
    refine bs_iconst C (bf_dk dd_X8_isLength 8 rfl) (0 : Int32) (by decide) ?_
    obtain ⟨hi, h⟩ := h
    exact bs_zret (u := ()) C (bf_dk dd_X8_isLength 9 rfl) hi rfl ⟨rfl, h⟩
  · replace h := h.2 c
    refine bs_iload_n C (bf_dk dd_X8_isLength 3 rfl) rfl ?_
    refine bs_bipush C (bf_dk dd_X8_isLength 4 rfl) (8 : Int32) (by decide) ?_
    refine bs_icmp_gt C (bf_dk dd_X8_isLength 5 rfl) (tgt := 15) rfl (fun c => ?_) (fun c => ?_)
    · replace h := h.1 c
      refine bs_iconst C (bf_dk dd_X8_isLength 8 rfl) (0 : Int32) (by decide) ?_
      obtain ⟨hi, h⟩ := h
      exact bs_zret (u := ()) C (bf_dk dd_X8_isLength 9 rfl) hi rfl ⟨rfl, h⟩
    · replace h := h.2 c
      refine bs_iconst C (bf_dk dd_X8_isLength 6 rfl) (1 : Int32) (by decide) ?_
      refine bs_goto C (bf_dk dd_X8_isLength 7 rfl) (tgt := 16) rfl ?_
      obtain ⟨hi, h⟩ := h
      exact bs_zret (u := ()) C (bf_dk dd_X8_isLength 9 rfl) hi rfl ⟨rfl, h⟩
theorem c_X8_isLength (l : Launch) (dC : Nat → ClassId) (dI : Nat → Nat → Nat) (ac : Nat → ClassId) (al : Nat → Nat) (a0 : Int32) (Q : Int32 → Prop) (h : wp_X8_isLength a0 Q) : bf_M l yX8_isLength cX8_isLength 1 (some .boolean) 0 0 dC dI ac al [.int a0] (bWu ()) (bf_Ki dC dI ac al bWu (fun r u => u = () ∧ Q r)) := by
  refine bf_start [some (.int a0)] (by decide) (Nat.le_of_ble_eq_true rfl) (bf_s1 bf_s0) ?_
  intro X hl C hR e1 e2 e3 e4
  subst e1; subst e2; subst e3; subst e4
  exact t_X8_isLength C hR a0 Q h
def wp_X4_readInto_72 (S : bT4 × bT0) (x2 : Int32) (x3 : Int32) (Q : Int32 → (bT4 × bT0) → Prop) (B2 : Int32 → (bT4 × bT0) → Prop) : Prop := (B2 ((x2 + (x3 + (1 : Int32)))) S)
set_option maxRecDepth 20000 in
theorem t_X4_readInto_72 {X : bf_X} (C : bf_C X RX4 cX4_readInto 6 (some .boolean)) (hR : bf_Rm X 4 100) (S : bT4 × bT0) (x2 : Int32) (x3 : Int32) (Q : Int32 → (bT4 × bT0) → Prop) (B2 : Int32 → (bT4 × bT0) → Prop) (hB2 : ∀ (x2 : Int32) (S : bT4 × bT0), B2 x2 S → bf_A X (bf_Zi X bW4_0 Q) 6 2 [some (.ref 0), some (.ref 2), some (.int x2), none, none, none] [] (bW4_0 S)) (h : wp_X4_readInto_72 S x2 x3 Q B2) : bf_A X (bf_Zi X bW4_0 Q) 6 72 [some (.ref 0), some (.ref 2), some (.int x2), some (.int x3), none, none] [] (bW4_0 S) := by
  unfold wp_X4_readInto_72 at h
  refine bs_iload_n C (bf_dk dd_X4_readInto 43 rfl) rfl ?_
  refine bs_iload_n C (bf_dk dd_X4_readInto 44 rfl) rfl ?_
  refine bs_iconst C (bf_dk dd_X4_readInto 45 rfl) (1 : Int32) (by decide) ?_
  refine bs_iadd C (bf_dk dd_X4_readInto 46 rfl) ?_
  refine bs_iadd C (bf_dk dd_X4_readInto 47 rfl) ?_
  refine bs_istore_n C (bf_dk dd_X4_readInto 48 rfl) rfl (Nat.le_of_ble_eq_true rfl) (Nat.le_of_ble_eq_true rfl) (lv2 := [some (.ref 0), some (.ref 2), some (.int (x2 + (x3 + (1 : Int32)))), some (.int x3), none, none]) rfl ?_
  refine bs_goto C (bf_dk dd_X4_readInto 49 rfl) (tgt := 2) rfl ?_
  exact bs_weak (bf_s1 (bf_s1 (bf_s1 (bf_sn (bf_sn (bf_sn bf_s0)))))) (hB2 ((x2 + (x3 + (1 : Int32)))) S h)
def wp_X4_readInto_2b (S : bT4 × bT0) (x2 : Int32) (Q : Int32 → (bT4 × bT0) → Prop) (B2 : Int32 → (bT4 × bT0) → Prop) : Prop := (((b4g_count S.1) ≤ x2 → (bf_bool (1 : Int32) ∧ Q (1 : Int32) S)) ∧ (¬ (b4g_count S.1) ≤ x2 → (wp_X8_at 160 (b4g_octets S.1) (x2) (fun r1 => (wp_X8_isLength (r1) (fun r3 => ((r3 = 0 → (bf_bool (0 : Int32) ∧ Q (0 : Int32) S)) ∧ (¬ r3 = 0 → (((x2 + r1) < (b4g_count S.1) → (wp_X4_keyAt S.1 ((x2 + (1 : Int32))) (r1) (fun r5 => (wp_X0_numberOf S.2 (r5) (r1) (fun r7 => ((¬ r7 = (-1 : Int32) → (wp_X4_readInto_72 S (x2) (r1) Q B2)) ∧ (r7 = (-1 : Int32) → (wp_X0_insert S.2 (r5) (r1) (fun r9 u10 => (∀ S11 : bT4 × bT0, S11 = (S.1, u10) → ((¬ r9 = (-1 : Int32) → (wp_X4_readInto_72 S11 (x2) (r1) Q B2)) ∧ (r9 = (-1 : Int32) → (bf_bool (0 : Int32) ∧ Q (0 : Int32) S11))))))))))))) ∧ (¬ (x2 + r1) < (b4g_count S.1) → (bf_bool (0 : Int32) ∧ Q (0 : Int32) S)))))))))))
set_option maxRecDepth 20000 in
theorem t_X4_readInto_2b {X : bf_X} (C : bf_C X RX4 cX4_readInto 6 (some .boolean)) (hR : bf_Rm X 4 100) (S : bT4 × bT0) (x2 : Int32) (Q : Int32 → (bT4 × bT0) → Prop) (B2 : Int32 → (bT4 × bT0) → Prop) (hB2 : ∀ (x2 : Int32) (S : bT4 × bT0), B2 x2 S → bf_A X (bf_Zi X bW4_0 Q) 6 2 [some (.ref 0), some (.ref 2), some (.int x2), none, none, none] [] (bW4_0 S)) (h : wp_X4_readInto_2b S x2 Q B2) : bf_A X (bf_Zi X bW4_0 Q) 6 2 [some (.ref 0), some (.ref 2), some (.int x2), none, none, none] [] (bW4_0 S) := by
  unfold wp_X4_readInto_2b at h
  refine bs_iload_n C (bf_dk dd_X4_readInto 2 rfl) rfl ?_
  refine bs_aload_n C (bf_dk dd_X4_readInto 3 rfl) rfl ?_
  refine bs_get C (bf_dk dd_X4_readInto 4 rfl) cl_4 in_4 1 (Nat.le_of_ble_eq_true rfl) rfl f_4_15 (ge_bW4_0_0 S) rfl ?_
  refine bs_icmp_ge C (bf_dk dd_X4_readInto 5 rfl) (tgt := 81) rfl (fun c => ?_) (fun c => ?_)
  · replace h := h.1 c
    refine bs_iconst C (bf_dk dd_X4_readInto 50 rfl) (1 : Int32) (by decide) ?_
    obtain ⟨hi, h⟩ := h
    exact bs_zret (u := S) C (bf_dk dd_X4_readInto 51 rfl) hi rfl h
  · replace h := h.2 c
    refine bs_aload_n C (bf_dk dd_X4_readInto 6 rfl) rfl ?_
    refine bs_get C (bf_dk dd_X4_readInto 7 rfl) cl_4 in_4 0 (Nat.le_of_ble_eq_true rfl) rfl f_4_9 (ge_bW4_0_0 S) rfl ?_
    refine bs_iload_n C (bf_dk dd_X4_readInto 8 rfl) rfl ?_
    refine bs_pureSN_i (ps := [1]) (w := (bW4_0 S)) C hR (c_X8_at _ _ _ _ _ 160 (b4g_octets S.1) (x2) _ h) my_X8_at m_4_29 rfl (Nat.le_of_ble_eq_true rfl) (Nat.le_of_ble_eq_true rfl) (su_bW4_0_1_bWan160 S) rfl (st := []) (Nat.le_of_ble_eq_true rfl) (bf_dk dd_X4_readInto 9 rfl) rfl (fun _ => rfl) (fun r1 h => ?_)
    refine bs_istore_n C (bf_dk dd_X4_readInto 10 rfl) rfl (Nat.le_of_ble_eq_true rfl) (Nat.le_of_ble_eq_true rfl) (lv2 := [some (.ref 0), some (.ref 2), some (.int x2), some (.int r1), none, none]) rfl ?_
    refine bs_iload_n C (bf_dk dd_X4_readInto 11 rfl) rfl ?_
    refine bs_pureSN_i (ps := []) (w := (bW4_0 S)) C hR (c_X8_isLength _ _ _ _ _ (r1) _ h) my_X8_isLength m_4_33 rfl (Nat.le_of_ble_eq_true rfl) (Nat.le_of_ble_eq_true rfl) rfl rfl (st := []) (Nat.le_of_ble_eq_true rfl) (bf_dk dd_X4_readInto 12 rfl) rfl (fun _ => rfl) (fun r3 h => ?_)
    refine bs_if_eq C (bf_dk dd_X4_readInto 13 rfl) (tgt := 36) rfl (fun c => ?_) (fun c => ?_)
    · replace h := h.1 c
      refine bs_iconst C (bf_dk dd_X4_readInto 20 rfl) (0 : Int32) (by decide) ?_
      obtain ⟨hi, h⟩ := h
      exact bs_zret (u := S) C (bf_dk dd_X4_readInto 21 rfl) hi rfl h
    · replace h := h.2 c
      refine bs_iload_n C (bf_dk dd_X4_readInto 14 rfl) rfl ?_
      refine bs_iload_n C (bf_dk dd_X4_readInto 15 rfl) rfl ?_
      refine bs_iadd C (bf_dk dd_X4_readInto 16 rfl) ?_
      refine bs_aload_n C (bf_dk dd_X4_readInto 17 rfl) rfl ?_
      refine bs_get C (bf_dk dd_X4_readInto 18 rfl) cl_4 in_4 1 (Nat.le_of_ble_eq_true rfl) rfl f_4_15 (ge_bW4_0_0 S) rfl ?_
      refine bs_icmp_lt C (bf_dk dd_X4_readInto 19 rfl) (tgt := 38) rfl (fun c => ?_) (fun c => ?_)
      · replace h := h.1 c
        refine bs_aload_n C (bf_dk dd_X4_readInto 22 rfl) rfl ?_
        refine bs_iload_n C (bf_dk dd_X4_readInto 23 rfl) rfl ?_
        refine bs_iconst C (bf_dk dd_X4_readInto 24 rfl) (1 : Int32) (by decide) ?_
        refine bs_iadd C (bf_dk dd_X4_readInto 25 rfl) ?_
        refine bs_iload_n C (bf_dk dd_X4_readInto 26 rfl) rfl ?_
        refine bs_pureV_l (ps := [0, 1]) (w := (bW4_0 S)) C hR (c_X4_keyAt _ _ _ _ _ S.1 ((x2 + (1 : Int32))) (r1) _ h) my_X4_keyAt m_4_37 rfl cl_4 (ge_bW4_0 _) rfl (Nat.le_of_ble_eq_true rfl) (Nat.le_of_ble_eq_true rfl) (su_bW4_0_0_bW4 S) rfl (st := []) (Nat.le_of_ble_eq_true rfl) (bf_dk dd_X4_readInto 27 rfl) rfl (fun _ => rfl) (fun r5 h => ?_)
        refine bs_lstore C (bf_dk dd_X4_readInto 28 rfl) (Nat.le_of_ble_eq_true rfl) (Nat.le_of_ble_eq_true rfl) (lv2 := [some (.ref 0), some (.ref 2), some (.int x2), some (.int r1), some (.long r5), none]) rfl ?_
        refine bs_aload_n C (bf_dk dd_X4_readInto 29 rfl) rfl ?_
        refine bs_lload C (bf_dk dd_X4_readInto 30 rfl) rfl ?_
        refine bs_iload_n C (bf_dk dd_X4_readInto 31 rfl) rfl ?_
        refine bs_pureV_i (ps := [2, 3, 4]) (w := (bW4_0 S)) C hR (c_X0_numberOf _ _ _ _ _ S.2 (r5) (r1) _ h) my_X0_numberOf m_4_41 rfl cl_0 (ge_bW0_0 _) rfl (Nat.le_of_ble_eq_true rfl) (Nat.le_of_ble_eq_true rfl) (su_bW4_0_2_bW0 S) rfl (st := []) (Nat.le_of_ble_eq_true rfl) (bf_dk dd_X4_readInto 32 rfl) rfl (fun _ => rfl) (fun r7 h => ?_)
        refine bs_iconst C (bf_dk dd_X4_readInto 33 rfl) (-1 : Int32) (by decide) ?_
        refine bs_icmp_ne C (bf_dk dd_X4_readInto 34 rfl) (tgt := 72) rfl (fun c => ?_) (fun c => ?_)
        · replace h := h.1 c
          exact bs_weak (bf_s1 (bf_s1 (bf_s1 (bf_s1 (bf_sn (bf_sn bf_s0)))))) (t_X4_readInto_72 C hR S (x2) (r1) Q B2 hB2 h)
        · replace h := h.2 c
          refine bs_aload_n C (bf_dk dd_X4_readInto 35 rfl) rfl ?_
          refine bs_lload C (bf_dk dd_X4_readInto 36 rfl) rfl ?_
          refine bs_iload_n C (bf_dk dd_X4_readInto 37 rfl) rfl ?_
          refine bs_callV_i (ps := [2, 3, 4]) (w := (bW4_0 S)) C hR (c_X0_insert _ _ _ _ _ S.2 (r5) (r1) _ h) my_X0_insert m_4_47 rfl cl_0 (ge_bW0_0 _) rfl (Nat.le_of_ble_eq_true rfl) (Nat.le_of_ble_eq_true rfl) (su_bW4_0_2_bW0 S) rfl (st := []) (Nat.le_of_ble_eq_true rfl) (bf_dk dd_X4_readInto 38 rfl) rfl (fun _ => rfl) (w2 := fun u10 => bW4_0 (S.1, u10)) (pt_bW4_0_2_bW0 S) (fun r9 u10 h => ?_)
          refine bs_nameS bW4_0 (fun S11 eS11 => ?_)
          replace h := h S11 eS11
          refine bs_iconst C (bf_dk dd_X4_readInto 39 rfl) (-1 : Int32) (by decide) ?_
          refine bs_icmp_ne C (bf_dk dd_X4_readInto 40 rfl) (tgt := 72) rfl (fun c => ?_) (fun c => ?_)
          · replace h := h.1 c
            exact bs_weak (bf_s1 (bf_s1 (bf_s1 (bf_s1 (bf_sn (bf_sn bf_s0)))))) (t_X4_readInto_72 C hR S11 (x2) (r1) Q B2 hB2 h)
          · replace h := h.2 c
            refine bs_iconst C (bf_dk dd_X4_readInto 41 rfl) (0 : Int32) (by decide) ?_
            obtain ⟨hi, h⟩ := h
            exact bs_zret (u := S11) C (bf_dk dd_X4_readInto 42 rfl) hi rfl h
      · replace h := h.2 c
        refine bs_iconst C (bf_dk dd_X4_readInto 20 rfl) (0 : Int32) (by decide) ?_
        obtain ⟨hi, h⟩ := h
        exact bs_zret (u := S) C (bf_dk dd_X4_readInto 21 rfl) hi rfl h
def wp_X4_readInto_2 (S : bT4 × bT0) (x2 : Int32) (Q : Int32 → (bT4 × bT0) → Prop) : Prop := ∃ I : Nat → Int32 → (bT4 × bT0) → Prop, (∃ n : Nat, I n x2 S) ∧ ∀ (n : Nat) (x2 : Int32) (S : bT4 × bT0), I n x2 S → wp_X4_readInto_2b S x2 Q (fun x2 S => ∃ n2 : Nat, n2 < n ∧ I n2 x2 S)
theorem t_X4_readInto_2 {X : bf_X} (C : bf_C X RX4 cX4_readInto 6 (some .boolean)) (hR : bf_Rm X 4 100) (S : bT4 × bT0) (x2 : Int32) (Q : Int32 → (bT4 × bT0) → Prop) (h : wp_X4_readInto_2 S x2 Q) : bf_A X (bf_Zi X bW4_0 Q) 6 2 [some (.ref 0), some (.ref 2), some (.int x2), none, none, none] [] (bW4_0 S) := by
  obtain ⟨I, ⟨n0, h0⟩, hI⟩ := h
  have key : ∀ (n : Nat) (x2 : Int32) (S : bT4 × bT0), I n x2 S → bf_A X (bf_Zi X bW4_0 Q) 6 2 [some (.ref 0), some (.ref 2), some (.int x2), none, none, none] [] (bW4_0 S) := by
    intro n
    induction n using Nat.strongRecOn with
    | _ n ih =>
      intro x2 S hi
      exact t_X4_readInto_2b C hR S x2 Q _ (fun x2 S hb => by obtain ⟨n2, hn, hi2⟩ := hb; exact ih n2 hn x2 S hi2) (hI n x2 S hi)
  exact key n0 x2 S h0
def wp_X4_readInto (S : bT4 × bT0) (Q : Int32 → (bT4 × bT0) → Prop) : Prop := (wp_X4_readInto_2 S ((0 : Int32)) Q)
set_option maxRecDepth 20000 in
theorem t_X4_readInto {X : bf_X} (C : bf_C X RX4 cX4_readInto 6 (some .boolean)) (hR : bf_Rm X 4 100) (S : bT4 × bT0) (Q : Int32 → (bT4 × bT0) → Prop) (h : wp_X4_readInto S Q) : bf_A X (bf_Zi X bW4_0 Q) 6 0 [some (.ref 0), some (.ref 2), none, none, none, none] [] (bW4_0 S) := by
  unfold wp_X4_readInto at h
  refine bs_iconst C (bf_dk dd_X4_readInto 0 rfl) (0 : Int32) (by decide) ?_
  refine bs_istore_n C (bf_dk dd_X4_readInto 1 rfl) rfl (Nat.le_of_ble_eq_true rfl) (Nat.le_of_ble_eq_true rfl) (lv2 := [some (.ref 0), some (.ref 2), some (.int (0 : Int32)), none, none, none]) rfl ?_
  exact bs_weak (bf_s1 (bf_s1 (bf_s1 (bf_sn (bf_sn (bf_sn bf_s0)))))) (t_X4_readInto_2 C hR S ((0 : Int32)) Q h)
theorem c_X4_readInto (l : Launch) (dC : Nat → ClassId) (dI : Nat → Nat → Nat) (ac : Nat → ClassId) (al : Nat → Nat) (S : bT4 × bT0) (Q : Int32 → (bT4 × bT0) → Prop) (h : wp_X4_readInto S Q) : bf_M l yX4_readInto cX4_readInto 6 (some .boolean) 4 100 dC dI ac al [.ref 0, .ref 2] (bW4_0 S) (bf_Ki dC dI ac al bW4_0 Q) := by
  refine bf_start [some (.ref 0), some (.ref 2), none, none, none, none] (by decide) (Nat.le_of_ble_eq_true rfl) (bf_s1 (bf_s1 (bf_en 4))) ?_
  intro X hl C hR e1 e2 e3 e4
  subst e1; subst e2; subst e3; subst e4
  exact t_X4_readInto C hR S Q h
def wp_X5_put (S : bT5) (a1 : Int32) (Q : (bT5) → Prop) : Prop := (((128 : Int32) ≤ (b5g_length S) → (Q S)) ∧ (¬ (128 : Int32) ≤ (b5g_length S) → (vp_in (b5g_length S) 128 ∧ (∀ S1 : bT5, S1 = (b5s_signs S (upd (b5g_signs S) ((b5g_length S)).toNatClampNeg (vp_nar .char a1))) → (∀ S2 : bT5, S2 = (b5s_length S1 ((b5g_length S1) + (1 : Int32))) → (Q S2))))))
set_option maxRecDepth 20000 in
theorem t_X5_put {X : bf_X} (C : bf_C X RX5 cX5_put 2 none) (hR : bf_Rm X 0 0) (S : bT5) (a1 : Int32) (Q : (bT5) → Prop) (h : wp_X5_put S a1 Q) : bf_A X (bf_Zv X bW5 Q) 2 0 [some (.ref 0), some (.int a1)] [] (bW5 S) := by
  unfold wp_X5_put at h
  refine bs_aload_n C (bf_dk dd_X5_put 0 rfl) rfl ?_
  refine bs_get C (bf_dk dd_X5_put 1 rfl) cl_5 in_5 1 (Nat.le_of_ble_eq_true rfl) rfl f_5_15 (ge_bW5_0 S) rfl ?_
  refine bs_sipush C (bf_dk dd_X5_put 2 rfl) (128 : Int32) (by decide) ?_
  refine bs_icmp_ge C (bf_dk dd_X5_put 3 rfl) (tgt := 30) rfl (fun c => ?_) (fun c => ?_)
  · replace h := h.1 c
    exact bs_vret (u := S) C (bf_dk dd_X5_put 16 rfl) rfl h
  · replace h := h.2 c
    refine bs_aload_n C (bf_dk dd_X5_put 4 rfl) rfl ?_
    refine bs_get C (bf_dk dd_X5_put 5 rfl) cl_5 in_5 0 (Nat.le_of_ble_eq_true rfl) rfl f_5_9 (ge_bW5_0 S) rfl ?_
    refine bs_aload_n C (bf_dk dd_X5_put 6 rfl) rfl ?_
    refine bs_get C (bf_dk dd_X5_put 7 rfl) cl_5 in_5 1 (Nat.le_of_ble_eq_true rfl) rfl f_5_15 (ge_bW5_0 S) rfl ?_
    refine bs_iload_n C (bf_dk dd_X5_put 8 rfl) rfl ?_
    obtain ⟨hi, h⟩ := h
    refine bs_cast C (bf_dk dd_X5_put 9 rfl) (ge_bW5_1 S) hi (ar_bW5_1 S _) ?_
    refine bs_nameS bW5 (fun S1 eS1 => ?_)
    replace h := h S1 eS1
    refine bs_aload_n C (bf_dk dd_X5_put 10 rfl) rfl ?_
    refine bs_dup C (bf_dk dd_X5_put 11 rfl) rfl ?_
    refine bs_get C (bf_dk dd_X5_put 12 rfl) cl_5 in_5 1 (Nat.le_of_ble_eq_true rfl) rfl f_5_15 (ge_bW5_0 S1) rfl ?_
    refine bs_iconst C (bf_dk dd_X5_put 13 rfl) (1 : Int32) (by decide) ?_
    refine bs_iadd C (bf_dk dd_X5_put 14 rfl) ?_
    refine bs_put C (bf_dk dd_X5_put 15 rfl) tyX5_ok nmX5 cl_5 in_5 1 (Nat.le_of_ble_eq_true rfl) rfl f_5_15 rfl (ge_bW5_0 S1) (Nat.le_of_ble_eq_true rfl) rfl rfl (pu_bW5_0_1 S1 ((b5g_length S1) + (1 : Int32))) ?_
    refine bs_nameS bW5 (fun S2 eS2 => ?_)
    replace h := h S2 eS2
    exact bs_vret (u := S2) C (bf_dk dd_X5_put 16 rfl) rfl h
theorem c_X5_put (l : Launch) (dC : Nat → ClassId) (dI : Nat → Nat → Nat) (ac : Nat → ClassId) (al : Nat → Nat) (S : bT5) (a1 : Int32) (Q : (bT5) → Prop) (h : wp_X5_put S a1 Q) : bf_M l yX5_put cX5_put 2 none 0 0 dC dI ac al [.ref 0, .int a1] (bW5 S) (bf_Kv dC dI ac al bW5 Q) := by
  refine bf_start [some (.ref 0), some (.int a1)] (by decide) (Nat.le_of_ble_eq_true rfl) (bf_s1 (bf_s1 bf_s0)) ?_
  intro X hl C hR e1 e2 e3 e4
  subst e1; subst e2; subst e3; subst e4
  exact t_X5_put C hR S a1 Q h
def wp_X5_putNumber_31 (S : bT5) (x1 : Int32) (x2 : Int32) (Q : (bT5) → Prop) (B3 : Int32 → Int32 → (bT5) → Prop) : Prop := (¬ (10 : Int32) = 0 ∧ (B3 (x1) ((x2 / (10 : Int32))) S))
set_option maxRecDepth 20000 in
theorem t_X5_putNumber_31 {X : bf_X} (C : bf_C X RX5 cX5_putNumber 3 none) (hR : bf_Rm X 1 21) (S : bT5) (x1 : Int32) (x2 : Int32) (Q : (bT5) → Prop) (B3 : Int32 → Int32 → (bT5) → Prop) (hB3 : ∀ (x1 : Int32) (x2 : Int32) (S : bT5), B3 x1 x2 S → bf_A X (bf_Zv X bW5 Q) 3 3 [some (.ref 0), some (.int x1), some (.int x2)] [] (bW5 S)) (h : wp_X5_putNumber_31 S x1 x2 Q B3) : bf_A X (bf_Zv X bW5 Q) 3 31 [some (.ref 0), some (.int x1), some (.int x2)] [] (bW5 S) := by
  unfold wp_X5_putNumber_31 at h
  refine bs_iload_n C (bf_dk dd_X5_putNumber 20 rfl) rfl ?_
  refine bs_bipush C (bf_dk dd_X5_putNumber 21 rfl) (10 : Int32) (by decide) ?_
  obtain ⟨hi, h⟩ := h
  refine bs_idiv C (bf_dk dd_X5_putNumber 22 rfl) hi ?_
  refine bs_istore_n C (bf_dk dd_X5_putNumber 23 rfl) rfl (Nat.le_of_ble_eq_true rfl) (Nat.le_of_ble_eq_true rfl) (lv2 := [some (.ref 0), some (.int x1), some (.int (x2 / (10 : Int32)))]) rfl ?_
  refine bs_goto C (bf_dk dd_X5_putNumber 24 rfl) (tgt := 3) rfl ?_
  exact bs_weak (bf_s1 (bf_s1 (bf_s1 bf_s0))) (hB3 (x1) ((x2 / (10 : Int32))) S h)
def wp_X5_putNumber_17 (S : bT5) (x1 : Int32) (x2 : Int32) (Q : (bT5) → Prop) (B3 : Int32 → Int32 → (bT5) → Prop) : Prop := (¬ x2 = 0 ∧ (¬ (10 : Int32) = 0 ∧ (wp_X5_put S ((((((48 : Int32) + ((x1 / x2) - (x1 / x2) / (10 : Int32) * (10 : Int32)))).toUInt32 % 65536).toInt32)) (fun u2 => (wp_X5_putNumber_31 u2 (x1) (x2) Q B3)))))
set_option maxRecDepth 20000 in
theorem t_X5_putNumber_17 {X : bf_X} (C : bf_C X RX5 cX5_putNumber 3 none) (hR : bf_Rm X 1 21) (S : bT5) (x1 : Int32) (x2 : Int32) (Q : (bT5) → Prop) (B3 : Int32 → Int32 → (bT5) → Prop) (hB3 : ∀ (x1 : Int32) (x2 : Int32) (S : bT5), B3 x1 x2 S → bf_A X (bf_Zv X bW5 Q) 3 3 [some (.ref 0), some (.int x1), some (.int x2)] [] (bW5 S)) (h : wp_X5_putNumber_17 S x1 x2 Q B3) : bf_A X (bf_Zv X bW5 Q) 3 17 [some (.ref 0), some (.int x1), some (.int x2)] [] (bW5 S) := by
  unfold wp_X5_putNumber_17 at h
  refine bs_aload_n C (bf_dk dd_X5_putNumber 10 rfl) rfl ?_
  refine bs_bipush C (bf_dk dd_X5_putNumber 11 rfl) (48 : Int32) (by decide) ?_
  refine bs_iload_n C (bf_dk dd_X5_putNumber 12 rfl) rfl ?_
  refine bs_iload_n C (bf_dk dd_X5_putNumber 13 rfl) rfl ?_
  obtain ⟨hi, h⟩ := h
  refine bs_idiv C (bf_dk dd_X5_putNumber 14 rfl) hi ?_
  refine bs_bipush C (bf_dk dd_X5_putNumber 15 rfl) (10 : Int32) (by decide) ?_
  obtain ⟨hi, h⟩ := h
  refine bs_irem C (bf_dk dd_X5_putNumber 16 rfl) hi ?_
  refine bs_iadd C (bf_dk dd_X5_putNumber 17 rfl) ?_
  refine bs_i2c C (bf_dk dd_X5_putNumber 18 rfl) ?_
  refine bs_selfV_v C hR (c_X5_put _ _ _ _ _ S ((((((48 : Int32) + ((x1 / x2) - (x1 / x2) / (10 : Int32) * (10 : Int32)))).toUInt32 % 65536).toInt32)) _ h) my_X5_put m_5_20 rfl cl_5 (ge_bW5_0 _) rfl (Nat.le_of_ble_eq_true rfl) (Nat.le_of_ble_eq_true rfl) (st := []) (Nat.le_of_ble_eq_true rfl) (bf_dk dd_X5_putNumber 19 rfl) rfl (len := 2) (fun _ => rfl) (fun u2 h => ?_)
  exact bs_weak (bf_s1 (bf_s1 (bf_s1 bf_s0))) (t_X5_putNumber_31 C hR u2 (x1) (x2) Q B3 hB3 h)
def wp_X5_putNumber_3b (S : bT5) (x1 : Int32) (x2 : Int32) (Q : (bT5) → Prop) (B3 : Int32 → Int32 → (bT5) → Prop) : Prop := ((x2 ≤ 0 → (Q S)) ∧ (¬ x2 ≤ 0 → ((x2 = (1 : Int32) → (wp_X5_putNumber_17 S (x1) (x2) Q B3)) ∧ (¬ x2 = (1 : Int32) → ((x1 < x2 → (wp_X5_putNumber_31 S (x1) (x2) Q B3)) ∧ (¬ x1 < x2 → (wp_X5_putNumber_17 S (x1) (x2) Q B3)))))))
set_option maxRecDepth 20000 in
theorem t_X5_putNumber_3b {X : bf_X} (C : bf_C X RX5 cX5_putNumber 3 none) (hR : bf_Rm X 1 21) (S : bT5) (x1 : Int32) (x2 : Int32) (Q : (bT5) → Prop) (B3 : Int32 → Int32 → (bT5) → Prop) (hB3 : ∀ (x1 : Int32) (x2 : Int32) (S : bT5), B3 x1 x2 S → bf_A X (bf_Zv X bW5 Q) 3 3 [some (.ref 0), some (.int x1), some (.int x2)] [] (bW5 S)) (h : wp_X5_putNumber_3b S x1 x2 Q B3) : bf_A X (bf_Zv X bW5 Q) 3 3 [some (.ref 0), some (.int x1), some (.int x2)] [] (bW5 S) := by
  unfold wp_X5_putNumber_3b at h
  refine bs_iload_n C (bf_dk dd_X5_putNumber 2 rfl) rfl ?_
  refine bs_if_le C (bf_dk dd_X5_putNumber 3 rfl) (tgt := 39) rfl (fun c => ?_) (fun c => ?_)
  · replace h := h.1 c
    exact bs_vret (u := S) C (bf_dk dd_X5_putNumber 25 rfl) rfl h
  · replace h := h.2 c
    refine bs_iload_n C (bf_dk dd_X5_putNumber 4 rfl) rfl ?_
    refine bs_iconst C (bf_dk dd_X5_putNumber 5 rfl) (1 : Int32) (by decide) ?_
    refine bs_icmp_eq C (bf_dk dd_X5_putNumber 6 rfl) (tgt := 17) rfl (fun c => ?_) (fun c => ?_)
    · replace h := h.1 c
      exact bs_weak (bf_s1 (bf_s1 (bf_s1 bf_s0))) (t_X5_putNumber_17 C hR S (x1) (x2) Q B3 hB3 h)
    · replace h := h.2 c
      refine bs_iload_n C (bf_dk dd_X5_putNumber 7 rfl) rfl ?_
      refine bs_iload_n C (bf_dk dd_X5_putNumber 8 rfl) rfl ?_
      refine bs_icmp_lt C (bf_dk dd_X5_putNumber 9 rfl) (tgt := 31) rfl (fun c => ?_) (fun c => ?_)
      · replace h := h.1 c
        exact bs_weak (bf_s1 (bf_s1 (bf_s1 bf_s0))) (t_X5_putNumber_31 C hR S (x1) (x2) Q B3 hB3 h)
      · replace h := h.2 c
        exact bs_weak (bf_s1 (bf_s1 (bf_s1 bf_s0))) (t_X5_putNumber_17 C hR S (x1) (x2) Q B3 hB3 h)
def wp_X5_putNumber_3 (S : bT5) (x1 : Int32) (x2 : Int32) (Q : (bT5) → Prop) : Prop := ∃ I : Nat → Int32 → Int32 → (bT5) → Prop, (∃ n : Nat, I n x1 x2 S) ∧ ∀ (n : Nat) (x1 : Int32) (x2 : Int32) (S : bT5), I n x1 x2 S → wp_X5_putNumber_3b S x1 x2 Q (fun x1 x2 S => ∃ n2 : Nat, n2 < n ∧ I n2 x1 x2 S)
theorem t_X5_putNumber_3 {X : bf_X} (C : bf_C X RX5 cX5_putNumber 3 none) (hR : bf_Rm X 1 21) (S : bT5) (x1 : Int32) (x2 : Int32) (Q : (bT5) → Prop) (h : wp_X5_putNumber_3 S x1 x2 Q) : bf_A X (bf_Zv X bW5 Q) 3 3 [some (.ref 0), some (.int x1), some (.int x2)] [] (bW5 S) := by
  obtain ⟨I, ⟨n0, h0⟩, hI⟩ := h
  have key : ∀ (n : Nat) (x1 : Int32) (x2 : Int32) (S : bT5), I n x1 x2 S → bf_A X (bf_Zv X bW5 Q) 3 3 [some (.ref 0), some (.int x1), some (.int x2)] [] (bW5 S) := by
    intro n
    induction n using Nat.strongRecOn with
    | _ n ih =>
      intro x1 x2 S hi
      exact t_X5_putNumber_3b C hR S x1 x2 Q _ (fun x1 x2 S hb => by obtain ⟨n2, hn, hi2⟩ := hb; exact ih n2 hn x1 x2 S hi2) (hI n x1 x2 S hi)
  exact key n0 x1 x2 S h0
def wp_X5_putNumber (S : bT5) (a1 : Int32) (Q : (bT5) → Prop) : Prop := (∀ v3 : Int32, v3 = (1000000000 : Int32) → (wp_X5_putNumber_3 S (a1) (v3) Q))
set_option maxRecDepth 20000 in
theorem t_X5_putNumber {X : bf_X} (C : bf_C X RX5 cX5_putNumber 3 none) (hR : bf_Rm X 1 21) (S : bT5) (a1 : Int32) (Q : (bT5) → Prop) (h : wp_X5_putNumber S a1 Q) : bf_A X (bf_Zv X bW5 Q) 3 0 [some (.ref 0), some (.int a1), none] [] (bW5 S) := by
  unfold wp_X5_putNumber at h
  refine bs_ldc C (bf_dk dd_X5_putNumber 0 rfl) k_5_19 ?_
  refine bs_name (fun v3 ev3 => ?_)
  replace h := h v3 ev3
  refine bs_istore_n C (bf_dk dd_X5_putNumber 1 rfl) rfl (Nat.le_of_ble_eq_true rfl) (Nat.le_of_ble_eq_true rfl) (lv2 := [some (.ref 0), some (.int a1), some (.int v3)]) rfl ?_
  exact bs_weak (bf_s1 (bf_s1 (bf_s1 bf_s0))) (t_X5_putNumber_3 C hR S (a1) (v3) Q h)
theorem c_X5_putNumber (l : Launch) (dC : Nat → ClassId) (dI : Nat → Nat → Nat) (ac : Nat → ClassId) (al : Nat → Nat) (S : bT5) (a1 : Int32) (Q : (bT5) → Prop) (h : wp_X5_putNumber S a1 Q) : bf_M l yX5_putNumber cX5_putNumber 3 none 1 21 dC dI ac al [.ref 0, .int a1] (bW5 S) (bf_Kv dC dI ac al bW5 Q) := by
  refine bf_start [some (.ref 0), some (.int a1), none] (by decide) (Nat.le_of_ble_eq_true rfl) (bf_s1 (bf_s1 (bf_en 1))) ?_
  intro X hl C hR e1 e2 e3 e4
  subst e1; subst e2; subst e3; subst e4
  exact t_X5_putNumber C hR S a1 Q h
def wp_X5_putHalf_21 (S : bT5) (t1 : Int32) (Q : (bT5) → Prop) : Prop := (wp_X5_put S ((((t1).toUInt32 % 65536).toInt32)) (fun u2 => (Q u2)))
set_option maxRecDepth 20000 in
theorem t_X5_putHalf_21 {X : bf_X} (C : bf_C X RX5 cX5_putHalf 2 none) (hR : bf_Rm X 1 21) (S : bT5) (t1 : Int32) (Q : (bT5) → Prop) (h : wp_X5_putHalf_21 S t1 Q) : bf_A X (bf_Zv X bW5 Q) 2 21 [none, none] [.int t1, .ref 0] (bW5 S) := by
  unfold wp_X5_putHalf_21 at h
  refine bs_i2c C (bf_dk dd_X5_putHalf 13 rfl) ?_
  refine bs_selfV_v C hR (c_X5_put _ _ _ _ _ S ((((t1).toUInt32 % 65536).toInt32)) _ h) my_X5_put m_5_20 rfl cl_5 (ge_bW5_0 _) rfl (Nat.le_of_ble_eq_true rfl) (Nat.le_of_ble_eq_true rfl) (st := []) (Nat.le_of_ble_eq_true rfl) (bf_dk dd_X5_putHalf 14 rfl) rfl (len := 2) (fun _ => rfl) (fun u2 h => ?_)
  exact bs_vret (u := u2) C (bf_dk dd_X5_putHalf 15 rfl) rfl h
def wp_X5_putHalf (S : bT5) (a1 : Int32) (Q : (bT5) → Prop) : Prop := (((10 : Int32) ≤ a1 → (wp_X5_putHalf_21 S ((((97 : Int32) + a1) - (10 : Int32))) Q)) ∧ (¬ (10 : Int32) ≤ a1 → (wp_X5_putHalf_21 S (((48 : Int32) + a1)) Q)))
set_option maxRecDepth 20000 in
theorem t_X5_putHalf {X : bf_X} (C : bf_C X RX5 cX5_putHalf 2 none) (hR : bf_Rm X 1 21) (S : bT5) (a1 : Int32) (Q : (bT5) → Prop) (h : wp_X5_putHalf S a1 Q) : bf_A X (bf_Zv X bW5 Q) 2 0 [some (.ref 0), some (.int a1)] [] (bW5 S) := by
  unfold wp_X5_putHalf at h
  refine bs_aload_n C (bf_dk dd_X5_putHalf 0 rfl) rfl ?_
  refine bs_iload_n C (bf_dk dd_X5_putHalf 1 rfl) rfl ?_
  refine bs_bipush C (bf_dk dd_X5_putHalf 2 rfl) (10 : Int32) (by decide) ?_
  refine bs_icmp_ge C (bf_dk dd_X5_putHalf 3 rfl) (tgt := 14) rfl (fun c => ?_) (fun c => ?_)
  · replace h := h.1 c
    refine bs_bipush C (bf_dk dd_X5_putHalf 8 rfl) (97 : Int32) (by decide) ?_
    refine bs_iload_n C (bf_dk dd_X5_putHalf 9 rfl) rfl ?_
    refine bs_iadd C (bf_dk dd_X5_putHalf 10 rfl) ?_
    refine bs_bipush C (bf_dk dd_X5_putHalf 11 rfl) (10 : Int32) (by decide) ?_
    refine bs_isub C (bf_dk dd_X5_putHalf 12 rfl) ?_
    exact bs_weak (bf_sn (bf_sn bf_s0)) (t_X5_putHalf_21 C hR S ((((97 : Int32) + a1) - (10 : Int32))) Q h)
  · replace h := h.2 c
    refine bs_bipush C (bf_dk dd_X5_putHalf 4 rfl) (48 : Int32) (by decide) ?_
    refine bs_iload_n C (bf_dk dd_X5_putHalf 5 rfl) rfl ?_
    refine bs_iadd C (bf_dk dd_X5_putHalf 6 rfl) ?_
    refine bs_goto C (bf_dk dd_X5_putHalf 7 rfl) (tgt := 21) rfl ?_
    exact bs_weak (bf_sn (bf_sn bf_s0)) (t_X5_putHalf_21 C hR S (((48 : Int32) + a1)) Q h)
theorem c_X5_putHalf (l : Launch) (dC : Nat → ClassId) (dI : Nat → Nat → Nat) (ac : Nat → ClassId) (al : Nat → Nat) (S : bT5) (a1 : Int32) (Q : (bT5) → Prop) (h : wp_X5_putHalf S a1 Q) : bf_M l yX5_putHalf cX5_putHalf 2 none 1 21 dC dI ac al [.ref 0, .int a1] (bW5 S) (bf_Kv dC dI ac al bW5 Q) := by
  refine bf_start [some (.ref 0), some (.int a1)] (by decide) (Nat.le_of_ble_eq_true rfl) (bf_s1 (bf_s1 bf_s0)) ?_
  intro X hl C hR e1 e2 e3 e4
  subst e1; subst e2; subst e3; subst e4
  exact t_X5_putHalf C hR S a1 Q h
def wp_X5_putOctet (S : bT5) (a1 : Int32) (Q : (bT5) → Prop) : Prop := (wp_X5_putHalf S ((a1 >>> ((4 : Int32) &&& 31))) (fun u2 => (wp_X5_putHalf u2 ((a1 &&& (15 : Int32))) (fun u4 => (Q u4)))))
set_option maxRecDepth 20000 in
theorem t_X5_putOctet {X : bf_X} (C : bf_C X RX5 cX5_putOctet 2 none) (hR : bf_Rm X 2 42) (S : bT5) (a1 : Int32) (Q : (bT5) → Prop) (h : wp_X5_putOctet S a1 Q) : bf_A X (bf_Zv X bW5 Q) 2 0 [some (.ref 0), some (.int a1)] [] (bW5 S) := by
  unfold wp_X5_putOctet at h
  refine bs_aload_n C (bf_dk dd_X5_putOctet 0 rfl) rfl ?_
  refine bs_iload_n C (bf_dk dd_X5_putOctet 1 rfl) rfl ?_
  refine bs_iconst C (bf_dk dd_X5_putOctet 2 rfl) (4 : Int32) (by decide) ?_
  refine bs_ishr C (bf_dk dd_X5_putOctet 3 rfl) ?_
  refine bs_selfV_v C hR (c_X5_putHalf _ _ _ _ _ S ((a1 >>> ((4 : Int32) &&& 31))) _ h) my_X5_putHalf m_5_24 rfl cl_5 (ge_bW5_0 _) rfl (Nat.le_of_ble_eq_true rfl) (Nat.le_of_ble_eq_true rfl) (st := []) (Nat.le_of_ble_eq_true rfl) (bf_dk dd_X5_putOctet 4 rfl) rfl (len := 2) (fun _ => rfl) (fun u2 h => ?_)
  refine bs_aload_n C (bf_dk dd_X5_putOctet 5 rfl) rfl ?_
  refine bs_iload_n C (bf_dk dd_X5_putOctet 6 rfl) rfl ?_
  refine bs_bipush C (bf_dk dd_X5_putOctet 7 rfl) (15 : Int32) (by decide) ?_
  refine bs_iand C (bf_dk dd_X5_putOctet 8 rfl) ?_
  refine bs_selfV_v C hR (c_X5_putHalf _ _ _ _ _ u2 ((a1 &&& (15 : Int32))) _ h) my_X5_putHalf m_5_24 rfl cl_5 (ge_bW5_0 _) rfl (Nat.le_of_ble_eq_true rfl) (Nat.le_of_ble_eq_true rfl) (st := []) (Nat.le_of_ble_eq_true rfl) (bf_dk dd_X5_putOctet 9 rfl) rfl (len := 2) (fun _ => rfl) (fun u4 h => ?_)
  exact bs_vret (u := u4) C (bf_dk dd_X5_putOctet 10 rfl) rfl h
theorem c_X5_putOctet (l : Launch) (dC : Nat → ClassId) (dI : Nat → Nat → Nat) (ac : Nat → ClassId) (al : Nat → Nat) (S : bT5) (a1 : Int32) (Q : (bT5) → Prop) (h : wp_X5_putOctet S a1 Q) : bf_M l yX5_putOctet cX5_putOctet 2 none 2 42 dC dI ac al [.ref 0, .int a1] (bW5 S) (bf_Kv dC dI ac al bW5 Q) := by
  refine bf_start [some (.ref 0), some (.int a1)] (by decide) (Nat.le_of_ble_eq_true rfl) (bf_s1 (bf_s1 bf_s0)) ?_
  intro X hl C hR e1 e2 e3 e4
  subst e1; subst e2; subst e3; subst e4
  exact t_X5_putOctet C hR S a1 Q h
def wp_X5_signAt (S : bT5) (a1 : Int32) (Q : Int32 → Prop) : Prop := ((a1 < 0 → (Q (-1 : Int32))) ∧ (¬ a1 < 0 → (((b5g_length S) ≤ a1 → (Q (-1 : Int32))) ∧ (¬ (b5g_length S) ≤ a1 → (vp_in a1 128 ∧ (Q ((b5g_signs S) (a1).toNatClampNeg)))))))
set_option maxRecDepth 20000 in
theorem t_X5_signAt {X : bf_X} (C : bf_C X RX5 cX5_signAt 2 (some .int)) (hR : bf_Rm X 0 0) (S : bT5) (a1 : Int32) (Q : Int32 → Prop) (h : wp_X5_signAt S a1 Q) : bf_A X (bf_Zi X bW5 (fun r u => u = S ∧ Q r)) 2 0 [some (.ref 0), some (.int a1)] [] (bW5 S) := by
  unfold wp_X5_signAt at h
  refine bs_iload_n C (bf_dk dd_X5_signAt 0 rfl) rfl ?_
  refine bs_if_lt C (bf_dk dd_X5_signAt 1 rfl) (tgt := 21) rfl (fun c => ?_) (fun c => ?_)
  · replace h := h.1 c
    refine bs_iconst C (bf_dk dd_X5_signAt 11 rfl) (-1 : Int32) (by decide) ?_
    exact bs_iret (u := S) C (bf_dk dd_X5_signAt 12 rfl) rfl ⟨rfl, h⟩
  · replace h := h.2 c
    refine bs_iload_n C (bf_dk dd_X5_signAt 2 rfl) rfl ?_
    refine bs_aload_n C (bf_dk dd_X5_signAt 3 rfl) rfl ?_
    refine bs_get C (bf_dk dd_X5_signAt 4 rfl) cl_5 in_5 1 (Nat.le_of_ble_eq_true rfl) rfl f_5_15 (ge_bW5_0 S) rfl ?_
    refine bs_icmp_ge C (bf_dk dd_X5_signAt 5 rfl) (tgt := 21) rfl (fun c => ?_) (fun c => ?_)
    · replace h := h.1 c
      refine bs_iconst C (bf_dk dd_X5_signAt 11 rfl) (-1 : Int32) (by decide) ?_
      exact bs_iret (u := S) C (bf_dk dd_X5_signAt 12 rfl) rfl ⟨rfl, h⟩
    · replace h := h.2 c
      refine bs_aload_n C (bf_dk dd_X5_signAt 6 rfl) rfl ?_
      refine bs_get C (bf_dk dd_X5_signAt 7 rfl) cl_5 in_5 0 (Nat.le_of_ble_eq_true rfl) rfl f_5_9 (ge_bW5_0 S) rfl ?_
      refine bs_iload_n C (bf_dk dd_X5_signAt 8 rfl) rfl ?_
      obtain ⟨hi, h⟩ := h
      refine bs_cald C (bf_dk dd_X5_signAt 9 rfl) (ge_bW5_1 S) hi ?_
      refine bs_goto C (bf_dk dd_X5_signAt 10 rfl) (tgt := 22) rfl ?_
      exact bs_iret (u := S) C (bf_dk dd_X5_signAt 12 rfl) rfl ⟨rfl, h⟩
theorem c_X5_signAt (l : Launch) (dC : Nat → ClassId) (dI : Nat → Nat → Nat) (ac : Nat → ClassId) (al : Nat → Nat) (S : bT5) (a1 : Int32) (Q : Int32 → Prop) (h : wp_X5_signAt S a1 Q) : bf_M l yX5_signAt cX5_signAt 2 (some .int) 0 0 dC dI ac al [.ref 0, .int a1] (bW5 S) (bf_Ki dC dI ac al bW5 (fun r u => u = S ∧ Q r)) := by
  refine bf_start [some (.ref 0), some (.int a1)] (by decide) (Nat.le_of_ble_eq_true rfl) (bf_s1 (bf_s1 bf_s0)) ?_
  intro X hl C hR e1 e2 e3 e4
  subst e1; subst e2; subst e3; subst e4
  exact t_X5_signAt C hR S a1 Q h
def wp_X6_addEdge_80 (S : bT6) (t1 : Int32) (t2 : Int32) (Q : (bT6) → Prop) : Prop := (vp_in t1 296 ∧ (∀ S1 : bT6, S1 = (b6s_edgeChildren S (upd (b6g_edgeChildren S) (t1).toNatClampNeg t2)) → (∀ S2 : bT6, S2 = (b6s_edges S1 ((b6g_edges S1) + (1 : Int32))) → (Q S2))))
set_option maxRecDepth 20000 in
theorem t_X6_addEdge_80 {X : bf_X} (C : bf_C X RX6 cX6_addEdge 4 none) (hR : bf_Rm X 0 0) (S : bT6) (t1 : Int32) (t2 : Int32) (Q : (bT6) → Prop) (h : wp_X6_addEdge_80 S t1 t2 Q) : bf_A X (bf_Zv X bW6 Q) 4 80 [some (.ref 0), none, none, none] [.int t2, .int t1, .ref 8] (bW6 S) := by
  unfold wp_X6_addEdge_80 at h
  obtain ⟨hi, h⟩ := h
  refine bs_iast C (bf_dk dd_X6_addEdge 44 rfl) (ge_bW6_8 S) hi (ar_bW6_8 S _) ?_
  refine bs_nameS bW6 (fun S1 eS1 => ?_)
  replace h := h S1 eS1
  refine bs_aload_n C (bf_dk dd_X6_addEdge 45 rfl) rfl ?_
  refine bs_dup C (bf_dk dd_X6_addEdge 46 rfl) rfl ?_
  refine bs_get C (bf_dk dd_X6_addEdge 47 rfl) cl_6 in_6 13 (Nat.le_of_ble_eq_true rfl) rfl f_6_52 (ge_bW6_0 S1) rfl ?_
  refine bs_iconst C (bf_dk dd_X6_addEdge 48 rfl) (1 : Int32) (by decide) ?_
  refine bs_iadd C (bf_dk dd_X6_addEdge 49 rfl) ?_
  refine bs_put C (bf_dk dd_X6_addEdge 50 rfl) tyX6_ok nmX6 cl_6 in_6 13 (Nat.le_of_ble_eq_true rfl) rfl f_6_52 rfl (ge_bW6_0 S1) (Nat.le_of_ble_eq_true rfl) rfl rfl (pu_bW6_0_13 S1 ((b6g_edges S1) + (1 : Int32))) ?_
  refine bs_nameS bW6 (fun S2 eS2 => ?_)
  replace h := h S2 eS2
  exact bs_vret (u := S2) C (bf_dk dd_X6_addEdge 51 rfl) rfl h
def wp_X6_addEdge_25 (S : bT6) (x1 : Int32) (x2 : Int32) (x3 : Int32) (t1 : Int32) (t2 : Int32) (Q : (bT6) → Prop) : Prop := (∀ S3 : bT6, S3 = (b6s_children S (t1 + t2)) → (vp_in (b6g_edges S3) 296 ∧ (∀ S4 : bT6, S4 = (b6s_edgeNodes S3 (upd (b6g_edgeNodes S3) ((b6g_edges S3)).toNatClampNeg x1)) → (vp_in (b6g_edges S4) 296 ∧ (∀ S5 : bT6, S5 = (b6s_edgeOctets S4 (upd (b6g_edgeOctets S4) ((b6g_edges S4)).toNatClampNeg x2)) → (vp_in (b6g_edges S5) 296 ∧ (∀ S6 : bT6, S6 = (b6s_edgeLeaves S5 (upd (b6g_edgeLeaves S5) ((b6g_edges S5)).toNatClampNeg x3)) → ((¬ x3 = (-1 : Int32) → (wp_X6_addEdge_80 S6 ((b6g_edges S6)) ((-1 : Int32)) Q)) ∧ (x3 = (-1 : Int32) → (wp_X6_addEdge_80 S6 ((b6g_edges S6)) ((b6g_children S6)) Q))))))))))
set_option maxRecDepth 20000 in
theorem t_X6_addEdge_25 {X : bf_X} (C : bf_C X RX6 cX6_addEdge 4 none) (hR : bf_Rm X 0 0) (S : bT6) (x1 : Int32) (x2 : Int32) (x3 : Int32) (t1 : Int32) (t2 : Int32) (Q : (bT6) → Prop) (h : wp_X6_addEdge_25 S x1 x2 x3 t1 t2 Q) : bf_A X (bf_Zv X bW6 Q) 4 25 [some (.ref 0), some (.int x1), some (.int x2), some (.int x3)] [.int t2, .int t1, .ref 0] (bW6 S) := by
  unfold wp_X6_addEdge_25 at h
  refine bs_iadd C (bf_dk dd_X6_addEdge 13 rfl) ?_
  refine bs_put C (bf_dk dd_X6_addEdge 14 rfl) tyX6_ok nmX6 cl_6 in_6 14 (Nat.le_of_ble_eq_true rfl) rfl f_6_55 rfl (ge_bW6_0 S) (Nat.le_of_ble_eq_true rfl) rfl rfl (pu_bW6_0_14 S (t1 + t2)) ?_
  refine bs_nameS bW6 (fun S3 eS3 => ?_)
  replace h := h S3 eS3
  refine bs_aload_n C (bf_dk dd_X6_addEdge 15 rfl) rfl ?_
  refine bs_get C (bf_dk dd_X6_addEdge 16 rfl) cl_6 in_6 4 (Nat.le_of_ble_eq_true rfl) rfl f_6_24 (ge_bW6_0 S3) rfl ?_
  refine bs_aload_n C (bf_dk dd_X6_addEdge 17 rfl) rfl ?_
  refine bs_get C (bf_dk dd_X6_addEdge 18 rfl) cl_6 in_6 13 (Nat.le_of_ble_eq_true rfl) rfl f_6_52 (ge_bW6_0 S3) rfl ?_
  refine bs_iload_n C (bf_dk dd_X6_addEdge 19 rfl) rfl ?_
  obtain ⟨hi, h⟩ := h
  refine bs_iast C (bf_dk dd_X6_addEdge 20 rfl) (ge_bW6_5 S3) hi (ar_bW6_5 S3 _) ?_
  refine bs_nameS bW6 (fun S4 eS4 => ?_)
  replace h := h S4 eS4
  refine bs_aload_n C (bf_dk dd_X6_addEdge 21 rfl) rfl ?_
  refine bs_get C (bf_dk dd_X6_addEdge 22 rfl) cl_6 in_6 5 (Nat.le_of_ble_eq_true rfl) rfl f_6_27 (ge_bW6_0 S4) rfl ?_
  refine bs_aload_n C (bf_dk dd_X6_addEdge 23 rfl) rfl ?_
  refine bs_get C (bf_dk dd_X6_addEdge 24 rfl) cl_6 in_6 13 (Nat.le_of_ble_eq_true rfl) rfl f_6_52 (ge_bW6_0 S4) rfl ?_
  refine bs_iload_n C (bf_dk dd_X6_addEdge 25 rfl) rfl ?_
  obtain ⟨hi, h⟩ := h
  refine bs_iast C (bf_dk dd_X6_addEdge 26 rfl) (ge_bW6_6 S4) hi (ar_bW6_6 S4 _) ?_
  refine bs_nameS bW6 (fun S5 eS5 => ?_)
  replace h := h S5 eS5
  refine bs_aload_n C (bf_dk dd_X6_addEdge 27 rfl) rfl ?_
  refine bs_get C (bf_dk dd_X6_addEdge 28 rfl) cl_6 in_6 6 (Nat.le_of_ble_eq_true rfl) rfl f_6_30 (ge_bW6_0 S5) rfl ?_
  refine bs_aload_n C (bf_dk dd_X6_addEdge 29 rfl) rfl ?_
  refine bs_get C (bf_dk dd_X6_addEdge 30 rfl) cl_6 in_6 13 (Nat.le_of_ble_eq_true rfl) rfl f_6_52 (ge_bW6_0 S5) rfl ?_
  refine bs_iload_n C (bf_dk dd_X6_addEdge 31 rfl) rfl ?_
  obtain ⟨hi, h⟩ := h
  refine bs_iast C (bf_dk dd_X6_addEdge 32 rfl) (ge_bW6_7 S5) hi (ar_bW6_7 S5 _) ?_
  refine bs_nameS bW6 (fun S6 eS6 => ?_)
  replace h := h S6 eS6
  refine bs_aload_n C (bf_dk dd_X6_addEdge 33 rfl) rfl ?_
  refine bs_get C (bf_dk dd_X6_addEdge 34 rfl) cl_6 in_6 7 (Nat.le_of_ble_eq_true rfl) rfl f_6_33 (ge_bW6_0 S6) rfl ?_
  refine bs_aload_n C (bf_dk dd_X6_addEdge 35 rfl) rfl ?_
  refine bs_get C (bf_dk dd_X6_addEdge 36 rfl) cl_6 in_6 13 (Nat.le_of_ble_eq_true rfl) rfl f_6_52 (ge_bW6_0 S6) rfl ?_
  refine bs_iload_n C (bf_dk dd_X6_addEdge 37 rfl) rfl ?_
  refine bs_iconst C (bf_dk dd_X6_addEdge 38 rfl) (-1 : Int32) (by decide) ?_
  refine bs_icmp_ne C (bf_dk dd_X6_addEdge 39 rfl) (tgt := 79) rfl (fun c => ?_) (fun c => ?_)
  · replace h := h.1 c
    refine bs_iconst C (bf_dk dd_X6_addEdge 43 rfl) (-1 : Int32) (by decide) ?_
    exact bs_weak (bf_s1 (bf_sn (bf_sn (bf_sn bf_s0)))) (t_X6_addEdge_80 C hR S6 ((b6g_edges S6)) ((-1 : Int32)) Q h)
  · replace h := h.2 c
    refine bs_aload_n C (bf_dk dd_X6_addEdge 40 rfl) rfl ?_
    refine bs_get C (bf_dk dd_X6_addEdge 41 rfl) cl_6 in_6 14 (Nat.le_of_ble_eq_true rfl) rfl f_6_55 (ge_bW6_0 S6) rfl ?_
    refine bs_goto C (bf_dk dd_X6_addEdge 42 rfl) (tgt := 80) rfl ?_
    exact bs_weak (bf_s1 (bf_sn (bf_sn (bf_sn bf_s0)))) (t_X6_addEdge_80 C hR S6 ((b6g_edges S6)) ((b6g_children S6)) Q h)
def wp_X6_addEdge (S : bT6) (a1 : Int32) (a2 : Int32) (a3 : Int32) (Q : (bT6) → Prop) : Prop := (((296 : Int32) ≤ (b6g_edges S) → (Q S)) ∧ (¬ (296 : Int32) ≤ (b6g_edges S) → ((¬ a3 = (-1 : Int32) → (wp_X6_addEdge_25 S (a1) (a2) (a3) ((b6g_children S)) ((0 : Int32)) Q)) ∧ (a3 = (-1 : Int32) → (wp_X6_addEdge_25 S (a1) (a2) (a3) ((b6g_children S)) ((1 : Int32)) Q)))))
set_option maxRecDepth 20000 in
theorem t_X6_addEdge {X : bf_X} (C : bf_C X RX6 cX6_addEdge 4 none) (hR : bf_Rm X 0 0) (S : bT6) (a1 : Int32) (a2 : Int32) (a3 : Int32) (Q : (bT6) → Prop) (h : wp_X6_addEdge S a1 a2 a3 Q) : bf_A X (bf_Zv X bW6 Q) 4 0 [some (.ref 0), some (.int a1), some (.int a2), some (.int a3)] [] (bW6 S) := by
  unfold wp_X6_addEdge at h
  refine bs_aload_n C (bf_dk dd_X6_addEdge 0 rfl) rfl ?_
  refine bs_get C (bf_dk dd_X6_addEdge 1 rfl) cl_6 in_6 13 (Nat.le_of_ble_eq_true rfl) rfl f_6_52 (ge_bW6_0 S) rfl ?_
  refine bs_sipush C (bf_dk dd_X6_addEdge 2 rfl) (296 : Int32) (by decide) ?_
  refine bs_icmp_ge C (bf_dk dd_X6_addEdge 3 rfl) (tgt := 91) rfl (fun c => ?_) (fun c => ?_)
  · replace h := h.1 c
    exact bs_vret (u := S) C (bf_dk dd_X6_addEdge 51 rfl) rfl h
  · replace h := h.2 c
    refine bs_aload_n C (bf_dk dd_X6_addEdge 4 rfl) rfl ?_
    refine bs_dup C (bf_dk dd_X6_addEdge 5 rfl) rfl ?_
    refine bs_get C (bf_dk dd_X6_addEdge 6 rfl) cl_6 in_6 14 (Nat.le_of_ble_eq_true rfl) rfl f_6_55 (ge_bW6_0 S) rfl ?_
    refine bs_iload_n C (bf_dk dd_X6_addEdge 7 rfl) rfl ?_
    refine bs_iconst C (bf_dk dd_X6_addEdge 8 rfl) (-1 : Int32) (by decide) ?_
    refine bs_icmp_ne C (bf_dk dd_X6_addEdge 9 rfl) (tgt := 24) rfl (fun c => ?_) (fun c => ?_)
    · replace h := h.1 c
      refine bs_iconst C (bf_dk dd_X6_addEdge 12 rfl) (0 : Int32) (by decide) ?_
      exact bs_weak (bf_s1 (bf_s1 (bf_s1 (bf_s1 bf_s0)))) (t_X6_addEdge_25 C hR S (a1) (a2) (a3) ((b6g_children S)) ((0 : Int32)) Q h)
    · replace h := h.2 c
      refine bs_iconst C (bf_dk dd_X6_addEdge 10 rfl) (1 : Int32) (by decide) ?_
      refine bs_goto C (bf_dk dd_X6_addEdge 11 rfl) (tgt := 25) rfl ?_
      exact bs_weak (bf_s1 (bf_s1 (bf_s1 (bf_s1 bf_s0)))) (t_X6_addEdge_25 C hR S (a1) (a2) (a3) ((b6g_children S)) ((1 : Int32)) Q h)
theorem c_X6_addEdge (l : Launch) (dC : Nat → ClassId) (dI : Nat → Nat → Nat) (ac : Nat → ClassId) (al : Nat → Nat) (S : bT6) (a1 : Int32) (a2 : Int32) (a3 : Int32) (Q : (bT6) → Prop) (h : wp_X6_addEdge S a1 a2 a3 Q) : bf_M l yX6_addEdge cX6_addEdge 4 none 0 0 dC dI ac al [.ref 0, .int a1, .int a2, .int a3] (bW6 S) (bf_Kv dC dI ac al bW6 Q) := by
  refine bf_start [some (.ref 0), some (.int a1), some (.int a2), some (.int a3)] (by decide) (Nat.le_of_ble_eq_true rfl) (bf_s1 (bf_s1 (bf_s1 (bf_s1 bf_s0)))) ?_
  intro X hl C hR e1 e2 e3 e4
  subst e1; subst e2; subst e3; subst e4
  exact t_X6_addEdge C hR S a1 a2 a3 Q h
def wp_X6_findEdgesOf_139 (S : bT6 × bT1) (x1 : Int32) (x3 : Int32) (x5 : Int32) (x6 : Int32) (x7 : Int32) (Q : (bT6 × bT1) → Prop) (B39 : Int32 → Int32 → Int32 → Int32 → Int32 → (bT6 × bT1) → Prop) : Prop := (B39 (x1) (x3) (x5) (x6) ((x7 + (1 : Int32))) S)
set_option maxRecDepth 20000 in
theorem t_X6_findEdgesOf_139 {X : bf_X} (C : bf_C X RX6 cX6_findEdgesOf 10 none) (hR : bf_Rm X 2 42) (S : bT6 × bT1) (x1 : Int32) (x3 : Int32) (x5 : Int32) (x6 : Int32) (x7 : Int32) (Q : (bT6 × bT1) → Prop) (B39 : Int32 → Int32 → Int32 → Int32 → Int32 → (bT6 × bT1) → Prop) (hB39 : ∀ (x1 : Int32) (x3 : Int32) (x5 : Int32) (x6 : Int32) (x7 : Int32) (S : bT6 × bT1), B39 x1 x3 x5 x6 x7 S → bf_A X (bf_Zv X bW6_1 Q) 10 39 [some (.ref 0), some (.int x1), some (.ref 13), some (.int x3), none, some (.int x5), some (.int x6), some (.int x7), none, none] [] (bW6_1 S)) (h : wp_X6_findEdgesOf_139 S x1 x3 x5 x6 x7 Q B39) : bf_A X (bf_Zv X bW6_1 Q) 10 139 [some (.ref 0), some (.int x1), some (.ref 13), some (.int x3), none, some (.int x5), some (.int x6), some (.int x7), none, none] [] (bW6_1 S) := by
  unfold wp_X6_findEdgesOf_139 at h
  refine bs_iinc C (bf_dk dd_X6_findEdgesOf 71 rfl) (x7 + (1 : Int32)) rfl rfl (Nat.le_of_ble_eq_true rfl) (Nat.le_of_ble_eq_true rfl) (lv2 := [some (.ref 0), some (.int x1), some (.ref 13), some (.int x3), none, some (.int x5), some (.int x6), some (.int (x7 + (1 : Int32))), none, none]) rfl ?_
  refine bs_goto C (bf_dk dd_X6_findEdgesOf 72 rfl) (tgt := 39) rfl ?_
  exact bs_weak (bf_s1 (bf_s1 (bf_s1 (bf_s1 (bf_sn (bf_s1 (bf_s1 (bf_s1 (bf_sn (bf_sn bf_s0)))))))))) (hB39 (x1) (x3) (x5) (x6) ((x7 + (1 : Int32))) S h)
def wp_X6_findEdgesOf_135 (S : bT6 × bT1) (x1 : Int32) (x3 : Int32) (x5 : Int32) (x7 : Int32) (x8 : Int32) (Q : (bT6 × bT1) → Prop) (B39 : Int32 → Int32 → Int32 → Int32 → Int32 → (bT6 × bT1) → Prop) : Prop := (wp_X6_findEdgesOf_139 S (x1) (x3) (x5) (x8) (x7) Q B39)
set_option maxRecDepth 20000 in
theorem t_X6_findEdgesOf_135 {X : bf_X} (C : bf_C X RX6 cX6_findEdgesOf 10 none) (hR : bf_Rm X 2 42) (S : bT6 × bT1) (x1 : Int32) (x3 : Int32) (x5 : Int32) (x7 : Int32) (x8 : Int32) (Q : (bT6 × bT1) → Prop) (B39 : Int32 → Int32 → Int32 → Int32 → Int32 → (bT6 × bT1) → Prop) (hB39 : ∀ (x1 : Int32) (x3 : Int32) (x5 : Int32) (x6 : Int32) (x7 : Int32) (S : bT6 × bT1), B39 x1 x3 x5 x6 x7 S → bf_A X (bf_Zv X bW6_1 Q) 10 39 [some (.ref 0), some (.int x1), some (.ref 13), some (.int x3), none, some (.int x5), some (.int x6), some (.int x7), none, none] [] (bW6_1 S)) (h : wp_X6_findEdgesOf_135 S x1 x3 x5 x7 x8 Q B39) : bf_A X (bf_Zv X bW6_1 Q) 10 135 [some (.ref 0), some (.int x1), some (.ref 13), some (.int x3), none, some (.int x5), none, some (.int x7), some (.int x8), none] [] (bW6_1 S) := by
  unfold wp_X6_findEdgesOf_135 at h
  refine bs_iload C (bf_dk dd_X6_findEdgesOf 69 rfl) rfl ?_
  refine bs_istore C (bf_dk dd_X6_findEdgesOf 70 rfl) (Nat.le_of_ble_eq_true rfl) (Nat.le_of_ble_eq_true rfl) (lv2 := [some (.ref 0), some (.int x1), some (.ref 13), some (.int x3), none, some (.int x5), some (.int x8), some (.int x7), some (.int x8), none]) rfl ?_
  exact bs_weak (bf_s1 (bf_s1 (bf_s1 (bf_s1 (bf_sn (bf_s1 (bf_s1 (bf_s1 (bf_sn (bf_sn bf_s0)))))))))) (t_X6_findEdgesOf_139 C hR S (x1) (x3) (x5) (x8) (x7) Q B39 hB39 h)
def wp_X6_findEdgesOf_132 (S : bT6 × bT1) (x1 : Int32) (x3 : Int32) (x5 : Int32) (x7 : Int32) (x8 : Int32) (t1 : Int32) (t2 : Int32) (t3 : Int32) (Q : (bT6 × bT1) → Prop) (B39 : Int32 → Int32 → Int32 → Int32 → Int32 → (bT6 × bT1) → Prop) : Prop := (wp_X6_addEdge S.1 (t1) (t2) (t3) (fun u2 => (∀ S3 : bT6 × bT1, S3 = (u2, S.2) → (wp_X6_findEdgesOf_135 S3 (x1) (x3) (x5) (x7) (x8) Q B39))))
set_option maxRecDepth 20000 in
theorem t_X6_findEdgesOf_132 {X : bf_X} (C : bf_C X RX6 cX6_findEdgesOf 10 none) (hR : bf_Rm X 2 42) (S : bT6 × bT1) (x1 : Int32) (x3 : Int32) (x5 : Int32) (x7 : Int32) (x8 : Int32) (t1 : Int32) (t2 : Int32) (t3 : Int32) (Q : (bT6 × bT1) → Prop) (B39 : Int32 → Int32 → Int32 → Int32 → Int32 → (bT6 × bT1) → Prop) (hB39 : ∀ (x1 : Int32) (x3 : Int32) (x5 : Int32) (x6 : Int32) (x7 : Int32) (S : bT6 × bT1), B39 x1 x3 x5 x6 x7 S → bf_A X (bf_Zv X bW6_1 Q) 10 39 [some (.ref 0), some (.int x1), some (.ref 13), some (.int x3), none, some (.int x5), some (.int x6), some (.int x7), none, none] [] (bW6_1 S)) (h : wp_X6_findEdgesOf_132 S x1 x3 x5 x7 x8 t1 t2 t3 Q B39) : bf_A X (bf_Zv X bW6_1 Q) 10 132 [some (.ref 0), some (.int x1), some (.ref 13), some (.int x3), none, some (.int x5), none, some (.int x7), some (.int x8), none] [.int t3, .int t2, .int t1, .ref 0] (bW6_1 S) := by
  unfold wp_X6_findEdgesOf_132 at h
  refine bs_callV_v (ps := [0, 1, 2, 3, 4, 5, 6, 7, 8, 9, 10, 11, 12]) (w := (bW6_1 S)) C hR (c_X6_addEdge _ _ _ _ _ S.1 (t1) (t2) (t3) _ h) my_X6_addEdge m_6_131 rfl cl_6 (ge_bW6_0 _) rfl (Nat.le_of_ble_eq_true rfl) (Nat.le_of_ble_eq_true rfl) (su_bW6_1_0_bW6 S) bnd_0t12 (st := []) (Nat.le_of_ble_eq_true rfl) (bf_dk dd_X6_findEdgesOf 68 rfl) rfl (fun _ => rfl) (w2 := fun u2 => bW6_1 (u2, S.2)) (pt_bW6_1_0_bW6 S) (fun u2 h => ?_)
  refine bs_nameS bW6_1 (fun S3 eS3 => ?_)
  replace h := h S3 eS3
  exact bs_weak (bf_s1 (bf_s1 (bf_s1 (bf_s1 (bf_sn (bf_s1 (bf_sn (bf_s1 (bf_s1 (bf_sn bf_s0)))))))))) (t_X6_findEdgesOf_135 C hR S3 (x1) (x3) (x5) (x7) (x8) Q B39 hB39 h)
def wp_X6_findEdgesOf_115 (S : bT6 × bT1) (x1 : Int32) (x3 : Int32) (x5 : Int32) (x7 : Int32) (x8 : Int32) (t0 : Int32) (Q : (bT6 × bT1) → Prop) (B39 : Int32 → Int32 → Int32 → Int32 → Int32 → (bT6 × bT1) → Prop) : Prop := ((t0 = 0 → (wp_X6_findEdgesOf_132 S (x1) (x3) (x5) (x7) (x8) (x1) (x8) ((-1 : Int32)) Q B39)) ∧ (¬ t0 = 0 → (wp_X6_findEdgesOf_132 S (x1) (x3) (x5) (x7) (x8) (x1) (x8) (x7) Q B39)))
set_option maxRecDepth 20000 in
theorem t_X6_findEdgesOf_115 {X : bf_X} (C : bf_C X RX6 cX6_findEdgesOf 10 none) (hR : bf_Rm X 2 42) (S : bT6 × bT1) (x1 : Int32) (x3 : Int32) (x5 : Int32) (x7 : Int32) (x8 : Int32) (t0 : Int32) (Q : (bT6 × bT1) → Prop) (B39 : Int32 → Int32 → Int32 → Int32 → Int32 → (bT6 × bT1) → Prop) (hB39 : ∀ (x1 : Int32) (x3 : Int32) (x5 : Int32) (x6 : Int32) (x7 : Int32) (S : bT6 × bT1), B39 x1 x3 x5 x6 x7 S → bf_A X (bf_Zv X bW6_1 Q) 10 39 [some (.ref 0), some (.int x1), some (.ref 13), some (.int x3), none, some (.int x5), some (.int x6), some (.int x7), none, none] [] (bW6_1 S)) (h : wp_X6_findEdgesOf_115 S x1 x3 x5 x7 x8 t0 Q B39) : bf_A X (bf_Zv X bW6_1 Q) 10 115 [some (.ref 0), some (.int x1), some (.ref 13), some (.int x3), none, some (.int x5), none, some (.int x7), some (.int x8), none] [.int t0] (bW6_1 S) := by
  unfold wp_X6_findEdgesOf_115 at h
  refine bs_istore C (bf_dk dd_X6_findEdgesOf 59 rfl) (Nat.le_of_ble_eq_true rfl) (Nat.le_of_ble_eq_true rfl) (lv2 := [some (.ref 0), some (.int x1), some (.ref 13), some (.int x3), none, some (.int x5), none, some (.int x7), some (.int x8), some (.int t0)]) rfl ?_
  refine bs_aload_n C (bf_dk dd_X6_findEdgesOf 60 rfl) rfl ?_
  refine bs_iload_n C (bf_dk dd_X6_findEdgesOf 61 rfl) rfl ?_
  refine bs_iload C (bf_dk dd_X6_findEdgesOf 62 rfl) rfl ?_
  refine bs_iload C (bf_dk dd_X6_findEdgesOf 63 rfl) rfl ?_
  refine bs_if_eq C (bf_dk dd_X6_findEdgesOf 64 rfl) (tgt := 131) rfl (fun c => ?_) (fun c => ?_)
  · replace h := h.1 c
    refine bs_iconst C (bf_dk dd_X6_findEdgesOf 67 rfl) (-1 : Int32) (by decide) ?_
    exact bs_weak (bf_s1 (bf_s1 (bf_s1 (bf_s1 (bf_sn (bf_s1 (bf_sn (bf_s1 (bf_s1 (bf_sn bf_s0)))))))))) (t_X6_findEdgesOf_132 C hR S (x1) (x3) (x5) (x7) (x8) (x1) (x8) ((-1 : Int32)) Q B39 hB39 h)
  · replace h := h.2 c
    refine bs_iload C (bf_dk dd_X6_findEdgesOf 65 rfl) rfl ?_
    refine bs_goto C (bf_dk dd_X6_findEdgesOf 66 rfl) (tgt := 132) rfl ?_
    exact bs_weak (bf_s1 (bf_s1 (bf_s1 (bf_s1 (bf_sn (bf_s1 (bf_sn (bf_s1 (bf_s1 (bf_sn bf_s0)))))))))) (t_X6_findEdgesOf_132 C hR S (x1) (x3) (x5) (x7) (x8) (x1) (x8) (x7) Q B39 hB39 h)
def wp_X6_findEdgesOf_114 (S : bT6 × bT1) (x1 : Int32) (x3 : Int32) (x5 : Int32) (x7 : Int32) (x8 : Int32) (Q : (bT6 × bT1) → Prop) (B39 : Int32 → Int32 → Int32 → Int32 → Int32 → (bT6 × bT1) → Prop) : Prop := (wp_X6_findEdgesOf_115 S (x1) (x3) (x5) (x7) (x8) ((0 : Int32)) Q B39)
set_option maxRecDepth 20000 in
theorem t_X6_findEdgesOf_114 {X : bf_X} (C : bf_C X RX6 cX6_findEdgesOf 10 none) (hR : bf_Rm X 2 42) (S : bT6 × bT1) (x1 : Int32) (x3 : Int32) (x5 : Int32) (x7 : Int32) (x8 : Int32) (Q : (bT6 × bT1) → Prop) (B39 : Int32 → Int32 → Int32 → Int32 → Int32 → (bT6 × bT1) → Prop) (hB39 : ∀ (x1 : Int32) (x3 : Int32) (x5 : Int32) (x6 : Int32) (x7 : Int32) (S : bT6 × bT1), B39 x1 x3 x5 x6 x7 S → bf_A X (bf_Zv X bW6_1 Q) 10 39 [some (.ref 0), some (.int x1), some (.ref 13), some (.int x3), none, some (.int x5), some (.int x6), some (.int x7), none, none] [] (bW6_1 S)) (h : wp_X6_findEdgesOf_114 S x1 x3 x5 x7 x8 Q B39) : bf_A X (bf_Zv X bW6_1 Q) 10 114 [some (.ref 0), some (.int x1), some (.ref 13), some (.int x3), none, some (.int x5), none, some (.int x7), some (.int x8), none] [] (bW6_1 S) := by
  unfold wp_X6_findEdgesOf_114 at h
  refine bs_iconst C (bf_dk dd_X6_findEdgesOf 58 rfl) (0 : Int32) (by decide) ?_
  exact bs_weak (bf_s1 (bf_s1 (bf_s1 (bf_s1 (bf_sn (bf_s1 (bf_sn (bf_s1 (bf_s1 (bf_sn bf_s0)))))))))) (t_X6_findEdgesOf_115 C hR S (x1) (x3) (x5) (x7) (x8) ((0 : Int32)) Q B39 hB39 h)
def wp_X6_findEdgesOf_39b (S : bT6 × bT1) (x1 : Int32) (x3 : Int32) (x5 : Int32) (x6 : Int32) (x7 : Int32) (Q : (bT6 × bT1) → Prop) (B39 : Int32 → Int32 → Int32 → Int32 → Int32 → (bT6 × bT1) → Prop) : Prop := ((x5 ≤ x7 → (Q S)) ∧ (¬ x5 ≤ x7 → (wp_X1_lengthAt S.2 (x7) (fun r4 => ((¬ r4 = x3 → (wp_X0_bytesAt (b1g_owners S.2) (x7) (fun r6 => (wp_X8_octetAt (r6) (x3) (fun r8 => ((r8 = x6 → (wp_X6_findEdgesOf_135 S (x1) (x3) (x5) (x7) (r8) Q B39)) ∧ (¬ r8 = x6 → (wp_X1_lengthAt S.2 (x7) (fun r10 => ((¬ r10 = (x3 + (1 : Int32)) → (wp_X6_findEdgesOf_114 S (x1) (x3) (x5) (x7) (r8) Q B39)) ∧ (r10 = (x3 + (1 : Int32)) → (wp_X1_isEnded S.2 (x7) (fun r12 => ((¬ r12 = 0 → (wp_X6_findEdgesOf_114 S (x1) (x3) (x5) (x7) (r8) Q B39)) ∧ (r12 = 0 → (wp_X6_findEdgesOf_115 S (x1) (x3) (x5) (x7) (r8) ((1 : Int32)) Q B39)))))))))))))))) ∧ (r4 = x3 → (wp_X6_addEdge S.1 (x1) ((-1 : Int32)) (x7) (fun u15 => (∀ S16 : bT6 × bT1, S16 = (u15, S.2) → (wp_X6_findEdgesOf_139 S16 (x1) (x3) (x5) (x6) (x7) Q B39))))))))))
set_option maxRecDepth 20000 in
theorem t_X6_findEdgesOf_39b {X : bf_X} (C : bf_C X RX6 cX6_findEdgesOf 10 none) (hR : bf_Rm X 2 42) (S : bT6 × bT1) (x1 : Int32) (x3 : Int32) (x5 : Int32) (x6 : Int32) (x7 : Int32) (Q : (bT6 × bT1) → Prop) (B39 : Int32 → Int32 → Int32 → Int32 → Int32 → (bT6 × bT1) → Prop) (hB39 : ∀ (x1 : Int32) (x3 : Int32) (x5 : Int32) (x6 : Int32) (x7 : Int32) (S : bT6 × bT1), B39 x1 x3 x5 x6 x7 S → bf_A X (bf_Zv X bW6_1 Q) 10 39 [some (.ref 0), some (.int x1), some (.ref 13), some (.int x3), none, some (.int x5), some (.int x6), some (.int x7), none, none] [] (bW6_1 S)) (h : wp_X6_findEdgesOf_39b S x1 x3 x5 x6 x7 Q B39) : bf_A X (bf_Zv X bW6_1 Q) 10 39 [some (.ref 0), some (.int x1), some (.ref 13), some (.int x3), none, some (.int x5), some (.int x6), some (.int x7), none, none] [] (bW6_1 S) := by
  unfold wp_X6_findEdgesOf_39b at h
  refine bs_iload C (bf_dk dd_X6_findEdgesOf 21 rfl) rfl ?_
  refine bs_iload C (bf_dk dd_X6_findEdgesOf 22 rfl) rfl ?_
  refine bs_icmp_ge C (bf_dk dd_X6_findEdgesOf 23 rfl) (tgt := 145) rfl (fun c => ?_) (fun c => ?_)
  · replace h := h.1 c
    exact bs_vret (u := S) C (bf_dk dd_X6_findEdgesOf 73 rfl) rfl h
  · replace h := h.2 c
    refine bs_aload_n C (bf_dk dd_X6_findEdgesOf 24 rfl) rfl ?_
    refine bs_iload C (bf_dk dd_X6_findEdgesOf 25 rfl) rfl ?_
    refine bs_pureV_i (ps := [13, 14, 15, 16, 17, 18, 19, 20, 21, 22, 23, 24, 25, 26]) (w := (bW6_1 S)) C hR (c_X1_lengthAt _ _ _ _ _ S.2 (x7) _ h) my_X1_lengthAt m_6_104 rfl cl_1 (ge_bW1_0 _) rfl (Nat.le_of_ble_eq_true rfl) (Nat.le_of_ble_eq_true rfl) (su_bW6_1_13_bW1 S) bnd_13t26 (st := []) (Nat.le_of_ble_eq_true rfl) (bf_dk dd_X6_findEdgesOf 26 rfl) rfl (fun _ => rfl) (fun r4 h => ?_)
    refine bs_iload_n C (bf_dk dd_X6_findEdgesOf 27 rfl) rfl ?_
    refine bs_icmp_ne C (bf_dk dd_X6_findEdgesOf 28 rfl) (tgt := 67) rfl (fun c => ?_) (fun c => ?_)
    · replace h := h.1 c
      refine bs_aload_n C (bf_dk dd_X6_findEdgesOf 35 rfl) rfl ?_
      refine bs_get C (bf_dk dd_X6_findEdgesOf 36 rfl) cl_1 in_1 0 (Nat.le_of_ble_eq_true rfl) rfl f_6_111 (ge_bW6_1_13 S) rfl ?_
      refine bs_iload C (bf_dk dd_X6_findEdgesOf 37 rfl) rfl ?_
      refine bs_pureV_l (ps := [14, 15, 16]) (w := (bW6_1 S)) C hR (c_X0_bytesAt _ _ _ _ _ (b1g_owners S.2) (x7) _ h) my_X0_bytesAt m_6_115 rfl cl_0 (ge_bW0_0 _) rfl (Nat.le_of_ble_eq_true rfl) (Nat.le_of_ble_eq_true rfl) (su_bW6_1_14_bW0 S) rfl (st := []) (Nat.le_of_ble_eq_true rfl) (bf_dk dd_X6_findEdgesOf 38 rfl) rfl (fun _ => rfl) (fun r6 h => ?_)
      refine bs_iload_n C (bf_dk dd_X6_findEdgesOf 39 rfl) rfl ?_
      refine bs_pureSN_i (ps := []) (w := (bW6_1 S)) C hR (c_X8_octetAt _ _ _ _ _ (r6) (x3) _ h) my_X8_octetAt m_6_135 rfl (Nat.le_of_ble_eq_true rfl) (Nat.le_of_ble_eq_true rfl) rfl rfl (st := []) (Nat.le_of_ble_eq_true rfl) (bf_dk dd_X6_findEdgesOf 40 rfl) rfl (fun _ => rfl) (fun r8 h => ?_)
      refine bs_istore C (bf_dk dd_X6_findEdgesOf 41 rfl) (Nat.le_of_ble_eq_true rfl) (Nat.le_of_ble_eq_true rfl) (lv2 := [some (.ref 0), some (.int x1), some (.ref 13), some (.int x3), none, some (.int x5), some (.int x6), some (.int x7), some (.int r8), none]) rfl ?_
      refine bs_iload C (bf_dk dd_X6_findEdgesOf 42 rfl) rfl ?_
      refine bs_iload C (bf_dk dd_X6_findEdgesOf 43 rfl) rfl ?_
      refine bs_icmp_eq C (bf_dk dd_X6_findEdgesOf 44 rfl) (tgt := 135) rfl (fun c => ?_) (fun c => ?_)
      · replace h := h.1 c
        exact bs_weak (bf_s1 (bf_s1 (bf_s1 (bf_s1 (bf_sn (bf_s1 (bf_sn (bf_s1 (bf_s1 (bf_sn bf_s0)))))))))) (t_X6_findEdgesOf_135 C hR S (x1) (x3) (x5) (x7) (r8) Q B39 hB39 h)
      · replace h := h.2 c
        refine bs_aload_n C (bf_dk dd_X6_findEdgesOf 45 rfl) rfl ?_
        refine bs_iload C (bf_dk dd_X6_findEdgesOf 46 rfl) rfl ?_
        refine bs_pureV_i (ps := [13, 14, 15, 16, 17, 18, 19, 20, 21, 22, 23, 24, 25, 26]) (w := (bW6_1 S)) C hR (c_X1_lengthAt _ _ _ _ _ S.2 (x7) _ h) my_X1_lengthAt m_6_104 rfl cl_1 (ge_bW1_0 _) rfl (Nat.le_of_ble_eq_true rfl) (Nat.le_of_ble_eq_true rfl) (su_bW6_1_13_bW1 S) bnd_13t26 (st := []) (Nat.le_of_ble_eq_true rfl) (bf_dk dd_X6_findEdgesOf 47 rfl) rfl (fun _ => rfl) (fun r10 h => ?_)
        refine bs_iload_n C (bf_dk dd_X6_findEdgesOf 48 rfl) rfl ?_
        refine bs_iconst C (bf_dk dd_X6_findEdgesOf 49 rfl) (1 : Int32) (by decide) ?_
        refine bs_iadd C (bf_dk dd_X6_findEdgesOf 50 rfl) ?_
        refine bs_icmp_ne C (bf_dk dd_X6_findEdgesOf 51 rfl) (tgt := 114) rfl (fun c => ?_) (fun c => ?_)
        · replace h := h.1 c
          exact bs_weak (bf_s1 (bf_s1 (bf_s1 (bf_s1 (bf_sn (bf_s1 (bf_sn (bf_s1 (bf_s1 (bf_sn bf_s0)))))))))) (t_X6_findEdgesOf_114 C hR S (x1) (x3) (x5) (x7) (r8) Q B39 hB39 h)
        · replace h := h.2 c
          refine bs_aload_n C (bf_dk dd_X6_findEdgesOf 52 rfl) rfl ?_
          refine bs_iload C (bf_dk dd_X6_findEdgesOf 53 rfl) rfl ?_
          refine bs_pureV_i (ps := [13, 14, 15, 16, 17, 18, 19, 20, 21, 22, 23, 24, 25, 26]) (w := (bW6_1 S)) C hR (c_X1_isEnded _ _ _ _ _ S.2 (x7) _ h) my_X1_isEnded m_6_107 rfl cl_1 (ge_bW1_0 _) rfl (Nat.le_of_ble_eq_true rfl) (Nat.le_of_ble_eq_true rfl) (su_bW6_1_13_bW1 S) bnd_13t26 (st := []) (Nat.le_of_ble_eq_true rfl) (bf_dk dd_X6_findEdgesOf 54 rfl) rfl (fun _ => rfl) (fun r12 h => ?_)
          refine bs_if_ne C (bf_dk dd_X6_findEdgesOf 55 rfl) (tgt := 114) rfl (fun c => ?_) (fun c => ?_)
          · replace h := h.1 c
            exact bs_weak (bf_s1 (bf_s1 (bf_s1 (bf_s1 (bf_sn (bf_s1 (bf_sn (bf_s1 (bf_s1 (bf_sn bf_s0)))))))))) (t_X6_findEdgesOf_114 C hR S (x1) (x3) (x5) (x7) (r8) Q B39 hB39 h)
          · replace h := h.2 c
            refine bs_iconst C (bf_dk dd_X6_findEdgesOf 56 rfl) (1 : Int32) (by decide) ?_
            refine bs_goto C (bf_dk dd_X6_findEdgesOf 57 rfl) (tgt := 115) rfl ?_
            exact bs_weak (bf_s1 (bf_s1 (bf_s1 (bf_s1 (bf_sn (bf_s1 (bf_sn (bf_s1 (bf_s1 (bf_sn bf_s0)))))))))) (t_X6_findEdgesOf_115 C hR S (x1) (x3) (x5) (x7) (r8) ((1 : Int32)) Q B39 hB39 h)
    · replace h := h.2 c
      refine bs_aload_n C (bf_dk dd_X6_findEdgesOf 29 rfl) rfl ?_
      refine bs_iload_n C (bf_dk dd_X6_findEdgesOf 30 rfl) rfl ?_
      refine bs_iconst C (bf_dk dd_X6_findEdgesOf 31 rfl) (-1 : Int32) (by decide) ?_
      refine bs_iload C (bf_dk dd_X6_findEdgesOf 32 rfl) rfl ?_
      refine bs_callV_v (ps := [0, 1, 2, 3, 4, 5, 6, 7, 8, 9, 10, 11, 12]) (w := (bW6_1 S)) C hR (c_X6_addEdge _ _ _ _ _ S.1 (x1) ((-1 : Int32)) (x7) _ h) my_X6_addEdge m_6_131 rfl cl_6 (ge_bW6_0 _) rfl (Nat.le_of_ble_eq_true rfl) (Nat.le_of_ble_eq_true rfl) (su_bW6_1_0_bW6 S) bnd_0t12 (st := []) (Nat.le_of_ble_eq_true rfl) (bf_dk dd_X6_findEdgesOf 33 rfl) rfl (fun _ => rfl) (w2 := fun u15 => bW6_1 (u15, S.2)) (pt_bW6_1_0_bW6 S) (fun u15 h => ?_)
      refine bs_nameS bW6_1 (fun S16 eS16 => ?_)
      replace h := h S16 eS16
      refine bs_goto C (bf_dk dd_X6_findEdgesOf 34 rfl) (tgt := 139) rfl ?_
      exact bs_weak (bf_s1 (bf_s1 (bf_s1 (bf_s1 (bf_sn (bf_s1 (bf_s1 (bf_s1 (bf_sn (bf_sn bf_s0)))))))))) (t_X6_findEdgesOf_139 C hR S16 (x1) (x3) (x5) (x6) (x7) Q B39 hB39 h)
def wp_X6_findEdgesOf_39 (S : bT6 × bT1) (x1 : Int32) (x3 : Int32) (x5 : Int32) (x6 : Int32) (x7 : Int32) (Q : (bT6 × bT1) → Prop) : Prop := ∃ I : Nat → Int32 → Int32 → Int32 → Int32 → Int32 → (bT6 × bT1) → Prop, (∃ n : Nat, I n x1 x3 x5 x6 x7 S) ∧ ∀ (n : Nat) (x1 : Int32) (x3 : Int32) (x5 : Int32) (x6 : Int32) (x7 : Int32) (S : bT6 × bT1), I n x1 x3 x5 x6 x7 S → wp_X6_findEdgesOf_39b S x1 x3 x5 x6 x7 Q (fun x1 x3 x5 x6 x7 S => ∃ n2 : Nat, n2 < n ∧ I n2 x1 x3 x5 x6 x7 S)
theorem t_X6_findEdgesOf_39 {X : bf_X} (C : bf_C X RX6 cX6_findEdgesOf 10 none) (hR : bf_Rm X 2 42) (S : bT6 × bT1) (x1 : Int32) (x3 : Int32) (x5 : Int32) (x6 : Int32) (x7 : Int32) (Q : (bT6 × bT1) → Prop) (h : wp_X6_findEdgesOf_39 S x1 x3 x5 x6 x7 Q) : bf_A X (bf_Zv X bW6_1 Q) 10 39 [some (.ref 0), some (.int x1), some (.ref 13), some (.int x3), none, some (.int x5), some (.int x6), some (.int x7), none, none] [] (bW6_1 S) := by
  obtain ⟨I, ⟨n0, h0⟩, hI⟩ := h
  have key : ∀ (n : Nat) (x1 : Int32) (x3 : Int32) (x5 : Int32) (x6 : Int32) (x7 : Int32) (S : bT6 × bT1), I n x1 x3 x5 x6 x7 S → bf_A X (bf_Zv X bW6_1 Q) 10 39 [some (.ref 0), some (.int x1), some (.ref 13), some (.int x3), none, some (.int x5), some (.int x6), some (.int x7), none, none] [] (bW6_1 S) := by
    intro n
    induction n using Nat.strongRecOn with
    | _ n ih =>
      intro x1 x3 x5 x6 x7 S hi
      exact t_X6_findEdgesOf_39b C hR S x1 x3 x5 x6 x7 Q _ (fun x1 x3 x5 x6 x7 S hb => by obtain ⟨n2, hn, hi2⟩ := hb; exact ih n2 hn x1 x3 x5 x6 x7 S hi2) (hI n x1 x3 x5 x6 x7 S hi)
  exact key n0 x1 x3 x5 x6 x7 S h0
def wp_X6_findEdgesOf (S : bT6 × bT1) (a1 : Int32) (Q : (bT6 × bT1) → Prop) : Prop := (wp_X8_at 232 (b6g_nodeLevels S.1) (a1) (fun r17 => (wp_X8_at 232 (b6g_firstLeaves S.1) (a1) (fun r19 => (wp_X8_at 232 (b6g_leafCounts S.1) (a1) (fun r21 => (wp_X6_findEdgesOf_39 S (a1) (r17) ((r19 + r21)) ((-1 : Int32)) (r19) Q)))))))
set_option maxRecDepth 20000 in
theorem t_X6_findEdgesOf {X : bf_X} (C : bf_C X RX6 cX6_findEdgesOf 10 none) (hR : bf_Rm X 2 42) (S : bT6 × bT1) (a1 : Int32) (Q : (bT6 × bT1) → Prop) (h : wp_X6_findEdgesOf S a1 Q) : bf_A X (bf_Zv X bW6_1 Q) 10 0 [some (.ref 0), some (.int a1), some (.ref 13), none, none, none, none, none, none, none] [] (bW6_1 S) := by
  unfold wp_X6_findEdgesOf at h
  refine bs_aload_n C (bf_dk dd_X6_findEdgesOf 0 rfl) rfl ?_
  refine bs_get C (bf_dk dd_X6_findEdgesOf 1 rfl) cl_6 in_6 0 (Nat.le_of_ble_eq_true rfl) rfl f_6_9 (ge_bW6_1_0 S) rfl ?_
  refine bs_iload_n C (bf_dk dd_X6_findEdgesOf 2 rfl) rfl ?_
  refine bs_pureSN_i (ps := [1]) (w := (bW6_1 S)) C hR (c_X8_at _ _ _ _ _ 232 (b6g_nodeLevels S.1) (a1) _ h) my_X8_at m_6_90 rfl (Nat.le_of_ble_eq_true rfl) (Nat.le_of_ble_eq_true rfl) (su_bW6_1_1_bWan232 S) rfl (st := []) (Nat.le_of_ble_eq_true rfl) (bf_dk dd_X6_findEdgesOf 3 rfl) rfl (fun _ => rfl) (fun r17 h => ?_)
  refine bs_istore_n C (bf_dk dd_X6_findEdgesOf 4 rfl) rfl (Nat.le_of_ble_eq_true rfl) (Nat.le_of_ble_eq_true rfl) (lv2 := [some (.ref 0), some (.int a1), some (.ref 13), some (.int r17), none, none, none, none, none, none]) rfl ?_
  refine bs_aload_n C (bf_dk dd_X6_findEdgesOf 5 rfl) rfl ?_
  refine bs_get C (bf_dk dd_X6_findEdgesOf 6 rfl) cl_6 in_6 1 (Nat.le_of_ble_eq_true rfl) rfl f_6_15 (ge_bW6_1_0 S) rfl ?_
  refine bs_iload_n C (bf_dk dd_X6_findEdgesOf 7 rfl) rfl ?_
  refine bs_pureSN_i (ps := [2]) (w := (bW6_1 S)) C hR (c_X8_at _ _ _ _ _ 232 (b6g_firstLeaves S.1) (a1) _ h) my_X8_at m_6_90 rfl (Nat.le_of_ble_eq_true rfl) (Nat.le_of_ble_eq_true rfl) (su_bW6_1_2_bWan232 S) rfl (st := []) (Nat.le_of_ble_eq_true rfl) (bf_dk dd_X6_findEdgesOf 8 rfl) rfl (fun _ => rfl) (fun r19 h => ?_)
  refine bs_istore C (bf_dk dd_X6_findEdgesOf 9 rfl) (Nat.le_of_ble_eq_true rfl) (Nat.le_of_ble_eq_true rfl) (lv2 := [some (.ref 0), some (.int a1), some (.ref 13), some (.int r17), some (.int r19), none, none, none, none, none]) rfl ?_
  refine bs_iload C (bf_dk dd_X6_findEdgesOf 10 rfl) rfl ?_
  refine bs_aload_n C (bf_dk dd_X6_findEdgesOf 11 rfl) rfl ?_
  refine bs_get C (bf_dk dd_X6_findEdgesOf 12 rfl) cl_6 in_6 2 (Nat.le_of_ble_eq_true rfl) rfl f_6_18 (ge_bW6_1_0 S) rfl ?_
  refine bs_iload_n C (bf_dk dd_X6_findEdgesOf 13 rfl) rfl ?_
  refine bs_pureSN_i (ps := [3]) (w := (bW6_1 S)) C hR (c_X8_at _ _ _ _ _ 232 (b6g_leafCounts S.1) (a1) _ h) my_X8_at m_6_90 rfl (Nat.le_of_ble_eq_true rfl) (Nat.le_of_ble_eq_true rfl) (su_bW6_1_3_bWan232 S) rfl (st := [.int r19]) (Nat.le_of_ble_eq_true rfl) (bf_dk dd_X6_findEdgesOf 14 rfl) rfl (fun _ => rfl) (fun r21 h => ?_)
  refine bs_iadd C (bf_dk dd_X6_findEdgesOf 15 rfl) ?_
  refine bs_istore C (bf_dk dd_X6_findEdgesOf 16 rfl) (Nat.le_of_ble_eq_true rfl) (Nat.le_of_ble_eq_true rfl) (lv2 := [some (.ref 0), some (.int a1), some (.ref 13), some (.int r17), some (.int r19), some (.int (r19 + r21)), none, none, none, none]) rfl ?_
  refine bs_iconst C (bf_dk dd_X6_findEdgesOf 17 rfl) (-1 : Int32) (by decide) ?_
  refine bs_istore C (bf_dk dd_X6_findEdgesOf 18 rfl) (Nat.le_of_ble_eq_true rfl) (Nat.le_of_ble_eq_true rfl) (lv2 := [some (.ref 0), some (.int a1), some (.ref 13), some (.int r17), some (.int r19), some (.int (r19 + r21)), some (.int (-1 : Int32)), none, none, none]) rfl ?_
  refine bs_iload C (bf_dk dd_X6_findEdgesOf 19 rfl) rfl ?_
  refine bs_istore C (bf_dk dd_X6_findEdgesOf 20 rfl) (Nat.le_of_ble_eq_true rfl) (Nat.le_of_ble_eq_true rfl) (lv2 := [some (.ref 0), some (.int a1), some (.ref 13), some (.int r17), some (.int r19), some (.int (r19 + r21)), some (.int (-1 : Int32)), some (.int r19), none, none]) rfl ?_
  exact bs_weak (bf_s1 (bf_s1 (bf_s1 (bf_s1 (bf_sn (bf_s1 (bf_s1 (bf_s1 (bf_sn (bf_sn bf_s0)))))))))) (t_X6_findEdgesOf_39 C hR S (a1) (r17) ((r19 + r21)) ((-1 : Int32)) (r19) Q h)
theorem c_X6_findEdgesOf (l : Launch) (dC : Nat → ClassId) (dI : Nat → Nat → Nat) (ac : Nat → ClassId) (al : Nat → Nat) (S : bT6 × bT1) (a1 : Int32) (Q : (bT6 × bT1) → Prop) (h : wp_X6_findEdgesOf S a1 Q) : bf_M l yX6_findEdgesOf cX6_findEdgesOf 10 none 2 42 dC dI ac al [.ref 0, .int a1, .ref 13] (bW6_1 S) (bf_Kv dC dI ac al bW6_1 Q) := by
  refine bf_start [some (.ref 0), some (.int a1), some (.ref 13), none, none, none, none, none, none, none] (by decide) (Nat.le_of_ble_eq_true rfl) (bf_s1 (bf_s1 (bf_s1 (bf_en 7)))) ?_
  intro X hl C hR e1 e2 e3 e4
  subst e1; subst e2; subst e3; subst e4
  exact t_X6_findEdgesOf C hR S a1 Q h
