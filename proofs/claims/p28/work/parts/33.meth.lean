def wp_X7_falseBy_46 (S : bT7) (x1 : Int32) (x2 : Int32) (x4 : Int32) (t0 : Int32) (t1 : Int32) (Q : Int32 → Prop) (B5 : Int32 → Int32 → Int32 → Int32 → Prop) : Prop := (B5 (x1) (x2) ((t0 + t1)) ((x4 + (1 : Int32))))
set_option maxRecDepth 20000 in
theorem t_X7_falseBy_46 {X : bf_X} (C : bf_C X RX7 cX7_falseBy 5 (some .int)) (hR : bf_Rm X 1 21) (S : bT7) (x1 : Int32) (x2 : Int32) (x4 : Int32) (t0 : Int32) (t1 : Int32) (Q : Int32 → Prop) (B5 : Int32 → Int32 → Int32 → Int32 → Prop) (hB5 : ∀ (x1 : Int32) (x2 : Int32) (x3 : Int32) (x4 : Int32), B5 x1 x2 x3 x4 → bf_A X (bf_Zi X bW7 (fun r u => u = S ∧ Q r)) 5 5 [some (.ref 0), some (.int x1), some (.int x2), some (.int x3), some (.int x4)] [] (bW7 S)) (h : wp_X7_falseBy_46 S x1 x2 x4 t0 t1 Q B5) : bf_A X (bf_Zi X bW7 (fun r u => u = S ∧ Q r)) 5 46 [some (.ref 0), some (.int x1), some (.int x2), none, some (.int x4)] [.int t1, .int t0] (bW7 S) := by
  unfold wp_X7_falseBy_46 at h
  refine bs_iadd C (bf_dk dd_X7_falseBy 24 rfl) ?_
  refine bs_istore_n C (bf_dk dd_X7_falseBy 25 rfl) rfl (Nat.le_of_ble_eq_true rfl) (Nat.le_of_ble_eq_true rfl) (lv2 := [some (.ref 0), some (.int x1), some (.int x2), some (.int (t0 + t1)), some (.int x4)]) rfl ?_
  refine bs_iinc C (bf_dk dd_X7_falseBy 26 rfl) (x4 + (1 : Int32)) rfl rfl (Nat.le_of_ble_eq_true rfl) (Nat.le_of_ble_eq_true rfl) (lv2 := [some (.ref 0), some (.int x1), some (.int x2), some (.int (t0 + t1)), some (.int (x4 + (1 : Int32)))]) rfl ?_
  refine bs_goto C (bf_dk dd_X7_falseBy 27 rfl) (tgt := 5) rfl ?_
  exact bs_weak (bf_s1 (bf_s1 (bf_s1 (bf_s1 (bf_s1 bf_s0))))) (hB5 (x1) (x2) ((t0 + t1)) ((x4 + (1 : Int32))) h)
def wp_X7_falseBy_45 (S : bT7) (x1 : Int32) (x2 : Int32) (x4 : Int32) (t0 : Int32) (Q : Int32 → Prop) (B5 : Int32 → Int32 → Int32 → Int32 → Prop) : Prop := (wp_X7_falseBy_46 S (x1) (x2) (x4) (t0) ((0 : Int32)) Q B5)
set_option maxRecDepth 20000 in
theorem t_X7_falseBy_45 {X : bf_X} (C : bf_C X RX7 cX7_falseBy 5 (some .int)) (hR : bf_Rm X 1 21) (S : bT7) (x1 : Int32) (x2 : Int32) (x4 : Int32) (t0 : Int32) (Q : Int32 → Prop) (B5 : Int32 → Int32 → Int32 → Int32 → Prop) (hB5 : ∀ (x1 : Int32) (x2 : Int32) (x3 : Int32) (x4 : Int32), B5 x1 x2 x3 x4 → bf_A X (bf_Zi X bW7 (fun r u => u = S ∧ Q r)) 5 5 [some (.ref 0), some (.int x1), some (.int x2), some (.int x3), some (.int x4)] [] (bW7 S)) (h : wp_X7_falseBy_45 S x1 x2 x4 t0 Q B5) : bf_A X (bf_Zi X bW7 (fun r u => u = S ∧ Q r)) 5 45 [some (.ref 0), some (.int x1), some (.int x2), none, some (.int x4)] [.int t0] (bW7 S) := by
  unfold wp_X7_falseBy_45 at h
  refine bs_iconst C (bf_dk dd_X7_falseBy 23 rfl) (0 : Int32) (by decide) ?_
  exact bs_weak (bf_s1 (bf_s1 (bf_s1 (bf_sn (bf_s1 bf_s0))))) (t_X7_falseBy_46 C hR S (x1) (x2) (x4) (t0) ((0 : Int32)) Q B5 hB5 h)
def wp_X7_falseBy_5b (S : bT7) (x1 : Int32) (x2 : Int32) (x3 : Int32) (x4 : Int32) (Q : Int32 → Prop) (B5 : Int32 → Int32 → Int32 → Int32 → Prop) : Prop := (((b7g_count S) ≤ x4 → (Q x3)) ∧ (¬ (b7g_count S) ≤ x4 → (wp_X8_at 16 (b7g_likeHash S) (x4) (fun r1 => ((r1 < x1 → (wp_X7_falseBy_45 S (x1) (x2) (x4) (x3) Q B5)) ∧ (¬ r1 < x1 → (wp_X8_at 16 (b7g_likeNext S) (x4) (fun r3 => ((r3 < x2 → (wp_X7_falseBy_45 S (x1) (x2) (x4) (x3) Q B5)) ∧ (¬ r3 < x2 → (wp_X7_falseBy_46 S (x1) (x2) (x4) (x3) ((1 : Int32)) Q B5)))))))))))
set_option maxRecDepth 20000 in
theorem t_X7_falseBy_5b {X : bf_X} (C : bf_C X RX7 cX7_falseBy 5 (some .int)) (hR : bf_Rm X 1 21) (S : bT7) (x1 : Int32) (x2 : Int32) (x3 : Int32) (x4 : Int32) (Q : Int32 → Prop) (B5 : Int32 → Int32 → Int32 → Int32 → Prop) (hB5 : ∀ (x1 : Int32) (x2 : Int32) (x3 : Int32) (x4 : Int32), B5 x1 x2 x3 x4 → bf_A X (bf_Zi X bW7 (fun r u => u = S ∧ Q r)) 5 5 [some (.ref 0), some (.int x1), some (.int x2), some (.int x3), some (.int x4)] [] (bW7 S)) (h : wp_X7_falseBy_5b S x1 x2 x3 x4 Q B5) : bf_A X (bf_Zi X bW7 (fun r u => u = S ∧ Q r)) 5 5 [some (.ref 0), some (.int x1), some (.int x2), some (.int x3), some (.int x4)] [] (bW7 S) := by
  unfold wp_X7_falseBy_5b at h
  refine bs_iload C (bf_dk dd_X7_falseBy 4 rfl) rfl ?_
  refine bs_aload_n C (bf_dk dd_X7_falseBy 5 rfl) rfl ?_
  refine bs_get C (bf_dk dd_X7_falseBy 6 rfl) cl_7 in_7 2 (Nat.le_of_ble_eq_true rfl) rfl f_7_18 (ge_bW7_0 S) rfl ?_
  refine bs_icmp_ge C (bf_dk dd_X7_falseBy 7 rfl) (tgt := 54) rfl (fun c => ?_) (fun c => ?_)
  · replace h := h.1 c
    refine bs_iload_n C (bf_dk dd_X7_falseBy 28 rfl) rfl ?_
    exact bs_iret (u := S) C (bf_dk dd_X7_falseBy 29 rfl) rfl ⟨rfl, h⟩
  · replace h := h.2 c
    refine bs_iload_n C (bf_dk dd_X7_falseBy 8 rfl) rfl ?_
    refine bs_aload_n C (bf_dk dd_X7_falseBy 9 rfl) rfl ?_
    refine bs_get C (bf_dk dd_X7_falseBy 10 rfl) cl_7 in_7 0 (Nat.le_of_ble_eq_true rfl) rfl f_7_9 (ge_bW7_0 S) rfl ?_
    refine bs_iload C (bf_dk dd_X7_falseBy 11 rfl) rfl ?_
    refine bs_pureSN_i (ps := [1]) (w := (bW7 S)) C hR (c_X8_at _ _ _ _ _ 16 (b7g_likeHash S) (x4) _ h) my_X8_at m_7_81 rfl (Nat.le_of_ble_eq_true rfl) (Nat.le_of_ble_eq_true rfl) (su_bW7_1_bWan16 S) rfl (st := [.int x3]) (Nat.le_of_ble_eq_true rfl) (bf_dk dd_X7_falseBy 12 rfl) rfl (fun _ => rfl) (fun r1 h => ?_)
    refine bs_iload_n C (bf_dk dd_X7_falseBy 13 rfl) rfl ?_
    refine bs_icmp_lt C (bf_dk dd_X7_falseBy 14 rfl) (tgt := 45) rfl (fun c => ?_) (fun c => ?_)
    · replace h := h.1 c
      exact bs_weak (bf_s1 (bf_s1 (bf_s1 (bf_sn (bf_s1 bf_s0))))) (t_X7_falseBy_45 C hR S (x1) (x2) (x4) (x3) Q B5 hB5 h)
    · replace h := h.2 c
      refine bs_aload_n C (bf_dk dd_X7_falseBy 15 rfl) rfl ?_
      refine bs_get C (bf_dk dd_X7_falseBy 16 rfl) cl_7 in_7 1 (Nat.le_of_ble_eq_true rfl) rfl f_7_15 (ge_bW7_0 S) rfl ?_
      refine bs_iload C (bf_dk dd_X7_falseBy 17 rfl) rfl ?_
      refine bs_pureSN_i (ps := [2]) (w := (bW7 S)) C hR (c_X8_at _ _ _ _ _ 16 (b7g_likeNext S) (x4) _ h) my_X8_at m_7_81 rfl (Nat.le_of_ble_eq_true rfl) (Nat.le_of_ble_eq_true rfl) (su_bW7_2_bWan16 S) rfl (st := [.int x3]) (Nat.le_of_ble_eq_true rfl) (bf_dk dd_X7_falseBy 18 rfl) rfl (fun _ => rfl) (fun r3 h => ?_)
      refine bs_iload_n C (bf_dk dd_X7_falseBy 19 rfl) rfl ?_
      refine bs_icmp_lt C (bf_dk dd_X7_falseBy 20 rfl) (tgt := 45) rfl (fun c => ?_) (fun c => ?_)
      · replace h := h.1 c
        exact bs_weak (bf_s1 (bf_s1 (bf_s1 (bf_sn (bf_s1 bf_s0))))) (t_X7_falseBy_45 C hR S (x1) (x2) (x4) (x3) Q B5 hB5 h)
      · replace h := h.2 c
        refine bs_iconst C (bf_dk dd_X7_falseBy 21 rfl) (1 : Int32) (by decide) ?_
        refine bs_goto C (bf_dk dd_X7_falseBy 22 rfl) (tgt := 46) rfl ?_
        exact bs_weak (bf_s1 (bf_s1 (bf_s1 (bf_sn (bf_s1 bf_s0))))) (t_X7_falseBy_46 C hR S (x1) (x2) (x4) (x3) ((1 : Int32)) Q B5 hB5 h)
def wp_X7_falseBy_5 (S : bT7) (x1 : Int32) (x2 : Int32) (x3 : Int32) (x4 : Int32) (Q : Int32 → Prop) : Prop := ∃ I : Nat → Int32 → Int32 → Int32 → Int32 → Prop, (∃ n : Nat, I n x1 x2 x3 x4) ∧ ∀ (n : Nat) (x1 : Int32) (x2 : Int32) (x3 : Int32) (x4 : Int32), I n x1 x2 x3 x4 → wp_X7_falseBy_5b S x1 x2 x3 x4 Q (fun x1 x2 x3 x4 => ∃ n2 : Nat, n2 < n ∧ I n2 x1 x2 x3 x4)
theorem t_X7_falseBy_5 {X : bf_X} (C : bf_C X RX7 cX7_falseBy 5 (some .int)) (hR : bf_Rm X 1 21) (S : bT7) (x1 : Int32) (x2 : Int32) (x3 : Int32) (x4 : Int32) (Q : Int32 → Prop) (h : wp_X7_falseBy_5 S x1 x2 x3 x4 Q) : bf_A X (bf_Zi X bW7 (fun r u => u = S ∧ Q r)) 5 5 [some (.ref 0), some (.int x1), some (.int x2), some (.int x3), some (.int x4)] [] (bW7 S) := by
  obtain ⟨I, ⟨n0, h0⟩, hI⟩ := h
  have key : ∀ (n : Nat) (x1 : Int32) (x2 : Int32) (x3 : Int32) (x4 : Int32), I n x1 x2 x3 x4 → bf_A X (bf_Zi X bW7 (fun r u => u = S ∧ Q r)) 5 5 [some (.ref 0), some (.int x1), some (.int x2), some (.int x3), some (.int x4)] [] (bW7 S) := by
    intro n
    induction n using Nat.strongRecOn with
    | _ n ih =>
      intro x1 x2 x3 x4 hi
      exact t_X7_falseBy_5b C hR S x1 x2 x3 x4 Q _ (fun x1 x2 x3 x4 hb => by obtain ⟨n2, hn, hi2⟩ := hb; exact ih n2 hn x1 x2 x3 x4 hi2) (hI n x1 x2 x3 x4 hi)
  exact key n0 x1 x2 x3 x4 h0
def wp_X7_falseBy (S : bT7) (a1 : Int32) (a2 : Int32) (Q : Int32 → Prop) : Prop := (wp_X7_falseBy_5 S (a1) (a2) ((0 : Int32)) ((0 : Int32)) Q)
set_option maxRecDepth 20000 in
theorem t_X7_falseBy {X : bf_X} (C : bf_C X RX7 cX7_falseBy 5 (some .int)) (hR : bf_Rm X 1 21) (S : bT7) (a1 : Int32) (a2 : Int32) (Q : Int32 → Prop) (h : wp_X7_falseBy S a1 a2 Q) : bf_A X (bf_Zi X bW7 (fun r u => u = S ∧ Q r)) 5 0 [some (.ref 0), some (.int a1), some (.int a2), none, none] [] (bW7 S) := by
  unfold wp_X7_falseBy at h
  refine bs_iconst C (bf_dk dd_X7_falseBy 0 rfl) (0 : Int32) (by decide) ?_
  refine bs_istore_n C (bf_dk dd_X7_falseBy 1 rfl) rfl (Nat.le_of_ble_eq_true rfl) (Nat.le_of_ble_eq_true rfl) (lv2 := [some (.ref 0), some (.int a1), some (.int a2), some (.int (0 : Int32)), none]) rfl ?_
  refine bs_iconst C (bf_dk dd_X7_falseBy 2 rfl) (0 : Int32) (by decide) ?_
  refine bs_istore C (bf_dk dd_X7_falseBy 3 rfl) (Nat.le_of_ble_eq_true rfl) (Nat.le_of_ble_eq_true rfl) (lv2 := [some (.ref 0), some (.int a1), some (.int a2), some (.int (0 : Int32)), some (.int (0 : Int32))]) rfl ?_
  exact bs_weak (bf_s1 (bf_s1 (bf_s1 (bf_s1 (bf_s1 bf_s0))))) (t_X7_falseBy_5 C hR S (a1) (a2) ((0 : Int32)) ((0 : Int32)) Q h)
theorem c_X7_falseBy (l : Launch) (dC : Nat → ClassId) (dI : Nat → Nat → Nat) (ac : Nat → ClassId) (al : Nat → Nat) (S : bT7) (a1 : Int32) (a2 : Int32) (Q : Int32 → Prop) (h : wp_X7_falseBy S a1 a2 Q) : bf_M l yX7_falseBy cX7_falseBy 5 (some .int) 1 21 dC dI ac al [.ref 0, .int a1, .int a2] (bW7 S) (bf_Ki dC dI ac al bW7 (fun r u => u = S ∧ Q r)) := by
  refine bf_start [some (.ref 0), some (.int a1), some (.int a2), none, none] (by decide) (Nat.le_of_ble_eq_true rfl) (bf_s1 (bf_s1 (bf_s1 (bf_en 2)))) ?_
  intro X hl C hR e1 e2 e3 e4
  subst e1; subst e2; subst e3; subst e4
  exact t_X7_falseBy C hR S a1 a2 Q h
def wp_X7_tune_145 (S : bT7 × bT1 × bT0) (x3 : Int32) (x4 : Int32) (x5 : Int32) (Q : (bT7 × bT1 × bT0) → Prop) (B73 : Int32 → Int32 → (bT7 × bT1 × bT0) → Prop) (B90 : Int32 → Int32 → Int32 → (bT7 × bT1 × bT0) → Prop) : Prop := (B90 (x3) (x4) ((x5 + (1 : Int32))) S)
set_option maxRecDepth 20000 in
theorem t_X7_tune_145 {X : bf_X} (C : bf_C X RX7 cX7_tune 7 none) (hR : bf_Rm X 5 127) (S : bT7 × bT1 × bT0) (x3 : Int32) (x4 : Int32) (x5 : Int32) (Q : (bT7 × bT1 × bT0) → Prop) (B73 : Int32 → Int32 → (bT7 × bT1 × bT0) → Prop) (B90 : Int32 → Int32 → Int32 → (bT7 × bT1 × bT0) → Prop) (hB73 : ∀ (x3 : Int32) (x4 : Int32) (S : bT7 × bT1 × bT0), B73 x3 x4 S → bf_A X (bf_Zv X bW7_1_0 Q) 7 73 [some (.ref 0), none, none, some (.int x3), some (.int x4), none, none] [] (bW7_1_0 S)) (hB90 : ∀ (x3 : Int32) (x4 : Int32) (x5 : Int32) (S : bT7 × bT1 × bT0), B90 x3 x4 x5 S → bf_A X (bf_Zv X bW7_1_0 Q) 7 90 [some (.ref 0), none, none, some (.int x3), some (.int x4), some (.int x5), none] [] (bW7_1_0 S)) (h : wp_X7_tune_145 S x3 x4 x5 Q B73 B90) : bf_A X (bf_Zv X bW7_1_0 Q) 7 145 [some (.ref 0), none, none, some (.int x3), some (.int x4), some (.int x5), none] [] (bW7_1_0 S) := by
  unfold wp_X7_tune_145 at h
  refine bs_iinc C (bf_dk dd_X7_tune 74 rfl) (x5 + (1 : Int32)) rfl rfl (Nat.le_of_ble_eq_true rfl) (Nat.le_of_ble_eq_true rfl) (lv2 := [some (.ref 0), none, none, some (.int x3), some (.int x4), some (.int (x5 + (1 : Int32))), none]) rfl ?_
  refine bs_goto C (bf_dk dd_X7_tune 75 rfl) (tgt := 90) rfl ?_
  exact bs_weak (bf_s1 (bf_sn (bf_sn (bf_s1 (bf_s1 (bf_s1 (bf_sn bf_s0))))))) (hB90 (x3) (x4) ((x5 + (1 : Int32))) S h)
def wp_X7_tune_90b (S : bT7 × bT1 × bT0) (x3 : Int32) (x4 : Int32) (x5 : Int32) (Q : (bT7 × bT1 × bT0) → Prop) (B73 : Int32 → Int32 → (bT7 × bT1 × bT0) → Prop) (B90 : Int32 → Int32 → Int32 → (bT7 × bT1 × bT0) → Prop) : Prop := (((if (8 : Int32) < x4 then (8 : Int32) else x4) < x5 → (B73 (x3) ((x4 + (1 : Int32))) S)) ∧ (¬ (if (8 : Int32) < x4 then (8 : Int32) else x4) < x5 → (wp_X7_falseBy S.1 (x5) ((x4 - x5)) (fun r1 => (((b7g_falsely S.1) ≤ r1 → (wp_X7_tune_145 S (x3) (x4) (x5) Q B73 B90)) ∧ (¬ (b7g_falsely S.1) ≤ r1 → (∀ S3 : bT7 × bT1 × bT0, S3 = ((b7s_falsely S.1 r1), S.2) → (∀ S4 : bT7 × bT1 × bT0, S4 = ((b7s_hashBits S3.1 x5), S3.2) → (∀ S5 : bT7 × bT1 × bT0, S5 = ((b7s_realBits S4.1 (x4 - x5)), S4.2) → (wp_X7_tune_145 S5 (x3) (x4) (x5) Q B73 B90))))))))))
set_option maxRecDepth 20000 in
theorem t_X7_tune_90b {X : bf_X} (C : bf_C X RX7 cX7_tune 7 none) (hR : bf_Rm X 5 127) (S : bT7 × bT1 × bT0) (x3 : Int32) (x4 : Int32) (x5 : Int32) (Q : (bT7 × bT1 × bT0) → Prop) (B73 : Int32 → Int32 → (bT7 × bT1 × bT0) → Prop) (B90 : Int32 → Int32 → Int32 → (bT7 × bT1 × bT0) → Prop) (hB73 : ∀ (x3 : Int32) (x4 : Int32) (S : bT7 × bT1 × bT0), B73 x3 x4 S → bf_A X (bf_Zv X bW7_1_0 Q) 7 73 [some (.ref 0), none, none, some (.int x3), some (.int x4), none, none] [] (bW7_1_0 S)) (hB90 : ∀ (x3 : Int32) (x4 : Int32) (x5 : Int32) (S : bT7 × bT1 × bT0), B90 x3 x4 x5 S → bf_A X (bf_Zv X bW7_1_0 Q) 7 90 [some (.ref 0), none, none, some (.int x3), some (.int x4), some (.int x5), none] [] (bW7_1_0 S)) (h : wp_X7_tune_90b S x3 x4 x5 Q B73 B90) : bf_A X (bf_Zv X bW7_1_0 Q) 7 90 [some (.ref 0), none, none, some (.int x3), some (.int x4), some (.int x5), none] [] (bW7_1_0 S) := by
  unfold wp_X7_tune_90b at h
  refine bs_iload C (bf_dk dd_X7_tune 47 rfl) rfl ?_
  refine bs_iload C (bf_dk dd_X7_tune 48 rfl) rfl ?_
  refine bs_bipush C (bf_dk dd_X7_tune 49 rfl) (8 : Int32) (by decide) ?_
  refine bs_mmin C hR m_7_34 ma_min.1 ma_min.2.1 ma_min.2.2 (Nat.le_of_ble_eq_true rfl) (Nat.le_of_ble_eq_true rfl) (bf_dk dd_X7_tune 50 rfl) ?_
  refine bs_icmp_gt C (bf_dk dd_X7_tune 51 rfl) (tgt := 151) rfl (fun c => ?_) (fun c => ?_)
  · replace h := h.1 c
    refine bs_iinc C (bf_dk dd_X7_tune 76 rfl) (x4 + (1 : Int32)) rfl rfl (Nat.le_of_ble_eq_true rfl) (Nat.le_of_ble_eq_true rfl) (lv2 := [some (.ref 0), none, none, some (.int x3), some (.int (x4 + (1 : Int32))), some (.int x5), none]) rfl ?_
    refine bs_goto C (bf_dk dd_X7_tune 77 rfl) (tgt := 73) rfl ?_
    exact bs_weak (bf_s1 (bf_sn (bf_sn (bf_s1 (bf_s1 (bf_sn (bf_sn bf_s0))))))) (hB73 (x3) ((x4 + (1 : Int32))) S h)
  · replace h := h.2 c
    refine bs_aload_n C (bf_dk dd_X7_tune 52 rfl) rfl ?_
    refine bs_iload C (bf_dk dd_X7_tune 53 rfl) rfl ?_
    refine bs_iload C (bf_dk dd_X7_tune 54 rfl) rfl ?_
    refine bs_iload C (bf_dk dd_X7_tune 55 rfl) rfl ?_
    refine bs_isub C (bf_dk dd_X7_tune 56 rfl) ?_
    refine bs_pureV_i (ps := [0, 1, 2]) (w := (bW7_1_0 S)) C hR (c_X7_falseBy _ _ _ _ _ S.1 (x5) ((x4 - x5)) _ h) my_X7_falseBy m_7_52 rfl cl_7 (ge_bW7_0 _) rfl (Nat.le_of_ble_eq_true rfl) (Nat.le_of_ble_eq_true rfl) (su_bW7_1_0_0_bW7 S) rfl (st := []) (Nat.le_of_ble_eq_true rfl) (bf_dk dd_X7_tune 57 rfl) rfl (fun _ => rfl) (fun r1 h => ?_)
    refine bs_istore C (bf_dk dd_X7_tune 58 rfl) (Nat.le_of_ble_eq_true rfl) (Nat.le_of_ble_eq_true rfl) (lv2 := [some (.ref 0), none, none, some (.int x3), some (.int x4), some (.int x5), some (.int r1)]) rfl ?_
    refine bs_iload C (bf_dk dd_X7_tune 59 rfl) rfl ?_
    refine bs_aload_n C (bf_dk dd_X7_tune 60 rfl) rfl ?_
    refine bs_get C (bf_dk dd_X7_tune 61 rfl) cl_7 in_7 5 (Nat.le_of_ble_eq_true rfl) rfl f_7_28 (ge_bW7_1_0_0 S) rfl ?_
    refine bs_icmp_ge C (bf_dk dd_X7_tune 62 rfl) (tgt := 145) rfl (fun c => ?_) (fun c => ?_)
    · replace h := h.1 c
      exact bs_weak (bf_s1 (bf_sn (bf_sn (bf_s1 (bf_s1 (bf_s1 (bf_sn bf_s0))))))) (t_X7_tune_145 C hR S (x3) (x4) (x5) Q B73 B90 hB73 hB90 h)
    · replace h := h.2 c
      refine bs_aload_n C (bf_dk dd_X7_tune 63 rfl) rfl ?_
      refine bs_iload C (bf_dk dd_X7_tune 64 rfl) rfl ?_
      refine bs_put C (bf_dk dd_X7_tune 65 rfl) tyX7_ok nmX7 cl_7 in_7 5 (Nat.le_of_ble_eq_true rfl) rfl f_7_28 rfl (ge_bW7_1_0_0 S) (Nat.le_of_ble_eq_true rfl) rfl rfl (pu_bW7_1_0_0_5 S r1) ?_
      refine bs_nameS bW7_1_0 (fun S3 eS3 => ?_)
      replace h := h S3 eS3
      refine bs_aload_n C (bf_dk dd_X7_tune 66 rfl) rfl ?_
      refine bs_iload C (bf_dk dd_X7_tune 67 rfl) rfl ?_
      refine bs_put C (bf_dk dd_X7_tune 68 rfl) tyX7_ok nmX7 cl_7 in_7 3 (Nat.le_of_ble_eq_true rfl) rfl f_7_22 rfl (ge_bW7_1_0_0 S3) (Nat.le_of_ble_eq_true rfl) rfl rfl (pu_bW7_1_0_0_3 S3 x5) ?_
      refine bs_nameS bW7_1_0 (fun S4 eS4 => ?_)
      replace h := h S4 eS4
      refine bs_aload_n C (bf_dk dd_X7_tune 69 rfl) rfl ?_
      refine bs_iload C (bf_dk dd_X7_tune 70 rfl) rfl ?_
      refine bs_iload C (bf_dk dd_X7_tune 71 rfl) rfl ?_
      refine bs_isub C (bf_dk dd_X7_tune 72 rfl) ?_
      refine bs_put C (bf_dk dd_X7_tune 73 rfl) tyX7_ok nmX7 cl_7 in_7 4 (Nat.le_of_ble_eq_true rfl) rfl f_7_25 rfl (ge_bW7_1_0_0 S4) (Nat.le_of_ble_eq_true rfl) rfl rfl (pu_bW7_1_0_0_4 S4 (x4 - x5)) ?_
      refine bs_nameS bW7_1_0 (fun S5 eS5 => ?_)
      replace h := h S5 eS5
      exact bs_weak (bf_s1 (bf_sn (bf_sn (bf_s1 (bf_s1 (bf_s1 (bf_sn bf_s0))))))) (t_X7_tune_145 C hR S5 (x3) (x4) (x5) Q B73 B90 hB73 hB90 h)
def wp_X7_tune_90 (S : bT7 × bT1 × bT0) (x3 : Int32) (x4 : Int32) (x5 : Int32) (Q : (bT7 × bT1 × bT0) → Prop) (B73 : Int32 → Int32 → (bT7 × bT1 × bT0) → Prop) : Prop := ∃ I : Nat → Int32 → Int32 → Int32 → (bT7 × bT1 × bT0) → Prop, (∃ n : Nat, I n x3 x4 x5 S) ∧ ∀ (n : Nat) (x3 : Int32) (x4 : Int32) (x5 : Int32) (S : bT7 × bT1 × bT0), I n x3 x4 x5 S → wp_X7_tune_90b S x3 x4 x5 Q B73 (fun x3 x4 x5 S => ∃ n2 : Nat, n2 < n ∧ I n2 x3 x4 x5 S)
theorem t_X7_tune_90 {X : bf_X} (C : bf_C X RX7 cX7_tune 7 none) (hR : bf_Rm X 5 127) (S : bT7 × bT1 × bT0) (x3 : Int32) (x4 : Int32) (x5 : Int32) (Q : (bT7 × bT1 × bT0) → Prop) (B73 : Int32 → Int32 → (bT7 × bT1 × bT0) → Prop) (hB73 : ∀ (x3 : Int32) (x4 : Int32) (S : bT7 × bT1 × bT0), B73 x3 x4 S → bf_A X (bf_Zv X bW7_1_0 Q) 7 73 [some (.ref 0), none, none, some (.int x3), some (.int x4), none, none] [] (bW7_1_0 S)) (h : wp_X7_tune_90 S x3 x4 x5 Q B73) : bf_A X (bf_Zv X bW7_1_0 Q) 7 90 [some (.ref 0), none, none, some (.int x3), some (.int x4), some (.int x5), none] [] (bW7_1_0 S) := by
  obtain ⟨I, ⟨n0, h0⟩, hI⟩ := h
  have key : ∀ (n : Nat) (x3 : Int32) (x4 : Int32) (x5 : Int32) (S : bT7 × bT1 × bT0), I n x3 x4 x5 S → bf_A X (bf_Zv X bW7_1_0 Q) 7 90 [some (.ref 0), none, none, some (.int x3), some (.int x4), some (.int x5), none] [] (bW7_1_0 S) := by
    intro n
    induction n using Nat.strongRecOn with
    | _ n ih =>
      intro x3 x4 x5 S hi
      exact t_X7_tune_90b C hR S x3 x4 x5 Q B73 _ hB73 (fun x3 x4 x5 S hb => by obtain ⟨n2, hn, hi2⟩ := hb; exact ih n2 hn x3 x4 x5 S hi2) (hI n x3 x4 x5 S hi)
  exact key n0 x3 x4 x5 S h0
def wp_X7_tune_73b (S : bT7 × bT1 × bT0) (x3 : Int32) (x4 : Int32) (Q : (bT7 × bT1 × bT0) → Prop) (B73 : Int32 → Int32 → (bT7 × bT1 × bT0) → Prop) : Prop := ((x3 < x4 → (Q S)) ∧ (¬ x3 < x4 → (∀ v6 : Int32, v6 = (if (x4 - (8 : Int32)) < (0 : Int32) then (0 : Int32) else (x4 - (8 : Int32))) → (wp_X7_tune_90 S (x3) (x4) (v6) Q B73))))
set_option maxRecDepth 20000 in
theorem t_X7_tune_73b {X : bf_X} (C : bf_C X RX7 cX7_tune 7 none) (hR : bf_Rm X 5 127) (S : bT7 × bT1 × bT0) (x3 : Int32) (x4 : Int32) (Q : (bT7 × bT1 × bT0) → Prop) (B73 : Int32 → Int32 → (bT7 × bT1 × bT0) → Prop) (hB73 : ∀ (x3 : Int32) (x4 : Int32) (S : bT7 × bT1 × bT0), B73 x3 x4 S → bf_A X (bf_Zv X bW7_1_0 Q) 7 73 [some (.ref 0), none, none, some (.int x3), some (.int x4), none, none] [] (bW7_1_0 S)) (h : wp_X7_tune_73b S x3 x4 Q B73) : bf_A X (bf_Zv X bW7_1_0 Q) 7 73 [some (.ref 0), none, none, some (.int x3), some (.int x4), none, none] [] (bW7_1_0 S) := by
  unfold wp_X7_tune_73b at h
  refine bs_iload C (bf_dk dd_X7_tune 38 rfl) rfl ?_
  refine bs_iload_n C (bf_dk dd_X7_tune 39 rfl) rfl ?_
  refine bs_icmp_gt C (bf_dk dd_X7_tune 40 rfl) (tgt := 157) rfl (fun c => ?_) (fun c => ?_)
  · replace h := h.1 c
    exact bs_vret (u := S) C (bf_dk dd_X7_tune 78 rfl) rfl h
  · replace h := h.2 c
    refine bs_iload C (bf_dk dd_X7_tune 41 rfl) rfl ?_
    refine bs_bipush C (bf_dk dd_X7_tune 42 rfl) (8 : Int32) (by decide) ?_
    refine bs_isub C (bf_dk dd_X7_tune 43 rfl) ?_
    refine bs_iconst C (bf_dk dd_X7_tune 44 rfl) (0 : Int32) (by decide) ?_
    refine bs_mmax C hR m_7_55 ma_max.1 ma_max.2.1 ma_max.2.2 (Nat.le_of_ble_eq_true rfl) (Nat.le_of_ble_eq_true rfl) (bf_dk dd_X7_tune 45 rfl) ?_
    refine bs_name (fun v6 ev6 => ?_)
    replace h := h v6 ev6
    refine bs_istore C (bf_dk dd_X7_tune 46 rfl) (Nat.le_of_ble_eq_true rfl) (Nat.le_of_ble_eq_true rfl) (lv2 := [some (.ref 0), none, none, some (.int x3), some (.int x4), some (.int v6), none]) rfl ?_
    exact bs_weak (bf_s1 (bf_sn (bf_sn (bf_s1 (bf_s1 (bf_s1 (bf_sn bf_s0))))))) (t_X7_tune_90 C hR S (x3) (x4) (v6) Q B73 hB73 h)
def wp_X7_tune_73 (S : bT7 × bT1 × bT0) (x3 : Int32) (x4 : Int32) (Q : (bT7 × bT1 × bT0) → Prop) : Prop := ∃ I : Nat → Int32 → Int32 → (bT7 × bT1 × bT0) → Prop, (∃ n : Nat, I n x3 x4 S) ∧ ∀ (n : Nat) (x3 : Int32) (x4 : Int32) (S : bT7 × bT1 × bT0), I n x3 x4 S → wp_X7_tune_73b S x3 x4 Q (fun x3 x4 S => ∃ n2 : Nat, n2 < n ∧ I n2 x3 x4 S)
theorem t_X7_tune_73 {X : bf_X} (C : bf_C X RX7 cX7_tune 7 none) (hR : bf_Rm X 5 127) (S : bT7 × bT1 × bT0) (x3 : Int32) (x4 : Int32) (Q : (bT7 × bT1 × bT0) → Prop) (h : wp_X7_tune_73 S x3 x4 Q) : bf_A X (bf_Zv X bW7_1_0 Q) 7 73 [some (.ref 0), none, none, some (.int x3), some (.int x4), none, none] [] (bW7_1_0 S) := by
  obtain ⟨I, ⟨n0, h0⟩, hI⟩ := h
  have key : ∀ (n : Nat) (x3 : Int32) (x4 : Int32) (S : bT7 × bT1 × bT0), I n x3 x4 S → bf_A X (bf_Zv X bW7_1_0 Q) 7 73 [some (.ref 0), none, none, some (.int x3), some (.int x4), none, none] [] (bW7_1_0 S) := by
    intro n
    induction n using Nat.strongRecOn with
    | _ n ih =>
      intro x3 x4 S hi
      exact t_X7_tune_73b C hR S x3 x4 Q _ (fun x3 x4 S hb => by obtain ⟨n2, hn, hi2⟩ := hb; exact ih n2 hn x3 x4 S hi2) (hI n x3 x4 S hi)
  exact key n0 x3 x4 S h0
def wp_X7_tune_16b (S : bT7 × bT1 × bT0) (x3 : Int32) (x4 : Int32) (Q : (bT7 × bT1 × bT0) → Prop) (B16 : Int32 → Int32 → (bT7 × bT1 × bT0) → Prop) : Prop := (((b7g_count S.1) ≤ x4 → (∀ S7 : bT7 × bT1 × bT0, S7 = ((b7s_hashBits S.1 (0 : Int32)), S.2) → (∀ S8 : bT7 × bT1 × bT0, S8 = ((b7s_realBits S7.1 (0 : Int32)), S7.2) → (wp_X7_falseBy S8.1 ((0 : Int32)) ((0 : Int32)) (fun r9 => (∀ S11 : bT7 × bT1 × bT0, S11 = ((b7s_falsely S8.1 r9), S8.2) → (wp_X7_tune_73 S11 (x3) ((1 : Int32)) Q))))))) ∧ (¬ (b7g_count S.1) ≤ x4 → (wp_X0_bytesAt S.2.2 (x4) (fun r12 => (wp_X0_lengthAt S.2.2 (x4) (fun r14 => (wp_X7_compare (S.1, S.2.1) (r12) (r14) (x4) (fun u17 => (∀ S18 : bT7 × bT1 × bT0, S18 = ((u17.1, S.2).1, u17.2, (u17.1, S.2).2.2) → (B16 (x3) ((x4 + (1 : Int32))) S18))))))))))
set_option maxRecDepth 20000 in
theorem t_X7_tune_16b {X : bf_X} (C : bf_C X RX7 cX7_tune 7 none) (hR : bf_Rm X 5 127) (S : bT7 × bT1 × bT0) (x3 : Int32) (x4 : Int32) (Q : (bT7 × bT1 × bT0) → Prop) (B16 : Int32 → Int32 → (bT7 × bT1 × bT0) → Prop) (hB16 : ∀ (x3 : Int32) (x4 : Int32) (S : bT7 × bT1 × bT0), B16 x3 x4 S → bf_A X (bf_Zv X bW7_1_0 Q) 7 16 [some (.ref 0), some (.ref 3), some (.ref 17), some (.int x3), some (.int x4), none, none] [] (bW7_1_0 S)) (h : wp_X7_tune_16b S x3 x4 Q B16) : bf_A X (bf_Zv X bW7_1_0 Q) 7 16 [some (.ref 0), some (.ref 3), some (.ref 17), some (.int x3), some (.int x4), none, none] [] (bW7_1_0 S) := by
  unfold wp_X7_tune_16b at h
  refine bs_iload C (bf_dk dd_X7_tune 8 rfl) rfl ?_
  refine bs_aload_n C (bf_dk dd_X7_tune 9 rfl) rfl ?_
  refine bs_get C (bf_dk dd_X7_tune 10 rfl) cl_7 in_7 2 (Nat.le_of_ble_eq_true rfl) rfl f_7_18 (ge_bW7_1_0_0 S) rfl ?_
  refine bs_icmp_ge C (bf_dk dd_X7_tune 11 rfl) (tgt := 50) rfl (fun c => ?_) (fun c => ?_)
  · replace h := h.1 c
    refine bs_aload_n C (bf_dk dd_X7_tune 24 rfl) rfl ?_
    refine bs_iconst C (bf_dk dd_X7_tune 25 rfl) (0 : Int32) (by decide) ?_
    refine bs_put C (bf_dk dd_X7_tune 26 rfl) tyX7_ok nmX7 cl_7 in_7 3 (Nat.le_of_ble_eq_true rfl) rfl f_7_22 rfl (ge_bW7_1_0_0 S) (Nat.le_of_ble_eq_true rfl) rfl rfl (pu_bW7_1_0_0_3 S (0 : Int32)) ?_
    refine bs_nameS bW7_1_0 (fun S7 eS7 => ?_)
    replace h := h S7 eS7
    refine bs_aload_n C (bf_dk dd_X7_tune 27 rfl) rfl ?_
    refine bs_iconst C (bf_dk dd_X7_tune 28 rfl) (0 : Int32) (by decide) ?_
    refine bs_put C (bf_dk dd_X7_tune 29 rfl) tyX7_ok nmX7 cl_7 in_7 4 (Nat.le_of_ble_eq_true rfl) rfl f_7_25 rfl (ge_bW7_1_0_0 S7) (Nat.le_of_ble_eq_true rfl) rfl rfl (pu_bW7_1_0_0_4 S7 (0 : Int32)) ?_
    refine bs_nameS bW7_1_0 (fun S8 eS8 => ?_)
    replace h := h S8 eS8
    refine bs_aload_n C (bf_dk dd_X7_tune 30 rfl) rfl ?_
    refine bs_aload_n C (bf_dk dd_X7_tune 31 rfl) rfl ?_
    refine bs_iconst C (bf_dk dd_X7_tune 32 rfl) (0 : Int32) (by decide) ?_
    refine bs_iconst C (bf_dk dd_X7_tune 33 rfl) (0 : Int32) (by decide) ?_
    refine bs_pureV_i (ps := [0, 1, 2]) (w := (bW7_1_0 S8)) C hR (c_X7_falseBy _ _ _ _ _ S8.1 ((0 : Int32)) ((0 : Int32)) _ h) my_X7_falseBy m_7_52 rfl cl_7 (ge_bW7_0 _) rfl (Nat.le_of_ble_eq_true rfl) (Nat.le_of_ble_eq_true rfl) (su_bW7_1_0_0_bW7 S8) rfl (st := [.ref 0]) (Nat.le_of_ble_eq_true rfl) (bf_dk dd_X7_tune 34 rfl) rfl (fun _ => rfl) (fun r9 h => ?_)
    refine bs_put C (bf_dk dd_X7_tune 35 rfl) tyX7_ok nmX7 cl_7 in_7 5 (Nat.le_of_ble_eq_true rfl) rfl f_7_28 rfl (ge_bW7_1_0_0 S8) (Nat.le_of_ble_eq_true rfl) rfl rfl (pu_bW7_1_0_0_5 S8 r9) ?_
    refine bs_nameS bW7_1_0 (fun S11 eS11 => ?_)
    replace h := h S11 eS11
    refine bs_iconst C (bf_dk dd_X7_tune 36 rfl) (1 : Int32) (by decide) ?_
    refine bs_istore C (bf_dk dd_X7_tune 37 rfl) (Nat.le_of_ble_eq_true rfl) (Nat.le_of_ble_eq_true rfl) (lv2 := [some (.ref 0), some (.ref 3), some (.ref 17), some (.int x3), some (.int (1 : Int32)), none, none]) rfl ?_
    exact bs_weak (bf_s1 (bf_sn (bf_sn (bf_s1 (bf_s1 (bf_sn (bf_sn bf_s0))))))) (t_X7_tune_73 C hR S11 (x3) ((1 : Int32)) Q h)
  · replace h := h.2 c
    refine bs_aload_n C (bf_dk dd_X7_tune 12 rfl) rfl ?_
    refine bs_aload_n C (bf_dk dd_X7_tune 13 rfl) rfl ?_
    refine bs_aload_n C (bf_dk dd_X7_tune 14 rfl) rfl ?_
    refine bs_iload C (bf_dk dd_X7_tune 15 rfl) rfl ?_
    refine bs_pureV_l (ps := [17, 18, 19]) (w := (bW7_1_0 S)) C hR (c_X0_bytesAt _ _ _ _ _ S.2.2 (x4) _ h) my_X0_bytesAt m_7_40 rfl cl_0 (ge_bW0_0 _) rfl (Nat.le_of_ble_eq_true rfl) (Nat.le_of_ble_eq_true rfl) (su_bW7_1_0_17_bW0 S) rfl (st := [.ref 3, .ref 0]) (Nat.le_of_ble_eq_true rfl) (bf_dk dd_X7_tune 16 rfl) rfl (fun _ => rfl) (fun r12 h => ?_)
    refine bs_aload_n C (bf_dk dd_X7_tune 17 rfl) rfl ?_
    refine bs_iload C (bf_dk dd_X7_tune 18 rfl) rfl ?_
    refine bs_pureV_i (ps := [17, 18, 19]) (w := (bW7_1_0 S)) C hR (c_X0_lengthAt _ _ _ _ _ S.2.2 (x4) _ h) my_X0_lengthAt m_7_44 rfl cl_0 (ge_bW0_0 _) rfl (Nat.le_of_ble_eq_true rfl) (Nat.le_of_ble_eq_true rfl) (su_bW7_1_0_17_bW0 S) rfl (st := [.long r12, .ref 3, .ref 0]) (Nat.le_of_ble_eq_true rfl) (bf_dk dd_X7_tune 19 rfl) rfl (fun _ => rfl) (fun r14 h => ?_)
    refine bs_iload C (bf_dk dd_X7_tune 20 rfl) rfl ?_
    refine bs_callV_v (ps := [0, 1, 2, 3, 4, 5, 6, 7, 8, 9, 10, 11, 12, 13, 14, 15, 16]) (w := (bW7_1_0 S)) C hR (c_X7_compare _ _ _ _ _ (S.1, S.2.1) (r12) (r14) (x4) _ h) my_X7_compare m_7_48 rfl cl_7 (ge_bW7_1_0 _) rfl (Nat.le_of_ble_eq_true rfl) (Nat.le_of_ble_eq_true rfl) (su_bW7_1_0_0_3_bW7_1 S) bnd_0t16 (st := []) (Nat.le_of_ble_eq_true rfl) (bf_dk dd_X7_tune 21 rfl) rfl (fun _ => rfl) (w2 := fun u17 => bW7_1_0 ((u17.1, S.2).1, u17.2, (u17.1, S.2).2.2)) (pt_bW7_1_0_0_3_bW7_1 S) (fun u17 h => ?_)
    refine bs_nameS bW7_1_0 (fun S18 eS18 => ?_)
    replace h := h S18 eS18
    refine bs_iinc C (bf_dk dd_X7_tune 22 rfl) (x4 + (1 : Int32)) rfl rfl (Nat.le_of_ble_eq_true rfl) (Nat.le_of_ble_eq_true rfl) (lv2 := [some (.ref 0), some (.ref 3), some (.ref 17), some (.int x3), some (.int (x4 + (1 : Int32))), none, none]) rfl ?_
    refine bs_goto C (bf_dk dd_X7_tune 23 rfl) (tgt := 16) rfl ?_
    exact bs_weak (bf_s1 (bf_s1 (bf_s1 (bf_s1 (bf_s1 (bf_sn (bf_sn bf_s0))))))) (hB16 (x3) ((x4 + (1 : Int32))) S18 h)
def wp_X7_tune_16 (S : bT7 × bT1 × bT0) (x3 : Int32) (x4 : Int32) (Q : (bT7 × bT1 × bT0) → Prop) : Prop := ∃ I : Nat → Int32 → Int32 → (bT7 × bT1 × bT0) → Prop, (∃ n : Nat, I n x3 x4 S) ∧ ∀ (n : Nat) (x3 : Int32) (x4 : Int32) (S : bT7 × bT1 × bT0), I n x3 x4 S → wp_X7_tune_16b S x3 x4 Q (fun x3 x4 S => ∃ n2 : Nat, n2 < n ∧ I n2 x3 x4 S)
theorem t_X7_tune_16 {X : bf_X} (C : bf_C X RX7 cX7_tune 7 none) (hR : bf_Rm X 5 127) (S : bT7 × bT1 × bT0) (x3 : Int32) (x4 : Int32) (Q : (bT7 × bT1 × bT0) → Prop) (h : wp_X7_tune_16 S x3 x4 Q) : bf_A X (bf_Zv X bW7_1_0 Q) 7 16 [some (.ref 0), some (.ref 3), some (.ref 17), some (.int x3), some (.int x4), none, none] [] (bW7_1_0 S) := by
  obtain ⟨I, ⟨n0, h0⟩, hI⟩ := h
  have key : ∀ (n : Nat) (x3 : Int32) (x4 : Int32) (S : bT7 × bT1 × bT0), I n x3 x4 S → bf_A X (bf_Zv X bW7_1_0 Q) 7 16 [some (.ref 0), some (.ref 3), some (.ref 17), some (.int x3), some (.int x4), none, none] [] (bW7_1_0 S) := by
    intro n
    induction n using Nat.strongRecOn with
    | _ n ih =>
      intro x3 x4 S hi
      exact t_X7_tune_16b C hR S x3 x4 Q _ (fun x3 x4 S hb => by obtain ⟨n2, hn, hi2⟩ := hb; exact ih n2 hn x3 x4 S hi2) (hI n x3 x4 S hi)
  exact key n0 x3 x4 S h0
def wp_X7_tune (S : bT7 × bT1 × bT0) (a3 : Int32) (Q : (bT7 × bT1 × bT0) → Prop) : Prop := (∀ v19 : Int32, v19 = (if (16 : Int32) < (b0g_count S.2.2) then (16 : Int32) else (b0g_count S.2.2)) → (∀ S20 : bT7 × bT1 × bT0, S20 = ((b7s_count S.1 v19), S.2) → (wp_X7_tune_16 S20 (a3) ((0 : Int32)) Q)))
set_option maxRecDepth 20000 in
theorem t_X7_tune {X : bf_X} (C : bf_C X RX7 cX7_tune 7 none) (hR : bf_Rm X 5 127) (S : bT7 × bT1 × bT0) (a3 : Int32) (Q : (bT7 × bT1 × bT0) → Prop) (h : wp_X7_tune S a3 Q) : bf_A X (bf_Zv X bW7_1_0 Q) 7 0 [some (.ref 0), some (.ref 3), some (.ref 17), some (.int a3), none, none, none] [] (bW7_1_0 S) := by
  unfold wp_X7_tune at h
  refine bs_aload_n C (bf_dk dd_X7_tune 0 rfl) rfl ?_
  refine bs_aload_n C (bf_dk dd_X7_tune 1 rfl) rfl ?_
  refine bs_get C (bf_dk dd_X7_tune 2 rfl) cl_0 in_0 2 (Nat.le_of_ble_eq_true rfl) rfl f_7_31 (ge_bW7_1_0_17 S) rfl ?_
  refine bs_bipush C (bf_dk dd_X7_tune 3 rfl) (16 : Int32) (by decide) ?_
  refine bs_mmin C hR m_7_34 ma_min.1 ma_min.2.1 ma_min.2.2 (Nat.le_of_ble_eq_true rfl) (Nat.le_of_ble_eq_true rfl) (bf_dk dd_X7_tune 4 rfl) ?_
  refine bs_name (fun v19 ev19 => ?_)
  replace h := h v19 ev19
  refine bs_put C (bf_dk dd_X7_tune 5 rfl) tyX7_ok nmX7 cl_7 in_7 2 (Nat.le_of_ble_eq_true rfl) rfl f_7_18 rfl (ge_bW7_1_0_0 S) (Nat.le_of_ble_eq_true rfl) rfl rfl (pu_bW7_1_0_0_2 S v19) ?_
  refine bs_nameS bW7_1_0 (fun S20 eS20 => ?_)
  replace h := h S20 eS20
  refine bs_iconst C (bf_dk dd_X7_tune 6 rfl) (0 : Int32) (by decide) ?_
  refine bs_istore C (bf_dk dd_X7_tune 7 rfl) (Nat.le_of_ble_eq_true rfl) (Nat.le_of_ble_eq_true rfl) (lv2 := [some (.ref 0), some (.ref 3), some (.ref 17), some (.int a3), some (.int (0 : Int32)), none, none]) rfl ?_
  exact bs_weak (bf_s1 (bf_s1 (bf_s1 (bf_s1 (bf_s1 (bf_sn (bf_sn bf_s0))))))) (t_X7_tune_16 C hR S20 (a3) ((0 : Int32)) Q h)
theorem c_X7_tune (l : Launch) (dC : Nat → ClassId) (dI : Nat → Nat → Nat) (ac : Nat → ClassId) (al : Nat → Nat) (S : bT7 × bT1 × bT0) (a3 : Int32) (Q : (bT7 × bT1 × bT0) → Prop) (h : wp_X7_tune S a3 Q) : bf_M l yX7_tune cX7_tune 7 none 5 127 dC dI ac al [.ref 0, .ref 3, .ref 17, .int a3] (bW7_1_0 S) (bf_Kv dC dI ac al bW7_1_0 Q) := by
  refine bf_start [some (.ref 0), some (.ref 3), some (.ref 17), some (.int a3), none, none, none] (by decide) (Nat.le_of_ble_eq_true rfl) (bf_s1 (bf_s1 (bf_s1 (bf_s1 (bf_en 3))))) ?_
  intro X hl C hR e1 e2 e3 e4
  subst e1; subst e2; subst e3; subst e4
  exact t_X7_tune C hR S a3 Q h
def wp_X8_rebuild (S : bT8) (Q : (bT8) → Prop) : Prop := (wp_X1_make ((b8g_leaves S), (b2g_built (b8g_now S))) (fun u2 => (∀ S3 : bT8, S3 = (b8s_now (b8s_leaves S u2.1) (b2s_built (b8g_now (b8s_leaves S u2.1)) u2.2)) → (wp_X8_at 6 (b3g_values (b2g_built (b8g_now S3))) ((2 : Int32)) (fun r4 => (wp_X8_at 6 (b3g_values (b2g_built (b8g_now S3))) ((3 : Int32)) (fun r6 => (wp_X6_make ((b8g_tree S3), (b8g_leaves S3)) (r4) (r6) (fun u9 => (∀ S10 : bT8, S10 = (b8s_leaves (b8s_tree S3 u9.1) u9.2) → (Q S10)))))))))))
set_option maxRecDepth 20000 in
theorem t_X8_rebuild {X : bf_X} (C : bf_C X RX8 cX8_rebuild 1 none) (hR : bf_Rm X 5 116) (S : bT8) (Q : (bT8) → Prop) (h : wp_X8_rebuild S Q) : bf_A X (bf_Zv X bW8 Q) 1 0 [some (.ref 0)] [] (bW8 S) := by
  unfold wp_X8_rebuild at h
  refine bs_aload_n C (bf_dk dd_X8_rebuild 0 rfl) rfl ?_
  refine bs_get C (bf_dk dd_X8_rebuild 1 rfl) cl_8 in_8 3 (Nat.le_of_ble_eq_true rfl) rfl f_8_26 (ge_bW8_0 S) rfl ?_
  refine bs_aload_n C (bf_dk dd_X8_rebuild 2 rfl) rfl ?_
  refine bs_get C (bf_dk dd_X8_rebuild 3 rfl) cl_8 in_8 0 (Nat.le_of_ble_eq_true rfl) rfl f_8_12 (ge_bW8_0 S) rfl ?_
  refine bs_get C (bf_dk dd_X8_rebuild 4 rfl) cl_2 in_2 1 (Nat.le_of_ble_eq_true rfl) rfl f_8_154 (ge_bW8_1 S) rfl ?_
  refine bs_callV_v (ps := [31, 32, 33, 34, 35, 36, 37, 38, 39, 40, 41, 42, 43, 44, 7, 8, 9, 10, 11]) (w := (bW8 S)) C hR (c_X1_make _ _ _ _ _ ((b8g_leaves S), (b2g_built (b8g_now S))) _ h) my_X1_make m_8_393 rfl cl_1 (ge_bW1_3_0 _) rfl (Nat.le_of_ble_eq_true rfl) (Nat.le_of_ble_eq_true rfl) (su_bW8_31_7_bW1_3 S) bnd_31t44_7t11 (st := []) (Nat.le_of_ble_eq_true rfl) (bf_dk dd_X8_rebuild 5 rfl) rfl (fun _ => rfl) (w2 := fun u2 => bW8 (b8s_now (b8s_leaves S u2.1) (b2s_built (b8g_now (b8s_leaves S u2.1)) u2.2))) (pt_bW8_31_7_bW1_3 S) (fun u2 h => ?_)
  refine bs_nameS bW8 (fun S3 eS3 => ?_)
  replace h := h S3 eS3
  refine bs_aload_n C (bf_dk dd_X8_rebuild 6 rfl) rfl ?_
  refine bs_get C (bf_dk dd_X8_rebuild 7 rfl) cl_8 in_8 4 (Nat.le_of_ble_eq_true rfl) rfl f_8_33 (ge_bW8_0 S3) rfl ?_
  refine bs_aload_n C (bf_dk dd_X8_rebuild 8 rfl) rfl ?_
  refine bs_get C (bf_dk dd_X8_rebuild 9 rfl) cl_8 in_8 3 (Nat.le_of_ble_eq_true rfl) rfl f_8_26 (ge_bW8_0 S3) rfl ?_
  refine bs_aload_n C (bf_dk dd_X8_rebuild 10 rfl) rfl ?_
  refine bs_get C (bf_dk dd_X8_rebuild 11 rfl) cl_8 in_8 0 (Nat.le_of_ble_eq_true rfl) rfl f_8_12 (ge_bW8_0 S3) rfl ?_
  refine bs_get C (bf_dk dd_X8_rebuild 12 rfl) cl_2 in_2 1 (Nat.le_of_ble_eq_true rfl) rfl f_8_154 (ge_bW8_1 S3) rfl ?_
  refine bs_get C (bf_dk dd_X8_rebuild 13 rfl) cl_3 in_3 1 (Nat.le_of_ble_eq_true rfl) rfl f_8_122 (ge_bW8_7 S3) rfl ?_
  refine bs_iconst C (bf_dk dd_X8_rebuild 14 rfl) (2 : Int32) (by decide) ?_
  refine bs_pureS_i (ps := [11]) (w := (bW8 S3)) C hR (c_X8_at _ _ _ _ _ 6 (b3g_values (b2g_built (b8g_now S3))) ((2 : Int32)) _ h) my_X8_at m_8_115 rfl (Nat.le_of_ble_eq_true rfl) (Nat.le_of_ble_eq_true rfl) (su_bW8_11_bWan6 S3) rfl (st := [.ref 31, .ref 45]) (Nat.le_of_ble_eq_true rfl) (bf_dk dd_X8_rebuild 15 rfl) rfl (fun _ => rfl) (fun r4 h => ?_)
  refine bs_aload_n C (bf_dk dd_X8_rebuild 16 rfl) rfl ?_
  refine bs_get C (bf_dk dd_X8_rebuild 17 rfl) cl_8 in_8 0 (Nat.le_of_ble_eq_true rfl) rfl f_8_12 (ge_bW8_0 S3) rfl ?_
  refine bs_get C (bf_dk dd_X8_rebuild 18 rfl) cl_2 in_2 1 (Nat.le_of_ble_eq_true rfl) rfl f_8_154 (ge_bW8_1 S3) rfl ?_
  refine bs_get C (bf_dk dd_X8_rebuild 19 rfl) cl_3 in_3 1 (Nat.le_of_ble_eq_true rfl) rfl f_8_122 (ge_bW8_7 S3) rfl ?_
  refine bs_iconst C (bf_dk dd_X8_rebuild 20 rfl) (3 : Int32) (by decide) ?_
  refine bs_pureS_i (ps := [11]) (w := (bW8 S3)) C hR (c_X8_at _ _ _ _ _ 6 (b3g_values (b2g_built (b8g_now S3))) ((3 : Int32)) _ h) my_X8_at m_8_115 rfl (Nat.le_of_ble_eq_true rfl) (Nat.le_of_ble_eq_true rfl) (su_bW8_11_bWan6 S3) rfl (st := [.int r4, .ref 31, .ref 45]) (Nat.le_of_ble_eq_true rfl) (bf_dk dd_X8_rebuild 21 rfl) rfl (fun _ => rfl) (fun r6 h => ?_)
  refine bs_callV_v (ps := [45, 46, 47, 48, 49, 50, 51, 52, 53, 54, 55, 56, 57, 31, 32, 33, 34, 35, 36, 37, 38, 39, 40, 41, 42, 43, 44]) (w := (bW8 S3)) C hR (c_X6_make _ _ _ _ _ ((b8g_tree S3), (b8g_leaves S3)) (r4) (r6) _ h) my_X6_make m_8_396 rfl cl_6 (ge_bW6_1_0 _) rfl (Nat.le_of_ble_eq_true rfl) (Nat.le_of_ble_eq_true rfl) (su_bW8_45_31_bW6_1 S3) bnd_45t57_31t44 (st := []) (Nat.le_of_ble_eq_true rfl) (bf_dk dd_X8_rebuild 22 rfl) rfl (fun _ => rfl) (w2 := fun u9 => bW8 (b8s_leaves (b8s_tree S3 u9.1) u9.2)) (pt_bW8_45_31_bW6_1 S3) (fun u9 h => ?_)
  refine bs_nameS bW8 (fun S10 eS10 => ?_)
  replace h := h S10 eS10
  exact bs_vret (u := S10) C (bf_dk dd_X8_rebuild 23 rfl) rfl h
theorem c_X8_rebuild (l : Launch) (dC : Nat → ClassId) (dI : Nat → Nat → Nat) (ac : Nat → ClassId) (al : Nat → Nat) (S : bT8) (Q : (bT8) → Prop) (h : wp_X8_rebuild S Q) : bf_M l yX8_rebuild cX8_rebuild 1 none 5 116 dC dI ac al [.ref 0] (bW8 S) (bf_Kv dC dI ac al bW8 Q) := by
  refine bf_start [some (.ref 0)] (by decide) (Nat.le_of_ble_eq_true rfl) (bf_s1 bf_s0) ?_
  intro X hl C hR e1 e2 e3 e4
  subst e1; subst e2; subst e3; subst e4
  exact t_X8_rebuild C hR S Q h
def wp_X8_feed (S : bT8) (a1 : Int32) (a2 : Int32) (a3 : Int32) (a4 : Int32) (a5 : Int32) (Q : Int32 → (bT8) → Prop) : Prop := ((((b4g_count (b8g_tape S)) + (20 : Int32)) ≤ (160 : Int32) → (wp_X4_putFour (b8g_tape S) (a1) (fun u2 => (∀ S3 : bT8, S3 = (b8s_tape S u2) → (wp_X4_putFour (b8g_tape S3) (a2) (fun u5 => (∀ S6 : bT8, S6 = (b8s_tape S3 u5) → (wp_X4_putFour (b8g_tape S6) (a3) (fun u8 => (∀ S9 : bT8, S9 = (b8s_tape S6 u8) → (wp_X4_putFour (b8g_tape S9) (a4) (fun u11 => (∀ S12 : bT8, S12 = (b8s_tape S9 u11) → (wp_X4_putFour (b8g_tape S12) (a5) (fun u14 => (∀ S15 : bT8, S15 = (b8s_tape S12 u14) → (Q (b4g_count (b8g_tape S15)) S15))))))))))))))))) ∧ (¬ ((b4g_count (b8g_tape S)) + (20 : Int32)) ≤ (160 : Int32) → (Q (-1 : Int32) S)))
set_option maxRecDepth 20000 in
theorem t_X8_feed {X : bf_X} (C : bf_C X RX8 cX8_feed 6 (some .int)) (hR : bf_Rm X 1 22) (S : bT8) (a1 : Int32) (a2 : Int32) (a3 : Int32) (a4 : Int32) (a5 : Int32) (Q : Int32 → (bT8) → Prop) (h : wp_X8_feed S a1 a2 a3 a4 a5 Q) : bf_A X (bf_Zi X bW8 Q) 6 0 [some (.ref 0), some (.int a1), some (.int a2), some (.int a3), some (.int a4), some (.int a5)] [] (bW8 S) := by
  unfold wp_X8_feed at h
  refine bs_aload_n C (bf_dk dd_X8_feed 0 rfl) rfl ?_
  refine bs_get C (bf_dk dd_X8_feed 1 rfl) cl_8 in_8 7 (Nat.le_of_ble_eq_true rfl) rfl f_8_54 (ge_bW8_0 S) rfl ?_
  refine bs_get C (bf_dk dd_X8_feed 2 rfl) cl_4 in_4 1 (Nat.le_of_ble_eq_true rfl) rfl f_8_72 (ge_bW8_64 S) rfl ?_
  refine bs_bipush C (bf_dk dd_X8_feed 3 rfl) (20 : Int32) (by decide) ?_
  refine bs_iadd C (bf_dk dd_X8_feed 4 rfl) ?_
  refine bs_sipush C (bf_dk dd_X8_feed 5 rfl) (160 : Int32) (by decide) ?_
  refine bs_icmp_le C (bf_dk dd_X8_feed 6 rfl) (tgt := 18) rfl (fun c => ?_) (fun c => ?_)
  · replace h := h.1 c
    refine bs_aload_n C (bf_dk dd_X8_feed 9 rfl) rfl ?_
    refine bs_get C (bf_dk dd_X8_feed 10 rfl) cl_8 in_8 7 (Nat.le_of_ble_eq_true rfl) rfl f_8_54 (ge_bW8_0 S) rfl ?_
    refine bs_iload_n C (bf_dk dd_X8_feed 11 rfl) rfl ?_
    refine bs_callV_v (ps := [64, 65]) (w := (bW8 S)) C hR (c_X4_putFour _ _ _ _ _ (b8g_tape S) (a1) _ h) my_X4_putFour m_8_75 rfl cl_4 (ge_bW4_0 _) rfl (Nat.le_of_ble_eq_true rfl) (Nat.le_of_ble_eq_true rfl) (su_bW8_64_bW4 S) rfl (st := []) (Nat.le_of_ble_eq_true rfl) (bf_dk dd_X8_feed 12 rfl) rfl (fun _ => rfl) (w2 := fun u2 => bW8 (b8s_tape S u2)) (pt_bW8_64_bW4 S) (fun u2 h => ?_)
    refine bs_nameS bW8 (fun S3 eS3 => ?_)
    replace h := h S3 eS3
    refine bs_aload_n C (bf_dk dd_X8_feed 13 rfl) rfl ?_
    refine bs_get C (bf_dk dd_X8_feed 14 rfl) cl_8 in_8 7 (Nat.le_of_ble_eq_true rfl) rfl f_8_54 (ge_bW8_0 S3) rfl ?_
    refine bs_iload_n C (bf_dk dd_X8_feed 15 rfl) rfl ?_
    refine bs_callV_v (ps := [64, 65]) (w := (bW8 S3)) C hR (c_X4_putFour _ _ _ _ _ (b8g_tape S3) (a2) _ h) my_X4_putFour m_8_75 rfl cl_4 (ge_bW4_0 _) rfl (Nat.le_of_ble_eq_true rfl) (Nat.le_of_ble_eq_true rfl) (su_bW8_64_bW4 S3) rfl (st := []) (Nat.le_of_ble_eq_true rfl) (bf_dk dd_X8_feed 16 rfl) rfl (fun _ => rfl) (w2 := fun u5 => bW8 (b8s_tape S3 u5)) (pt_bW8_64_bW4 S3) (fun u5 h => ?_)
    refine bs_nameS bW8 (fun S6 eS6 => ?_)
    replace h := h S6 eS6
    refine bs_aload_n C (bf_dk dd_X8_feed 17 rfl) rfl ?_
    refine bs_get C (bf_dk dd_X8_feed 18 rfl) cl_8 in_8 7 (Nat.le_of_ble_eq_true rfl) rfl f_8_54 (ge_bW8_0 S6) rfl ?_
    refine bs_iload_n C (bf_dk dd_X8_feed 19 rfl) rfl ?_
    refine bs_callV_v (ps := [64, 65]) (w := (bW8 S6)) C hR (c_X4_putFour _ _ _ _ _ (b8g_tape S6) (a3) _ h) my_X4_putFour m_8_75 rfl cl_4 (ge_bW4_0 _) rfl (Nat.le_of_ble_eq_true rfl) (Nat.le_of_ble_eq_true rfl) (su_bW8_64_bW4 S6) rfl (st := []) (Nat.le_of_ble_eq_true rfl) (bf_dk dd_X8_feed 20 rfl) rfl (fun _ => rfl) (w2 := fun u8 => bW8 (b8s_tape S6 u8)) (pt_bW8_64_bW4 S6) (fun u8 h => ?_)
    refine bs_nameS bW8 (fun S9 eS9 => ?_)
    replace h := h S9 eS9
    refine bs_aload_n C (bf_dk dd_X8_feed 21 rfl) rfl ?_
    refine bs_get C (bf_dk dd_X8_feed 22 rfl) cl_8 in_8 7 (Nat.le_of_ble_eq_true rfl) rfl f_8_54 (ge_bW8_0 S9) rfl ?_
    refine bs_iload C (bf_dk dd_X8_feed 23 rfl) rfl ?_
    refine bs_callV_v (ps := [64, 65]) (w := (bW8 S9)) C hR (c_X4_putFour _ _ _ _ _ (b8g_tape S9) (a4) _ h) my_X4_putFour m_8_75 rfl cl_4 (ge_bW4_0 _) rfl (Nat.le_of_ble_eq_true rfl) (Nat.le_of_ble_eq_true rfl) (su_bW8_64_bW4 S9) rfl (st := []) (Nat.le_of_ble_eq_true rfl) (bf_dk dd_X8_feed 24 rfl) rfl (fun _ => rfl) (w2 := fun u11 => bW8 (b8s_tape S9 u11)) (pt_bW8_64_bW4 S9) (fun u11 h => ?_)
    refine bs_nameS bW8 (fun S12 eS12 => ?_)
    replace h := h S12 eS12
    refine bs_aload_n C (bf_dk dd_X8_feed 25 rfl) rfl ?_
    refine bs_get C (bf_dk dd_X8_feed 26 rfl) cl_8 in_8 7 (Nat.le_of_ble_eq_true rfl) rfl f_8_54 (ge_bW8_0 S12) rfl ?_
    refine bs_iload C (bf_dk dd_X8_feed 27 rfl) rfl ?_
    refine bs_callV_v (ps := [64, 65]) (w := (bW8 S12)) C hR (c_X4_putFour _ _ _ _ _ (b8g_tape S12) (a5) _ h) my_X4_putFour m_8_75 rfl cl_4 (ge_bW4_0 _) rfl (Nat.le_of_ble_eq_true rfl) (Nat.le_of_ble_eq_true rfl) (su_bW8_64_bW4 S12) rfl (st := []) (Nat.le_of_ble_eq_true rfl) (bf_dk dd_X8_feed 28 rfl) rfl (fun _ => rfl) (w2 := fun u14 => bW8 (b8s_tape S12 u14)) (pt_bW8_64_bW4 S12) (fun u14 h => ?_)
    refine bs_nameS bW8 (fun S15 eS15 => ?_)
    replace h := h S15 eS15
    refine bs_aload_n C (bf_dk dd_X8_feed 29 rfl) rfl ?_
    refine bs_get C (bf_dk dd_X8_feed 30 rfl) cl_8 in_8 7 (Nat.le_of_ble_eq_true rfl) rfl f_8_54 (ge_bW8_0 S15) rfl ?_
    refine bs_get C (bf_dk dd_X8_feed 31 rfl) cl_4 in_4 1 (Nat.le_of_ble_eq_true rfl) rfl f_8_72 (ge_bW8_64 S15) rfl ?_
    exact bs_iret (u := S15) C (bf_dk dd_X8_feed 32 rfl) rfl h
  · replace h := h.2 c
    refine bs_iconst C (bf_dk dd_X8_feed 7 rfl) (-1 : Int32) (by decide) ?_
    exact bs_iret (u := S) C (bf_dk dd_X8_feed 8 rfl) rfl h
theorem c_X8_feed (l : Launch) (dC : Nat → ClassId) (dI : Nat → Nat → Nat) (ac : Nat → ClassId) (al : Nat → Nat) (S : bT8) (a1 : Int32) (a2 : Int32) (a3 : Int32) (a4 : Int32) (a5 : Int32) (Q : Int32 → (bT8) → Prop) (h : wp_X8_feed S a1 a2 a3 a4 a5 Q) : bf_M l yX8_feed cX8_feed 6 (some .int) 1 22 dC dI ac al [.ref 0, .int a1, .int a2, .int a3, .int a4, .int a5] (bW8 S) (bf_Ki dC dI ac al bW8 Q) := by
  refine bf_start [some (.ref 0), some (.int a1), some (.int a2), some (.int a3), some (.int a4), some (.int a5)] (by decide) (Nat.le_of_ble_eq_true rfl) (bf_s1 (bf_s1 (bf_s1 (bf_s1 (bf_s1 (bf_s1 bf_s0)))))) ?_
  intro X hl C hR e1 e2 e3 e4
  subst e1; subst e2; subst e3; subst e4
  exact t_X8_feed C hR S a1 a2 a3 a4 a5 Q h
def wp_X8_end (S : bT8) (a1 : Int32) (Q : Int32 → (bT8) → Prop) : Prop := ((a1 < 0 → (bf_bool (0 : Int32) ∧ Q (0 : Int32) S)) ∧ (¬ a1 < 0 → ((a1 ≤ (b4g_count (b8g_tape S)) → (∀ S1 : bT8, S1 = (b8s_tape S (b4s_count (b8g_tape S) a1)) → (bf_bool (1 : Int32) ∧ Q (1 : Int32) S1))) ∧ (¬ a1 ≤ (b4g_count (b8g_tape S)) → (bf_bool (0 : Int32) ∧ Q (0 : Int32) S)))))
set_option maxRecDepth 20000 in
theorem t_X8_end {X : bf_X} (C : bf_C X RX8 cX8_end 2 (some .boolean)) (hR : bf_Rm X 0 0) (S : bT8) (a1 : Int32) (Q : Int32 → (bT8) → Prop) (h : wp_X8_end S a1 Q) : bf_A X (bf_Zi X bW8 Q) 2 0 [some (.ref 0), some (.int a1)] [] (bW8 S) := by
  unfold wp_X8_end at h
  refine bs_iload_n C (bf_dk dd_X8_end 0 rfl) rfl ?_
  refine bs_if_lt C (bf_dk dd_X8_end 1 rfl) (tgt := 15) rfl (fun c => ?_) (fun c => ?_)
  · replace h := h.1 c
    refine bs_iconst C (bf_dk dd_X8_end 7 rfl) (0 : Int32) (by decide) ?_
    obtain ⟨hi, h⟩ := h
    exact bs_zret (u := S) C (bf_dk dd_X8_end 8 rfl) hi rfl h
  · replace h := h.2 c
    refine bs_iload_n C (bf_dk dd_X8_end 2 rfl) rfl ?_
    refine bs_aload_n C (bf_dk dd_X8_end 3 rfl) rfl ?_
    refine bs_get C (bf_dk dd_X8_end 4 rfl) cl_8 in_8 7 (Nat.le_of_ble_eq_true rfl) rfl f_8_54 (ge_bW8_0 S) rfl ?_
    refine bs_get C (bf_dk dd_X8_end 5 rfl) cl_4 in_4 1 (Nat.le_of_ble_eq_true rfl) rfl f_8_72 (ge_bW8_64 S) rfl ?_
    refine bs_icmp_le C (bf_dk dd_X8_end 6 rfl) (tgt := 17) rfl (fun c => ?_) (fun c => ?_)
    · replace h := h.1 c
      refine bs_aload_n C (bf_dk dd_X8_end 9 rfl) rfl ?_
      refine bs_get C (bf_dk dd_X8_end 10 rfl) cl_8 in_8 7 (Nat.le_of_ble_eq_true rfl) rfl f_8_54 (ge_bW8_0 S) rfl ?_
      refine bs_iload_n C (bf_dk dd_X8_end 11 rfl) rfl ?_
      refine bs_put C (bf_dk dd_X8_end 12 rfl) tyX4_ok nmX4 cl_4 in_4 1 (Nat.le_of_ble_eq_true rfl) rfl f_8_72 rfl (ge_bW8_64 S) (Nat.le_of_ble_eq_true rfl) rfl rfl (pu_bW8_64_1 S a1) ?_
      refine bs_nameS bW8 (fun S1 eS1 => ?_)
      replace h := h S1 eS1
      refine bs_iconst C (bf_dk dd_X8_end 13 rfl) (1 : Int32) (by decide) ?_
      obtain ⟨hi, h⟩ := h
      exact bs_zret (u := S1) C (bf_dk dd_X8_end 14 rfl) hi rfl h
    · replace h := h.2 c
      refine bs_iconst C (bf_dk dd_X8_end 7 rfl) (0 : Int32) (by decide) ?_
      obtain ⟨hi, h⟩ := h
      exact bs_zret (u := S) C (bf_dk dd_X8_end 8 rfl) hi rfl h
theorem c_X8_end (l : Launch) (dC : Nat → ClassId) (dI : Nat → Nat → Nat) (ac : Nat → ClassId) (al : Nat → Nat) (S : bT8) (a1 : Int32) (Q : Int32 → (bT8) → Prop) (h : wp_X8_end S a1 Q) : bf_M l yX8_end cX8_end 2 (some .boolean) 0 0 dC dI ac al [.ref 0, .int a1] (bW8 S) (bf_Ki dC dI ac al bW8 Q) := by
  refine bf_start [some (.ref 0), some (.int a1)] (by decide) (Nat.le_of_ble_eq_true rfl) (bf_s1 (bf_s1 bf_s0)) ?_
  intro X hl C hR e1 e2 e3 e4
  subst e1; subst e2; subst e3; subst e4
  exact t_X8_end C hR S a1 Q h
def wp_X8_keys (S : bT8) (Q : Int32 → (bT8) → Prop) : Prop := (wp_X0_copyFrom ((b8g_trial S), (b3g_members (b2g_told (b8g_now S)))) (fun u2 => (∀ S3 : bT8, S3 = (b8s_now (b8s_trial S u2.1) (b2s_told (b8g_now (b8s_trial S u2.1)) (b3s_members (b2g_told (b8g_now (b8s_trial S u2.1))) u2.2))) → (wp_X4_readInto ((b8g_tape S3), (b8g_trial S3)) (fun r4 u5 => (∀ S6 : bT8, S6 = (b8s_trial (b8s_tape S3 u5.1) u5.2) → (∀ S7 : bT8, S7 = (b8s_tape S6 (b4s_count (b8g_tape S6) (0 : Int32))) → ((¬ r4 = 0 → (∀ v8 : Int32, v8 = ((b0g_count (b8g_trial S7)) - (b0g_count (b3g_members (b2g_told (b8g_now S7))))) → (wp_X0_copyFrom ((b3g_members (b2g_told (b8g_now S7))), (b8g_trial S7)) (fun u10 => (∀ S11 : bT8, S11 = (b8s_trial (b8s_now S7 (b2s_told (b8g_now S7) (b3s_members (b2g_told (b8g_now S7)) u10.1))) u10.2) → (Q v8 S11)))))) ∧ (r4 = 0 → (Q (-1 : Int32) S7))))))))))
set_option maxRecDepth 20000 in
theorem t_X8_keys {X : bf_X} (C : bf_C X RX8 cX8_keys 3 (some .int)) (hR : bf_Rm X 5 125) (S : bT8) (Q : Int32 → (bT8) → Prop) (h : wp_X8_keys S Q) : bf_A X (bf_Zi X bW8 Q) 3 0 [some (.ref 0), none, none] [] (bW8 S) := by
  unfold wp_X8_keys at h
  refine bs_aload_n C (bf_dk dd_X8_keys 0 rfl) rfl ?_
  refine bs_get C (bf_dk dd_X8_keys 1 rfl) cl_8 in_8 6 (Nat.le_of_ble_eq_true rfl) rfl f_8_47 (ge_bW8_0 S) rfl ?_
  refine bs_aload_n C (bf_dk dd_X8_keys 2 rfl) rfl ?_
  refine bs_get C (bf_dk dd_X8_keys 3 rfl) cl_8 in_8 0 (Nat.le_of_ble_eq_true rfl) rfl f_8_12 (ge_bW8_0 S) rfl ?_
  refine bs_get C (bf_dk dd_X8_keys 4 rfl) cl_2 in_2 0 (Nat.le_of_ble_eq_true rfl) rfl f_8_87 (ge_bW8_1 S) rfl ?_
  refine bs_get C (bf_dk dd_X8_keys 5 rfl) cl_3 in_3 0 (Nat.le_of_ble_eq_true rfl) rfl f_8_99 (ge_bW8_2 S) rfl ?_
  refine bs_callV_v (ps := [61, 62, 63, 3, 4, 5]) (w := (bW8 S)) C hR (c_X0_copyFrom _ _ _ _ _ ((b8g_trial S), (b3g_members (b2g_told (b8g_now S)))) _ h) my_X0_copyFrom m_8_102 rfl cl_0 (ge_bW0_0_0 _) rfl (Nat.le_of_ble_eq_true rfl) (Nat.le_of_ble_eq_true rfl) (su_bW8_61_3_bW0_0 S) bnd_61t63_3t5 (st := []) (Nat.le_of_ble_eq_true rfl) (bf_dk dd_X8_keys 6 rfl) rfl (fun _ => rfl) (w2 := fun u2 => bW8 (b8s_now (b8s_trial S u2.1) (b2s_told (b8g_now (b8s_trial S u2.1)) (b3s_members (b2g_told (b8g_now (b8s_trial S u2.1))) u2.2)))) (pt_bW8_61_3_bW0_0 S) (fun u2 h => ?_)
  refine bs_nameS bW8 (fun S3 eS3 => ?_)
  replace h := h S3 eS3
  refine bs_aload_n C (bf_dk dd_X8_keys 7 rfl) rfl ?_
  refine bs_get C (bf_dk dd_X8_keys 8 rfl) cl_8 in_8 7 (Nat.le_of_ble_eq_true rfl) rfl f_8_54 (ge_bW8_0 S3) rfl ?_
  refine bs_aload_n C (bf_dk dd_X8_keys 9 rfl) rfl ?_
  refine bs_get C (bf_dk dd_X8_keys 10 rfl) cl_8 in_8 6 (Nat.le_of_ble_eq_true rfl) rfl f_8_47 (ge_bW8_0 S3) rfl ?_
  refine bs_callV_i (ps := [64, 65, 61, 62, 63]) (w := (bW8 S3)) C hR (c_X4_readInto _ _ _ _ _ ((b8g_tape S3), (b8g_trial S3)) _ h) my_X4_readInto m_8_106 rfl cl_4 (ge_bW4_0_0 _) rfl (Nat.le_of_ble_eq_true rfl) (Nat.le_of_ble_eq_true rfl) (su_bW8_64_61_bW4_0 S3) rfl (st := []) (Nat.le_of_ble_eq_true rfl) (bf_dk dd_X8_keys 11 rfl) rfl (fun _ => rfl) (w2 := fun u5 => bW8 (b8s_trial (b8s_tape S3 u5.1) u5.2)) (pt_bW8_64_61_bW4_0 S3) (fun r4 u5 h => ?_)
  refine bs_nameS bW8 (fun S6 eS6 => ?_)
  replace h := h S6 eS6
  refine bs_istore_n C (bf_dk dd_X8_keys 12 rfl) rfl (Nat.le_of_ble_eq_true rfl) (Nat.le_of_ble_eq_true rfl) (lv2 := [some (.ref 0), some (.int r4), none]) rfl ?_
  refine bs_aload_n C (bf_dk dd_X8_keys 13 rfl) rfl ?_
  refine bs_get C (bf_dk dd_X8_keys 14 rfl) cl_8 in_8 7 (Nat.le_of_ble_eq_true rfl) rfl f_8_54 (ge_bW8_0 S6) rfl ?_
  refine bs_iconst C (bf_dk dd_X8_keys 15 rfl) (0 : Int32) (by decide) ?_
  refine bs_put C (bf_dk dd_X8_keys 16 rfl) tyX4_ok nmX4 cl_4 in_4 1 (Nat.le_of_ble_eq_true rfl) rfl f_8_72 rfl (ge_bW8_64 S6) (Nat.le_of_ble_eq_true rfl) rfl rfl (pu_bW8_64_1 S6 (0 : Int32)) ?_
  refine bs_nameS bW8 (fun S7 eS7 => ?_)
  replace h := h S7 eS7
  refine bs_iload_n C (bf_dk dd_X8_keys 17 rfl) rfl ?_
  refine bs_if_ne C (bf_dk dd_X8_keys 18 rfl) (tgt := 43) rfl (fun c => ?_) (fun c => ?_)
  · replace h := h.1 c
    refine bs_aload_n C (bf_dk dd_X8_keys 21 rfl) rfl ?_
    refine bs_get C (bf_dk dd_X8_keys 22 rfl) cl_8 in_8 6 (Nat.le_of_ble_eq_true rfl) rfl f_8_47 (ge_bW8_0 S7) rfl ?_
    refine bs_get C (bf_dk dd_X8_keys 23 rfl) cl_0 in_0 2 (Nat.le_of_ble_eq_true rfl) rfl f_8_110 (ge_bW8_61 S7) rfl ?_
    refine bs_aload_n C (bf_dk dd_X8_keys 24 rfl) rfl ?_
    refine bs_get C (bf_dk dd_X8_keys 25 rfl) cl_8 in_8 0 (Nat.le_of_ble_eq_true rfl) rfl f_8_12 (ge_bW8_0 S7) rfl ?_
    refine bs_get C (bf_dk dd_X8_keys 26 rfl) cl_2 in_2 0 (Nat.le_of_ble_eq_true rfl) rfl f_8_87 (ge_bW8_1 S7) rfl ?_
    refine bs_get C (bf_dk dd_X8_keys 27 rfl) cl_3 in_3 0 (Nat.le_of_ble_eq_true rfl) rfl f_8_99 (ge_bW8_2 S7) rfl ?_
    refine bs_get C (bf_dk dd_X8_keys 28 rfl) cl_0 in_0 2 (Nat.le_of_ble_eq_true rfl) rfl f_8_110 (ge_bW8_3 S7) rfl ?_
    refine bs_isub C (bf_dk dd_X8_keys 29 rfl) ?_
    refine bs_name (fun v8 ev8 => ?_)
    replace h := h v8 ev8
    refine bs_istore_n C (bf_dk dd_X8_keys 30 rfl) rfl (Nat.le_of_ble_eq_true rfl) (Nat.le_of_ble_eq_true rfl) (lv2 := [some (.ref 0), some (.int r4), some (.int v8)]) rfl ?_
    refine bs_aload_n C (bf_dk dd_X8_keys 31 rfl) rfl ?_
    refine bs_get C (bf_dk dd_X8_keys 32 rfl) cl_8 in_8 0 (Nat.le_of_ble_eq_true rfl) rfl f_8_12 (ge_bW8_0 S7) rfl ?_
    refine bs_get C (bf_dk dd_X8_keys 33 rfl) cl_2 in_2 0 (Nat.le_of_ble_eq_true rfl) rfl f_8_87 (ge_bW8_1 S7) rfl ?_
    refine bs_get C (bf_dk dd_X8_keys 34 rfl) cl_3 in_3 0 (Nat.le_of_ble_eq_true rfl) rfl f_8_99 (ge_bW8_2 S7) rfl ?_
    refine bs_aload_n C (bf_dk dd_X8_keys 35 rfl) rfl ?_
    refine bs_get C (bf_dk dd_X8_keys 36 rfl) cl_8 in_8 6 (Nat.le_of_ble_eq_true rfl) rfl f_8_47 (ge_bW8_0 S7) rfl ?_
    refine bs_callV_v (ps := [3, 4, 5, 61, 62, 63]) (w := (bW8 S7)) C hR (c_X0_copyFrom _ _ _ _ _ ((b3g_members (b2g_told (b8g_now S7))), (b8g_trial S7)) _ h) my_X0_copyFrom m_8_102 rfl cl_0 (ge_bW0_0_0 _) rfl (Nat.le_of_ble_eq_true rfl) (Nat.le_of_ble_eq_true rfl) (su_bW8_3_61_bW0_0 S7) bnd_3t5_61t63 (st := []) (Nat.le_of_ble_eq_true rfl) (bf_dk dd_X8_keys 37 rfl) rfl (fun _ => rfl) (w2 := fun u10 => bW8 (b8s_trial (b8s_now S7 (b2s_told (b8g_now S7) (b3s_members (b2g_told (b8g_now S7)) u10.1))) u10.2)) (pt_bW8_3_61_bW0_0 S7) (fun u10 h => ?_)
    refine bs_nameS bW8 (fun S11 eS11 => ?_)
    replace h := h S11 eS11
    refine bs_iload_n C (bf_dk dd_X8_keys 38 rfl) rfl ?_
    exact bs_iret (u := S11) C (bf_dk dd_X8_keys 39 rfl) rfl h
  · replace h := h.2 c
    refine bs_iconst C (bf_dk dd_X8_keys 19 rfl) (-1 : Int32) (by decide) ?_
    exact bs_iret (u := S7) C (bf_dk dd_X8_keys 20 rfl) rfl h
theorem c_X8_keys (l : Launch) (dC : Nat → ClassId) (dI : Nat → Nat → Nat) (ac : Nat → ClassId) (al : Nat → Nat) (S : bT8) (Q : Int32 → (bT8) → Prop) (h : wp_X8_keys S Q) : bf_M l yX8_keys cX8_keys 3 (some .int) 5 125 dC dI ac al [.ref 0] (bW8 S) (bf_Ki dC dI ac al bW8 Q) := by
  refine bf_start [some (.ref 0), none, none] (by decide) (Nat.le_of_ble_eq_true rfl) (bf_s1 (bf_en 2)) ?_
  intro X hl C hR e1 e2 e3 e4
  subst e1; subst e2; subst e3; subst e4
  exact t_X8_keys C hR S Q h
def wp_X8_state (S : bT8) (a1 : Int32) (Q : Int32 → (bT8) → Prop) : Prop := (∀ S1 : bT8, S1 = (b8s_now S (b2s_draws (b8g_now S) a1)) → (Q (b2g_draws (b8g_now S)) S1))
set_option maxRecDepth 20000 in
theorem t_X8_state {X : bf_X} (C : bf_C X RX8 cX8_state 3 (some .int)) (hR : bf_Rm X 0 0) (S : bT8) (a1 : Int32) (Q : Int32 → (bT8) → Prop) (h : wp_X8_state S a1 Q) : bf_A X (bf_Zi X bW8 Q) 3 0 [some (.ref 0), some (.int a1), none] [] (bW8 S) := by
  unfold wp_X8_state at h
  refine bs_aload_n C (bf_dk dd_X8_state 0 rfl) rfl ?_
  refine bs_get C (bf_dk dd_X8_state 1 rfl) cl_8 in_8 0 (Nat.le_of_ble_eq_true rfl) rfl f_8_12 (ge_bW8_0 S) rfl ?_
  refine bs_get C (bf_dk dd_X8_state 2 rfl) cl_2 in_2 4 (Nat.le_of_ble_eq_true rfl) rfl f_8_125 (ge_bW8_1 S) rfl ?_
  refine bs_istore_n C (bf_dk dd_X8_state 3 rfl) rfl (Nat.le_of_ble_eq_true rfl) (Nat.le_of_ble_eq_true rfl) (lv2 := [some (.ref 0), some (.int a1), some (.int (b2g_draws (b8g_now S)))]) rfl ?_
  refine bs_aload_n C (bf_dk dd_X8_state 4 rfl) rfl ?_
  refine bs_get C (bf_dk dd_X8_state 5 rfl) cl_8 in_8 0 (Nat.le_of_ble_eq_true rfl) rfl f_8_12 (ge_bW8_0 S) rfl ?_
  refine bs_iload_n C (bf_dk dd_X8_state 6 rfl) rfl ?_
  refine bs_put C (bf_dk dd_X8_state 7 rfl) tyX2_ok nmX2 cl_2 in_2 4 (Nat.le_of_ble_eq_true rfl) rfl f_8_125 rfl (ge_bW8_1 S) (Nat.le_of_ble_eq_true rfl) rfl rfl (pu_bW8_1_4 S a1) ?_
  refine bs_nameS bW8 (fun S1 eS1 => ?_)
  replace h := h S1 eS1
  refine bs_iload_n C (bf_dk dd_X8_state 8 rfl) rfl ?_
  exact bs_iret (u := S1) C (bf_dk dd_X8_state 9 rfl) rfl h
theorem c_X8_state (l : Launch) (dC : Nat → ClassId) (dI : Nat → Nat → Nat) (ac : Nat → ClassId) (al : Nat → Nat) (S : bT8) (a1 : Int32) (Q : Int32 → (bT8) → Prop) (h : wp_X8_state S a1 Q) : bf_M l yX8_state cX8_state 3 (some .int) 0 0 dC dI ac al [.ref 0, .int a1] (bW8 S) (bf_Ki dC dI ac al bW8 Q) := by
  refine bf_start [some (.ref 0), some (.int a1), none] (by decide) (Nat.le_of_ble_eq_true rfl) (bf_s1 (bf_s1 (bf_en 1))) ?_
  intro X hl C hR e1 e2 e3 e4
  subst e1; subst e2; subst e3; subst e4
  exact t_X8_state C hR S a1 Q h
def wp_X8_keyOf (a0 : Int32) (a1 : Int32) (a2 : Int32) (Q : Int64 → Prop) : Prop := (wp_X8_front (a2) (fun r1 => (Q ((((a0).toInt64 <<< (((32 : Int32)).toInt64 &&& 63)) ||| ((a1).toInt64 &&& (4294967295 : Int64))) &&& r1))))
set_option maxRecDepth 20000 in
theorem t_X8_keyOf {X : bf_X} (C : bf_C X RX8 cX8_keyOf 3 (some .long)) (hR : bf_Rm X 1 20) (a0 : Int32) (a1 : Int32) (a2 : Int32) (Q : Int64 → Prop) (h : wp_X8_keyOf a0 a1 a2 Q) : bf_A X (bf_Zl X bWu (fun r u => u = () ∧ Q r)) 3 0 [some (.int a0), some (.int a1), some (.int a2)] [] (bWu ()) := by
  unfold wp_X8_keyOf at h
  refine bs_iload_n C (bf_dk dd_X8_keyOf 0 rfl) rfl ?_
  refine bs_i2l C (bf_dk dd_X8_keyOf 1 rfl) ?_
  refine bs_bipush C (bf_dk dd_X8_keyOf 2 rfl) (32 : Int32) (by decide) ?_
  refine bs_lshl C (bf_dk dd_X8_keyOf 3 rfl) ?_
  refine bs_iload_n C (bf_dk dd_X8_keyOf 4 rfl) rfl ?_
  refine bs_i2l C (bf_dk dd_X8_keyOf 5 rfl) ?_
  refine bs_ldc2 C (bf_dk dd_X8_keyOf 6 rfl) k_8_436 ?_
  refine bs_land C (bf_dk dd_X8_keyOf 7 rfl) ?_
  refine bs_lor C (bf_dk dd_X8_keyOf 8 rfl) ?_
  refine bs_iload_n C (bf_dk dd_X8_keyOf 9 rfl) rfl ?_
  refine bs_pureS_l (ps := []) (w := (bWu ())) C hR (c_X8_front _ _ _ _ _ (a2) _ h) my_X8_front m_8_353 rfl (Nat.le_of_ble_eq_true rfl) (Nat.le_of_ble_eq_true rfl) rfl rfl (st := [.long (((a0).toInt64 <<< (((32 : Int32)).toInt64 &&& 63)) ||| ((a1).toInt64 &&& (4294967295 : Int64)))]) (Nat.le_of_ble_eq_true rfl) (bf_dk dd_X8_keyOf 10 rfl) rfl (fun _ => rfl) (fun r1 h => ?_)
  refine bs_land C (bf_dk dd_X8_keyOf 11 rfl) ?_
  exact bs_lret (u := ()) C (bf_dk dd_X8_keyOf 12 rfl) rfl ⟨rfl, h⟩
theorem c_X8_keyOf (l : Launch) (dC : Nat → ClassId) (dI : Nat → Nat → Nat) (ac : Nat → ClassId) (al : Nat → Nat) (a0 : Int32) (a1 : Int32) (a2 : Int32) (Q : Int64 → Prop) (h : wp_X8_keyOf a0 a1 a2 Q) : bf_M l yX8_keyOf cX8_keyOf 3 (some .long) 1 20 dC dI ac al [.int a0, .int a1, .int a2] (bWu ()) (bf_Kl dC dI ac al bWu (fun r u => u = () ∧ Q r)) := by
  refine bf_start [some (.int a0), some (.int a1), some (.int a2)] (by decide) (Nat.le_of_ble_eq_true rfl) (bf_s1 (bf_s1 (bf_s1 bf_s0))) ?_
  intro X hl C hR e1 e2 e3 e4
  subst e1; subst e2; subst e3; subst e4
  exact t_X8_keyOf C hR a0 a1 a2 Q h
def wp_X8_add (S : bT8) (a1 : Int32) (a2 : Int32) (a3 : Int32) (Q : Int32 → (bT8) → Prop) : Prop := (wp_X8_isLength (a3) (fun r1 => ((¬ r1 = 0 → (wp_X8_keyOf (a1) (a2) (a3) (fun r3 => (wp_X0_insert (b3g_members (b2g_told (b8g_now S))) (r3) (a3) (fun r5 u6 => (∀ S7 : bT8, S7 = (b8s_now S (b2s_told (b8g_now S) (b3s_members (b2g_told (b8g_now S)) u6))) → (Q r5 S7))))))) ∧ (r1 = 0 → (Q (-1 : Int32) S)))))
set_option maxRecDepth 20000 in
theorem t_X8_add {X : bf_X} (C : bf_C X RX8 cX8_add 4 (some .int)) (hR : bf_Rm X 4 100) (S : bT8) (a1 : Int32) (a2 : Int32) (a3 : Int32) (Q : Int32 → (bT8) → Prop) (h : wp_X8_add S a1 a2 a3 Q) : bf_A X (bf_Zi X bW8 Q) 4 0 [some (.ref 0), some (.int a1), some (.int a2), some (.int a3)] [] (bW8 S) := by
  unfold wp_X8_add at h
  refine bs_iload_n C (bf_dk dd_X8_add 0 rfl) rfl ?_
  refine bs_pureS_i (ps := []) (w := (bW8 S)) C hR (c_X8_isLength _ _ _ _ _ (a3) _ h) my_X8_isLength m_8_128 rfl (Nat.le_of_ble_eq_true rfl) (Nat.le_of_ble_eq_true rfl) rfl rfl (st := []) (Nat.le_of_ble_eq_true rfl) (bf_dk dd_X8_add 1 rfl) rfl (fun _ => rfl) (fun r1 h => ?_)
  refine bs_if_ne C (bf_dk dd_X8_add 2 rfl) (tgt := 9) rfl (fun c => ?_) (fun c => ?_)
  · replace h := h.1 c
    refine bs_aload_n C (bf_dk dd_X8_add 5 rfl) rfl ?_
    refine bs_get C (bf_dk dd_X8_add 6 rfl) cl_8 in_8 0 (Nat.le_of_ble_eq_true rfl) rfl f_8_12 (ge_bW8_0 S) rfl ?_
    refine bs_get C (bf_dk dd_X8_add 7 rfl) cl_2 in_2 0 (Nat.le_of_ble_eq_true rfl) rfl f_8_87 (ge_bW8_1 S) rfl ?_
    refine bs_get C (bf_dk dd_X8_add 8 rfl) cl_3 in_3 0 (Nat.le_of_ble_eq_true rfl) rfl f_8_99 (ge_bW8_2 S) rfl ?_
    refine bs_iload_n C (bf_dk dd_X8_add 9 rfl) rfl ?_
    refine bs_iload_n C (bf_dk dd_X8_add 10 rfl) rfl ?_
    refine bs_iload_n C (bf_dk dd_X8_add 11 rfl) rfl ?_
    refine bs_pureS_l (ps := []) (w := (bW8 S)) C hR (c_X8_keyOf _ _ _ _ _ (a1) (a2) (a3) _ h) my_X8_keyOf m_8_132 rfl (Nat.le_of_ble_eq_true rfl) (Nat.le_of_ble_eq_true rfl) rfl rfl (st := [.ref 3]) (Nat.le_of_ble_eq_true rfl) (bf_dk dd_X8_add 12 rfl) rfl (fun _ => rfl) (fun r3 h => ?_)
    refine bs_iload_n C (bf_dk dd_X8_add 13 rfl) rfl ?_
    refine bs_callV_i (ps := [3, 4, 5]) (w := (bW8 S)) C hR (c_X0_insert _ _ _ _ _ (b3g_members (b2g_told (b8g_now S))) (r3) (a3) _ h) my_X0_insert m_8_136 rfl cl_0 (ge_bW0_0 _) rfl (Nat.le_of_ble_eq_true rfl) (Nat.le_of_ble_eq_true rfl) (su_bW8_3_bW0 S) rfl (st := []) (Nat.le_of_ble_eq_true rfl) (bf_dk dd_X8_add 14 rfl) rfl (fun _ => rfl) (w2 := fun u6 => bW8 (b8s_now S (b2s_told (b8g_now S) (b3s_members (b2g_told (b8g_now S)) u6)))) (pt_bW8_3_bW0 S) (fun r5 u6 h => ?_)
    refine bs_nameS bW8 (fun S7 eS7 => ?_)
    replace h := h S7 eS7
    exact bs_iret (u := S7) C (bf_dk dd_X8_add 15 rfl) rfl h
  · replace h := h.2 c
    refine bs_iconst C (bf_dk dd_X8_add 3 rfl) (-1 : Int32) (by decide) ?_
    exact bs_iret (u := S) C (bf_dk dd_X8_add 4 rfl) rfl h
theorem c_X8_add (l : Launch) (dC : Nat → ClassId) (dI : Nat → Nat → Nat) (ac : Nat → ClassId) (al : Nat → Nat) (S : bT8) (a1 : Int32) (a2 : Int32) (a3 : Int32) (Q : Int32 → (bT8) → Prop) (h : wp_X8_add S a1 a2 a3 Q) : bf_M l yX8_add cX8_add 4 (some .int) 4 100 dC dI ac al [.ref 0, .int a1, .int a2, .int a3] (bW8 S) (bf_Ki dC dI ac al bW8 Q) := by
  refine bf_start [some (.ref 0), some (.int a1), some (.int a2), some (.int a3)] (by decide) (Nat.le_of_ble_eq_true rfl) (bf_s1 (bf_s1 (bf_s1 (bf_s1 bf_s0)))) ?_
  intro X hl C hR e1 e2 e3 e4
  subst e1; subst e2; subst e3; subst e4
  exact t_X8_add C hR S a1 a2 a3 Q h
def wp_X8_remove (S : bT8) (a1 : Int32) (a2 : Int32) (a3 : Int32) (Q : Int32 → (bT8) → Prop) : Prop := (wp_X8_isLength (a3) (fun r1 => ((¬ r1 = 0 → (wp_X8_keyOf (a1) (a2) (a3) (fun r3 => (wp_X0_numberOf (b3g_members (b2g_told (b8g_now S))) (r3) (a3) (fun r5 => (wp_X0_drop (b3g_members (b2g_told (b8g_now S))) (r5) (fun u8 => (∀ S9 : bT8, S9 = (b8s_now S (b2s_told (b8g_now S) (b3s_members (b2g_told (b8g_now S)) u8))) → (Q r5 S9))))))))) ∧ (r1 = 0 → (Q (-1 : Int32) S)))))
set_option maxRecDepth 20000 in
theorem t_X8_remove {X : bf_X} (C : bf_C X RX8 cX8_remove 5 (some .int)) (hR : bf_Rm X 4 99) (S : bT8) (a1 : Int32) (a2 : Int32) (a3 : Int32) (Q : Int32 → (bT8) → Prop) (h : wp_X8_remove S a1 a2 a3 Q) : bf_A X (bf_Zi X bW8 Q) 5 0 [some (.ref 0), some (.int a1), some (.int a2), some (.int a3), none] [] (bW8 S) := by
  unfold wp_X8_remove at h
  refine bs_iload_n C (bf_dk dd_X8_remove 0 rfl) rfl ?_
  refine bs_pureS_i (ps := []) (w := (bW8 S)) C hR (c_X8_isLength _ _ _ _ _ (a3) _ h) my_X8_isLength m_8_128 rfl (Nat.le_of_ble_eq_true rfl) (Nat.le_of_ble_eq_true rfl) rfl rfl (st := []) (Nat.le_of_ble_eq_true rfl) (bf_dk dd_X8_remove 1 rfl) rfl (fun _ => rfl) (fun r1 h => ?_)
  refine bs_if_ne C (bf_dk dd_X8_remove 2 rfl) (tgt := 9) rfl (fun c => ?_) (fun c => ?_)
  · replace h := h.1 c
    refine bs_aload_n C (bf_dk dd_X8_remove 5 rfl) rfl ?_
    refine bs_get C (bf_dk dd_X8_remove 6 rfl) cl_8 in_8 0 (Nat.le_of_ble_eq_true rfl) rfl f_8_12 (ge_bW8_0 S) rfl ?_
    refine bs_get C (bf_dk dd_X8_remove 7 rfl) cl_2 in_2 0 (Nat.le_of_ble_eq_true rfl) rfl f_8_87 (ge_bW8_1 S) rfl ?_
    refine bs_get C (bf_dk dd_X8_remove 8 rfl) cl_3 in_3 0 (Nat.le_of_ble_eq_true rfl) rfl f_8_99 (ge_bW8_2 S) rfl ?_
    refine bs_iload_n C (bf_dk dd_X8_remove 9 rfl) rfl ?_
    refine bs_iload_n C (bf_dk dd_X8_remove 10 rfl) rfl ?_
    refine bs_iload_n C (bf_dk dd_X8_remove 11 rfl) rfl ?_
    refine bs_pureS_l (ps := []) (w := (bW8 S)) C hR (c_X8_keyOf _ _ _ _ _ (a1) (a2) (a3) _ h) my_X8_keyOf m_8_132 rfl (Nat.le_of_ble_eq_true rfl) (Nat.le_of_ble_eq_true rfl) rfl rfl (st := [.ref 3]) (Nat.le_of_ble_eq_true rfl) (bf_dk dd_X8_remove 12 rfl) rfl (fun _ => rfl) (fun r3 h => ?_)
    refine bs_iload_n C (bf_dk dd_X8_remove 13 rfl) rfl ?_
    refine bs_pureV_i (ps := [3, 4, 5]) (w := (bW8 S)) C hR (c_X0_numberOf _ _ _ _ _ (b3g_members (b2g_told (b8g_now S))) (r3) (a3) _ h) my_X0_numberOf m_8_140 rfl cl_0 (ge_bW0_0 _) rfl (Nat.le_of_ble_eq_true rfl) (Nat.le_of_ble_eq_true rfl) (su_bW8_3_bW0 S) rfl (st := []) (Nat.le_of_ble_eq_true rfl) (bf_dk dd_X8_remove 14 rfl) rfl (fun _ => rfl) (fun r5 h => ?_)
    refine bs_istore C (bf_dk dd_X8_remove 15 rfl) (Nat.le_of_ble_eq_true rfl) (Nat.le_of_ble_eq_true rfl) (lv2 := [some (.ref 0), some (.int a1), some (.int a2), some (.int a3), some (.int r5)]) rfl ?_
    refine bs_aload_n C (bf_dk dd_X8_remove 16 rfl) rfl ?_
    refine bs_get C (bf_dk dd_X8_remove 17 rfl) cl_8 in_8 0 (Nat.le_of_ble_eq_true rfl) rfl f_8_12 (ge_bW8_0 S) rfl ?_
    refine bs_get C (bf_dk dd_X8_remove 18 rfl) cl_2 in_2 0 (Nat.le_of_ble_eq_true rfl) rfl f_8_87 (ge_bW8_1 S) rfl ?_
    refine bs_get C (bf_dk dd_X8_remove 19 rfl) cl_3 in_3 0 (Nat.le_of_ble_eq_true rfl) rfl f_8_99 (ge_bW8_2 S) rfl ?_
    refine bs_iload C (bf_dk dd_X8_remove 20 rfl) rfl ?_
    refine bs_callV_v (ps := [3, 4, 5]) (w := (bW8 S)) C hR (c_X0_drop _ _ _ _ _ (b3g_members (b2g_told (b8g_now S))) (r5) _ h) my_X0_drop m_8_143 rfl cl_0 (ge_bW0_0 _) rfl (Nat.le_of_ble_eq_true rfl) (Nat.le_of_ble_eq_true rfl) (su_bW8_3_bW0 S) rfl (st := []) (Nat.le_of_ble_eq_true rfl) (bf_dk dd_X8_remove 21 rfl) rfl (fun _ => rfl) (w2 := fun u8 => bW8 (b8s_now S (b2s_told (b8g_now S) (b3s_members (b2g_told (b8g_now S)) u8)))) (pt_bW8_3_bW0 S) (fun u8 h => ?_)
    refine bs_nameS bW8 (fun S9 eS9 => ?_)
    replace h := h S9 eS9
    refine bs_iload C (bf_dk dd_X8_remove 22 rfl) rfl ?_
    exact bs_iret (u := S9) C (bf_dk dd_X8_remove 23 rfl) rfl h
  · replace h := h.2 c
    refine bs_iconst C (bf_dk dd_X8_remove 3 rfl) (-1 : Int32) (by decide) ?_
    exact bs_iret (u := S) C (bf_dk dd_X8_remove 4 rfl) rfl h
theorem c_X8_remove (l : Launch) (dC : Nat → ClassId) (dI : Nat → Nat → Nat) (ac : Nat → ClassId) (al : Nat → Nat) (S : bT8) (a1 : Int32) (a2 : Int32) (a3 : Int32) (Q : Int32 → (bT8) → Prop) (h : wp_X8_remove S a1 a2 a3 Q) : bf_M l yX8_remove cX8_remove 5 (some .int) 4 99 dC dI ac al [.ref 0, .int a1, .int a2, .int a3] (bW8 S) (bf_Ki dC dI ac al bW8 Q) := by
  refine bf_start [some (.ref 0), some (.int a1), some (.int a2), some (.int a3), none] (by decide) (Nat.le_of_ble_eq_true rfl) (bf_s1 (bf_s1 (bf_s1 (bf_s1 (bf_en 1))))) ?_
  intro X hl C hR e1 e2 e3 e4
  subst e1; subst e2; subst e3; subst e4
  exact t_X8_remove C hR S a1 a2 a3 Q h
def wp_X8_fill_78 (S : bT8) (x1 : Int32) (x2 : Int32) (x3 : Int32) (x4 : Int32) (Q : Int32 → (bT8) → Prop) (B25 : Int32 → Int32 → Int32 → Int32 → (bT8) → Prop) : Prop := (B25 (x1) (x2) (x3) ((x4 + (1 : Int32))) S)
set_option maxRecDepth 20000 in
theorem t_X8_fill_78 {X : bf_X} (C : bf_C X RX8 cX8_fill 8 (some .int)) (hR : bf_Rm X 4 100) (S : bT8) (x1 : Int32) (x2 : Int32) (x3 : Int32) (x4 : Int32) (Q : Int32 → (bT8) → Prop) (B25 : Int32 → Int32 → Int32 → Int32 → (bT8) → Prop) (hB25 : ∀ (x1 : Int32) (x2 : Int32) (x3 : Int32) (x4 : Int32) (S : bT8), B25 x1 x2 x3 x4 S → bf_A X (bf_Zi X bW8 Q) 8 25 [some (.ref 0), some (.int x1), some (.int x2), some (.int x3), some (.int x4), none, none, none] [] (bW8 S)) (h : wp_X8_fill_78 S x1 x2 x3 x4 Q B25) : bf_A X (bf_Zi X bW8 Q) 8 78 [some (.ref 0), some (.int x1), some (.int x2), some (.int x3), some (.int x4), none, none, none] [] (bW8 S) := by
  unfold wp_X8_fill_78 at h
  refine bs_iinc C (bf_dk dd_X8_fill 40 rfl) (x4 + (1 : Int32)) rfl rfl (Nat.le_of_ble_eq_true rfl) (Nat.le_of_ble_eq_true rfl) (lv2 := [some (.ref 0), some (.int x1), some (.int x2), some (.int x3), some (.int (x4 + (1 : Int32))), none, none, none]) rfl ?_
  refine bs_goto C (bf_dk dd_X8_fill 41 rfl) (tgt := 25) rfl ?_
  exact bs_weak (bf_s1 (bf_s1 (bf_s1 (bf_s1 (bf_s1 (bf_sn (bf_sn (bf_sn bf_s0)))))))) (hB25 (x1) (x2) (x3) ((x4 + (1 : Int32))) S h)
def wp_X8_fill_25b (S : bT8) (x1 : Int32) (x2 : Int32) (x3 : Int32) (x4 : Int32) (Q : Int32 → (bT8) → Prop) (B25 : Int32 → Int32 → Int32 → Int32 → (bT8) → Prop) : Prop := ((x1 ≤ x4 → (Q x3 S)) ∧ (¬ x1 ≤ x4 → (wp_X2_draw (b8g_now S) (x2) (fun r1 u2 => (∀ S3 : bT8, S3 = (b8s_now S u2) → (wp_X2_drawBytes (b8g_now S3) ((r1 + (1 : Int32))) (fun r4 u5 => (∀ S6 : bT8, S6 = (b8s_now S3 u5) → (wp_X0_insert (b3g_members (b2g_told (b8g_now S6))) (r4) ((r1 + (1 : Int32))) (fun r7 u8 => (∀ S9 : bT8, S9 = (b8s_now S6 (b2s_told (b8g_now S6) (b3s_members (b2g_told (b8g_now S6)) u8))) → ((r7 = (-1 : Int32) → (wp_X8_fill_78 S9 (x1) (x2) (x3) (x4) Q B25)) ∧ (¬ r7 = (-1 : Int32) → (wp_X8_fill_78 S9 (x1) (x2) ((x3 + (1 : Int32))) (x4) Q B25))))))))))))))
set_option maxRecDepth 20000 in
theorem t_X8_fill_25b {X : bf_X} (C : bf_C X RX8 cX8_fill 8 (some .int)) (hR : bf_Rm X 4 100) (S : bT8) (x1 : Int32) (x2 : Int32) (x3 : Int32) (x4 : Int32) (Q : Int32 → (bT8) → Prop) (B25 : Int32 → Int32 → Int32 → Int32 → (bT8) → Prop) (hB25 : ∀ (x1 : Int32) (x2 : Int32) (x3 : Int32) (x4 : Int32) (S : bT8), B25 x1 x2 x3 x4 S → bf_A X (bf_Zi X bW8 Q) 8 25 [some (.ref 0), some (.int x1), some (.int x2), some (.int x3), some (.int x4), none, none, none] [] (bW8 S)) (h : wp_X8_fill_25b S x1 x2 x3 x4 Q B25) : bf_A X (bf_Zi X bW8 Q) 8 25 [some (.ref 0), some (.int x1), some (.int x2), some (.int x3), some (.int x4), none, none, none] [] (bW8 S) := by
  unfold wp_X8_fill_25b at h
  refine bs_iload C (bf_dk dd_X8_fill 15 rfl) rfl ?_
  refine bs_iload_n C (bf_dk dd_X8_fill 16 rfl) rfl ?_
  refine bs_icmp_ge C (bf_dk dd_X8_fill 17 rfl) (tgt := 84) rfl (fun c => ?_) (fun c => ?_)
  · replace h := h.1 c
    refine bs_iload_n C (bf_dk dd_X8_fill 42 rfl) rfl ?_
    exact bs_iret (u := S) C (bf_dk dd_X8_fill 43 rfl) rfl h
  · replace h := h.2 c
    refine bs_aload_n C (bf_dk dd_X8_fill 18 rfl) rfl ?_
    refine bs_get C (bf_dk dd_X8_fill 19 rfl) cl_8 in_8 0 (Nat.le_of_ble_eq_true rfl) rfl f_8_12 (ge_bW8_0 S) rfl ?_
    refine bs_iload_n C (bf_dk dd_X8_fill 20 rfl) rfl ?_
    refine bs_callV_i (ps := [1, 2, 3, 4, 5, 6, 7, 8, 9, 10, 11, 12, 13, 14, 15]) (w := (bW8 S)) C hR (c_X2_draw _ _ _ _ _ (b8g_now S) (x2) _ h) my_X2_draw m_8_146 rfl cl_2 (ge_bW2_0 _) rfl (Nat.le_of_ble_eq_true rfl) (Nat.le_of_ble_eq_true rfl) (su_bW8_1_bW2 S) bnd_1t15 (st := []) (Nat.le_of_ble_eq_true rfl) (bf_dk dd_X8_fill 21 rfl) rfl (fun _ => rfl) (w2 := fun u2 => bW8 (b8s_now S u2)) (pt_bW8_1_bW2 S) (fun r1 u2 h => ?_)
    refine bs_nameS bW8 (fun S3 eS3 => ?_)
    replace h := h S3 eS3
    refine bs_iconst C (bf_dk dd_X8_fill 22 rfl) (1 : Int32) (by decide) ?_
    refine bs_iadd C (bf_dk dd_X8_fill 23 rfl) ?_
    refine bs_istore C (bf_dk dd_X8_fill 24 rfl) (Nat.le_of_ble_eq_true rfl) (Nat.le_of_ble_eq_true rfl) (lv2 := [some (.ref 0), some (.int x1), some (.int x2), some (.int x3), some (.int x4), some (.int (r1 + (1 : Int32))), none, none]) rfl ?_
    refine bs_aload_n C (bf_dk dd_X8_fill 25 rfl) rfl ?_
    refine bs_get C (bf_dk dd_X8_fill 26 rfl) cl_8 in_8 0 (Nat.le_of_ble_eq_true rfl) rfl f_8_12 (ge_bW8_0 S3) rfl ?_
    refine bs_iload C (bf_dk dd_X8_fill 27 rfl) rfl ?_
    refine bs_callV_l (ps := [1, 2, 3, 4, 5, 6, 7, 8, 9, 10, 11, 12, 13, 14, 15]) (w := (bW8 S3)) C hR (c_X2_drawBytes _ _ _ _ _ (b8g_now S3) ((r1 + (1 : Int32))) _ h) my_X2_drawBytes m_8_150 rfl cl_2 (ge_bW2_0 _) rfl (Nat.le_of_ble_eq_true rfl) (Nat.le_of_ble_eq_true rfl) (su_bW8_1_bW2 S3) bnd_1t15 (st := []) (Nat.le_of_ble_eq_true rfl) (bf_dk dd_X8_fill 28 rfl) rfl (fun _ => rfl) (w2 := fun u5 => bW8 (b8s_now S3 u5)) (pt_bW8_1_bW2 S3) (fun r4 u5 h => ?_)
    refine bs_nameS bW8 (fun S6 eS6 => ?_)
    replace h := h S6 eS6
    refine bs_lstore C (bf_dk dd_X8_fill 29 rfl) (Nat.le_of_ble_eq_true rfl) (Nat.le_of_ble_eq_true rfl) (lv2 := [some (.ref 0), some (.int x1), some (.int x2), some (.int x3), some (.int x4), some (.int (r1 + (1 : Int32))), some (.long r4), none]) rfl ?_
    refine bs_aload_n C (bf_dk dd_X8_fill 30 rfl) rfl ?_
    refine bs_get C (bf_dk dd_X8_fill 31 rfl) cl_8 in_8 0 (Nat.le_of_ble_eq_true rfl) rfl f_8_12 (ge_bW8_0 S6) rfl ?_
    refine bs_get C (bf_dk dd_X8_fill 32 rfl) cl_2 in_2 0 (Nat.le_of_ble_eq_true rfl) rfl f_8_87 (ge_bW8_1 S6) rfl ?_
    refine bs_get C (bf_dk dd_X8_fill 33 rfl) cl_3 in_3 0 (Nat.le_of_ble_eq_true rfl) rfl f_8_99 (ge_bW8_2 S6) rfl ?_
    refine bs_lload C (bf_dk dd_X8_fill 34 rfl) rfl ?_
    refine bs_iload C (bf_dk dd_X8_fill 35 rfl) rfl ?_
    refine bs_callV_i (ps := [3, 4, 5]) (w := (bW8 S6)) C hR (c_X0_insert _ _ _ _ _ (b3g_members (b2g_told (b8g_now S6))) (r4) ((r1 + (1 : Int32))) _ h) my_X0_insert m_8_136 rfl cl_0 (ge_bW0_0 _) rfl (Nat.le_of_ble_eq_true rfl) (Nat.le_of_ble_eq_true rfl) (su_bW8_3_bW0 S6) rfl (st := []) (Nat.le_of_ble_eq_true rfl) (bf_dk dd_X8_fill 36 rfl) rfl (fun _ => rfl) (w2 := fun u8 => bW8 (b8s_now S6 (b2s_told (b8g_now S6) (b3s_members (b2g_told (b8g_now S6)) u8)))) (pt_bW8_3_bW0 S6) (fun r7 u8 h => ?_)
    refine bs_nameS bW8 (fun S9 eS9 => ?_)
    replace h := h S9 eS9
    refine bs_iconst C (bf_dk dd_X8_fill 37 rfl) (-1 : Int32) (by decide) ?_
    refine bs_icmp_eq C (bf_dk dd_X8_fill 38 rfl) (tgt := 78) rfl (fun c => ?_) (fun c => ?_)
    · replace h := h.1 c
      exact bs_weak (bf_s1 (bf_s1 (bf_s1 (bf_s1 (bf_s1 (bf_sn (bf_sn (bf_sn bf_s0)))))))) (t_X8_fill_78 C hR S9 (x1) (x2) (x3) (x4) Q B25 hB25 h)
    · replace h := h.2 c
      refine bs_iinc C (bf_dk dd_X8_fill 39 rfl) (x3 + (1 : Int32)) rfl rfl (Nat.le_of_ble_eq_true rfl) (Nat.le_of_ble_eq_true rfl) (lv2 := [some (.ref 0), some (.int x1), some (.int x2), some (.int (x3 + (1 : Int32))), some (.int x4), some (.int (r1 + (1 : Int32))), some (.long r4), none]) rfl ?_
      exact bs_weak (bf_s1 (bf_s1 (bf_s1 (bf_s1 (bf_s1 (bf_sn (bf_sn (bf_sn bf_s0)))))))) (t_X8_fill_78 C hR S9 (x1) (x2) ((x3 + (1 : Int32))) (x4) Q B25 hB25 h)
def wp_X8_fill_25 (S : bT8) (x1 : Int32) (x2 : Int32) (x3 : Int32) (x4 : Int32) (Q : Int32 → (bT8) → Prop) : Prop := ∃ I : Nat → Int32 → Int32 → Int32 → Int32 → (bT8) → Prop, (∃ n : Nat, I n x1 x2 x3 x4 S) ∧ ∀ (n : Nat) (x1 : Int32) (x2 : Int32) (x3 : Int32) (x4 : Int32) (S : bT8), I n x1 x2 x3 x4 S → wp_X8_fill_25b S x1 x2 x3 x4 Q (fun x1 x2 x3 x4 S => ∃ n2 : Nat, n2 < n ∧ I n2 x1 x2 x3 x4 S)
theorem t_X8_fill_25 {X : bf_X} (C : bf_C X RX8 cX8_fill 8 (some .int)) (hR : bf_Rm X 4 100) (S : bT8) (x1 : Int32) (x2 : Int32) (x3 : Int32) (x4 : Int32) (Q : Int32 → (bT8) → Prop) (h : wp_X8_fill_25 S x1 x2 x3 x4 Q) : bf_A X (bf_Zi X bW8 Q) 8 25 [some (.ref 0), some (.int x1), some (.int x2), some (.int x3), some (.int x4), none, none, none] [] (bW8 S) := by
  obtain ⟨I, ⟨n0, h0⟩, hI⟩ := h
  have key : ∀ (n : Nat) (x1 : Int32) (x2 : Int32) (x3 : Int32) (x4 : Int32) (S : bT8), I n x1 x2 x3 x4 S → bf_A X (bf_Zi X bW8 Q) 8 25 [some (.ref 0), some (.int x1), some (.int x2), some (.int x3), some (.int x4), none, none, none] [] (bW8 S) := by
    intro n
    induction n using Nat.strongRecOn with
    | _ n ih =>
      intro x1 x2 x3 x4 S hi
      exact t_X8_fill_25b C hR S x1 x2 x3 x4 Q _ (fun x1 x2 x3 x4 S hb => by obtain ⟨n2, hn, hi2⟩ := hb; exact ih n2 hn x1 x2 x3 x4 S hi2) (hI n x1 x2 x3 x4 S hi)
  exact key n0 x1 x2 x3 x4 S h0
def wp_X8_fill (S : bT8) (a1 : Int32) (a2 : Int32) (Q : Int32 → (bT8) → Prop) : Prop := ((a1 < (1 : Int32) → (Q (-1 : Int32) S)) ∧ (¬ a1 < (1 : Int32) → (((64 : Int32) < a1 → (Q (-1 : Int32) S)) ∧ (¬ (64 : Int32) < a1 → (wp_X8_isLength (a2) (fun r10 => ((¬ r10 = 0 → (wp_X8_fill_25 S (a1) (a2) ((0 : Int32)) ((0 : Int32)) Q)) ∧ (r10 = 0 → (Q (-1 : Int32) S)))))))))
set_option maxRecDepth 20000 in
theorem t_X8_fill {X : bf_X} (C : bf_C X RX8 cX8_fill 8 (some .int)) (hR : bf_Rm X 4 100) (S : bT8) (a1 : Int32) (a2 : Int32) (Q : Int32 → (bT8) → Prop) (h : wp_X8_fill S a1 a2 Q) : bf_A X (bf_Zi X bW8 Q) 8 0 [some (.ref 0), some (.int a1), some (.int a2), none, none, none, none, none] [] (bW8 S) := by
  unfold wp_X8_fill at h
  refine bs_iload_n C (bf_dk dd_X8_fill 0 rfl) rfl ?_
  refine bs_iconst C (bf_dk dd_X8_fill 1 rfl) (1 : Int32) (by decide) ?_
  refine bs_icmp_lt C (bf_dk dd_X8_fill 2 rfl) (tgt := 18) rfl (fun c => ?_) (fun c => ?_)
  · replace h := h.1 c
    refine bs_iconst C (bf_dk dd_X8_fill 9 rfl) (-1 : Int32) (by decide) ?_
    exact bs_iret (u := S) C (bf_dk dd_X8_fill 10 rfl) rfl h
  · replace h := h.2 c
    refine bs_iload_n C (bf_dk dd_X8_fill 3 rfl) rfl ?_
    refine bs_bipush C (bf_dk dd_X8_fill 4 rfl) (64 : Int32) (by decide) ?_
    refine bs_icmp_gt C (bf_dk dd_X8_fill 5 rfl) (tgt := 18) rfl (fun c => ?_) (fun c => ?_)
    · replace h := h.1 c
      refine bs_iconst C (bf_dk dd_X8_fill 9 rfl) (-1 : Int32) (by decide) ?_
      exact bs_iret (u := S) C (bf_dk dd_X8_fill 10 rfl) rfl h
    · replace h := h.2 c
      refine bs_iload_n C (bf_dk dd_X8_fill 6 rfl) rfl ?_
      refine bs_pureS_i (ps := []) (w := (bW8 S)) C hR (c_X8_isLength _ _ _ _ _ (a2) _ h) my_X8_isLength m_8_128 rfl (Nat.le_of_ble_eq_true rfl) (Nat.le_of_ble_eq_true rfl) rfl rfl (st := []) (Nat.le_of_ble_eq_true rfl) (bf_dk dd_X8_fill 7 rfl) rfl (fun _ => rfl) (fun r10 h => ?_)
      refine bs_if_ne C (bf_dk dd_X8_fill 8 rfl) (tgt := 20) rfl (fun c => ?_) (fun c => ?_)
      · replace h := h.1 c
        refine bs_iconst C (bf_dk dd_X8_fill 11 rfl) (0 : Int32) (by decide) ?_
        refine bs_istore_n C (bf_dk dd_X8_fill 12 rfl) rfl (Nat.le_of_ble_eq_true rfl) (Nat.le_of_ble_eq_true rfl) (lv2 := [some (.ref 0), some (.int a1), some (.int a2), some (.int (0 : Int32)), none, none, none, none]) rfl ?_
        refine bs_iconst C (bf_dk dd_X8_fill 13 rfl) (0 : Int32) (by decide) ?_
        refine bs_istore C (bf_dk dd_X8_fill 14 rfl) (Nat.le_of_ble_eq_true rfl) (Nat.le_of_ble_eq_true rfl) (lv2 := [some (.ref 0), some (.int a1), some (.int a2), some (.int (0 : Int32)), some (.int (0 : Int32)), none, none, none]) rfl ?_
        exact bs_weak (bf_s1 (bf_s1 (bf_s1 (bf_s1 (bf_s1 (bf_sn (bf_sn (bf_sn bf_s0)))))))) (t_X8_fill_25 C hR S (a1) (a2) ((0 : Int32)) ((0 : Int32)) Q h)
      · replace h := h.2 c
        refine bs_iconst C (bf_dk dd_X8_fill 9 rfl) (-1 : Int32) (by decide) ?_
        exact bs_iret (u := S) C (bf_dk dd_X8_fill 10 rfl) rfl h
theorem c_X8_fill (l : Launch) (dC : Nat → ClassId) (dI : Nat → Nat → Nat) (ac : Nat → ClassId) (al : Nat → Nat) (S : bT8) (a1 : Int32) (a2 : Int32) (Q : Int32 → (bT8) → Prop) (h : wp_X8_fill S a1 a2 Q) : bf_M l yX8_fill cX8_fill 8 (some .int) 4 100 dC dI ac al [.ref 0, .int a1, .int a2] (bW8 S) (bf_Ki dC dI ac al bW8 Q) := by
  refine bf_start [some (.ref 0), some (.int a1), some (.int a2), none, none, none, none, none] (by decide) (Nat.le_of_ble_eq_true rfl) (bf_s1 (bf_s1 (bf_s1 (bf_en 5)))) ?_
  intro X hl C hR e1 e2 e3 e4
  subst e1; subst e2; subst e3; subst e4
  exact t_X8_fill C hR S a1 a2 Q h
def wp_X8_build (S : bT8) (Q : Int32 → (bT8) → Prop) : Prop := (wp_X3_copyFrom ((b2g_built (b8g_now S)), (b2g_told (b8g_now S))) (fun u2 => (∀ S3 : bT8, S3 = (b8s_now (b8s_now S (b2s_built (b8g_now S) u2.1)) (b2s_told (b8g_now (b8s_now S (b2s_built (b8g_now S) u2.1))) u2.2)) → (wp_X8_rebuild S3 (fun u5 => (wp_X1_count (b8g_leaves u5) (fun r6 => (Q r6 u5))))))))
set_option maxRecDepth 20000 in
theorem t_X8_build {X : bf_X} (C : bf_C X RX8 cX8_build 1 (some .int)) (hR : bf_Rm X 6 136) (S : bT8) (Q : Int32 → (bT8) → Prop) (h : wp_X8_build S Q) : bf_A X (bf_Zi X bW8 Q) 1 0 [some (.ref 0)] [] (bW8 S) := by
  unfold wp_X8_build at h
  refine bs_aload_n C (bf_dk dd_X8_build 0 rfl) rfl ?_
  refine bs_get C (bf_dk dd_X8_build 1 rfl) cl_8 in_8 0 (Nat.le_of_ble_eq_true rfl) rfl f_8_12 (ge_bW8_0 S) rfl ?_
  refine bs_get C (bf_dk dd_X8_build 2 rfl) cl_2 in_2 1 (Nat.le_of_ble_eq_true rfl) rfl f_8_154 (ge_bW8_1 S) rfl ?_
  refine bs_aload_n C (bf_dk dd_X8_build 3 rfl) rfl ?_
  refine bs_get C (bf_dk dd_X8_build 4 rfl) cl_8 in_8 0 (Nat.le_of_ble_eq_true rfl) rfl f_8_12 (ge_bW8_0 S) rfl ?_
  refine bs_get C (bf_dk dd_X8_build 5 rfl) cl_2 in_2 0 (Nat.le_of_ble_eq_true rfl) rfl f_8_87 (ge_bW8_1 S) rfl ?_
  refine bs_callV_v (ps := [7, 8, 9, 10, 11, 2, 3, 4, 5, 6]) (w := (bW8 S)) C hR (c_X3_copyFrom _ _ _ _ _ ((b2g_built (b8g_now S)), (b2g_told (b8g_now S))) _ h) my_X3_copyFrom m_8_157 rfl cl_3 (ge_bW3_3_0 _) rfl (Nat.le_of_ble_eq_true rfl) (Nat.le_of_ble_eq_true rfl) (su_bW8_7_2_bW3_3 S) bnd_7t11_2t6 (st := []) (Nat.le_of_ble_eq_true rfl) (bf_dk dd_X8_build 6 rfl) rfl (fun _ => rfl) (w2 := fun u2 => bW8 (b8s_now (b8s_now S (b2s_built (b8g_now S) u2.1)) (b2s_told (b8g_now (b8s_now S (b2s_built (b8g_now S) u2.1))) u2.2))) (pt_bW8_7_2_bW3_3 S) (fun u2 h => ?_)
  refine bs_nameS bW8 (fun S3 eS3 => ?_)
  replace h := h S3 eS3
  refine bs_aload_n C (bf_dk dd_X8_build 7 rfl) rfl ?_
  refine bs_selfV_v C hR (c_X8_rebuild _ _ _ _ _ S3 _ h) my_X8_rebuild m_8_69 rfl cl_8 (ge_bW8_0 _) rfl (Nat.le_of_ble_eq_true rfl) (Nat.le_of_ble_eq_true rfl) (st := []) (Nat.le_of_ble_eq_true rfl) (bf_dk dd_X8_build 8 rfl) rfl (len := 68) (fun _ => rfl) (fun u5 h => ?_)
  refine bs_aload_n C (bf_dk dd_X8_build 9 rfl) rfl ?_
  refine bs_get C (bf_dk dd_X8_build 10 rfl) cl_8 in_8 3 (Nat.le_of_ble_eq_true rfl) rfl f_8_26 (ge_bW8_0 u5) rfl ?_
  refine bs_pureV_i (ps := [31, 32, 33, 34, 35, 36, 37, 38, 39, 40, 41, 42, 43, 44]) (w := (bW8 u5)) C hR (c_X1_count _ _ _ _ _ (b8g_leaves u5) _ h) my_X1_count m_8_160 rfl cl_1 (ge_bW1_0 _) rfl (Nat.le_of_ble_eq_true rfl) (Nat.le_of_ble_eq_true rfl) (su_bW8_31_bW1 u5) bnd_31t44 (st := []) (Nat.le_of_ble_eq_true rfl) (bf_dk dd_X8_build 11 rfl) rfl (fun _ => rfl) (fun r6 h => ?_)
  exact bs_iret (u := u5) C (bf_dk dd_X8_build 12 rfl) rfl h
theorem c_X8_build (l : Launch) (dC : Nat → ClassId) (dI : Nat → Nat → Nat) (ac : Nat → ClassId) (al : Nat → Nat) (S : bT8) (Q : Int32 → (bT8) → Prop) (h : wp_X8_build S Q) : bf_M l yX8_build cX8_build 1 (some .int) 6 136 dC dI ac al [.ref 0] (bW8 S) (bf_Ki dC dI ac al bW8 Q) := by
  refine bf_start [some (.ref 0)] (by decide) (Nat.le_of_ble_eq_true rfl) (bf_s1 bf_s0) ?_
  intro X hl C hR e1 e2 e3 e4
  subst e1; subst e2; subst e3; subst e4
  exact t_X8_build C hR S Q h
def wp_X8_has (S : bT8) (a1 : Int32) (a2 : Int32) (a3 : Int32) (a4 : Int32) (Q : Int32 → Prop) : Prop := (wp_X8_isLength (a3) (fun r1 => ((¬ r1 = 0 → (wp_X8_keyOf (a1) (a2) (a3) (fun r3 => ((¬ a4 = 0 → ((¬ a4 = (1 : Int32) → (Q (-1 : Int32))) ∧ (a4 = (1 : Int32) → (wp_X0_numberOf (b1g_owners (b8g_leaves S)) (r3) (a3) (fun r5 => (Q r5)))))) ∧ (a4 = 0 → (wp_X0_numberOf (b3g_members (b2g_told (b8g_now S))) (r3) (a3) (fun r7 => (Q r7)))))))) ∧ (r1 = 0 → (Q (-1 : Int32))))))
set_option maxRecDepth 20000 in
theorem t_X8_has {X : bf_X} (C : bf_C X RX8 cX8_has 7 (some .int)) (hR : bf_Rm X 4 99) (S : bT8) (a1 : Int32) (a2 : Int32) (a3 : Int32) (a4 : Int32) (Q : Int32 → Prop) (h : wp_X8_has S a1 a2 a3 a4 Q) : bf_A X (bf_Zi X bW8 (fun r u => u = S ∧ Q r)) 7 0 [some (.ref 0), some (.int a1), some (.int a2), some (.int a3), some (.int a4), none, none] [] (bW8 S) := by
  unfold wp_X8_has at h
  refine bs_iload_n C (bf_dk dd_X8_has 0 rfl) rfl ?_
  refine bs_pureS_i (ps := []) (w := (bW8 S)) C hR (c_X8_isLength _ _ _ _ _ (a3) _ h) my_X8_isLength m_8_128 rfl (Nat.le_of_ble_eq_true rfl) (Nat.le_of_ble_eq_true rfl) rfl rfl (st := []) (Nat.le_of_ble_eq_true rfl) (bf_dk dd_X8_has 1 rfl) rfl (fun _ => rfl) (fun r1 h => ?_)
  refine bs_if_ne C (bf_dk dd_X8_has 2 rfl) (tgt := 9) rfl (fun c => ?_) (fun c => ?_)
  · replace h := h.1 c
    refine bs_iload_n C (bf_dk dd_X8_has 5 rfl) rfl ?_
    refine bs_iload_n C (bf_dk dd_X8_has 6 rfl) rfl ?_
    refine bs_iload_n C (bf_dk dd_X8_has 7 rfl) rfl ?_
    refine bs_pureS_l (ps := []) (w := (bW8 S)) C hR (c_X8_keyOf _ _ _ _ _ (a1) (a2) (a3) _ h) my_X8_keyOf m_8_132 rfl (Nat.le_of_ble_eq_true rfl) (Nat.le_of_ble_eq_true rfl) rfl rfl (st := []) (Nat.le_of_ble_eq_true rfl) (bf_dk dd_X8_has 8 rfl) rfl (fun _ => rfl) (fun r3 h => ?_)
    refine bs_lstore C (bf_dk dd_X8_has 9 rfl) (Nat.le_of_ble_eq_true rfl) (Nat.le_of_ble_eq_true rfl) (lv2 := [some (.ref 0), some (.int a1), some (.int a2), some (.int a3), some (.int a4), some (.long r3), none]) rfl ?_
    refine bs_iload C (bf_dk dd_X8_has 10 rfl) rfl ?_
    refine bs_if_ne C (bf_dk dd_X8_has 11 rfl) (tgt := 39) rfl (fun c => ?_) (fun c => ?_)
    · replace h := h.1 c
      refine bs_iload C (bf_dk dd_X8_has 20 rfl) rfl ?_
      refine bs_iconst C (bf_dk dd_X8_has 21 rfl) (1 : Int32) (by decide) ?_
      refine bs_icmp_ne C (bf_dk dd_X8_has 22 rfl) (tgt := 61) rfl (fun c => ?_) (fun c => ?_)
      · replace h := h.1 c
        refine bs_iconst C (bf_dk dd_X8_has 30 rfl) (-1 : Int32) (by decide) ?_
        exact bs_iret (u := S) C (bf_dk dd_X8_has 31 rfl) rfl ⟨rfl, h⟩
      · replace h := h.2 c
        refine bs_aload_n C (bf_dk dd_X8_has 23 rfl) rfl ?_
        refine bs_get C (bf_dk dd_X8_has 24 rfl) cl_8 in_8 3 (Nat.le_of_ble_eq_true rfl) rfl f_8_26 (ge_bW8_0 S) rfl ?_
        refine bs_get C (bf_dk dd_X8_has 25 rfl) cl_1 in_1 0 (Nat.le_of_ble_eq_true rfl) rfl f_8_163 (ge_bW8_31 S) rfl ?_
        refine bs_lload C (bf_dk dd_X8_has 26 rfl) rfl ?_
        refine bs_iload_n C (bf_dk dd_X8_has 27 rfl) rfl ?_
        refine bs_pureV_i (ps := [32, 33, 34]) (w := (bW8 S)) C hR (c_X0_numberOf _ _ _ _ _ (b1g_owners (b8g_leaves S)) (r3) (a3) _ h) my_X0_numberOf m_8_140 rfl cl_0 (ge_bW0_0 _) rfl (Nat.le_of_ble_eq_true rfl) (Nat.le_of_ble_eq_true rfl) (su_bW8_32_bW0 S) rfl (st := []) (Nat.le_of_ble_eq_true rfl) (bf_dk dd_X8_has 28 rfl) rfl (fun _ => rfl) (fun r5 h => ?_)
        refine bs_goto C (bf_dk dd_X8_has 29 rfl) (tgt := 62) rfl ?_
        exact bs_iret (u := S) C (bf_dk dd_X8_has 31 rfl) rfl ⟨rfl, h⟩
    · replace h := h.2 c
      refine bs_aload_n C (bf_dk dd_X8_has 12 rfl) rfl ?_
      refine bs_get C (bf_dk dd_X8_has 13 rfl) cl_8 in_8 0 (Nat.le_of_ble_eq_true rfl) rfl f_8_12 (ge_bW8_0 S) rfl ?_
      refine bs_get C (bf_dk dd_X8_has 14 rfl) cl_2 in_2 0 (Nat.le_of_ble_eq_true rfl) rfl f_8_87 (ge_bW8_1 S) rfl ?_
      refine bs_get C (bf_dk dd_X8_has 15 rfl) cl_3 in_3 0 (Nat.le_of_ble_eq_true rfl) rfl f_8_99 (ge_bW8_2 S) rfl ?_
      refine bs_lload C (bf_dk dd_X8_has 16 rfl) rfl ?_
      refine bs_iload_n C (bf_dk dd_X8_has 17 rfl) rfl ?_
      refine bs_pureV_i (ps := [3, 4, 5]) (w := (bW8 S)) C hR (c_X0_numberOf _ _ _ _ _ (b3g_members (b2g_told (b8g_now S))) (r3) (a3) _ h) my_X0_numberOf m_8_140 rfl cl_0 (ge_bW0_0 _) rfl (Nat.le_of_ble_eq_true rfl) (Nat.le_of_ble_eq_true rfl) (su_bW8_3_bW0 S) rfl (st := []) (Nat.le_of_ble_eq_true rfl) (bf_dk dd_X8_has 18 rfl) rfl (fun _ => rfl) (fun r7 h => ?_)
      exact bs_iret (u := S) C (bf_dk dd_X8_has 19 rfl) rfl ⟨rfl, h⟩
  · replace h := h.2 c
    refine bs_iconst C (bf_dk dd_X8_has 3 rfl) (-1 : Int32) (by decide) ?_
    exact bs_iret (u := S) C (bf_dk dd_X8_has 4 rfl) rfl ⟨rfl, h⟩
theorem c_X8_has (l : Launch) (dC : Nat → ClassId) (dI : Nat → Nat → Nat) (ac : Nat → ClassId) (al : Nat → Nat) (S : bT8) (a1 : Int32) (a2 : Int32) (a3 : Int32) (a4 : Int32) (Q : Int32 → Prop) (h : wp_X8_has S a1 a2 a3 a4 Q) : bf_M l yX8_has cX8_has 7 (some .int) 4 99 dC dI ac al [.ref 0, .int a1, .int a2, .int a3, .int a4] (bW8 S) (bf_Ki dC dI ac al bW8 (fun r u => u = S ∧ Q r)) := by
  refine bf_start [some (.ref 0), some (.int a1), some (.int a2), some (.int a3), some (.int a4), none, none] (by decide) (Nat.le_of_ble_eq_true rfl) (bf_s1 (bf_s1 (bf_s1 (bf_s1 (bf_s1 (bf_en 2)))))) ?_
  intro X hl C hR e1 e2 e3 e4
  subst e1; subst e2; subst e3; subst e4
  exact t_X8_has C hR S a1 a2 a3 a4 Q h
def wp_X8_askKey (S : bT8) (a1 : Int64) (a3 : Int32) (Q : Int32 → (bT8) → Prop) : Prop := (wp_X1_verdictOf (b8g_leaves S) (a1) (a3) (fun r1 => (wp_X2_note (b8g_now S) ((0 : Int32)) (r1) (fun u4 => (∀ S5 : bT8, S5 = (b8s_now S u4) → (Q r1 S5))))))
set_option maxRecDepth 20000 in
theorem t_X8_askKey {X : bf_X} (C : bf_C X RX8 cX8_askKey 5 (some .int)) (hR : bf_Rm X 5 124) (S : bT8) (a1 : Int64) (a3 : Int32) (Q : Int32 → (bT8) → Prop) (h : wp_X8_askKey S a1 a3 Q) : bf_A X (bf_Zi X bW8 Q) 5 0 [some (.ref 0), some (.long a1), none, some (.int a3), none] [] (bW8 S) := by
  unfold wp_X8_askKey at h
  refine bs_aload_n C (bf_dk dd_X8_askKey 0 rfl) rfl ?_
  refine bs_get C (bf_dk dd_X8_askKey 1 rfl) cl_8 in_8 3 (Nat.le_of_ble_eq_true rfl) rfl f_8_26 (ge_bW8_0 S) rfl ?_
  refine bs_lload_n C (bf_dk dd_X8_askKey 2 rfl) rfl ?_
  refine bs_iload_n C (bf_dk dd_X8_askKey 3 rfl) rfl ?_
  refine bs_pureV_i (ps := [31, 32, 33, 34, 35, 36, 37, 38, 39, 40, 41, 42, 43, 44]) (w := (bW8 S)) C hR (c_X1_verdictOf _ _ _ _ _ (b8g_leaves S) (a1) (a3) _ h) my_X1_verdictOf m_8_330 rfl cl_1 (ge_bW1_0 _) rfl (Nat.le_of_ble_eq_true rfl) (Nat.le_of_ble_eq_true rfl) (su_bW8_31_bW1 S) bnd_31t44 (st := []) (Nat.le_of_ble_eq_true rfl) (bf_dk dd_X8_askKey 4 rfl) rfl (fun _ => rfl) (fun r1 h => ?_)
  refine bs_istore C (bf_dk dd_X8_askKey 5 rfl) (Nat.le_of_ble_eq_true rfl) (Nat.le_of_ble_eq_true rfl) (lv2 := [some (.ref 0), some (.long a1), none, some (.int a3), some (.int r1)]) rfl ?_
  refine bs_aload_n C (bf_dk dd_X8_askKey 6 rfl) rfl ?_
  refine bs_get C (bf_dk dd_X8_askKey 7 rfl) cl_8 in_8 0 (Nat.le_of_ble_eq_true rfl) rfl f_8_12 (ge_bW8_0 S) rfl ?_
  refine bs_iconst C (bf_dk dd_X8_askKey 8 rfl) (0 : Int32) (by decide) ?_
  refine bs_iload C (bf_dk dd_X8_askKey 9 rfl) rfl ?_
  refine bs_callV_v (ps := [1, 2, 3, 4, 5, 6, 7, 8, 9, 10, 11, 12, 13, 14, 15]) (w := (bW8 S)) C hR (c_X2_note _ _ _ _ _ (b8g_now S) ((0 : Int32)) (r1) _ h) my_X2_note m_8_399 rfl cl_2 (ge_bW2_0 _) rfl (Nat.le_of_ble_eq_true rfl) (Nat.le_of_ble_eq_true rfl) (su_bW8_1_bW2 S) bnd_1t15 (st := []) (Nat.le_of_ble_eq_true rfl) (bf_dk dd_X8_askKey 10 rfl) rfl (fun _ => rfl) (w2 := fun u4 => bW8 (b8s_now S u4)) (pt_bW8_1_bW2 S) (fun u4 h => ?_)
  refine bs_nameS bW8 (fun S5 eS5 => ?_)
  replace h := h S5 eS5
  refine bs_iload C (bf_dk dd_X8_askKey 11 rfl) rfl ?_
  exact bs_iret (u := S5) C (bf_dk dd_X8_askKey 12 rfl) rfl h
theorem c_X8_askKey (l : Launch) (dC : Nat → ClassId) (dI : Nat → Nat → Nat) (ac : Nat → ClassId) (al : Nat → Nat) (S : bT8) (a1 : Int64) (a3 : Int32) (Q : Int32 → (bT8) → Prop) (h : wp_X8_askKey S a1 a3 Q) : bf_M l yX8_askKey cX8_askKey 5 (some .int) 5 124 dC dI ac al [.ref 0, .long a1, .int a3] (bW8 S) (bf_Ki dC dI ac al bW8 Q) := by
  refine bf_start [some (.ref 0), some (.long a1), none, some (.int a3), none] (by decide) (Nat.le_of_ble_eq_true rfl) (bf_s1 (bf_s1 (bf_sn (bf_s1 (bf_en 1))))) ?_
  intro X hl C hR e1 e2 e3 e4
  subst e1; subst e2; subst e3; subst e4
  exact t_X8_askKey C hR S a1 a3 Q h
def wp_X8_may (S : bT8) (a1 : Int32) (a2 : Int32) (a3 : Int32) (Q : Int32 → (bT8) → Prop) : Prop := (wp_X8_isLength (a3) (fun r1 => ((¬ r1 = 0 → (wp_X8_keyOf (a1) (a2) (a3) (fun r3 => (wp_X8_askKey S (r3) (a3) (fun r5 u6 => ((¬ r5 = 0 → (Q (1 : Int32) u6)) ∧ (r5 = 0 → (Q (0 : Int32) u6)))))))) ∧ (r1 = 0 → (Q (-1 : Int32) S)))))
set_option maxRecDepth 20000 in
theorem t_X8_may {X : bf_X} (C : bf_C X RX8 cX8_may 4 (some .int)) (hR : bf_Rm X 6 148) (S : bT8) (a1 : Int32) (a2 : Int32) (a3 : Int32) (Q : Int32 → (bT8) → Prop) (h : wp_X8_may S a1 a2 a3 Q) : bf_A X (bf_Zi X bW8 Q) 4 0 [some (.ref 0), some (.int a1), some (.int a2), some (.int a3)] [] (bW8 S) := by
  unfold wp_X8_may at h
  refine bs_iload_n C (bf_dk dd_X8_may 0 rfl) rfl ?_
  refine bs_pureS_i (ps := []) (w := (bW8 S)) C hR (c_X8_isLength _ _ _ _ _ (a3) _ h) my_X8_isLength m_8_128 rfl (Nat.le_of_ble_eq_true rfl) (Nat.le_of_ble_eq_true rfl) rfl rfl (st := []) (Nat.le_of_ble_eq_true rfl) (bf_dk dd_X8_may 1 rfl) rfl (fun _ => rfl) (fun r1 h => ?_)
  refine bs_if_ne C (bf_dk dd_X8_may 2 rfl) (tgt := 9) rfl (fun c => ?_) (fun c => ?_)
  · replace h := h.1 c
    refine bs_aload_n C (bf_dk dd_X8_may 5 rfl) rfl ?_
    refine bs_iload_n C (bf_dk dd_X8_may 6 rfl) rfl ?_
    refine bs_iload_n C (bf_dk dd_X8_may 7 rfl) rfl ?_
    refine bs_iload_n C (bf_dk dd_X8_may 8 rfl) rfl ?_
    refine bs_pureS_l (ps := []) (w := (bW8 S)) C hR (c_X8_keyOf _ _ _ _ _ (a1) (a2) (a3) _ h) my_X8_keyOf m_8_132 rfl (Nat.le_of_ble_eq_true rfl) (Nat.le_of_ble_eq_true rfl) rfl rfl (st := [.ref 0]) (Nat.le_of_ble_eq_true rfl) (bf_dk dd_X8_may 9 rfl) rfl (fun _ => rfl) (fun r3 h => ?_)
    refine bs_iload_n C (bf_dk dd_X8_may 10 rfl) rfl ?_
    refine bs_selfV_i C hR (c_X8_askKey _ _ _ _ _ S (r3) (a3) _ h) my_X8_askKey m_8_166 rfl cl_8 (ge_bW8_0 _) rfl (Nat.le_of_ble_eq_true rfl) (Nat.le_of_ble_eq_true rfl) (st := []) (Nat.le_of_ble_eq_true rfl) (bf_dk dd_X8_may 11 rfl) rfl (len := 68) (fun _ => rfl) (fun r5 u6 h => ?_)
    refine bs_if_ne C (bf_dk dd_X8_may 12 rfl) (tgt := 27) rfl (fun c => ?_) (fun c => ?_)
    · replace h := h.1 c
      refine bs_iconst C (bf_dk dd_X8_may 15 rfl) (1 : Int32) (by decide) ?_
      exact bs_iret (u := u6) C (bf_dk dd_X8_may 16 rfl) rfl h
    · replace h := h.2 c
      refine bs_iconst C (bf_dk dd_X8_may 13 rfl) (0 : Int32) (by decide) ?_
      refine bs_goto C (bf_dk dd_X8_may 14 rfl) (tgt := 28) rfl ?_
      exact bs_iret (u := u6) C (bf_dk dd_X8_may 16 rfl) rfl h
  · replace h := h.2 c
    refine bs_iconst C (bf_dk dd_X8_may 3 rfl) (-1 : Int32) (by decide) ?_
    exact bs_iret (u := S) C (bf_dk dd_X8_may 4 rfl) rfl h
theorem c_X8_may (l : Launch) (dC : Nat → ClassId) (dI : Nat → Nat → Nat) (ac : Nat → ClassId) (al : Nat → Nat) (S : bT8) (a1 : Int32) (a2 : Int32) (a3 : Int32) (Q : Int32 → (bT8) → Prop) (h : wp_X8_may S a1 a2 a3 Q) : bf_M l yX8_may cX8_may 4 (some .int) 6 148 dC dI ac al [.ref 0, .int a1, .int a2, .int a3] (bW8 S) (bf_Ki dC dI ac al bW8 Q) := by
  refine bf_start [some (.ref 0), some (.int a1), some (.int a2), some (.int a3)] (by decide) (Nat.le_of_ble_eq_true rfl) (bf_s1 (bf_s1 (bf_s1 (bf_s1 bf_s0)))) ?_
  intro X hl C hR e1 e2 e3 e4
  subst e1; subst e2; subst e3; subst e4
  exact t_X8_may C hR S a1 a2 a3 Q h
def wp_X8_leafOf (S : bT8) (a1 : Int32) (a2 : Int32) (a3 : Int32) (Q : Int32 → Prop) : Prop := (wp_X8_isLength (a3) (fun r1 => ((r1 = 0 → (Q (-1 : Int32))) ∧ (¬ r1 = 0 → (wp_X8_keyOf (a1) (a2) (a3) (fun r3 => (wp_X1_possibleAt (b8g_leaves S) (r3) (a3) (fun r5 => (Q r5)))))))))
set_option maxRecDepth 20000 in
theorem t_X8_leafOf {X : bf_X} (C : bf_C X RX8 cX8_leafOf 4 (some .int)) (hR : bf_Rm X 4 100) (S : bT8) (a1 : Int32) (a2 : Int32) (a3 : Int32) (Q : Int32 → Prop) (h : wp_X8_leafOf S a1 a2 a3 Q) : bf_A X (bf_Zi X bW8 (fun r u => u = S ∧ Q r)) 4 0 [some (.ref 0), some (.int a1), some (.int a2), some (.int a3)] [] (bW8 S) := by
  unfold wp_X8_leafOf at h
  refine bs_iload_n C (bf_dk dd_X8_leafOf 0 rfl) rfl ?_
  refine bs_pureS_i (ps := []) (w := (bW8 S)) C hR (c_X8_isLength _ _ _ _ _ (a3) _ h) my_X8_isLength m_8_128 rfl (Nat.le_of_ble_eq_true rfl) (Nat.le_of_ble_eq_true rfl) rfl rfl (st := []) (Nat.le_of_ble_eq_true rfl) (bf_dk dd_X8_leafOf 1 rfl) rfl (fun _ => rfl) (fun r1 h => ?_)
  refine bs_if_eq C (bf_dk dd_X8_leafOf 2 rfl) (tgt := 24) rfl (fun c => ?_) (fun c => ?_)
  · replace h := h.1 c
    refine bs_iconst C (bf_dk dd_X8_leafOf 12 rfl) (-1 : Int32) (by decide) ?_
    exact bs_iret (u := S) C (bf_dk dd_X8_leafOf 13 rfl) rfl ⟨rfl, h⟩
  · replace h := h.2 c
    refine bs_aload_n C (bf_dk dd_X8_leafOf 3 rfl) rfl ?_
    refine bs_get C (bf_dk dd_X8_leafOf 4 rfl) cl_8 in_8 3 (Nat.le_of_ble_eq_true rfl) rfl f_8_26 (ge_bW8_0 S) rfl ?_
    refine bs_iload_n C (bf_dk dd_X8_leafOf 5 rfl) rfl ?_
    refine bs_iload_n C (bf_dk dd_X8_leafOf 6 rfl) rfl ?_
    refine bs_iload_n C (bf_dk dd_X8_leafOf 7 rfl) rfl ?_
    refine bs_pureS_l (ps := []) (w := (bW8 S)) C hR (c_X8_keyOf _ _ _ _ _ (a1) (a2) (a3) _ h) my_X8_keyOf m_8_132 rfl (Nat.le_of_ble_eq_true rfl) (Nat.le_of_ble_eq_true rfl) rfl rfl (st := [.ref 31]) (Nat.le_of_ble_eq_true rfl) (bf_dk dd_X8_leafOf 8 rfl) rfl (fun _ => rfl) (fun r3 h => ?_)
    refine bs_iload_n C (bf_dk dd_X8_leafOf 9 rfl) rfl ?_
    refine bs_pureV_i (ps := [31, 32, 33, 34, 35, 36, 37, 38, 39, 40, 41, 42, 43, 44]) (w := (bW8 S)) C hR (c_X1_possibleAt _ _ _ _ _ (b8g_leaves S) (r3) (a3) _ h) my_X1_possibleAt m_8_169 rfl cl_1 (ge_bW1_0 _) rfl (Nat.le_of_ble_eq_true rfl) (Nat.le_of_ble_eq_true rfl) (su_bW8_31_bW1 S) bnd_31t44 (st := []) (Nat.le_of_ble_eq_true rfl) (bf_dk dd_X8_leafOf 10 rfl) rfl (fun _ => rfl) (fun r5 h => ?_)
    refine bs_goto C (bf_dk dd_X8_leafOf 11 rfl) (tgt := 25) rfl ?_
    exact bs_iret (u := S) C (bf_dk dd_X8_leafOf 13 rfl) rfl ⟨rfl, h⟩
theorem c_X8_leafOf (l : Launch) (dC : Nat → ClassId) (dI : Nat → Nat → Nat) (ac : Nat → ClassId) (al : Nat → Nat) (S : bT8) (a1 : Int32) (a2 : Int32) (a3 : Int32) (Q : Int32 → Prop) (h : wp_X8_leafOf S a1 a2 a3 Q) : bf_M l yX8_leafOf cX8_leafOf 4 (some .int) 4 100 dC dI ac al [.ref 0, .int a1, .int a2, .int a3] (bW8 S) (bf_Ki dC dI ac al bW8 (fun r u => u = S ∧ Q r)) := by
  refine bf_start [some (.ref 0), some (.int a1), some (.int a2), some (.int a3)] (by decide) (Nat.le_of_ble_eq_true rfl) (bf_s1 (bf_s1 (bf_s1 (bf_s1 bf_s0)))) ?_
  intro X hl C hR e1 e2 e3 e4
  subst e1; subst e2; subst e3; subst e4
  exact t_X8_leafOf C hR S a1 a2 a3 Q h
def wp_X8_askRange_67 (S : bT8) (x7 : Int32) (Q : Int32 → (bT8) → Prop) : Prop := (wp_X2_note (b8g_now S) ((3 : Int32)) (x7) (fun u2 => (∀ S3 : bT8, S3 = (b8s_now S u2) → (Q x7 S3))))
set_option maxRecDepth 20000 in
theorem t_X8_askRange_67 {X : bf_X} (C : bf_C X RX8 cX8_askRange 9 (some .int)) (hR : bf_Rm X 4 101) (S : bT8) (x7 : Int32) (Q : Int32 → (bT8) → Prop) (h : wp_X8_askRange_67 S x7 Q) : bf_A X (bf_Zi X bW8 Q) 9 67 [some (.ref 0), none, none, none, none, none, none, some (.int x7), none] [] (bW8 S) := by
  unfold wp_X8_askRange_67 at h
  refine bs_aload_n C (bf_dk dd_X8_askRange 33 rfl) rfl ?_
  refine bs_get C (bf_dk dd_X8_askRange 34 rfl) cl_8 in_8 0 (Nat.le_of_ble_eq_true rfl) rfl f_8_12 (ge_bW8_0 S) rfl ?_
  refine bs_iconst C (bf_dk dd_X8_askRange 35 rfl) (3 : Int32) (by decide) ?_
  refine bs_iload C (bf_dk dd_X8_askRange 36 rfl) rfl ?_
  refine bs_callV_v (ps := [1, 2, 3, 4, 5, 6, 7, 8, 9, 10, 11, 12, 13, 14, 15]) (w := (bW8 S)) C hR (c_X2_note _ _ _ _ _ (b8g_now S) ((3 : Int32)) (x7) _ h) my_X2_note m_8_399 rfl cl_2 (ge_bW2_0 _) rfl (Nat.le_of_ble_eq_true rfl) (Nat.le_of_ble_eq_true rfl) (su_bW8_1_bW2 S) bnd_1t15 (st := []) (Nat.le_of_ble_eq_true rfl) (bf_dk dd_X8_askRange 37 rfl) rfl (fun _ => rfl) (w2 := fun u2 => bW8 (b8s_now S u2)) (pt_bW8_1_bW2 S) (fun u2 h => ?_)
  refine bs_nameS bW8 (fun S3 eS3 => ?_)
  replace h := h S3 eS3
  refine bs_iload C (bf_dk dd_X8_askRange 38 rfl) rfl ?_
  exact bs_iret (u := S3) C (bf_dk dd_X8_askRange 39 rfl) rfl h
def wp_X8_askRange_65 (S : bT8) (t0 : Int32) (Q : Int32 → (bT8) → Prop) : Prop := (wp_X8_askRange_67 S (t0) Q)
set_option maxRecDepth 20000 in
theorem t_X8_askRange_65 {X : bf_X} (C : bf_C X RX8 cX8_askRange 9 (some .int)) (hR : bf_Rm X 4 101) (S : bT8) (t0 : Int32) (Q : Int32 → (bT8) → Prop) (h : wp_X8_askRange_65 S t0 Q) : bf_A X (bf_Zi X bW8 Q) 9 65 [some (.ref 0), none, none, none, none, none, none, none, none] [.int t0] (bW8 S) := by
  unfold wp_X8_askRange_65 at h
  refine bs_istore C (bf_dk dd_X8_askRange 32 rfl) (Nat.le_of_ble_eq_true rfl) (Nat.le_of_ble_eq_true rfl) (lv2 := [some (.ref 0), none, none, none, none, none, none, some (.int t0), none]) rfl ?_
  exact bs_weak (bf_s1 (bf_sn (bf_sn (bf_sn (bf_sn (bf_sn (bf_sn (bf_s1 (bf_sn bf_s0))))))))) (t_X8_askRange_67 C hR S (t0) Q h)
def wp_X8_askRange_53 (S : bT8) (t0 : Int32) (Q : Int32 → (bT8) → Prop) : Prop := ((t0 = 0 → (wp_X8_askRange_65 S ((2 : Int32)) Q)) ∧ (¬ t0 = 0 → (wp_X8_askRange_65 S ((1 : Int32)) Q)))
set_option maxRecDepth 20000 in
theorem t_X8_askRange_53 {X : bf_X} (C : bf_C X RX8 cX8_askRange 9 (some .int)) (hR : bf_Rm X 4 101) (S : bT8) (t0 : Int32) (Q : Int32 → (bT8) → Prop) (h : wp_X8_askRange_53 S t0 Q) : bf_A X (bf_Zi X bW8 Q) 9 53 [some (.ref 0), none, none, none, none, none, none, none, none] [.int t0] (bW8 S) := by
  unfold wp_X8_askRange_53 at h
  refine bs_istore C (bf_dk dd_X8_askRange 26 rfl) (Nat.le_of_ble_eq_true rfl) (Nat.le_of_ble_eq_true rfl) (lv2 := [some (.ref 0), none, none, none, none, none, none, none, some (.int t0)]) rfl ?_
  refine bs_iload C (bf_dk dd_X8_askRange 27 rfl) rfl ?_
  refine bs_if_eq C (bf_dk dd_X8_askRange 28 rfl) (tgt := 64) rfl (fun c => ?_) (fun c => ?_)
  · replace h := h.1 c
    refine bs_iconst C (bf_dk dd_X8_askRange 31 rfl) (2 : Int32) (by decide) ?_
    exact bs_weak (bf_s1 (bf_sn (bf_sn (bf_sn (bf_sn (bf_sn (bf_sn (bf_sn (bf_sn bf_s0))))))))) (t_X8_askRange_65 C hR S ((2 : Int32)) Q h)
  · replace h := h.2 c
    refine bs_iconst C (bf_dk dd_X8_askRange 29 rfl) (1 : Int32) (by decide) ?_
    refine bs_goto C (bf_dk dd_X8_askRange 30 rfl) (tgt := 65) rfl ?_
    exact bs_weak (bf_s1 (bf_sn (bf_sn (bf_sn (bf_sn (bf_sn (bf_sn (bf_sn (bf_sn bf_s0))))))))) (t_X8_askRange_65 C hR S ((1 : Int32)) Q h)
def wp_X8_askRange (S : bT8) (a1 : Int64) (a3 : Int32) (a4 : Int64) (a6 : Int32) (Q : Int32 → (bT8) → Prop) : Prop := (wp_X1_met (b8g_leaves S) (a1) (a3) (a4) (a6) (fun r4 => ((r4 ≤ 0 → (wp_X8_askRange_67 S ((0 : Int32)) Q)) ∧ (¬ r4 ≤ 0 → (wp_X0_upTo (b1g_owners (b8g_leaves S)) (a4) (a6) (fun r6 => (wp_X0_ahead (b1g_owners (b8g_leaves S)) (a1) (a3) (fun r8 => ((r6 ≤ r8 → (wp_X8_askRange_53 S ((0 : Int32)) Q)) ∧ (¬ r6 ≤ r8 → (wp_X8_askRange_53 S ((1 : Int32)) Q)))))))))))
set_option maxRecDepth 20000 in
theorem t_X8_askRange {X : bf_X} (C : bf_C X RX8 cX8_askRange 9 (some .int)) (hR : bf_Rm X 4 101) (S : bT8) (a1 : Int64) (a3 : Int32) (a4 : Int64) (a6 : Int32) (Q : Int32 → (bT8) → Prop) (h : wp_X8_askRange S a1 a3 a4 a6 Q) : bf_A X (bf_Zi X bW8 Q) 9 0 [some (.ref 0), some (.long a1), none, some (.int a3), some (.long a4), none, some (.int a6), none, none] [] (bW8 S) := by
  unfold wp_X8_askRange at h
  refine bs_iconst C (bf_dk dd_X8_askRange 0 rfl) (0 : Int32) (by decide) ?_
  refine bs_istore C (bf_dk dd_X8_askRange 1 rfl) (Nat.le_of_ble_eq_true rfl) (Nat.le_of_ble_eq_true rfl) (lv2 := [some (.ref 0), some (.long a1), none, some (.int a3), some (.long a4), none, some (.int a6), some (.int (0 : Int32)), none]) rfl ?_
  refine bs_aload_n C (bf_dk dd_X8_askRange 2 rfl) rfl ?_
  refine bs_get C (bf_dk dd_X8_askRange 3 rfl) cl_8 in_8 3 (Nat.le_of_ble_eq_true rfl) rfl f_8_26 (ge_bW8_0 S) rfl ?_
  refine bs_lload_n C (bf_dk dd_X8_askRange 4 rfl) rfl ?_
  refine bs_iload_n C (bf_dk dd_X8_askRange 5 rfl) rfl ?_
  refine bs_lload C (bf_dk dd_X8_askRange 6 rfl) rfl ?_
  refine bs_iload C (bf_dk dd_X8_askRange 7 rfl) rfl ?_
  refine bs_pureV_i (ps := [31, 32, 33, 34, 35, 36, 37, 38, 39, 40, 41, 42, 43, 44]) (w := (bW8 S)) C hR (c_X1_met _ _ _ _ _ (b8g_leaves S) (a1) (a3) (a4) (a6) _ h) my_X1_met m_8_180 rfl cl_1 (ge_bW1_0 _) rfl (Nat.le_of_ble_eq_true rfl) (Nat.le_of_ble_eq_true rfl) (su_bW8_31_bW1 S) bnd_31t44 (st := []) (Nat.le_of_ble_eq_true rfl) (bf_dk dd_X8_askRange 8 rfl) rfl (fun _ => rfl) (fun r4 h => ?_)
  refine bs_if_le C (bf_dk dd_X8_askRange 9 rfl) (tgt := 67) rfl (fun c => ?_) (fun c => ?_)
  · replace h := h.1 c
    exact bs_weak (bf_s1 (bf_sn (bf_sn (bf_sn (bf_sn (bf_sn (bf_sn (bf_s1 (bf_sn bf_s0))))))))) (t_X8_askRange_67 C hR S ((0 : Int32)) Q h)
  · replace h := h.2 c
    refine bs_aload_n C (bf_dk dd_X8_askRange 10 rfl) rfl ?_
    refine bs_get C (bf_dk dd_X8_askRange 11 rfl) cl_8 in_8 3 (Nat.le_of_ble_eq_true rfl) rfl f_8_26 (ge_bW8_0 S) rfl ?_
    refine bs_get C (bf_dk dd_X8_askRange 12 rfl) cl_1 in_1 0 (Nat.le_of_ble_eq_true rfl) rfl f_8_163 (ge_bW8_31 S) rfl ?_
    refine bs_lload C (bf_dk dd_X8_askRange 13 rfl) rfl ?_
    refine bs_iload C (bf_dk dd_X8_askRange 14 rfl) rfl ?_
    refine bs_pureV_i (ps := [32, 33, 34]) (w := (bW8 S)) C hR (c_X0_upTo _ _ _ _ _ (b1g_owners (b8g_leaves S)) (a4) (a6) _ h) my_X0_upTo m_8_195 rfl cl_0 (ge_bW0_0 _) rfl (Nat.le_of_ble_eq_true rfl) (Nat.le_of_ble_eq_true rfl) (su_bW8_32_bW0 S) rfl (st := []) (Nat.le_of_ble_eq_true rfl) (bf_dk dd_X8_askRange 15 rfl) rfl (fun _ => rfl) (fun r6 h => ?_)
    refine bs_aload_n C (bf_dk dd_X8_askRange 16 rfl) rfl ?_
    refine bs_get C (bf_dk dd_X8_askRange 17 rfl) cl_8 in_8 3 (Nat.le_of_ble_eq_true rfl) rfl f_8_26 (ge_bW8_0 S) rfl ?_
    refine bs_get C (bf_dk dd_X8_askRange 18 rfl) cl_1 in_1 0 (Nat.le_of_ble_eq_true rfl) rfl f_8_163 (ge_bW8_31 S) rfl ?_
    refine bs_lload_n C (bf_dk dd_X8_askRange 19 rfl) rfl ?_
    refine bs_iload_n C (bf_dk dd_X8_askRange 20 rfl) rfl ?_
    refine bs_pureV_i (ps := [32, 33, 34]) (w := (bW8 S)) C hR (c_X0_ahead _ _ _ _ _ (b1g_owners (b8g_leaves S)) (a1) (a3) _ h) my_X0_ahead m_8_189 rfl cl_0 (ge_bW0_0 _) rfl (Nat.le_of_ble_eq_true rfl) (Nat.le_of_ble_eq_true rfl) (su_bW8_32_bW0 S) rfl (st := [.int r6]) (Nat.le_of_ble_eq_true rfl) (bf_dk dd_X8_askRange 21 rfl) rfl (fun _ => rfl) (fun r8 h => ?_)
    refine bs_icmp_le C (bf_dk dd_X8_askRange 22 rfl) (tgt := 52) rfl (fun c => ?_) (fun c => ?_)
    · replace h := h.1 c
      refine bs_iconst C (bf_dk dd_X8_askRange 25 rfl) (0 : Int32) (by decide) ?_
      exact bs_weak (bf_s1 (bf_sn (bf_sn (bf_sn (bf_sn (bf_sn (bf_sn (bf_sn (bf_sn bf_s0))))))))) (t_X8_askRange_53 C hR S ((0 : Int32)) Q h)
    · replace h := h.2 c
      refine bs_iconst C (bf_dk dd_X8_askRange 23 rfl) (1 : Int32) (by decide) ?_
      refine bs_goto C (bf_dk dd_X8_askRange 24 rfl) (tgt := 53) rfl ?_
      exact bs_weak (bf_s1 (bf_sn (bf_sn (bf_sn (bf_sn (bf_sn (bf_sn (bf_sn (bf_sn bf_s0))))))))) (t_X8_askRange_53 C hR S ((1 : Int32)) Q h)
theorem c_X8_askRange (l : Launch) (dC : Nat → ClassId) (dI : Nat → Nat → Nat) (ac : Nat → ClassId) (al : Nat → Nat) (S : bT8) (a1 : Int64) (a3 : Int32) (a4 : Int64) (a6 : Int32) (Q : Int32 → (bT8) → Prop) (h : wp_X8_askRange S a1 a3 a4 a6 Q) : bf_M l yX8_askRange cX8_askRange 9 (some .int) 4 101 dC dI ac al [.ref 0, .long a1, .int a3, .long a4, .int a6] (bW8 S) (bf_Ki dC dI ac al bW8 Q) := by
  refine bf_start [some (.ref 0), some (.long a1), none, some (.int a3), some (.long a4), none, some (.int a6), none, none] (by decide) (Nat.le_of_ble_eq_true rfl) (bf_s1 (bf_s1 (bf_sn (bf_s1 (bf_s1 (bf_sn (bf_s1 (bf_en 2)))))))) ?_
  intro X hl C hR e1 e2 e3 e4
  subst e1; subst e2; subst e3; subst e4
  exact t_X8_askRange C hR S a1 a3 a4 a6 Q h
def wp_X8_isRange (a0 : Int32) (a1 : Int32) (a2 : Int32) (a3 : Int32) (a4 : Int32) (a5 : Int32) (Q : Int32 → Prop) : Prop := (wp_X8_isLength (a2) (fun r1 => ((r1 = 0 → (bf_bool (0 : Int32) ∧ Q (0 : Int32))) ∧ (¬ r1 = 0 → (wp_X8_isLength (a5) (fun r3 => ((r3 = 0 → (bf_bool (0 : Int32) ∧ Q (0 : Int32))) ∧ (¬ r3 = 0 → (wp_X8_keyOf (a0) (a1) (a2) (fun r5 => (wp_X8_keyOf (a3) (a4) (a5) (fun r7 => (wp_X8_order (r5) (a2) (r7) (a5) (fun r9 => ((0 < r9 → (bf_bool (0 : Int32) ∧ Q (0 : Int32))) ∧ (¬ 0 < r9 → (bf_bool (1 : Int32) ∧ Q (1 : Int32))))))))))))))))))
set_option maxRecDepth 20000 in
theorem t_X8_isRange {X : bf_X} (C : bf_C X RX8 cX8_isRange 6 (some .boolean)) (hR : bf_Rm X 2 42) (a0 : Int32) (a1 : Int32) (a2 : Int32) (a3 : Int32) (a4 : Int32) (a5 : Int32) (Q : Int32 → Prop) (h : wp_X8_isRange a0 a1 a2 a3 a4 a5 Q) : bf_A X (bf_Zi X bWu (fun r u => u = () ∧ Q r)) 6 0 [some (.int a0), some (.int a1), some (.int a2), some (.int a3), some (.int a4), some (.int a5)] [] (bWu ()) := by
  unfold wp_X8_isRange at h
  refine bs_iload_n C (bf_dk dd_X8_isRange 0 rfl) rfl ?_
  refine bs_pureS_i (ps := []) (w := (bWu ())) C hR (c_X8_isLength _ _ _ _ _ (a2) _ h) my_X8_isLength m_8_128 rfl (Nat.le_of_ble_eq_true rfl) (Nat.le_of_ble_eq_true rfl) rfl rfl (st := []) (Nat.le_of_ble_eq_true rfl) (bf_dk dd_X8_isRange 1 rfl) rfl (fun _ => rfl) (fun r1 h => ?_)
  refine bs_if_eq C (bf_dk dd_X8_isRange 2 rfl) (tgt := 42) rfl (fun c => ?_) (fun c => ?_)
  · replace h := h.1 c
    refine bs_iconst C (bf_dk dd_X8_isRange 20 rfl) (0 : Int32) (by decide) ?_
    obtain ⟨hi, h⟩ := h
    exact bs_zret (u := ()) C (bf_dk dd_X8_isRange 21 rfl) hi rfl ⟨rfl, h⟩
  · replace h := h.2 c
    refine bs_iload C (bf_dk dd_X8_isRange 3 rfl) rfl ?_
    refine bs_pureS_i (ps := []) (w := (bWu ())) C hR (c_X8_isLength _ _ _ _ _ (a5) _ h) my_X8_isLength m_8_128 rfl (Nat.le_of_ble_eq_true rfl) (Nat.le_of_ble_eq_true rfl) rfl rfl (st := []) (Nat.le_of_ble_eq_true rfl) (bf_dk dd_X8_isRange 4 rfl) rfl (fun _ => rfl) (fun r3 h => ?_)
    refine bs_if_eq C (bf_dk dd_X8_isRange 5 rfl) (tgt := 42) rfl (fun c => ?_) (fun c => ?_)
    · replace h := h.1 c
      refine bs_iconst C (bf_dk dd_X8_isRange 20 rfl) (0 : Int32) (by decide) ?_
      obtain ⟨hi, h⟩ := h
      exact bs_zret (u := ()) C (bf_dk dd_X8_isRange 21 rfl) hi rfl ⟨rfl, h⟩
    · replace h := h.2 c
      refine bs_iload_n C (bf_dk dd_X8_isRange 6 rfl) rfl ?_
      refine bs_iload_n C (bf_dk dd_X8_isRange 7 rfl) rfl ?_
      refine bs_iload_n C (bf_dk dd_X8_isRange 8 rfl) rfl ?_
      refine bs_pureS_l (ps := []) (w := (bWu ())) C hR (c_X8_keyOf _ _ _ _ _ (a0) (a1) (a2) _ h) my_X8_keyOf m_8_132 rfl (Nat.le_of_ble_eq_true rfl) (Nat.le_of_ble_eq_true rfl) rfl rfl (st := []) (Nat.le_of_ble_eq_true rfl) (bf_dk dd_X8_isRange 9 rfl) rfl (fun _ => rfl) (fun r5 h => ?_)
      refine bs_iload_n C (bf_dk dd_X8_isRange 10 rfl) rfl ?_
      refine bs_iload_n C (bf_dk dd_X8_isRange 11 rfl) rfl ?_
      refine bs_iload C (bf_dk dd_X8_isRange 12 rfl) rfl ?_
      refine bs_iload C (bf_dk dd_X8_isRange 13 rfl) rfl ?_
      refine bs_pureS_l (ps := []) (w := (bWu ())) C hR (c_X8_keyOf _ _ _ _ _ (a3) (a4) (a5) _ h) my_X8_keyOf m_8_132 rfl (Nat.le_of_ble_eq_true rfl) (Nat.le_of_ble_eq_true rfl) rfl rfl (st := [.int a2, .long r5]) (Nat.le_of_ble_eq_true rfl) (bf_dk dd_X8_isRange 14 rfl) rfl (fun _ => rfl) (fun r7 h => ?_)
      refine bs_iload C (bf_dk dd_X8_isRange 15 rfl) rfl ?_
      refine bs_pureS_i (ps := []) (w := (bWu ())) C hR (c_X8_order _ _ _ _ _ (r5) (a2) (r7) (a5) _ h) my_X8_order m_8_433 rfl (Nat.le_of_ble_eq_true rfl) (Nat.le_of_ble_eq_true rfl) rfl rfl (st := []) (Nat.le_of_ble_eq_true rfl) (bf_dk dd_X8_isRange 16 rfl) rfl (fun _ => rfl) (fun r9 h => ?_)
      refine bs_if_gt C (bf_dk dd_X8_isRange 17 rfl) (tgt := 42) rfl (fun c => ?_) (fun c => ?_)
      · replace h := h.1 c
        refine bs_iconst C (bf_dk dd_X8_isRange 20 rfl) (0 : Int32) (by decide) ?_
        obtain ⟨hi, h⟩ := h
        exact bs_zret (u := ()) C (bf_dk dd_X8_isRange 21 rfl) hi rfl ⟨rfl, h⟩
      · replace h := h.2 c
        refine bs_iconst C (bf_dk dd_X8_isRange 18 rfl) (1 : Int32) (by decide) ?_
        refine bs_goto C (bf_dk dd_X8_isRange 19 rfl) (tgt := 43) rfl ?_
        obtain ⟨hi, h⟩ := h
        exact bs_zret (u := ()) C (bf_dk dd_X8_isRange 21 rfl) hi rfl ⟨rfl, h⟩
theorem c_X8_isRange (l : Launch) (dC : Nat → ClassId) (dI : Nat → Nat → Nat) (ac : Nat → ClassId) (al : Nat → Nat) (a0 : Int32) (a1 : Int32) (a2 : Int32) (a3 : Int32) (a4 : Int32) (a5 : Int32) (Q : Int32 → Prop) (h : wp_X8_isRange a0 a1 a2 a3 a4 a5 Q) : bf_M l yX8_isRange cX8_isRange 6 (some .boolean) 2 42 dC dI ac al [.int a0, .int a1, .int a2, .int a3, .int a4, .int a5] (bWu ()) (bf_Ki dC dI ac al bWu (fun r u => u = () ∧ Q r)) := by
  refine bf_start [some (.int a0), some (.int a1), some (.int a2), some (.int a3), some (.int a4), some (.int a5)] (by decide) (Nat.le_of_ble_eq_true rfl) (bf_s1 (bf_s1 (bf_s1 (bf_s1 (bf_s1 (bf_s1 bf_s0)))))) ?_
  intro X hl C hR e1 e2 e3 e4
  subst e1; subst e2; subst e3; subst e4
  exact t_X8_isRange C hR a0 a1 a2 a3 a4 a5 Q h
def wp_X8_range (S : bT8) (a1 : Int32) (a2 : Int32) (a3 : Int32) (a4 : Int32) (a5 : Int32) (a6 : Int32) (Q : Int32 → (bT8) → Prop) : Prop := (wp_X8_isRange (a1) (a2) (a3) (a4) (a5) (a6) (fun r1 => ((¬ r1 = 0 → (wp_X8_keyOf (a1) (a2) (a3) (fun r3 => (wp_X8_keyOf (a4) (a5) (a6) (fun r5 => (wp_X8_askRange S (r3) (a3) (r5) (a6) (fun r7 u8 => ((¬ r7 = 0 → (Q (1 : Int32) u8)) ∧ (r7 = 0 → (Q (0 : Int32) u8)))))))))) ∧ (r1 = 0 → (Q (-1 : Int32) S)))))
set_option maxRecDepth 20000 in
theorem t_X8_range {X : bf_X} (C : bf_C X RX8 cX8_range 7 (some .int)) (hR : bf_Rm X 5 129) (S : bT8) (a1 : Int32) (a2 : Int32) (a3 : Int32) (a4 : Int32) (a5 : Int32) (a6 : Int32) (Q : Int32 → (bT8) → Prop) (h : wp_X8_range S a1 a2 a3 a4 a5 a6 Q) : bf_A X (bf_Zi X bW8 Q) 7 0 [some (.ref 0), some (.int a1), some (.int a2), some (.int a3), some (.int a4), some (.int a5), some (.int a6)] [] (bW8 S) := by
  unfold wp_X8_range at h
  refine bs_iload_n C (bf_dk dd_X8_range 0 rfl) rfl ?_
  refine bs_iload_n C (bf_dk dd_X8_range 1 rfl) rfl ?_
  refine bs_iload_n C (bf_dk dd_X8_range 2 rfl) rfl ?_
  refine bs_iload C (bf_dk dd_X8_range 3 rfl) rfl ?_
  refine bs_iload C (bf_dk dd_X8_range 4 rfl) rfl ?_
  refine bs_iload C (bf_dk dd_X8_range 5 rfl) rfl ?_
  refine bs_pureS_i (ps := []) (w := (bW8 S)) C hR (c_X8_isRange _ _ _ _ _ (a1) (a2) (a3) (a4) (a5) (a6) _ h) my_X8_isRange m_8_172 rfl (Nat.le_of_ble_eq_true rfl) (Nat.le_of_ble_eq_true rfl) rfl rfl (st := []) (Nat.le_of_ble_eq_true rfl) (bf_dk dd_X8_range 6 rfl) rfl (fun _ => rfl) (fun r1 h => ?_)
  refine bs_if_ne C (bf_dk dd_X8_range 7 rfl) (tgt := 17) rfl (fun c => ?_) (fun c => ?_)
  · replace h := h.1 c
    refine bs_aload_n C (bf_dk dd_X8_range 10 rfl) rfl ?_
    refine bs_iload_n C (bf_dk dd_X8_range 11 rfl) rfl ?_
    refine bs_iload_n C (bf_dk dd_X8_range 12 rfl) rfl ?_
    refine bs_iload_n C (bf_dk dd_X8_range 13 rfl) rfl ?_
    refine bs_pureS_l (ps := []) (w := (bW8 S)) C hR (c_X8_keyOf _ _ _ _ _ (a1) (a2) (a3) _ h) my_X8_keyOf m_8_132 rfl (Nat.le_of_ble_eq_true rfl) (Nat.le_of_ble_eq_true rfl) rfl rfl (st := [.ref 0]) (Nat.le_of_ble_eq_true rfl) (bf_dk dd_X8_range 14 rfl) rfl (fun _ => rfl) (fun r3 h => ?_)
    refine bs_iload_n C (bf_dk dd_X8_range 15 rfl) rfl ?_
    refine bs_iload C (bf_dk dd_X8_range 16 rfl) rfl ?_
    refine bs_iload C (bf_dk dd_X8_range 17 rfl) rfl ?_
    refine bs_iload C (bf_dk dd_X8_range 18 rfl) rfl ?_
    refine bs_pureS_l (ps := []) (w := (bW8 S)) C hR (c_X8_keyOf _ _ _ _ _ (a4) (a5) (a6) _ h) my_X8_keyOf m_8_132 rfl (Nat.le_of_ble_eq_true rfl) (Nat.le_of_ble_eq_true rfl) rfl rfl (st := [.int a3, .long r3, .ref 0]) (Nat.le_of_ble_eq_true rfl) (bf_dk dd_X8_range 19 rfl) rfl (fun _ => rfl) (fun r5 h => ?_)
    refine bs_iload C (bf_dk dd_X8_range 20 rfl) rfl ?_
    refine bs_selfV_i C hR (c_X8_askRange _ _ _ _ _ S (r3) (a3) (r5) (a6) _ h) my_X8_askRange m_8_176 rfl cl_8 (ge_bW8_0 _) rfl (Nat.le_of_ble_eq_true rfl) (Nat.le_of_ble_eq_true rfl) (st := []) (Nat.le_of_ble_eq_true rfl) (bf_dk dd_X8_range 21 rfl) rfl (len := 68) (fun _ => rfl) (fun r7 u8 h => ?_)
    refine bs_if_ne C (bf_dk dd_X8_range 22 rfl) (tgt := 46) rfl (fun c => ?_) (fun c => ?_)
    · replace h := h.1 c
      refine bs_iconst C (bf_dk dd_X8_range 25 rfl) (1 : Int32) (by decide) ?_
      exact bs_iret (u := u8) C (bf_dk dd_X8_range 26 rfl) rfl h
    · replace h := h.2 c
      refine bs_iconst C (bf_dk dd_X8_range 23 rfl) (0 : Int32) (by decide) ?_
      refine bs_goto C (bf_dk dd_X8_range 24 rfl) (tgt := 47) rfl ?_
      exact bs_iret (u := u8) C (bf_dk dd_X8_range 26 rfl) rfl h
  · replace h := h.2 c
    refine bs_iconst C (bf_dk dd_X8_range 8 rfl) (-1 : Int32) (by decide) ?_
    exact bs_iret (u := S) C (bf_dk dd_X8_range 9 rfl) rfl h
theorem c_X8_range (l : Launch) (dC : Nat → ClassId) (dI : Nat → Nat → Nat) (ac : Nat → ClassId) (al : Nat → Nat) (S : bT8) (a1 : Int32) (a2 : Int32) (a3 : Int32) (a4 : Int32) (a5 : Int32) (a6 : Int32) (Q : Int32 → (bT8) → Prop) (h : wp_X8_range S a1 a2 a3 a4 a5 a6 Q) : bf_M l yX8_range cX8_range 7 (some .int) 5 129 dC dI ac al [.ref 0, .int a1, .int a2, .int a3, .int a4, .int a5, .int a6] (bW8 S) (bf_Ki dC dI ac al bW8 Q) := by
  refine bf_start [some (.ref 0), some (.int a1), some (.int a2), some (.int a3), some (.int a4), some (.int a5), some (.int a6)] (by decide) (Nat.le_of_ble_eq_true rfl) (bf_s1 (bf_s1 (bf_s1 (bf_s1 (bf_s1 (bf_s1 (bf_s1 bf_s0))))))) ?_
  intro X hl C hR e1 e2 e3 e4
  subst e1; subst e2; subst e3; subst e4
  exact t_X8_range C hR S a1 a2 a3 a4 a5 a6 Q h
def wp_X8_meets (S : bT8) (a1 : Int32) (a2 : Int32) (a3 : Int32) (a4 : Int32) (a5 : Int32) (a6 : Int32) (Q : Int32 → Prop) : Prop := (wp_X8_isRange (a1) (a2) (a3) (a4) (a5) (a6) (fun r1 => ((¬ r1 = 0 → (wp_X8_keyOf (a1) (a2) (a3) (fun r3 => (wp_X8_keyOf (a4) (a5) (a6) (fun r5 => (wp_X1_met (b8g_leaves S) (r3) (a3) (r5) (a6) (fun r7 => (Q r7)))))))) ∧ (r1 = 0 → (Q (-1 : Int32))))))
set_option maxRecDepth 20000 in
theorem t_X8_meets {X : bf_X} (C : bf_C X RX8 cX8_meets 7 (some .int)) (hR : bf_Rm X 4 101) (S : bT8) (a1 : Int32) (a2 : Int32) (a3 : Int32) (a4 : Int32) (a5 : Int32) (a6 : Int32) (Q : Int32 → Prop) (h : wp_X8_meets S a1 a2 a3 a4 a5 a6 Q) : bf_A X (bf_Zi X bW8 (fun r u => u = S ∧ Q r)) 7 0 [some (.ref 0), some (.int a1), some (.int a2), some (.int a3), some (.int a4), some (.int a5), some (.int a6)] [] (bW8 S) := by
  unfold wp_X8_meets at h
  refine bs_iload_n C (bf_dk dd_X8_meets 0 rfl) rfl ?_
  refine bs_iload_n C (bf_dk dd_X8_meets 1 rfl) rfl ?_
  refine bs_iload_n C (bf_dk dd_X8_meets 2 rfl) rfl ?_
  refine bs_iload C (bf_dk dd_X8_meets 3 rfl) rfl ?_
  refine bs_iload C (bf_dk dd_X8_meets 4 rfl) rfl ?_
  refine bs_iload C (bf_dk dd_X8_meets 5 rfl) rfl ?_
  refine bs_pureS_i (ps := []) (w := (bW8 S)) C hR (c_X8_isRange _ _ _ _ _ (a1) (a2) (a3) (a4) (a5) (a6) _ h) my_X8_isRange m_8_172 rfl (Nat.le_of_ble_eq_true rfl) (Nat.le_of_ble_eq_true rfl) rfl rfl (st := []) (Nat.le_of_ble_eq_true rfl) (bf_dk dd_X8_meets 6 rfl) rfl (fun _ => rfl) (fun r1 h => ?_)
  refine bs_if_ne C (bf_dk dd_X8_meets 7 rfl) (tgt := 17) rfl (fun c => ?_) (fun c => ?_)
  · replace h := h.1 c
    refine bs_aload_n C (bf_dk dd_X8_meets 10 rfl) rfl ?_
    refine bs_get C (bf_dk dd_X8_meets 11 rfl) cl_8 in_8 3 (Nat.le_of_ble_eq_true rfl) rfl f_8_26 (ge_bW8_0 S) rfl ?_
    refine bs_iload_n C (bf_dk dd_X8_meets 12 rfl) rfl ?_
    refine bs_iload_n C (bf_dk dd_X8_meets 13 rfl) rfl ?_
    refine bs_iload_n C (bf_dk dd_X8_meets 14 rfl) rfl ?_
    refine bs_pureS_l (ps := []) (w := (bW8 S)) C hR (c_X8_keyOf _ _ _ _ _ (a1) (a2) (a3) _ h) my_X8_keyOf m_8_132 rfl (Nat.le_of_ble_eq_true rfl) (Nat.le_of_ble_eq_true rfl) rfl rfl (st := [.ref 31]) (Nat.le_of_ble_eq_true rfl) (bf_dk dd_X8_meets 15 rfl) rfl (fun _ => rfl) (fun r3 h => ?_)
    refine bs_iload_n C (bf_dk dd_X8_meets 16 rfl) rfl ?_
    refine bs_iload C (bf_dk dd_X8_meets 17 rfl) rfl ?_
    refine bs_iload C (bf_dk dd_X8_meets 18 rfl) rfl ?_
    refine bs_iload C (bf_dk dd_X8_meets 19 rfl) rfl ?_
    refine bs_pureS_l (ps := []) (w := (bW8 S)) C hR (c_X8_keyOf _ _ _ _ _ (a4) (a5) (a6) _ h) my_X8_keyOf m_8_132 rfl (Nat.le_of_ble_eq_true rfl) (Nat.le_of_ble_eq_true rfl) rfl rfl (st := [.int a3, .long r3, .ref 31]) (Nat.le_of_ble_eq_true rfl) (bf_dk dd_X8_meets 20 rfl) rfl (fun _ => rfl) (fun r5 h => ?_)
    refine bs_iload C (bf_dk dd_X8_meets 21 rfl) rfl ?_
    refine bs_pureV_i (ps := [31, 32, 33, 34, 35, 36, 37, 38, 39, 40, 41, 42, 43, 44]) (w := (bW8 S)) C hR (c_X1_met _ _ _ _ _ (b8g_leaves S) (r3) (a3) (r5) (a6) _ h) my_X1_met m_8_180 rfl cl_1 (ge_bW1_0 _) rfl (Nat.le_of_ble_eq_true rfl) (Nat.le_of_ble_eq_true rfl) (su_bW8_31_bW1 S) bnd_31t44 (st := []) (Nat.le_of_ble_eq_true rfl) (bf_dk dd_X8_meets 22 rfl) rfl (fun _ => rfl) (fun r7 h => ?_)
    exact bs_iret (u := S) C (bf_dk dd_X8_meets 23 rfl) rfl ⟨rfl, h⟩
  · replace h := h.2 c
    refine bs_iconst C (bf_dk dd_X8_meets 8 rfl) (-1 : Int32) (by decide) ?_
    exact bs_iret (u := S) C (bf_dk dd_X8_meets 9 rfl) rfl ⟨rfl, h⟩
theorem c_X8_meets (l : Launch) (dC : Nat → ClassId) (dI : Nat → Nat → Nat) (ac : Nat → ClassId) (al : Nat → Nat) (S : bT8) (a1 : Int32) (a2 : Int32) (a3 : Int32) (a4 : Int32) (a5 : Int32) (a6 : Int32) (Q : Int32 → Prop) (h : wp_X8_meets S a1 a2 a3 a4 a5 a6 Q) : bf_M l yX8_meets cX8_meets 7 (some .int) 4 101 dC dI ac al [.ref 0, .int a1, .int a2, .int a3, .int a4, .int a5, .int a6] (bW8 S) (bf_Ki dC dI ac al bW8 (fun r u => u = S ∧ Q r)) := by
  refine bf_start [some (.ref 0), some (.int a1), some (.int a2), some (.int a3), some (.int a4), some (.int a5), some (.int a6)] (by decide) (Nat.le_of_ble_eq_true rfl) (bf_s1 (bf_s1 (bf_s1 (bf_s1 (bf_s1 (bf_s1 (bf_s1 bf_s0))))))) ?_
  intro X hl C hR e1 e2 e3 e4
  subst e1; subst e2; subst e3; subst e4
  exact t_X8_meets C hR S a1 a2 a3 a4 a5 a6 Q h
def wp_X8_holds (S : bT8) (a1 : Int32) (a2 : Int32) (a3 : Int32) (a4 : Int32) (a5 : Int32) (a6 : Int32) (Q : Int32 → Prop) : Prop := (wp_X8_isRange (a1) (a2) (a3) (a4) (a5) (a6) (fun r1 => ((¬ r1 = 0 → (wp_X8_keyOf (a1) (a2) (a3) (fun r3 => (wp_X8_keyOf (a4) (a5) (a6) (fun r5 => (wp_X1_held (b8g_leaves S) (r3) (a3) (r5) (a6) (fun r7 => (Q r7)))))))) ∧ (r1 = 0 → (Q (-1 : Int32))))))
set_option maxRecDepth 20000 in
theorem t_X8_holds {X : bf_X} (C : bf_C X RX8 cX8_holds 7 (some .int)) (hR : bf_Rm X 4 101) (S : bT8) (a1 : Int32) (a2 : Int32) (a3 : Int32) (a4 : Int32) (a5 : Int32) (a6 : Int32) (Q : Int32 → Prop) (h : wp_X8_holds S a1 a2 a3 a4 a5 a6 Q) : bf_A X (bf_Zi X bW8 (fun r u => u = S ∧ Q r)) 7 0 [some (.ref 0), some (.int a1), some (.int a2), some (.int a3), some (.int a4), some (.int a5), some (.int a6)] [] (bW8 S) := by
  unfold wp_X8_holds at h
  refine bs_iload_n C (bf_dk dd_X8_holds 0 rfl) rfl ?_
  refine bs_iload_n C (bf_dk dd_X8_holds 1 rfl) rfl ?_
  refine bs_iload_n C (bf_dk dd_X8_holds 2 rfl) rfl ?_
  refine bs_iload C (bf_dk dd_X8_holds 3 rfl) rfl ?_
  refine bs_iload C (bf_dk dd_X8_holds 4 rfl) rfl ?_
  refine bs_iload C (bf_dk dd_X8_holds 5 rfl) rfl ?_
  refine bs_pureS_i (ps := []) (w := (bW8 S)) C hR (c_X8_isRange _ _ _ _ _ (a1) (a2) (a3) (a4) (a5) (a6) _ h) my_X8_isRange m_8_172 rfl (Nat.le_of_ble_eq_true rfl) (Nat.le_of_ble_eq_true rfl) rfl rfl (st := []) (Nat.le_of_ble_eq_true rfl) (bf_dk dd_X8_holds 6 rfl) rfl (fun _ => rfl) (fun r1 h => ?_)
  refine bs_if_ne C (bf_dk dd_X8_holds 7 rfl) (tgt := 17) rfl (fun c => ?_) (fun c => ?_)
  · replace h := h.1 c
    refine bs_aload_n C (bf_dk dd_X8_holds 10 rfl) rfl ?_
    refine bs_get C (bf_dk dd_X8_holds 11 rfl) cl_8 in_8 3 (Nat.le_of_ble_eq_true rfl) rfl f_8_26 (ge_bW8_0 S) rfl ?_
    refine bs_iload_n C (bf_dk dd_X8_holds 12 rfl) rfl ?_
    refine bs_iload_n C (bf_dk dd_X8_holds 13 rfl) rfl ?_
    refine bs_iload_n C (bf_dk dd_X8_holds 14 rfl) rfl ?_
    refine bs_pureS_l (ps := []) (w := (bW8 S)) C hR (c_X8_keyOf _ _ _ _ _ (a1) (a2) (a3) _ h) my_X8_keyOf m_8_132 rfl (Nat.le_of_ble_eq_true rfl) (Nat.le_of_ble_eq_true rfl) rfl rfl (st := [.ref 31]) (Nat.le_of_ble_eq_true rfl) (bf_dk dd_X8_holds 15 rfl) rfl (fun _ => rfl) (fun r3 h => ?_)
    refine bs_iload_n C (bf_dk dd_X8_holds 16 rfl) rfl ?_
    refine bs_iload C (bf_dk dd_X8_holds 17 rfl) rfl ?_
    refine bs_iload C (bf_dk dd_X8_holds 18 rfl) rfl ?_
    refine bs_iload C (bf_dk dd_X8_holds 19 rfl) rfl ?_
    refine bs_pureS_l (ps := []) (w := (bW8 S)) C hR (c_X8_keyOf _ _ _ _ _ (a4) (a5) (a6) _ h) my_X8_keyOf m_8_132 rfl (Nat.le_of_ble_eq_true rfl) (Nat.le_of_ble_eq_true rfl) rfl rfl (st := [.int a3, .long r3, .ref 31]) (Nat.le_of_ble_eq_true rfl) (bf_dk dd_X8_holds 20 rfl) rfl (fun _ => rfl) (fun r5 h => ?_)
    refine bs_iload C (bf_dk dd_X8_holds 21 rfl) rfl ?_
    refine bs_pureV_i (ps := [31, 32, 33, 34, 35, 36, 37, 38, 39, 40, 41, 42, 43, 44]) (w := (bW8 S)) C hR (c_X1_held _ _ _ _ _ (b8g_leaves S) (r3) (a3) (r5) (a6) _ h) my_X1_held m_8_183 rfl cl_1 (ge_bW1_0 _) rfl (Nat.le_of_ble_eq_true rfl) (Nat.le_of_ble_eq_true rfl) (su_bW8_31_bW1 S) bnd_31t44 (st := []) (Nat.le_of_ble_eq_true rfl) (bf_dk dd_X8_holds 22 rfl) rfl (fun _ => rfl) (fun r7 h => ?_)
    exact bs_iret (u := S) C (bf_dk dd_X8_holds 23 rfl) rfl ⟨rfl, h⟩
  · replace h := h.2 c
    refine bs_iconst C (bf_dk dd_X8_holds 8 rfl) (-1 : Int32) (by decide) ?_
    exact bs_iret (u := S) C (bf_dk dd_X8_holds 9 rfl) rfl ⟨rfl, h⟩
theorem c_X8_holds (l : Launch) (dC : Nat → ClassId) (dI : Nat → Nat → Nat) (ac : Nat → ClassId) (al : Nat → Nat) (S : bT8) (a1 : Int32) (a2 : Int32) (a3 : Int32) (a4 : Int32) (a5 : Int32) (a6 : Int32) (Q : Int32 → Prop) (h : wp_X8_holds S a1 a2 a3 a4 a5 a6 Q) : bf_M l yX8_holds cX8_holds 7 (some .int) 4 101 dC dI ac al [.ref 0, .int a1, .int a2, .int a3, .int a4, .int a5, .int a6] (bW8 S) (bf_Ki dC dI ac al bW8 (fun r u => u = S ∧ Q r)) := by
  refine bf_start [some (.ref 0), some (.int a1), some (.int a2), some (.int a3), some (.int a4), some (.int a5), some (.int a6)] (by decide) (Nat.le_of_ble_eq_true rfl) (bf_s1 (bf_s1 (bf_s1 (bf_s1 (bf_s1 (bf_s1 (bf_s1 bf_s0))))))) ?_
  intro X hl C hR e1 e2 e3 e4
  subst e1; subst e2; subst e3; subst e4
  exact t_X8_holds C hR S a1 a2 a3 a4 a5 a6 Q h
def wp_X8_seek (S : bT8) (a1 : Int32) (a2 : Int32) (a3 : Int32) (Q : Int32 → Prop) : Prop := (wp_X8_isLength (a3) (fun r1 => ((¬ r1 = 0 → (wp_X8_keyOf (a1) (a2) (a3) (fun r3 => (wp_X0_ahead (b1g_highs (b8g_leaves S)) (r3) (a3) (fun r5 => (wp_X1_count (b8g_leaves S) (fun r7 => ((r7 ≤ r5 → (Q (-1 : Int32))) ∧ (¬ r7 ≤ r5 → (Q r5)))))))))) ∧ (r1 = 0 → (Q (-1 : Int32))))))
set_option maxRecDepth 20000 in
theorem t_X8_seek {X : bf_X} (C : bf_C X RX8 cX8_seek 5 (some .int)) (hR : bf_Rm X 3 75) (S : bT8) (a1 : Int32) (a2 : Int32) (a3 : Int32) (Q : Int32 → Prop) (h : wp_X8_seek S a1 a2 a3 Q) : bf_A X (bf_Zi X bW8 (fun r u => u = S ∧ Q r)) 5 0 [some (.ref 0), some (.int a1), some (.int a2), some (.int a3), none] [] (bW8 S) := by
  unfold wp_X8_seek at h
  refine bs_iload_n C (bf_dk dd_X8_seek 0 rfl) rfl ?_
  refine bs_pureS_i (ps := []) (w := (bW8 S)) C hR (c_X8_isLength _ _ _ _ _ (a3) _ h) my_X8_isLength m_8_128 rfl (Nat.le_of_ble_eq_true rfl) (Nat.le_of_ble_eq_true rfl) rfl rfl (st := []) (Nat.le_of_ble_eq_true rfl) (bf_dk dd_X8_seek 1 rfl) rfl (fun _ => rfl) (fun r1 h => ?_)
  refine bs_if_ne C (bf_dk dd_X8_seek 2 rfl) (tgt := 9) rfl (fun c => ?_) (fun c => ?_)
  · replace h := h.1 c
    refine bs_aload_n C (bf_dk dd_X8_seek 5 rfl) rfl ?_
    refine bs_get C (bf_dk dd_X8_seek 6 rfl) cl_8 in_8 3 (Nat.le_of_ble_eq_true rfl) rfl f_8_26 (ge_bW8_0 S) rfl ?_
    refine bs_get C (bf_dk dd_X8_seek 7 rfl) cl_1 in_1 2 (Nat.le_of_ble_eq_true rfl) rfl f_8_186 (ge_bW8_31 S) rfl ?_
    refine bs_iload_n C (bf_dk dd_X8_seek 8 rfl) rfl ?_
    refine bs_iload_n C (bf_dk dd_X8_seek 9 rfl) rfl ?_
    refine bs_iload_n C (bf_dk dd_X8_seek 10 rfl) rfl ?_
    refine bs_pureS_l (ps := []) (w := (bW8 S)) C hR (c_X8_keyOf _ _ _ _ _ (a1) (a2) (a3) _ h) my_X8_keyOf m_8_132 rfl (Nat.le_of_ble_eq_true rfl) (Nat.le_of_ble_eq_true rfl) rfl rfl (st := [.ref 38]) (Nat.le_of_ble_eq_true rfl) (bf_dk dd_X8_seek 11 rfl) rfl (fun _ => rfl) (fun r3 h => ?_)
    refine bs_iload_n C (bf_dk dd_X8_seek 12 rfl) rfl ?_
    refine bs_pureV_i (ps := [38, 39, 40]) (w := (bW8 S)) C hR (c_X0_ahead _ _ _ _ _ (b1g_highs (b8g_leaves S)) (r3) (a3) _ h) my_X0_ahead m_8_189 rfl cl_0 (ge_bW0_0 _) rfl (Nat.le_of_ble_eq_true rfl) (Nat.le_of_ble_eq_true rfl) (su_bW8_38_bW0 S) rfl (st := []) (Nat.le_of_ble_eq_true rfl) (bf_dk dd_X8_seek 13 rfl) rfl (fun _ => rfl) (fun r5 h => ?_)
    refine bs_istore C (bf_dk dd_X8_seek 14 rfl) (Nat.le_of_ble_eq_true rfl) (Nat.le_of_ble_eq_true rfl) (lv2 := [some (.ref 0), some (.int a1), some (.int a2), some (.int a3), some (.int r5)]) rfl ?_
    refine bs_iload C (bf_dk dd_X8_seek 15 rfl) rfl ?_
    refine bs_aload_n C (bf_dk dd_X8_seek 16 rfl) rfl ?_
    refine bs_get C (bf_dk dd_X8_seek 17 rfl) cl_8 in_8 3 (Nat.le_of_ble_eq_true rfl) rfl f_8_26 (ge_bW8_0 S) rfl ?_
    refine bs_pureV_i (ps := [31, 32, 33, 34, 35, 36, 37, 38, 39, 40, 41, 42, 43, 44]) (w := (bW8 S)) C hR (c_X1_count _ _ _ _ _ (b8g_leaves S) _ h) my_X1_count m_8_160 rfl cl_1 (ge_bW1_0 _) rfl (Nat.le_of_ble_eq_true rfl) (Nat.le_of_ble_eq_true rfl) (su_bW8_31_bW1 S) bnd_31t44 (st := [.int r5]) (Nat.le_of_ble_eq_true rfl) (bf_dk dd_X8_seek 18 rfl) rfl (fun _ => rfl) (fun r7 h => ?_)
    refine bs_icmp_ge C (bf_dk dd_X8_seek 19 rfl) (tgt := 45) rfl (fun c => ?_) (fun c => ?_)
    · replace h := h.1 c
      refine bs_iconst C (bf_dk dd_X8_seek 22 rfl) (-1 : Int32) (by decide) ?_
      exact bs_iret (u := S) C (bf_dk dd_X8_seek 23 rfl) rfl ⟨rfl, h⟩
    · replace h := h.2 c
      refine bs_iload C (bf_dk dd_X8_seek 20 rfl) rfl ?_
      refine bs_goto C (bf_dk dd_X8_seek 21 rfl) (tgt := 46) rfl ?_
      exact bs_iret (u := S) C (bf_dk dd_X8_seek 23 rfl) rfl ⟨rfl, h⟩
  · replace h := h.2 c
    refine bs_iconst C (bf_dk dd_X8_seek 3 rfl) (-1 : Int32) (by decide) ?_
    exact bs_iret (u := S) C (bf_dk dd_X8_seek 4 rfl) rfl ⟨rfl, h⟩
theorem c_X8_seek (l : Launch) (dC : Nat → ClassId) (dI : Nat → Nat → Nat) (ac : Nat → ClassId) (al : Nat → Nat) (S : bT8) (a1 : Int32) (a2 : Int32) (a3 : Int32) (Q : Int32 → Prop) (h : wp_X8_seek S a1 a2 a3 Q) : bf_M l yX8_seek cX8_seek 5 (some .int) 3 75 dC dI ac al [.ref 0, .int a1, .int a2, .int a3] (bW8 S) (bf_Ki dC dI ac al bW8 (fun r u => u = S ∧ Q r)) := by
  refine bf_start [some (.ref 0), some (.int a1), some (.int a2), some (.int a3), none] (by decide) (Nat.le_of_ble_eq_true rfl) (bf_s1 (bf_s1 (bf_s1 (bf_s1 (bf_en 1))))) ?_
  intro X hl C hR e1 e2 e3 e4
  subst e1; subst e2; subst e3; subst e4
  exact t_X8_seek C hR S a1 a2 a3 Q h
def wp_X8_seekBack (S : bT8) (a1 : Int32) (a2 : Int32) (a3 : Int32) (Q : Int32 → Prop) : Prop := (wp_X8_isLength (a3) (fun r1 => ((r1 = 0 → (Q (-1 : Int32))) ∧ (¬ r1 = 0 → (wp_X8_keyOf (a1) (a2) (a3) (fun r3 => (wp_X0_upTo (b1g_lows (b8g_leaves S)) (r3) (a3) (fun r5 => (Q (r5 - (1 : Int32)))))))))))
set_option maxRecDepth 20000 in
theorem t_X8_seekBack {X : bf_X} (C : bf_C X RX8 cX8_seekBack 4 (some .int)) (hR : bf_Rm X 3 75) (S : bT8) (a1 : Int32) (a2 : Int32) (a3 : Int32) (Q : Int32 → Prop) (h : wp_X8_seekBack S a1 a2 a3 Q) : bf_A X (bf_Zi X bW8 (fun r u => u = S ∧ Q r)) 4 0 [some (.ref 0), some (.int a1), some (.int a2), some (.int a3)] [] (bW8 S) := by
  unfold wp_X8_seekBack at h
  refine bs_iload_n C (bf_dk dd_X8_seekBack 0 rfl) rfl ?_
  refine bs_pureS_i (ps := []) (w := (bW8 S)) C hR (c_X8_isLength _ _ _ _ _ (a3) _ h) my_X8_isLength m_8_128 rfl (Nat.le_of_ble_eq_true rfl) (Nat.le_of_ble_eq_true rfl) rfl rfl (st := []) (Nat.le_of_ble_eq_true rfl) (bf_dk dd_X8_seekBack 1 rfl) rfl (fun _ => rfl) (fun r1 h => ?_)
  refine bs_if_eq C (bf_dk dd_X8_seekBack 2 rfl) (tgt := 29) rfl (fun c => ?_) (fun c => ?_)
  · replace h := h.1 c
    refine bs_iconst C (bf_dk dd_X8_seekBack 15 rfl) (-1 : Int32) (by decide) ?_
    exact bs_iret (u := S) C (bf_dk dd_X8_seekBack 16 rfl) rfl ⟨rfl, h⟩
  · replace h := h.2 c
    refine bs_aload_n C (bf_dk dd_X8_seekBack 3 rfl) rfl ?_
    refine bs_get C (bf_dk dd_X8_seekBack 4 rfl) cl_8 in_8 3 (Nat.le_of_ble_eq_true rfl) rfl f_8_26 (ge_bW8_0 S) rfl ?_
    refine bs_get C (bf_dk dd_X8_seekBack 5 rfl) cl_1 in_1 1 (Nat.le_of_ble_eq_true rfl) rfl f_8_192 (ge_bW8_31 S) rfl ?_
    refine bs_iload_n C (bf_dk dd_X8_seekBack 6 rfl) rfl ?_
    refine bs_iload_n C (bf_dk dd_X8_seekBack 7 rfl) rfl ?_
    refine bs_iload_n C (bf_dk dd_X8_seekBack 8 rfl) rfl ?_
    refine bs_pureS_l (ps := []) (w := (bW8 S)) C hR (c_X8_keyOf _ _ _ _ _ (a1) (a2) (a3) _ h) my_X8_keyOf m_8_132 rfl (Nat.le_of_ble_eq_true rfl) (Nat.le_of_ble_eq_true rfl) rfl rfl (st := [.ref 35]) (Nat.le_of_ble_eq_true rfl) (bf_dk dd_X8_seekBack 9 rfl) rfl (fun _ => rfl) (fun r3 h => ?_)
    refine bs_iload_n C (bf_dk dd_X8_seekBack 10 rfl) rfl ?_
    refine bs_pureV_i (ps := [35, 36, 37]) (w := (bW8 S)) C hR (c_X0_upTo _ _ _ _ _ (b1g_lows (b8g_leaves S)) (r3) (a3) _ h) my_X0_upTo m_8_195 rfl cl_0 (ge_bW0_0 _) rfl (Nat.le_of_ble_eq_true rfl) (Nat.le_of_ble_eq_true rfl) (su_bW8_35_bW0 S) rfl (st := []) (Nat.le_of_ble_eq_true rfl) (bf_dk dd_X8_seekBack 11 rfl) rfl (fun _ => rfl) (fun r5 h => ?_)
    refine bs_iconst C (bf_dk dd_X8_seekBack 12 rfl) (1 : Int32) (by decide) ?_
    refine bs_isub C (bf_dk dd_X8_seekBack 13 rfl) ?_
    refine bs_goto C (bf_dk dd_X8_seekBack 14 rfl) (tgt := 30) rfl ?_
    exact bs_iret (u := S) C (bf_dk dd_X8_seekBack 16 rfl) rfl ⟨rfl, h⟩
theorem c_X8_seekBack (l : Launch) (dC : Nat → ClassId) (dI : Nat → Nat → Nat) (ac : Nat → ClassId) (al : Nat → Nat) (S : bT8) (a1 : Int32) (a2 : Int32) (a3 : Int32) (Q : Int32 → Prop) (h : wp_X8_seekBack S a1 a2 a3 Q) : bf_M l yX8_seekBack cX8_seekBack 4 (some .int) 3 75 dC dI ac al [.ref 0, .int a1, .int a2, .int a3] (bW8 S) (bf_Ki dC dI ac al bW8 (fun r u => u = S ∧ Q r)) := by
  refine bf_start [some (.ref 0), some (.int a1), some (.int a2), some (.int a3)] (by decide) (Nat.le_of_ble_eq_true rfl) (bf_s1 (bf_s1 (bf_s1 (bf_s1 bf_s0)))) ?_
  intro X hl C hR e1 e2 e3 e4
  subst e1; subst e2; subst e3; subst e4
  exact t_X8_seekBack C hR S a1 a2 a3 Q h
def wp_X8_leaf (S : bT8) (a1 : Int32) (a2 : Int32) (Q : Int32 → Prop) : Prop := ((a1 < 0 → (Q (-1 : Int32))) ∧ (¬ a1 < 0 → (wp_X1_count (b8g_leaves S) (fun r1 => ((a1 < r1 → ((((a2).toInt < 0 ∨ 6 < (a2).toInt) → ((a2 < (10 : Int32) → (Q (-1 : Int32))) ∧ (¬ a2 < (10 : Int32) → (wp_X1_lengthAt (b8g_leaves S) (a1) (fun r3 => (((a2 - (10 : Int32)) < r3 → (wp_X0_bytesAt (b1g_owners (b8g_leaves S)) (a1) (fun r5 => (wp_X8_octetAt (r5) ((a2 - (10 : Int32))) (fun r7 => (Q r7)))))) ∧ (¬ (a2 - (10 : Int32)) < r3 → (Q (-1 : Int32))))))))) ∧ (a2 = (0 : Int32) → (wp_X1_lengthAt (b8g_leaves S) (a1) (fun r9 => (Q r9)))) ∧ (a2 = (1 : Int32) → (wp_X1_isEnded (b8g_leaves S) (a1) (fun r11 => ((r11 = 0 → (Q (0 : Int32))) ∧ (¬ r11 = 0 → (Q (1 : Int32))))))) ∧ (a2 = (2 : Int32) → (wp_X1_hashAt (b8g_leaves S) (a1) (fun r13 => (Q r13)))) ∧ (a2 = (3 : Int32) → (wp_X1_nextAt (b8g_leaves S) (a1) (fun r15 => (Q r15)))) ∧ (a2 = (4 : Int32) → (wp_X8_at 64 (b6g_places (b8g_tree S)) (a1) (fun r17 => (Q r17)))) ∧ (a2 = (5 : Int32) → (wp_X8_at 64 (b6g_leafNodes (b8g_tree S)) (a1) (fun r19 => (Q r19)))) ∧ (a2 = (6 : Int32) → (wp_X8_at 64 (b1g_commons (b8g_leaves S)) (a1) (fun r21 => (Q r21)))))) ∧ (¬ a1 < r1 → (Q (-1 : Int32))))))))
set_option maxRecDepth 20000 in
theorem t_X8_leaf {X : bf_X} (C : bf_C X RX8 cX8_leaf 4 (some .int)) (hR : bf_Rm X 2 42) (S : bT8) (a1 : Int32) (a2 : Int32) (Q : Int32 → Prop) (h : wp_X8_leaf S a1 a2 Q) : bf_A X (bf_Zi X bW8 (fun r u => u = S ∧ Q r)) 4 0 [some (.ref 0), some (.int a1), some (.int a2), none] [] (bW8 S) := by
  unfold wp_X8_leaf at h
  refine bs_iload_n C (bf_dk dd_X8_leaf 0 rfl) rfl ?_
  refine bs_if_lt C (bf_dk dd_X8_leaf 1 rfl) (tgt := 15) rfl (fun c => ?_) (fun c => ?_)
  · replace h := h.1 c
    refine bs_iconst C (bf_dk dd_X8_leaf 7 rfl) (-1 : Int32) (by decide) ?_
    exact bs_iret (u := S) C (bf_dk dd_X8_leaf 8 rfl) rfl ⟨rfl, h⟩
  · replace h := h.2 c
    refine bs_iload_n C (bf_dk dd_X8_leaf 2 rfl) rfl ?_
    refine bs_aload_n C (bf_dk dd_X8_leaf 3 rfl) rfl ?_
    refine bs_get C (bf_dk dd_X8_leaf 4 rfl) cl_8 in_8 3 (Nat.le_of_ble_eq_true rfl) rfl f_8_26 (ge_bW8_0 S) rfl ?_
    refine bs_pureV_i (ps := [31, 32, 33, 34, 35, 36, 37, 38, 39, 40, 41, 42, 43, 44]) (w := (bW8 S)) C hR (c_X1_count _ _ _ _ _ (b8g_leaves S) _ h) my_X1_count m_8_160 rfl cl_1 (ge_bW1_0 _) rfl (Nat.le_of_ble_eq_true rfl) (Nat.le_of_ble_eq_true rfl) (su_bW8_31_bW1 S) bnd_31t44 (st := [.int a1]) (Nat.le_of_ble_eq_true rfl) (bf_dk dd_X8_leaf 5 rfl) rfl (fun _ => rfl) (fun r1 h => ?_)
    refine bs_icmp_lt C (bf_dk dd_X8_leaf 6 rfl) (tgt := 17) rfl (fun c => ?_) (fun c => ?_)
    · replace h := h.1 c
      refine bs_iload_n C (bf_dk dd_X8_leaf 9 rfl) rfl ?_
      refine bs_table C (tdef := 140) (fun k => List.getD [60, 69, 86, 95, 104, 116, 128] k 0) 7 (bf_dk dd_X8_leaf 10 rfl) rfl rfl (fun k hk => by rcases (show k = 0 ∨ k = 1 ∨ k = 2 ∨ k = 3 ∨ k = 4 ∨ k = 5 ∨ k = 6 by omega) with rfl | rfl | rfl | rfl | rfl | rfl | rfl <;> exact ⟨_, rfl, rfl⟩) (fun c => ?_) (fun k hk c => ?_)
      · replace h := h.1 c
        refine bs_iload_n C (bf_dk dd_X8_leaf 53 rfl) rfl ?_
        refine bs_bipush C (bf_dk dd_X8_leaf 54 rfl) (10 : Int32) (by decide) ?_
        refine bs_isub C (bf_dk dd_X8_leaf 55 rfl) ?_
        refine bs_istore_n C (bf_dk dd_X8_leaf 56 rfl) rfl (Nat.le_of_ble_eq_true rfl) (Nat.le_of_ble_eq_true rfl) (lv2 := [some (.ref 0), some (.int a1), some (.int a2), some (.int (a2 - (10 : Int32)))]) rfl ?_
        refine bs_iload_n C (bf_dk dd_X8_leaf 57 rfl) rfl ?_
        refine bs_bipush C (bf_dk dd_X8_leaf 58 rfl) (10 : Int32) (by decide) ?_
        refine bs_icmp_lt C (bf_dk dd_X8_leaf 59 rfl) (tgt := 163) rfl (fun c => ?_) (fun c => ?_)
        · replace h := h.1 c
          refine bs_iconst C (bf_dk dd_X8_leaf 66 rfl) (-1 : Int32) (by decide) ?_
          exact bs_iret (u := S) C (bf_dk dd_X8_leaf 67 rfl) rfl ⟨rfl, h⟩
        · replace h := h.2 c
          refine bs_iload_n C (bf_dk dd_X8_leaf 60 rfl) rfl ?_
          refine bs_aload_n C (bf_dk dd_X8_leaf 61 rfl) rfl ?_
          refine bs_get C (bf_dk dd_X8_leaf 62 rfl) cl_8 in_8 3 (Nat.le_of_ble_eq_true rfl) rfl f_8_26 (ge_bW8_0 S) rfl ?_
          refine bs_iload_n C (bf_dk dd_X8_leaf 63 rfl) rfl ?_
          refine bs_pureV_i (ps := [31, 32, 33, 34, 35, 36, 37, 38, 39, 40, 41, 42, 43, 44]) (w := (bW8 S)) C hR (c_X1_lengthAt _ _ _ _ _ (b8g_leaves S) (a1) _ h) my_X1_lengthAt m_8_198 rfl cl_1 (ge_bW1_0 _) rfl (Nat.le_of_ble_eq_true rfl) (Nat.le_of_ble_eq_true rfl) (su_bW8_31_bW1 S) bnd_31t44 (st := [.int (a2 - (10 : Int32))]) (Nat.le_of_ble_eq_true rfl) (bf_dk dd_X8_leaf 64 rfl) rfl (fun _ => rfl) (fun r3 h => ?_)
          refine bs_icmp_lt C (bf_dk dd_X8_leaf 65 rfl) (tgt := 165) rfl (fun c => ?_) (fun c => ?_)
          · replace h := h.1 c
            refine bs_aload_n C (bf_dk dd_X8_leaf 68 rfl) rfl ?_
            refine bs_get C (bf_dk dd_X8_leaf 69 rfl) cl_8 in_8 3 (Nat.le_of_ble_eq_true rfl) rfl f_8_26 (ge_bW8_0 S) rfl ?_
            refine bs_get C (bf_dk dd_X8_leaf 70 rfl) cl_1 in_1 0 (Nat.le_of_ble_eq_true rfl) rfl f_8_163 (ge_bW8_31 S) rfl ?_
            refine bs_iload_n C (bf_dk dd_X8_leaf 71 rfl) rfl ?_
            refine bs_pureV_l (ps := [32, 33, 34]) (w := (bW8 S)) C hR (c_X0_bytesAt _ _ _ _ _ (b1g_owners (b8g_leaves S)) (a1) _ h) my_X0_bytesAt m_8_219 rfl cl_0 (ge_bW0_0 _) rfl (Nat.le_of_ble_eq_true rfl) (Nat.le_of_ble_eq_true rfl) (su_bW8_32_bW0 S) rfl (st := []) (Nat.le_of_ble_eq_true rfl) (bf_dk dd_X8_leaf 72 rfl) rfl (fun _ => rfl) (fun r5 h => ?_)
            refine bs_iload_n C (bf_dk dd_X8_leaf 73 rfl) rfl ?_
            refine bs_pureS_i (ps := []) (w := (bW8 S)) C hR (c_X8_octetAt _ _ _ _ _ (r5) ((a2 - (10 : Int32))) _ h) my_X8_octetAt m_8_222 rfl (Nat.le_of_ble_eq_true rfl) (Nat.le_of_ble_eq_true rfl) rfl rfl (st := []) (Nat.le_of_ble_eq_true rfl) (bf_dk dd_X8_leaf 74 rfl) rfl (fun _ => rfl) (fun r7 h => ?_)
            exact bs_iret (u := S) C (bf_dk dd_X8_leaf 75 rfl) rfl ⟨rfl, h⟩
          · replace h := h.2 c
            refine bs_iconst C (bf_dk dd_X8_leaf 66 rfl) (-1 : Int32) (by decide) ?_
            exact bs_iret (u := S) C (bf_dk dd_X8_leaf 67 rfl) rfl ⟨rfl, h⟩
      · rcases (show k = 0 ∨ k = 1 ∨ k = 2 ∨ k = 3 ∨ k = 4 ∨ k = 5 ∨ k = 6 by omega) with rfl | rfl | rfl | rfl | rfl | rfl | rfl
        · replace h := h.2.1 (bf_i32 c (by decide))
          refine bs_aload_n C (bf_dk dd_X8_leaf 11 rfl) rfl ?_
          refine bs_get C (bf_dk dd_X8_leaf 12 rfl) cl_8 in_8 3 (Nat.le_of_ble_eq_true rfl) rfl f_8_26 (ge_bW8_0 S) rfl ?_
          refine bs_iload_n C (bf_dk dd_X8_leaf 13 rfl) rfl ?_
          refine bs_pureV_i (ps := [31, 32, 33, 34, 35, 36, 37, 38, 39, 40, 41, 42, 43, 44]) (w := (bW8 S)) C hR (c_X1_lengthAt _ _ _ _ _ (b8g_leaves S) (a1) _ h) my_X1_lengthAt m_8_198 rfl cl_1 (ge_bW1_0 _) rfl (Nat.le_of_ble_eq_true rfl) (Nat.le_of_ble_eq_true rfl) (su_bW8_31_bW1 S) bnd_31t44 (st := []) (Nat.le_of_ble_eq_true rfl) (bf_dk dd_X8_leaf 14 rfl) rfl (fun _ => rfl) (fun r9 h => ?_)
          exact bs_iret (u := S) C (bf_dk dd_X8_leaf 15 rfl) rfl ⟨rfl, h⟩
        · replace h := h.2.2.1 (bf_i32 c (by decide))
          refine bs_aload_n C (bf_dk dd_X8_leaf 16 rfl) rfl ?_
          refine bs_get C (bf_dk dd_X8_leaf 17 rfl) cl_8 in_8 3 (Nat.le_of_ble_eq_true rfl) rfl f_8_26 (ge_bW8_0 S) rfl ?_
          refine bs_iload_n C (bf_dk dd_X8_leaf 18 rfl) rfl ?_
          refine bs_pureV_i (ps := [31, 32, 33, 34, 35, 36, 37, 38, 39, 40, 41, 42, 43, 44]) (w := (bW8 S)) C hR (c_X1_isEnded _ _ _ _ _ (b8g_leaves S) (a1) _ h) my_X1_isEnded m_8_201 rfl cl_1 (ge_bW1_0 _) rfl (Nat.le_of_ble_eq_true rfl) (Nat.le_of_ble_eq_true rfl) (su_bW8_31_bW1 S) bnd_31t44 (st := []) (Nat.le_of_ble_eq_true rfl) (bf_dk dd_X8_leaf 19 rfl) rfl (fun _ => rfl) (fun r11 h => ?_)
          refine bs_if_eq C (bf_dk dd_X8_leaf 20 rfl) (tgt := 84) rfl (fun c => ?_) (fun c => ?_)
          · replace h := h.1 c
            refine bs_iconst C (bf_dk dd_X8_leaf 23 rfl) (0 : Int32) (by decide) ?_
            exact bs_iret (u := S) C (bf_dk dd_X8_leaf 24 rfl) rfl ⟨rfl, h⟩
          · replace h := h.2 c
            refine bs_iconst C (bf_dk dd_X8_leaf 21 rfl) (1 : Int32) (by decide) ?_
            refine bs_goto C (bf_dk dd_X8_leaf 22 rfl) (tgt := 85) rfl ?_
            exact bs_iret (u := S) C (bf_dk dd_X8_leaf 24 rfl) rfl ⟨rfl, h⟩
        · replace h := h.2.2.2.1 (bf_i32 c (by decide))
          refine bs_aload_n C (bf_dk dd_X8_leaf 25 rfl) rfl ?_
          refine bs_get C (bf_dk dd_X8_leaf 26 rfl) cl_8 in_8 3 (Nat.le_of_ble_eq_true rfl) rfl f_8_26 (ge_bW8_0 S) rfl ?_
          refine bs_iload_n C (bf_dk dd_X8_leaf 27 rfl) rfl ?_
          refine bs_pureV_i (ps := [31, 32, 33, 34, 35, 36, 37, 38, 39, 40, 41, 42, 43, 44]) (w := (bW8 S)) C hR (c_X1_hashAt _ _ _ _ _ (b8g_leaves S) (a1) _ h) my_X1_hashAt m_8_204 rfl cl_1 (ge_bW1_0 _) rfl (Nat.le_of_ble_eq_true rfl) (Nat.le_of_ble_eq_true rfl) (su_bW8_31_bW1 S) bnd_31t44 (st := []) (Nat.le_of_ble_eq_true rfl) (bf_dk dd_X8_leaf 28 rfl) rfl (fun _ => rfl) (fun r13 h => ?_)
          exact bs_iret (u := S) C (bf_dk dd_X8_leaf 29 rfl) rfl ⟨rfl, h⟩
        · replace h := h.2.2.2.2.1 (bf_i32 c (by decide))
          refine bs_aload_n C (bf_dk dd_X8_leaf 30 rfl) rfl ?_
          refine bs_get C (bf_dk dd_X8_leaf 31 rfl) cl_8 in_8 3 (Nat.le_of_ble_eq_true rfl) rfl f_8_26 (ge_bW8_0 S) rfl ?_
          refine bs_iload_n C (bf_dk dd_X8_leaf 32 rfl) rfl ?_
          refine bs_pureV_i (ps := [31, 32, 33, 34, 35, 36, 37, 38, 39, 40, 41, 42, 43, 44]) (w := (bW8 S)) C hR (c_X1_nextAt _ _ _ _ _ (b8g_leaves S) (a1) _ h) my_X1_nextAt m_8_207 rfl cl_1 (ge_bW1_0 _) rfl (Nat.le_of_ble_eq_true rfl) (Nat.le_of_ble_eq_true rfl) (su_bW8_31_bW1 S) bnd_31t44 (st := []) (Nat.le_of_ble_eq_true rfl) (bf_dk dd_X8_leaf 33 rfl) rfl (fun _ => rfl) (fun r15 h => ?_)
          exact bs_iret (u := S) C (bf_dk dd_X8_leaf 34 rfl) rfl ⟨rfl, h⟩
        · replace h := h.2.2.2.2.2.1 (bf_i32 c (by decide))
          refine bs_aload_n C (bf_dk dd_X8_leaf 35 rfl) rfl ?_
          refine bs_get C (bf_dk dd_X8_leaf 36 rfl) cl_8 in_8 4 (Nat.le_of_ble_eq_true rfl) rfl f_8_33 (ge_bW8_0 S) rfl ?_
          refine bs_get C (bf_dk dd_X8_leaf 37 rfl) cl_6 in_6 9 (Nat.le_of_ble_eq_true rfl) rfl f_8_210 (ge_bW8_45 S) rfl ?_
          refine bs_iload_n C (bf_dk dd_X8_leaf 38 rfl) rfl ?_
          refine bs_pureS_i (ps := [55]) (w := (bW8 S)) C hR (c_X8_at _ _ _ _ _ 64 (b6g_places (b8g_tree S)) (a1) _ h) my_X8_at m_8_115 rfl (Nat.le_of_ble_eq_true rfl) (Nat.le_of_ble_eq_true rfl) (su_bW8_55_bWan64 S) rfl (st := []) (Nat.le_of_ble_eq_true rfl) (bf_dk dd_X8_leaf 39 rfl) rfl (fun _ => rfl) (fun r17 h => ?_)
          exact bs_iret (u := S) C (bf_dk dd_X8_leaf 40 rfl) rfl ⟨rfl, h⟩
        · replace h := h.2.2.2.2.2.2.1 (bf_i32 c (by decide))
          refine bs_aload_n C (bf_dk dd_X8_leaf 41 rfl) rfl ?_
          refine bs_get C (bf_dk dd_X8_leaf 42 rfl) cl_8 in_8 4 (Nat.le_of_ble_eq_true rfl) rfl f_8_33 (ge_bW8_0 S) rfl ?_
          refine bs_get C (bf_dk dd_X8_leaf 43 rfl) cl_6 in_6 11 (Nat.le_of_ble_eq_true rfl) rfl f_8_213 (ge_bW8_45 S) rfl ?_
          refine bs_iload_n C (bf_dk dd_X8_leaf 44 rfl) rfl ?_
          refine bs_pureS_i (ps := [57]) (w := (bW8 S)) C hR (c_X8_at _ _ _ _ _ 64 (b6g_leafNodes (b8g_tree S)) (a1) _ h) my_X8_at m_8_115 rfl (Nat.le_of_ble_eq_true rfl) (Nat.le_of_ble_eq_true rfl) (su_bW8_57_bWan64 S) rfl (st := []) (Nat.le_of_ble_eq_true rfl) (bf_dk dd_X8_leaf 45 rfl) rfl (fun _ => rfl) (fun r19 h => ?_)
          exact bs_iret (u := S) C (bf_dk dd_X8_leaf 46 rfl) rfl ⟨rfl, h⟩
        · replace h := h.2.2.2.2.2.2.2 (bf_i32 c (by decide))
          refine bs_aload_n C (bf_dk dd_X8_leaf 47 rfl) rfl ?_
          refine bs_get C (bf_dk dd_X8_leaf 48 rfl) cl_8 in_8 3 (Nat.le_of_ble_eq_true rfl) rfl f_8_26 (ge_bW8_0 S) rfl ?_
          refine bs_get C (bf_dk dd_X8_leaf 49 rfl) cl_1 in_1 3 (Nat.le_of_ble_eq_true rfl) rfl f_8_216 (ge_bW8_31 S) rfl ?_
          refine bs_iload_n C (bf_dk dd_X8_leaf 50 rfl) rfl ?_
          refine bs_pureS_i (ps := [41]) (w := (bW8 S)) C hR (c_X8_at _ _ _ _ _ 64 (b1g_commons (b8g_leaves S)) (a1) _ h) my_X8_at m_8_115 rfl (Nat.le_of_ble_eq_true rfl) (Nat.le_of_ble_eq_true rfl) (su_bW8_41_bWan64 S) rfl (st := []) (Nat.le_of_ble_eq_true rfl) (bf_dk dd_X8_leaf 51 rfl) rfl (fun _ => rfl) (fun r21 h => ?_)
          exact bs_iret (u := S) C (bf_dk dd_X8_leaf 52 rfl) rfl ⟨rfl, h⟩
    · replace h := h.2 c
      refine bs_iconst C (bf_dk dd_X8_leaf 7 rfl) (-1 : Int32) (by decide) ?_
      exact bs_iret (u := S) C (bf_dk dd_X8_leaf 8 rfl) rfl ⟨rfl, h⟩
theorem c_X8_leaf (l : Launch) (dC : Nat → ClassId) (dI : Nat → Nat → Nat) (ac : Nat → ClassId) (al : Nat → Nat) (S : bT8) (a1 : Int32) (a2 : Int32) (Q : Int32 → Prop) (h : wp_X8_leaf S a1 a2 Q) : bf_M l yX8_leaf cX8_leaf 4 (some .int) 2 42 dC dI ac al [.ref 0, .int a1, .int a2] (bW8 S) (bf_Ki dC dI ac al bW8 (fun r u => u = S ∧ Q r)) := by
  refine bf_start [some (.ref 0), some (.int a1), some (.int a2), none] (by decide) (Nat.le_of_ble_eq_true rfl) (bf_s1 (bf_s1 (bf_s1 (bf_en 1)))) ?_
  intro X hl C hR e1 e2 e3 e4
  subst e1; subst e2; subst e3; subst e4
  exact t_X8_leaf C hR S a1 a2 Q h
def wp_X8_leafAt (S : bT8) (a1 : Int32) (Q : Int32 → Prop) : Prop := ((a1 < 0 → (Q (-1 : Int32))) ∧ (¬ a1 < 0 → (wp_X1_count (b8g_leaves S) (fun r1 => ((r1 ≤ a1 → (Q (-1 : Int32))) ∧ (¬ r1 ≤ a1 → (wp_X8_at 64 (b6g_leavesByPlace (b8g_tree S)) (a1) (fun r3 => (Q r3)))))))))
set_option maxRecDepth 20000 in
theorem t_X8_leafAt {X : bf_X} (C : bf_C X RX8 cX8_leafAt 2 (some .int)) (hR : bf_Rm X 1 21) (S : bT8) (a1 : Int32) (Q : Int32 → Prop) (h : wp_X8_leafAt S a1 Q) : bf_A X (bf_Zi X bW8 (fun r u => u = S ∧ Q r)) 2 0 [some (.ref 0), some (.int a1)] [] (bW8 S) := by
  unfold wp_X8_leafAt at h
  refine bs_iload_n C (bf_dk dd_X8_leafAt 0 rfl) rfl ?_
  refine bs_if_lt C (bf_dk dd_X8_leafAt 1 rfl) (tgt := 29) rfl (fun c => ?_) (fun c => ?_)
  · replace h := h.1 c
    refine bs_iconst C (bf_dk dd_X8_leafAt 13 rfl) (-1 : Int32) (by decide) ?_
    exact bs_iret (u := S) C (bf_dk dd_X8_leafAt 14 rfl) rfl ⟨rfl, h⟩
  · replace h := h.2 c
    refine bs_iload_n C (bf_dk dd_X8_leafAt 2 rfl) rfl ?_
    refine bs_aload_n C (bf_dk dd_X8_leafAt 3 rfl) rfl ?_
    refine bs_get C (bf_dk dd_X8_leafAt 4 rfl) cl_8 in_8 3 (Nat.le_of_ble_eq_true rfl) rfl f_8_26 (ge_bW8_0 S) rfl ?_
    refine bs_pureV_i (ps := [31, 32, 33, 34, 35, 36, 37, 38, 39, 40, 41, 42, 43, 44]) (w := (bW8 S)) C hR (c_X1_count _ _ _ _ _ (b8g_leaves S) _ h) my_X1_count m_8_160 rfl cl_1 (ge_bW1_0 _) rfl (Nat.le_of_ble_eq_true rfl) (Nat.le_of_ble_eq_true rfl) (su_bW8_31_bW1 S) bnd_31t44 (st := [.int a1]) (Nat.le_of_ble_eq_true rfl) (bf_dk dd_X8_leafAt 5 rfl) rfl (fun _ => rfl) (fun r1 h => ?_)
    refine bs_icmp_ge C (bf_dk dd_X8_leafAt 6 rfl) (tgt := 29) rfl (fun c => ?_) (fun c => ?_)
    · replace h := h.1 c
      refine bs_iconst C (bf_dk dd_X8_leafAt 13 rfl) (-1 : Int32) (by decide) ?_
      exact bs_iret (u := S) C (bf_dk dd_X8_leafAt 14 rfl) rfl ⟨rfl, h⟩
    · replace h := h.2 c
      refine bs_aload_n C (bf_dk dd_X8_leafAt 7 rfl) rfl ?_
      refine bs_get C (bf_dk dd_X8_leafAt 8 rfl) cl_8 in_8 4 (Nat.le_of_ble_eq_true rfl) rfl f_8_33 (ge_bW8_0 S) rfl ?_
      refine bs_get C (bf_dk dd_X8_leafAt 9 rfl) cl_6 in_6 10 (Nat.le_of_ble_eq_true rfl) rfl f_8_225 (ge_bW8_45 S) rfl ?_
      refine bs_iload_n C (bf_dk dd_X8_leafAt 10 rfl) rfl ?_
      refine bs_pureS_i (ps := [56]) (w := (bW8 S)) C hR (c_X8_at _ _ _ _ _ 64 (b6g_leavesByPlace (b8g_tree S)) (a1) _ h) my_X8_at m_8_115 rfl (Nat.le_of_ble_eq_true rfl) (Nat.le_of_ble_eq_true rfl) (su_bW8_56_bWan64 S) rfl (st := []) (Nat.le_of_ble_eq_true rfl) (bf_dk dd_X8_leafAt 11 rfl) rfl (fun _ => rfl) (fun r3 h => ?_)
      refine bs_goto C (bf_dk dd_X8_leafAt 12 rfl) (tgt := 30) rfl ?_
      exact bs_iret (u := S) C (bf_dk dd_X8_leafAt 14 rfl) rfl ⟨rfl, h⟩
theorem c_X8_leafAt (l : Launch) (dC : Nat → ClassId) (dI : Nat → Nat → Nat) (ac : Nat → ClassId) (al : Nat → Nat) (S : bT8) (a1 : Int32) (Q : Int32 → Prop) (h : wp_X8_leafAt S a1 Q) : bf_M l yX8_leafAt cX8_leafAt 2 (some .int) 1 21 dC dI ac al [.ref 0, .int a1] (bW8 S) (bf_Ki dC dI ac al bW8 (fun r u => u = S ∧ Q r)) := by
  refine bf_start [some (.ref 0), some (.int a1)] (by decide) (Nat.le_of_ble_eq_true rfl) (bf_s1 (bf_s1 bf_s0)) ?_
  intro X hl C hR e1 e2 e3 e4
  subst e1; subst e2; subst e3; subst e4
  exact t_X8_leafAt C hR S a1 Q h
def wp_X8_node (S : bT8) (a1 : Int32) (a2 : Int32) (Q : Int32 → Prop) : Prop := ((a1 < 0 → (Q (-1 : Int32))) ∧ (¬ a1 < 0 → ((a1 < (b6g_nodes (b8g_tree S)) → ((((a2).toInt < 0 ∨ 6 < (a2).toInt) → (Q (-1 : Int32))) ∧ (a2 = (0 : Int32) → (wp_X8_at 232 (b6g_nodeLevels (b8g_tree S)) (a1) (fun r1 => (Q r1)))) ∧ (a2 = (1 : Int32) → (wp_X6_branches (b8g_tree S) (a1) ((a1 + (1 : Int32))) (fun r3 => (Q r3)))) ∧ (a2 = (2 : Int32) → (wp_X6_childrenOf (b8g_tree S) (a1) (fun r5 => (Q r5)))) ∧ (a2 = (3 : Int32) → (wp_X6_endsAmong (b8g_tree S) (a1) ((a1 + (1 : Int32))) (fun r7 => (Q r7)))) ∧ (a2 = (4 : Int32) → (((b6g_upperNodes (b8g_tree S)) ≤ a1 → (Q (0 : Int32))) ∧ (¬ (b6g_upperNodes (b8g_tree S)) ≤ a1 → (Q (1 : Int32))))) ∧ (a2 = (5 : Int32) → (wp_X8_at 232 (b6g_firstLeaves (b8g_tree S)) (a1) (fun r9 => (Q r9)))) ∧ (a2 = (6 : Int32) → (wp_X8_at 232 (b6g_leafCounts (b8g_tree S)) (a1) (fun r11 => (Q r11)))))) ∧ (¬ a1 < (b6g_nodes (b8g_tree S)) → (Q (-1 : Int32))))))
set_option maxRecDepth 20000 in
theorem t_X8_node {X : bf_X} (C : bf_C X RX8 cX8_node 3 (some .int)) (hR : bf_Rm X 4 88) (S : bT8) (a1 : Int32) (a2 : Int32) (Q : Int32 → Prop) (h : wp_X8_node S a1 a2 Q) : bf_A X (bf_Zi X bW8 (fun r u => u = S ∧ Q r)) 3 0 [some (.ref 0), some (.int a1), some (.int a2)] [] (bW8 S) := by
  unfold wp_X8_node at h
  refine bs_iload_n C (bf_dk dd_X8_node 0 rfl) rfl ?_
  refine bs_if_lt C (bf_dk dd_X8_node 1 rfl) (tgt := 15) rfl (fun c => ?_) (fun c => ?_)
  · replace h := h.1 c
    refine bs_iconst C (bf_dk dd_X8_node 7 rfl) (-1 : Int32) (by decide) ?_
    exact bs_iret (u := S) C (bf_dk dd_X8_node 8 rfl) rfl ⟨rfl, h⟩
  · replace h := h.2 c
    refine bs_iload_n C (bf_dk dd_X8_node 2 rfl) rfl ?_
    refine bs_aload_n C (bf_dk dd_X8_node 3 rfl) rfl ?_
    refine bs_get C (bf_dk dd_X8_node 4 rfl) cl_8 in_8 4 (Nat.le_of_ble_eq_true rfl) rfl f_8_33 (ge_bW8_0 S) rfl ?_
    refine bs_get C (bf_dk dd_X8_node 5 rfl) cl_6 in_6 12 (Nat.le_of_ble_eq_true rfl) rfl f_8_228 (ge_bW8_45 S) rfl ?_
    refine bs_icmp_lt C (bf_dk dd_X8_node 6 rfl) (tgt := 17) rfl (fun c => ?_) (fun c => ?_)
    · replace h := h.1 c
      refine bs_iload_n C (bf_dk dd_X8_node 9 rfl) rfl ?_
      refine bs_table C (tdef := 146) (fun k => List.getD [60, 72, 84, 93, 105, 122, 134] k 0) 7 (bf_dk dd_X8_node 10 rfl) rfl rfl (fun k hk => by rcases (show k = 0 ∨ k = 1 ∨ k = 2 ∨ k = 3 ∨ k = 4 ∨ k = 5 ∨ k = 6 by omega) with rfl | rfl | rfl | rfl | rfl | rfl | rfl <;> exact ⟨_, rfl, rfl⟩) (fun c => ?_) (fun k hk c => ?_)
      · replace h := h.1 c
        refine bs_iconst C (bf_dk dd_X8_node 59 rfl) (-1 : Int32) (by decide) ?_
        exact bs_iret (u := S) C (bf_dk dd_X8_node 60 rfl) rfl ⟨rfl, h⟩
      · rcases (show k = 0 ∨ k = 1 ∨ k = 2 ∨ k = 3 ∨ k = 4 ∨ k = 5 ∨ k = 6 by omega) with rfl | rfl | rfl | rfl | rfl | rfl | rfl
        · replace h := h.2.1 (bf_i32 c (by decide))
          refine bs_aload_n C (bf_dk dd_X8_node 11 rfl) rfl ?_
          refine bs_get C (bf_dk dd_X8_node 12 rfl) cl_8 in_8 4 (Nat.le_of_ble_eq_true rfl) rfl f_8_33 (ge_bW8_0 S) rfl ?_
          refine bs_get C (bf_dk dd_X8_node 13 rfl) cl_6 in_6 0 (Nat.le_of_ble_eq_true rfl) rfl f_8_231 (ge_bW8_45 S) rfl ?_
          refine bs_iload_n C (bf_dk dd_X8_node 14 rfl) rfl ?_
          refine bs_pureS_i (ps := [46]) (w := (bW8 S)) C hR (c_X8_at _ _ _ _ _ 232 (b6g_nodeLevels (b8g_tree S)) (a1) _ h) my_X8_at m_8_115 rfl (Nat.le_of_ble_eq_true rfl) (Nat.le_of_ble_eq_true rfl) (su_bW8_46_bWan232 S) rfl (st := []) (Nat.le_of_ble_eq_true rfl) (bf_dk dd_X8_node 15 rfl) rfl (fun _ => rfl) (fun r1 h => ?_)
          exact bs_iret (u := S) C (bf_dk dd_X8_node 16 rfl) rfl ⟨rfl, h⟩
        · replace h := h.2.2.1 (bf_i32 c (by decide))
          refine bs_aload_n C (bf_dk dd_X8_node 17 rfl) rfl ?_
          refine bs_get C (bf_dk dd_X8_node 18 rfl) cl_8 in_8 4 (Nat.le_of_ble_eq_true rfl) rfl f_8_33 (ge_bW8_0 S) rfl ?_
          refine bs_iload_n C (bf_dk dd_X8_node 19 rfl) rfl ?_
          refine bs_iload_n C (bf_dk dd_X8_node 20 rfl) rfl ?_
          refine bs_iconst C (bf_dk dd_X8_node 21 rfl) (1 : Int32) (by decide) ?_
          refine bs_iadd C (bf_dk dd_X8_node 22 rfl) ?_
          refine bs_pureV_i (ps := [45, 46, 47, 48, 49, 50, 51, 52, 53, 54, 55, 56, 57]) (w := (bW8 S)) C hR (c_X6_branches _ _ _ _ _ (b8g_tree S) (a1) ((a1 + (1 : Int32))) _ h) my_X6_branches m_8_234 rfl cl_6 (ge_bW6_0 _) rfl (Nat.le_of_ble_eq_true rfl) (Nat.le_of_ble_eq_true rfl) (su_bW8_45_bW6 S) bnd_45t57 (st := []) (Nat.le_of_ble_eq_true rfl) (bf_dk dd_X8_node 23 rfl) rfl (fun _ => rfl) (fun r3 h => ?_)
          exact bs_iret (u := S) C (bf_dk dd_X8_node 24 rfl) rfl ⟨rfl, h⟩
        · replace h := h.2.2.2.1 (bf_i32 c (by decide))
          refine bs_aload_n C (bf_dk dd_X8_node 25 rfl) rfl ?_
          refine bs_get C (bf_dk dd_X8_node 26 rfl) cl_8 in_8 4 (Nat.le_of_ble_eq_true rfl) rfl f_8_33 (ge_bW8_0 S) rfl ?_
          refine bs_iload_n C (bf_dk dd_X8_node 27 rfl) rfl ?_
          refine bs_pureV_i (ps := [45, 46, 47, 48, 49, 50, 51, 52, 53, 54, 55, 56, 57]) (w := (bW8 S)) C hR (c_X6_childrenOf _ _ _ _ _ (b8g_tree S) (a1) _ h) my_X6_childrenOf m_8_238 rfl cl_6 (ge_bW6_0 _) rfl (Nat.le_of_ble_eq_true rfl) (Nat.le_of_ble_eq_true rfl) (su_bW8_45_bW6 S) bnd_45t57 (st := []) (Nat.le_of_ble_eq_true rfl) (bf_dk dd_X8_node 28 rfl) rfl (fun _ => rfl) (fun r5 h => ?_)
          exact bs_iret (u := S) C (bf_dk dd_X8_node 29 rfl) rfl ⟨rfl, h⟩
        · replace h := h.2.2.2.2.1 (bf_i32 c (by decide))
          refine bs_aload_n C (bf_dk dd_X8_node 30 rfl) rfl ?_
          refine bs_get C (bf_dk dd_X8_node 31 rfl) cl_8 in_8 4 (Nat.le_of_ble_eq_true rfl) rfl f_8_33 (ge_bW8_0 S) rfl ?_
          refine bs_iload_n C (bf_dk dd_X8_node 32 rfl) rfl ?_
          refine bs_iload_n C (bf_dk dd_X8_node 33 rfl) rfl ?_
          refine bs_iconst C (bf_dk dd_X8_node 34 rfl) (1 : Int32) (by decide) ?_
          refine bs_iadd C (bf_dk dd_X8_node 35 rfl) ?_
          refine bs_pureV_i (ps := [45, 46, 47, 48, 49, 50, 51, 52, 53, 54, 55, 56, 57]) (w := (bW8 S)) C hR (c_X6_endsAmong _ _ _ _ _ (b8g_tree S) (a1) ((a1 + (1 : Int32))) _ h) my_X6_endsAmong m_8_241 rfl cl_6 (ge_bW6_0 _) rfl (Nat.le_of_ble_eq_true rfl) (Nat.le_of_ble_eq_true rfl) (su_bW8_45_bW6 S) bnd_45t57 (st := []) (Nat.le_of_ble_eq_true rfl) (bf_dk dd_X8_node 36 rfl) rfl (fun _ => rfl) (fun r7 h => ?_)
          exact bs_iret (u := S) C (bf_dk dd_X8_node 37 rfl) rfl ⟨rfl, h⟩
        · replace h := h.2.2.2.2.2.1 (bf_i32 c (by decide))
          refine bs_iload_n C (bf_dk dd_X8_node 38 rfl) rfl ?_
          refine bs_aload_n C (bf_dk dd_X8_node 39 rfl) rfl ?_
          refine bs_get C (bf_dk dd_X8_node 40 rfl) cl_8 in_8 4 (Nat.le_of_ble_eq_true rfl) rfl f_8_33 (ge_bW8_0 S) rfl ?_
          refine bs_get C (bf_dk dd_X8_node 41 rfl) cl_6 in_6 17 (Nat.le_of_ble_eq_true rfl) rfl f_8_244 (ge_bW8_45 S) rfl ?_
          refine bs_icmp_ge C (bf_dk dd_X8_node 42 rfl) (tgt := 120) rfl (fun c => ?_) (fun c => ?_)
          · replace h := h.1 c
            refine bs_iconst C (bf_dk dd_X8_node 45 rfl) (0 : Int32) (by decide) ?_
            exact bs_iret (u := S) C (bf_dk dd_X8_node 46 rfl) rfl ⟨rfl, h⟩
          · replace h := h.2 c
            refine bs_iconst C (bf_dk dd_X8_node 43 rfl) (1 : Int32) (by decide) ?_
            refine bs_goto C (bf_dk dd_X8_node 44 rfl) (tgt := 121) rfl ?_
            exact bs_iret (u := S) C (bf_dk dd_X8_node 46 rfl) rfl ⟨rfl, h⟩
        · replace h := h.2.2.2.2.2.2.1 (bf_i32 c (by decide))
          refine bs_aload_n C (bf_dk dd_X8_node 47 rfl) rfl ?_
          refine bs_get C (bf_dk dd_X8_node 48 rfl) cl_8 in_8 4 (Nat.le_of_ble_eq_true rfl) rfl f_8_33 (ge_bW8_0 S) rfl ?_
          refine bs_get C (bf_dk dd_X8_node 49 rfl) cl_6 in_6 1 (Nat.le_of_ble_eq_true rfl) rfl f_8_247 (ge_bW8_45 S) rfl ?_
          refine bs_iload_n C (bf_dk dd_X8_node 50 rfl) rfl ?_
          refine bs_pureS_i (ps := [47]) (w := (bW8 S)) C hR (c_X8_at _ _ _ _ _ 232 (b6g_firstLeaves (b8g_tree S)) (a1) _ h) my_X8_at m_8_115 rfl (Nat.le_of_ble_eq_true rfl) (Nat.le_of_ble_eq_true rfl) (su_bW8_47_bWan232 S) rfl (st := []) (Nat.le_of_ble_eq_true rfl) (bf_dk dd_X8_node 51 rfl) rfl (fun _ => rfl) (fun r9 h => ?_)
          exact bs_iret (u := S) C (bf_dk dd_X8_node 52 rfl) rfl ⟨rfl, h⟩
        · replace h := h.2.2.2.2.2.2.2 (bf_i32 c (by decide))
          refine bs_aload_n C (bf_dk dd_X8_node 53 rfl) rfl ?_
          refine bs_get C (bf_dk dd_X8_node 54 rfl) cl_8 in_8 4 (Nat.le_of_ble_eq_true rfl) rfl f_8_33 (ge_bW8_0 S) rfl ?_
          refine bs_get C (bf_dk dd_X8_node 55 rfl) cl_6 in_6 2 (Nat.le_of_ble_eq_true rfl) rfl f_8_250 (ge_bW8_45 S) rfl ?_
          refine bs_iload_n C (bf_dk dd_X8_node 56 rfl) rfl ?_
          refine bs_pureS_i (ps := [48]) (w := (bW8 S)) C hR (c_X8_at _ _ _ _ _ 232 (b6g_leafCounts (b8g_tree S)) (a1) _ h) my_X8_at m_8_115 rfl (Nat.le_of_ble_eq_true rfl) (Nat.le_of_ble_eq_true rfl) (su_bW8_48_bWan232 S) rfl (st := []) (Nat.le_of_ble_eq_true rfl) (bf_dk dd_X8_node 57 rfl) rfl (fun _ => rfl) (fun r11 h => ?_)
          exact bs_iret (u := S) C (bf_dk dd_X8_node 58 rfl) rfl ⟨rfl, h⟩
    · replace h := h.2 c
      refine bs_iconst C (bf_dk dd_X8_node 7 rfl) (-1 : Int32) (by decide) ?_
      exact bs_iret (u := S) C (bf_dk dd_X8_node 8 rfl) rfl ⟨rfl, h⟩
theorem c_X8_node (l : Launch) (dC : Nat → ClassId) (dI : Nat → Nat → Nat) (ac : Nat → ClassId) (al : Nat → Nat) (S : bT8) (a1 : Int32) (a2 : Int32) (Q : Int32 → Prop) (h : wp_X8_node S a1 a2 Q) : bf_M l yX8_node cX8_node 3 (some .int) 4 88 dC dI ac al [.ref 0, .int a1, .int a2] (bW8 S) (bf_Ki dC dI ac al bW8 (fun r u => u = S ∧ Q r)) := by
  refine bf_start [some (.ref 0), some (.int a1), some (.int a2)] (by decide) (Nat.le_of_ble_eq_true rfl) (bf_s1 (bf_s1 (bf_s1 bf_s0))) ?_
  intro X hl C hR e1 e2 e3 e4
  subst e1; subst e2; subst e3; subst e4
  exact t_X8_node C hR S a1 a2 Q h
