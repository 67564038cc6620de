def wp_X8_child (S : bT8) (a1 : Int32) (a2 : Int32) (Q : Int32 → Prop) : Prop := ((a1 < 0 → (Q (-1 : Int32))) ∧ (¬ a1 < 0 → (((b6g_nodes (b8g_tree S)) ≤ a1 → (Q (-1 : Int32))) ∧ (¬ (b6g_nodes (b8g_tree S)) ≤ a1 → ((a2 < 0 → (Q (-1 : Int32))) ∧ (¬ a2 < 0 → ((a2 < (256 : Int32) → (wp_X6_goneAlong (b8g_tree S) (a1) (a2) (fun r1 => (Q r1)))) ∧ (¬ a2 < (256 : Int32) → (Q (-1 : Int32))))))))))
set_option maxRecDepth 20000 in
theorem t_X8_child {X : bf_X} (C : bf_C X RX8 cX8_child 3 (some .int)) (hR : bf_Rm X 3 65) (S : bT8) (a1 : Int32) (a2 : Int32) (Q : Int32 → Prop) (h : wp_X8_child S a1 a2 Q) : bf_A X (bf_Zi X bW8 (fun r u => u = S ∧ Q r)) 3 0 [some (.ref 0), some (.int a1), some (.int a2)] [] (bW8 S) := by
  unfold wp_X8_child at h
  refine bs_iload_n C (bf_dk dd_X8_child 0 rfl) rfl ?_
  refine bs_if_lt C (bf_dk dd_X8_child 1 rfl) (tgt := 26) rfl (fun c => ?_) (fun c => ?_)
  · replace h := h.1 c
    refine bs_iconst C (bf_dk dd_X8_child 12 rfl) (-1 : Int32) (by decide) ?_
    exact bs_iret (u := S) C (bf_dk dd_X8_child 13 rfl) rfl ⟨rfl, h⟩
  · replace h := h.2 c
    refine bs_iload_n C (bf_dk dd_X8_child 2 rfl) rfl ?_
    refine bs_aload_n C (bf_dk dd_X8_child 3 rfl) rfl ?_
    refine bs_get C (bf_dk dd_X8_child 4 rfl) cl_8 in_8 4 (Nat.le_of_ble_eq_true rfl) rfl f_8_33 (ge_bW8_0 S) rfl ?_
    refine bs_get C (bf_dk dd_X8_child 5 rfl) cl_6 in_6 12 (Nat.le_of_ble_eq_true rfl) rfl f_8_228 (ge_bW8_45 S) rfl ?_
    refine bs_icmp_ge C (bf_dk dd_X8_child 6 rfl) (tgt := 26) rfl (fun c => ?_) (fun c => ?_)
    · replace h := h.1 c
      refine bs_iconst C (bf_dk dd_X8_child 12 rfl) (-1 : Int32) (by decide) ?_
      exact bs_iret (u := S) C (bf_dk dd_X8_child 13 rfl) rfl ⟨rfl, h⟩
    · replace h := h.2 c
      refine bs_iload_n C (bf_dk dd_X8_child 7 rfl) rfl ?_
      refine bs_if_lt C (bf_dk dd_X8_child 8 rfl) (tgt := 26) rfl (fun c => ?_) (fun c => ?_)
      · replace h := h.1 c
        refine bs_iconst C (bf_dk dd_X8_child 12 rfl) (-1 : Int32) (by decide) ?_
        exact bs_iret (u := S) C (bf_dk dd_X8_child 13 rfl) rfl ⟨rfl, h⟩
      · replace h := h.2 c
        refine bs_iload_n C (bf_dk dd_X8_child 9 rfl) rfl ?_
        refine bs_sipush C (bf_dk dd_X8_child 10 rfl) (256 : Int32) (by decide) ?_
        refine bs_icmp_lt C (bf_dk dd_X8_child 11 rfl) (tgt := 28) rfl (fun c => ?_) (fun c => ?_)
        · replace h := h.1 c
          refine bs_aload_n C (bf_dk dd_X8_child 14 rfl) rfl ?_
          refine bs_get C (bf_dk dd_X8_child 15 rfl) cl_8 in_8 4 (Nat.le_of_ble_eq_true rfl) rfl f_8_33 (ge_bW8_0 S) rfl ?_
          refine bs_iload_n C (bf_dk dd_X8_child 16 rfl) rfl ?_
          refine bs_iload_n C (bf_dk dd_X8_child 17 rfl) rfl ?_
          refine bs_pureV_i (ps := [45, 46, 47, 48, 49, 50, 51, 52, 53, 54, 55, 56, 57]) (w := (bW8 S)) C hR (c_X6_goneAlong _ _ _ _ _ (b8g_tree S) (a1) (a2) _ h) my_X6_goneAlong m_8_253 rfl cl_6 (ge_bW6_0 _) rfl (Nat.le_of_ble_eq_true rfl) (Nat.le_of_ble_eq_true rfl) (su_bW8_45_bW6 S) bnd_45t57 (st := []) (Nat.le_of_ble_eq_true rfl) (bf_dk dd_X8_child 18 rfl) rfl (fun _ => rfl) (fun r1 h => ?_)
          exact bs_iret (u := S) C (bf_dk dd_X8_child 19 rfl) rfl ⟨rfl, h⟩
        · replace h := h.2 c
          refine bs_iconst C (bf_dk dd_X8_child 12 rfl) (-1 : Int32) (by decide) ?_
          exact bs_iret (u := S) C (bf_dk dd_X8_child 13 rfl) rfl ⟨rfl, h⟩
theorem c_X8_child (l : Launch) (dC : Nat → ClassId) (dI : Nat → Nat → Nat) (ac : Nat → ClassId) (al : Nat → Nat) (S : bT8) (a1 : Int32) (a2 : Int32) (Q : Int32 → Prop) (h : wp_X8_child S a1 a2 Q) : bf_M l yX8_child cX8_child 3 (some .int) 3 65 dC dI ac al [.ref 0, .int a1, .int a2] (bW8 S) (bf_Ki dC dI ac al bW8 (fun r u => u = S ∧ Q r)) := by
  refine bf_start [some (.ref 0), some (.int a1), some (.int a2)] (by decide) (Nat.le_of_ble_eq_true rfl) (bf_s1 (bf_s1 (bf_s1 bf_s0))) ?_
  intro X hl C hR e1 e2 e3 e4
  subst e1; subst e2; subst e3; subst e4
  exact t_X8_child C hR S a1 a2 Q h
def wp_X8_level (S : bT8) (a1 : Int32) (a2 : Int32) (Q : Int32 → Prop) : Prop := ((a1 < 0 → (Q (-1 : Int32))) ∧ (¬ a1 < 0 → ((a1 < (b6g_levels (b8g_tree S)) → (wp_X8_at 9 (b6g_levelStarts (b8g_tree S)) (a1) (fun r1 => (wp_X8_at 9 (b6g_levelStarts (b8g_tree S)) ((a1 + (1 : Int32))) (fun r3 => ((((a2).toInt < 0 ∨ 4 < (a2).toInt) → (Q (-1 : Int32))) ∧ (a2 = (0 : Int32) → (Q (r3 - r1))) ∧ (a2 = (1 : Int32) → (wp_X6_branches (b8g_tree S) (r1) (r3) (fun r5 => (Q r5)))) ∧ (a2 = (2 : Int32) → (wp_X1_ofLevel (b8g_leaves S) (a1) (fun r7 => (Q r7)))) ∧ (a2 = (3 : Int32) → (((b6g_upper (b8g_tree S)) ≤ a1 → (Q (0 : Int32))) ∧ (¬ (b6g_upper (b8g_tree S)) ≤ a1 → (Q (1 : Int32))))) ∧ (a2 = (4 : Int32) → (((b6g_upper (b8g_tree S)) ≤ a1 → (wp_X6_edgesAmong (b8g_tree S) (r1) (r3) (fun r9 => (Q ((11 : Int32) * r9))))) ∧ (¬ (b6g_upper (b8g_tree S)) ≤ a1 → (Q ((513 : Int32) * (r3 - r1)))))))))))) ∧ (¬ a1 < (b6g_levels (b8g_tree S)) → (Q (-1 : Int32))))))
set_option maxRecDepth 20000 in
theorem t_X8_level {X : bf_X} (C : bf_C X RX8 cX8_level 5 (some .int)) (hR : bf_Rm X 4 88) (S : bT8) (a1 : Int32) (a2 : Int32) (Q : Int32 → Prop) (h : wp_X8_level S a1 a2 Q) : bf_A X (bf_Zi X bW8 (fun r u => u = S ∧ Q r)) 5 0 [some (.ref 0), some (.int a1), some (.int a2), none, none] [] (bW8 S) := by
  unfold wp_X8_level at h
  refine bs_iload_n C (bf_dk dd_X8_level 0 rfl) rfl ?_
  refine bs_if_lt C (bf_dk dd_X8_level 1 rfl) (tgt := 15) rfl (fun c => ?_) (fun c => ?_)
  · replace h := h.1 c
    refine bs_iconst C (bf_dk dd_X8_level 7 rfl) (-1 : Int32) (by decide) ?_
    exact bs_iret (u := S) C (bf_dk dd_X8_level 8 rfl) rfl ⟨rfl, h⟩
  · replace h := h.2 c
    refine bs_iload_n C (bf_dk dd_X8_level 2 rfl) rfl ?_
    refine bs_aload_n C (bf_dk dd_X8_level 3 rfl) rfl ?_
    refine bs_get C (bf_dk dd_X8_level 4 rfl) cl_8 in_8 4 (Nat.le_of_ble_eq_true rfl) rfl f_8_33 (ge_bW8_0 S) rfl ?_
    refine bs_get C (bf_dk dd_X8_level 5 rfl) cl_6 in_6 15 (Nat.le_of_ble_eq_true rfl) rfl f_8_256 (ge_bW8_45 S) rfl ?_
    refine bs_icmp_lt C (bf_dk dd_X8_level 6 rfl) (tgt := 17) rfl (fun c => ?_) (fun c => ?_)
    · replace h := h.1 c
      refine bs_aload_n C (bf_dk dd_X8_level 9 rfl) rfl ?_
      refine bs_get C (bf_dk dd_X8_level 10 rfl) cl_8 in_8 4 (Nat.le_of_ble_eq_true rfl) rfl f_8_33 (ge_bW8_0 S) rfl ?_
      refine bs_get C (bf_dk dd_X8_level 11 rfl) cl_6 in_6 8 (Nat.le_of_ble_eq_true rfl) rfl f_8_259 (ge_bW8_45 S) rfl ?_
      refine bs_iload_n C (bf_dk dd_X8_level 12 rfl) rfl ?_
      refine bs_pureS_i (ps := [54]) (w := (bW8 S)) C hR (c_X8_at _ _ _ _ _ 9 (b6g_levelStarts (b8g_tree S)) (a1) _ h) my_X8_at m_8_115 rfl (Nat.le_of_ble_eq_true rfl) (Nat.le_of_ble_eq_true rfl) (su_bW8_54_bWan9 S) rfl (st := []) (Nat.le_of_ble_eq_true rfl) (bf_dk dd_X8_level 13 rfl) rfl (fun _ => rfl) (fun r1 h => ?_)
      refine bs_istore_n C (bf_dk dd_X8_level 14 rfl) rfl (Nat.le_of_ble_eq_true rfl) (Nat.le_of_ble_eq_true rfl) (lv2 := [some (.ref 0), some (.int a1), some (.int a2), some (.int r1), none]) rfl ?_
      refine bs_aload_n C (bf_dk dd_X8_level 15 rfl) rfl ?_
      refine bs_get C (bf_dk dd_X8_level 16 rfl) cl_8 in_8 4 (Nat.le_of_ble_eq_true rfl) rfl f_8_33 (ge_bW8_0 S) rfl ?_
      refine bs_get C (bf_dk dd_X8_level 17 rfl) cl_6 in_6 8 (Nat.le_of_ble_eq_true rfl) rfl f_8_259 (ge_bW8_45 S) rfl ?_
      refine bs_iload_n C (bf_dk dd_X8_level 18 rfl) rfl ?_
      refine bs_iconst C (bf_dk dd_X8_level 19 rfl) (1 : Int32) (by decide) ?_
      refine bs_iadd C (bf_dk dd_X8_level 20 rfl) ?_
      refine bs_pureS_i (ps := [54]) (w := (bW8 S)) C hR (c_X8_at _ _ _ _ _ 9 (b6g_levelStarts (b8g_tree S)) ((a1 + (1 : Int32))) _ h) my_X8_at m_8_115 rfl (Nat.le_of_ble_eq_true rfl) (Nat.le_of_ble_eq_true rfl) (su_bW8_54_bWan9 S) rfl (st := []) (Nat.le_of_ble_eq_true rfl) (bf_dk dd_X8_level 21 rfl) rfl (fun _ => rfl) (fun r3 h => ?_)
      refine bs_istore C (bf_dk dd_X8_level 22 rfl) (Nat.le_of_ble_eq_true rfl) (Nat.le_of_ble_eq_true rfl) (lv2 := [some (.ref 0), some (.int a1), some (.int a2), some (.int r1), some (.int r3)]) rfl ?_
      refine bs_iload_n C (bf_dk dd_X8_level 23 rfl) rfl ?_
      refine bs_table C (tdef := 158) (fun k => List.getD [80, 85, 96, 105, 122] k 0) 5 (bf_dk dd_X8_level 24 rfl) rfl rfl (fun k hk => by rcases (show k = 0 ∨ k = 1 ∨ k = 2 ∨ k = 3 ∨ k = 4 by omega) with rfl | rfl | rfl | rfl | rfl <;> exact ⟨_, rfl, rfl⟩) (fun c => ?_) (fun k hk c => ?_)
      · replace h := h.1 c
        refine bs_iconst C (bf_dk dd_X8_level 68 rfl) (-1 : Int32) (by decide) ?_
        exact bs_iret (u := S) C (bf_dk dd_X8_level 69 rfl) rfl ⟨rfl, h⟩
      · rcases (show k = 0 ∨ k = 1 ∨ k = 2 ∨ k = 3 ∨ k = 4 by omega) with rfl | rfl | rfl | rfl | rfl
        · replace h := h.2.1 (bf_i32 c (by decide))
          refine bs_iload C (bf_dk dd_X8_level 25 rfl) rfl ?_
          refine bs_iload_n C (bf_dk dd_X8_level 26 rfl) rfl ?_
          refine bs_isub C (bf_dk dd_X8_level 27 rfl) ?_
          exact bs_iret (u := S) C (bf_dk dd_X8_level 28 rfl) rfl ⟨rfl, h⟩
        · replace h := h.2.2.1 (bf_i32 c (by decide))
          refine bs_aload_n C (bf_dk dd_X8_level 29 rfl) rfl ?_
          refine bs_get C (bf_dk dd_X8_level 30 rfl) cl_8 in_8 4 (Nat.le_of_ble_eq_true rfl) rfl f_8_33 (ge_bW8_0 S) rfl ?_
          refine bs_iload_n C (bf_dk dd_X8_level 31 rfl) rfl ?_
          refine bs_iload C (bf_dk dd_X8_level 32 rfl) rfl ?_
          refine bs_pureV_i (ps := [45, 46, 47, 48, 49, 50, 51, 52, 53, 54, 55, 56, 57]) (w := (bW8 S)) C hR (c_X6_branches _ _ _ _ _ (b8g_tree S) (r1) (r3) _ h) my_X6_branches m_8_234 rfl cl_6 (ge_bW6_0 _) rfl (Nat.le_of_ble_eq_true rfl) (Nat.le_of_ble_eq_true rfl) (su_bW8_45_bW6 S) bnd_45t57 (st := []) (Nat.le_of_ble_eq_true rfl) (bf_dk dd_X8_level 33 rfl) rfl (fun _ => rfl) (fun r5 h => ?_)
          exact bs_iret (u := S) C (bf_dk dd_X8_level 34 rfl) rfl ⟨rfl, h⟩
        · replace h := h.2.2.2.1 (bf_i32 c (by decide))
          refine bs_aload_n C (bf_dk dd_X8_level 35 rfl) rfl ?_
          refine bs_get C (bf_dk dd_X8_level 36 rfl) cl_8 in_8 3 (Nat.le_of_ble_eq_true rfl) rfl f_8_26 (ge_bW8_0 S) rfl ?_
          refine bs_iload_n C (bf_dk dd_X8_level 37 rfl) rfl ?_
          refine bs_pureV_i (ps := [31, 32, 33, 34, 35, 36, 37, 38, 39, 40, 41, 42, 43, 44]) (w := (bW8 S)) C hR (c_X1_ofLevel _ _ _ _ _ (b8g_leaves S) (a1) _ h) my_X1_ofLevel m_8_262 rfl cl_1 (ge_bW1_0 _) rfl (Nat.le_of_ble_eq_true rfl) (Nat.le_of_ble_eq_true rfl) (su_bW8_31_bW1 S) bnd_31t44 (st := []) (Nat.le_of_ble_eq_true rfl) (bf_dk dd_X8_level 38 rfl) rfl (fun _ => rfl) (fun r7 h => ?_)
          exact bs_iret (u := S) C (bf_dk dd_X8_level 39 rfl) rfl ⟨rfl, h⟩
        · replace h := h.2.2.2.2.1 (bf_i32 c (by decide))
          refine bs_iload_n C (bf_dk dd_X8_level 40 rfl) rfl ?_
          refine bs_aload_n C (bf_dk dd_X8_level 41 rfl) rfl ?_
          refine bs_get C (bf_dk dd_X8_level 42 rfl) cl_8 in_8 4 (Nat.le_of_ble_eq_true rfl) rfl f_8_33 (ge_bW8_0 S) rfl ?_
          refine bs_get C (bf_dk dd_X8_level 43 rfl) cl_6 in_6 16 (Nat.le_of_ble_eq_true rfl) rfl f_8_265 (ge_bW8_45 S) rfl ?_
          refine bs_icmp_ge C (bf_dk dd_X8_level 44 rfl) (tgt := 120) rfl (fun c => ?_) (fun c => ?_)
          · replace h := h.1 c
            refine bs_iconst C (bf_dk dd_X8_level 47 rfl) (0 : Int32) (by decide) ?_
            exact bs_iret (u := S) C (bf_dk dd_X8_level 48 rfl) rfl ⟨rfl, h⟩
          · replace h := h.2 c
            refine bs_iconst C (bf_dk dd_X8_level 45 rfl) (1 : Int32) (by decide) ?_
            refine bs_goto C (bf_dk dd_X8_level 46 rfl) (tgt := 121) rfl ?_
            exact bs_iret (u := S) C (bf_dk dd_X8_level 48 rfl) rfl ⟨rfl, h⟩
        · replace h := h.2.2.2.2.2 (bf_i32 c (by decide))
          refine bs_iload_n C (bf_dk dd_X8_level 49 rfl) rfl ?_
          refine bs_aload_n C (bf_dk dd_X8_level 50 rfl) rfl ?_
          refine bs_get C (bf_dk dd_X8_level 51 rfl) cl_8 in_8 4 (Nat.le_of_ble_eq_true rfl) rfl f_8_33 (ge_bW8_0 S) rfl ?_
          refine bs_get C (bf_dk dd_X8_level 52 rfl) cl_6 in_6 16 (Nat.le_of_ble_eq_true rfl) rfl f_8_265 (ge_bW8_45 S) rfl ?_
          refine bs_icmp_ge C (bf_dk dd_X8_level 53 rfl) (tgt := 144) rfl (fun c => ?_) (fun c => ?_)
          · replace h := h.1 c
            refine bs_bipush C (bf_dk dd_X8_level 60 rfl) (11 : Int32) (by decide) ?_
            refine bs_aload_n C (bf_dk dd_X8_level 61 rfl) rfl ?_
            refine bs_get C (bf_dk dd_X8_level 62 rfl) cl_8 in_8 4 (Nat.le_of_ble_eq_true rfl) rfl f_8_33 (ge_bW8_0 S) rfl ?_
            refine bs_iload_n C (bf_dk dd_X8_level 63 rfl) rfl ?_
            refine bs_iload C (bf_dk dd_X8_level 64 rfl) rfl ?_
            refine bs_pureV_i (ps := [45, 46, 47, 48, 49, 50, 51, 52, 53, 54, 55, 56, 57]) (w := (bW8 S)) C hR (c_X6_edgesAmong _ _ _ _ _ (b8g_tree S) (r1) (r3) _ h) my_X6_edgesAmong m_8_268 rfl cl_6 (ge_bW6_0 _) rfl (Nat.le_of_ble_eq_true rfl) (Nat.le_of_ble_eq_true rfl) (su_bW8_45_bW6 S) bnd_45t57 (st := [.int (11 : Int32)]) (Nat.le_of_ble_eq_true rfl) (bf_dk dd_X8_level 65 rfl) rfl (fun _ => rfl) (fun r9 h => ?_)
            refine bs_imul C (bf_dk dd_X8_level 66 rfl) ?_
            exact bs_iret (u := S) C (bf_dk dd_X8_level 67 rfl) rfl ⟨rfl, h⟩
          · replace h := h.2 c
            refine bs_sipush C (bf_dk dd_X8_level 54 rfl) (513 : Int32) (by decide) ?_
            refine bs_iload C (bf_dk dd_X8_level 55 rfl) rfl ?_
            refine bs_iload_n C (bf_dk dd_X8_level 56 rfl) rfl ?_
            refine bs_isub C (bf_dk dd_X8_level 57 rfl) ?_
            refine bs_imul C (bf_dk dd_X8_level 58 rfl) ?_
            refine bs_goto C (bf_dk dd_X8_level 59 rfl) (tgt := 157) rfl ?_
            exact bs_iret (u := S) C (bf_dk dd_X8_level 67 rfl) rfl ⟨rfl, h⟩
    · replace h := h.2 c
      refine bs_iconst C (bf_dk dd_X8_level 7 rfl) (-1 : Int32) (by decide) ?_
      exact bs_iret (u := S) C (bf_dk dd_X8_level 8 rfl) rfl ⟨rfl, h⟩
theorem c_X8_level (l : Launch) (dC : Nat → ClassId) (dI : Nat → Nat → Nat) (ac : Nat → ClassId) (al : Nat → Nat) (S : bT8) (a1 : Int32) (a2 : Int32) (Q : Int32 → Prop) (h : wp_X8_level S a1 a2 Q) : bf_M l yX8_level cX8_level 5 (some .int) 4 88 dC dI ac al [.ref 0, .int a1, .int a2] (bW8 S) (bf_Ki dC dI ac al bW8 (fun r u => u = S ∧ Q r)) := by
  refine bf_start [some (.ref 0), some (.int a1), some (.int a2), none, none] (by decide) (Nat.le_of_ble_eq_true rfl) (bf_s1 (bf_s1 (bf_s1 (bf_en 2)))) ?_
  intro X hl C hR e1 e2 e3 e4
  subst e1; subst e2; subst e3; subst e4
  exact t_X8_level C hR S a1 a2 Q h
def wp_X8_item (S : bT8) (a1 : Int32) (a2 : Int32) (Q : Int32 → Prop) : Prop := ((a1 < 0 → (Q (-1 : Int32))) ∧ (¬ a1 < 0 → (wp_X6_items (b8g_tree S) (fun r1 => ((a1 < r1 → ((((a2).toInt < 0 ∨ 3 < (a2).toInt) → (Q (-1 : Int32))) ∧ (a2 = (0 : Int32) → (wp_X8_at 296 (b6g_edgeOctets (b8g_tree S)) (((b6g_itemStart (b8g_tree S)) + a1)) (fun r3 => (Q r3)))) ∧ (a2 = (1 : Int32) → (wp_X6_isEnd (b8g_tree S) (((b6g_itemStart (b8g_tree S)) + a1)) (fun r5 => ((r5 = 0 → (Q (0 : Int32))) ∧ (¬ r5 = 0 → (Q (1 : Int32))))))) ∧ (a2 = (2 : Int32) → (wp_X6_hasChild (b8g_tree S) (((b6g_itemStart (b8g_tree S)) + a1)) (fun r7 => ((r7 = 0 → (Q (0 : Int32))) ∧ (¬ r7 = 0 → (Q (1 : Int32))))))) ∧ (a2 = (3 : Int32) → (wp_X8_at 296 (b6g_edgeNodes (b8g_tree S)) (((b6g_itemStart (b8g_tree S)) + a1)) (fun r9 => (Q r9)))))) ∧ (¬ a1 < r1 → (Q (-1 : Int32))))))))
set_option maxRecDepth 20000 in
theorem t_X8_item {X : bf_X} (C : bf_C X RX8 cX8_item 4 (some .int)) (hR : bf_Rm X 2 42) (S : bT8) (a1 : Int32) (a2 : Int32) (Q : Int32 → Prop) (h : wp_X8_item S a1 a2 Q) : bf_A X (bf_Zi X bW8 (fun r u => u = S ∧ Q r)) 4 0 [some (.ref 0), some (.int a1), some (.int a2), none] [] (bW8 S) := by
  unfold wp_X8_item at h
  refine bs_iload_n C (bf_dk dd_X8_item 0 rfl) rfl ?_
  refine bs_if_lt C (bf_dk dd_X8_item 1 rfl) (tgt := 15) rfl (fun c => ?_) (fun c => ?_)
  · replace h := h.1 c
    refine bs_iconst C (bf_dk dd_X8_item 7 rfl) (-1 : Int32) (by decide) ?_
    exact bs_iret (u := S) C (bf_dk dd_X8_item 8 rfl) rfl ⟨rfl, h⟩
  · replace h := h.2 c
    refine bs_iload_n C (bf_dk dd_X8_item 2 rfl) rfl ?_
    refine bs_aload_n C (bf_dk dd_X8_item 3 rfl) rfl ?_
    refine bs_get C (bf_dk dd_X8_item 4 rfl) cl_8 in_8 4 (Nat.le_of_ble_eq_true rfl) rfl f_8_33 (ge_bW8_0 S) rfl ?_
    refine bs_pureV_i (ps := [45, 46, 47, 48, 49, 50, 51, 52, 53, 54, 55, 56, 57]) (w := (bW8 S)) C hR (c_X6_items _ _ _ _ _ (b8g_tree S) _ h) my_X6_items m_8_271 rfl cl_6 (ge_bW6_0 _) rfl (Nat.le_of_ble_eq_true rfl) (Nat.le_of_ble_eq_true rfl) (su_bW8_45_bW6 S) bnd_45t57 (st := [.int a1]) (Nat.le_of_ble_eq_true rfl) (bf_dk dd_X8_item 5 rfl) rfl (fun _ => rfl) (fun r1 h => ?_)
    refine bs_icmp_lt C (bf_dk dd_X8_item 6 rfl) (tgt := 17) rfl (fun c => ?_) (fun c => ?_)
    · replace h := h.1 c
      refine bs_aload_n C (bf_dk dd_X8_item 9 rfl) rfl ?_
      refine bs_get C (bf_dk dd_X8_item 10 rfl) cl_8 in_8 4 (Nat.le_of_ble_eq_true rfl) rfl f_8_33 (ge_bW8_0 S) rfl ?_
      refine bs_get C (bf_dk dd_X8_item 11 rfl) cl_6 in_6 18 (Nat.le_of_ble_eq_true rfl) rfl f_8_274 (ge_bW8_45 S) rfl ?_
      refine bs_iload_n C (bf_dk dd_X8_item 12 rfl) rfl ?_
      refine bs_iadd C (bf_dk dd_X8_item 13 rfl) ?_
      refine bs_istore_n C (bf_dk dd_X8_item 14 rfl) rfl (Nat.le_of_ble_eq_true rfl) (Nat.le_of_ble_eq_true rfl) (lv2 := [some (.ref 0), some (.int a1), some (.int a2), some (.int ((b6g_itemStart (b8g_tree S)) + a1))]) rfl ?_
      refine bs_iload_n C (bf_dk dd_X8_item 15 rfl) rfl ?_
      refine bs_table C (tdef := 118) (fun k => List.getD [60, 72, 89, 106] k 0) 4 (bf_dk dd_X8_item 16 rfl) rfl rfl (fun k hk => by rcases (show k = 0 ∨ k = 1 ∨ k = 2 ∨ k = 3 by omega) with rfl | rfl | rfl | rfl <;> exact ⟨_, rfl, rfl⟩) (fun c => ?_) (fun k hk c => ?_)
      · replace h := h.1 c
        refine bs_iconst C (bf_dk dd_X8_item 47 rfl) (-1 : Int32) (by decide) ?_
        exact bs_iret (u := S) C (bf_dk dd_X8_item 48 rfl) rfl ⟨rfl, h⟩
      · rcases (show k = 0 ∨ k = 1 ∨ k = 2 ∨ k = 3 by omega) with rfl | rfl | rfl | rfl
        · replace h := h.2.1 (bf_i32 c (by decide))
          refine bs_aload_n C (bf_dk dd_X8_item 17 rfl) rfl ?_
          refine bs_get C (bf_dk dd_X8_item 18 rfl) cl_8 in_8 4 (Nat.le_of_ble_eq_true rfl) rfl f_8_33 (ge_bW8_0 S) rfl ?_
          refine bs_get C (bf_dk dd_X8_item 19 rfl) cl_6 in_6 5 (Nat.le_of_ble_eq_true rfl) rfl f_8_277 (ge_bW8_45 S) rfl ?_
          refine bs_iload_n C (bf_dk dd_X8_item 20 rfl) rfl ?_
          refine bs_pureS_i (ps := [51]) (w := (bW8 S)) C hR (c_X8_at _ _ _ _ _ 296 (b6g_edgeOctets (b8g_tree S)) (((b6g_itemStart (b8g_tree S)) + a1)) _ h) my_X8_at m_8_115 rfl (Nat.le_of_ble_eq_true rfl) (Nat.le_of_ble_eq_true rfl) (su_bW8_51_bWan296 S) rfl (st := []) (Nat.le_of_ble_eq_true rfl) (bf_dk dd_X8_item 21 rfl) rfl (fun _ => rfl) (fun r3 h => ?_)
          exact bs_iret (u := S) C (bf_dk dd_X8_item 22 rfl) rfl ⟨rfl, h⟩
        · replace h := h.2.2.1 (bf_i32 c (by decide))
          refine bs_aload_n C (bf_dk dd_X8_item 23 rfl) rfl ?_
          refine bs_get C (bf_dk dd_X8_item 24 rfl) cl_8 in_8 4 (Nat.le_of_ble_eq_true rfl) rfl f_8_33 (ge_bW8_0 S) rfl ?_
          refine bs_iload_n C (bf_dk dd_X8_item 25 rfl) rfl ?_
          refine bs_pureV_i (ps := [45, 46, 47, 48, 49, 50, 51, 52, 53, 54, 55, 56, 57]) (w := (bW8 S)) C hR (c_X6_isEnd _ _ _ _ _ (b8g_tree S) (((b6g_itemStart (b8g_tree S)) + a1)) _ h) my_X6_isEnd m_8_280 rfl cl_6 (ge_bW6_0 _) rfl (Nat.le_of_ble_eq_true rfl) (Nat.le_of_ble_eq_true rfl) (su_bW8_45_bW6 S) bnd_45t57 (st := []) (Nat.le_of_ble_eq_true rfl) (bf_dk dd_X8_item 26 rfl) rfl (fun _ => rfl) (fun r5 h => ?_)
          refine bs_if_eq C (bf_dk dd_X8_item 27 rfl) (tgt := 87) rfl (fun c => ?_) (fun c => ?_)
          · replace h := h.1 c
            refine bs_iconst C (bf_dk dd_X8_item 30 rfl) (0 : Int32) (by decide) ?_
            exact bs_iret (u := S) C (bf_dk dd_X8_item 31 rfl) rfl ⟨rfl, h⟩
          · replace h := h.2 c
            refine bs_iconst C (bf_dk dd_X8_item 28 rfl) (1 : Int32) (by decide) ?_
            refine bs_goto C (bf_dk dd_X8_item 29 rfl) (tgt := 88) rfl ?_
            exact bs_iret (u := S) C (bf_dk dd_X8_item 31 rfl) rfl ⟨rfl, h⟩
        · replace h := h.2.2.2.1 (bf_i32 c (by decide))
          refine bs_aload_n C (bf_dk dd_X8_item 32 rfl) rfl ?_
          refine bs_get C (bf_dk dd_X8_item 33 rfl) cl_8 in_8 4 (Nat.le_of_ble_eq_true rfl) rfl f_8_33 (ge_bW8_0 S) rfl ?_
          refine bs_iload_n C (bf_dk dd_X8_item 34 rfl) rfl ?_
          refine bs_pureV_i (ps := [45, 46, 47, 48, 49, 50, 51, 52, 53, 54, 55, 56, 57]) (w := (bW8 S)) C hR (c_X6_hasChild _ _ _ _ _ (b8g_tree S) (((b6g_itemStart (b8g_tree S)) + a1)) _ h) my_X6_hasChild m_8_283 rfl cl_6 (ge_bW6_0 _) rfl (Nat.le_of_ble_eq_true rfl) (Nat.le_of_ble_eq_true rfl) (su_bW8_45_bW6 S) bnd_45t57 (st := []) (Nat.le_of_ble_eq_true rfl) (bf_dk dd_X8_item 35 rfl) rfl (fun _ => rfl) (fun r7 h => ?_)
          refine bs_if_eq C (bf_dk dd_X8_item 36 rfl) (tgt := 104) rfl (fun c => ?_) (fun c => ?_)
          · replace h := h.1 c
            refine bs_iconst C (bf_dk dd_X8_item 39 rfl) (0 : Int32) (by decide) ?_
            exact bs_iret (u := S) C (bf_dk dd_X8_item 40 rfl) rfl ⟨rfl, h⟩
          · replace h := h.2 c
            refine bs_iconst C (bf_dk dd_X8_item 37 rfl) (1 : Int32) (by decide) ?_
            refine bs_goto C (bf_dk dd_X8_item 38 rfl) (tgt := 105) rfl ?_
            exact bs_iret (u := S) C (bf_dk dd_X8_item 40 rfl) rfl ⟨rfl, h⟩
        · replace h := h.2.2.2.2 (bf_i32 c (by decide))
          refine bs_aload_n C (bf_dk dd_X8_item 41 rfl) rfl ?_
          refine bs_get C (bf_dk dd_X8_item 42 rfl) cl_8 in_8 4 (Nat.le_of_ble_eq_true rfl) rfl f_8_33 (ge_bW8_0 S) rfl ?_
          refine bs_get C (bf_dk dd_X8_item 43 rfl) cl_6 in_6 4 (Nat.le_of_ble_eq_true rfl) rfl f_8_286 (ge_bW8_45 S) rfl ?_
          refine bs_iload_n C (bf_dk dd_X8_item 44 rfl) rfl ?_
          refine bs_pureS_i (ps := [50]) (w := (bW8 S)) C hR (c_X8_at _ _ _ _ _ 296 (b6g_edgeNodes (b8g_tree S)) (((b6g_itemStart (b8g_tree S)) + a1)) _ h) my_X8_at m_8_115 rfl (Nat.le_of_ble_eq_true rfl) (Nat.le_of_ble_eq_true rfl) (su_bW8_50_bWan296 S) rfl (st := []) (Nat.le_of_ble_eq_true rfl) (bf_dk dd_X8_item 45 rfl) rfl (fun _ => rfl) (fun r9 h => ?_)
          exact bs_iret (u := S) C (bf_dk dd_X8_item 46 rfl) rfl ⟨rfl, h⟩
    · replace h := h.2 c
      refine bs_iconst C (bf_dk dd_X8_item 7 rfl) (-1 : Int32) (by decide) ?_
      exact bs_iret (u := S) C (bf_dk dd_X8_item 8 rfl) rfl ⟨rfl, h⟩
theorem c_X8_item (l : Launch) (dC : Nat → ClassId) (dI : Nat → Nat → Nat) (ac : Nat → ClassId) (al : Nat → Nat) (S : bT8) (a1 : Int32) (a2 : Int32) (Q : Int32 → Prop) (h : wp_X8_item S a1 a2 Q) : bf_M l yX8_item cX8_item 4 (some .int) 2 42 dC dI ac al [.ref 0, .int a1, .int a2] (bW8 S) (bf_Ki dC dI ac al bW8 (fun r u => u = S ∧ Q r)) := by
  refine bf_start [some (.ref 0), some (.int a1), some (.int a2), none] (by decide) (Nat.le_of_ble_eq_true rfl) (bf_s1 (bf_s1 (bf_s1 (bf_en 1)))) ?_
  intro X hl C hR e1 e2 e3 e4
  subst e1; subst e2; subst e3; subst e4
  exact t_X8_item C hR S a1 a2 Q h
def wp_X8_bit (S : bT8) (a1 : Int32) (Q : Int32 → Prop) : Prop := ((a1 < 0 → (Q (-1 : Int32))) ∧ (¬ a1 < 0 → (wp_X6_rowLength (b8g_tree S) ((b8g_chosenRow S)) (fun r1 => ((a1 < r1 → (wp_X6_onesAhead (b8g_tree S) ((b8g_chosenRow S)) ((a1 + (1 : Int32))) (fun r3 => (wp_X6_onesAhead (b8g_tree S) ((b8g_chosenRow S)) (a1) (fun r5 => (Q (r3 - r5))))))) ∧ (¬ a1 < r1 → (Q (-1 : Int32))))))))
set_option maxRecDepth 20000 in
theorem t_X8_bit {X : bf_X} (C : bf_C X RX8 cX8_bit 2 (some .int)) (hR : bf_Rm X 4 91) (S : bT8) (a1 : Int32) (Q : Int32 → Prop) (h : wp_X8_bit S a1 Q) : bf_A X (bf_Zi X bW8 (fun r u => u = S ∧ Q r)) 2 0 [some (.ref 0), some (.int a1)] [] (bW8 S) := by
  unfold wp_X8_bit at h
  refine bs_iload_n C (bf_dk dd_X8_bit 0 rfl) rfl ?_
  refine bs_if_lt C (bf_dk dd_X8_bit 1 rfl) (tgt := 19) rfl (fun c => ?_) (fun c => ?_)
  · replace h := h.1 c
    refine bs_iconst C (bf_dk dd_X8_bit 9 rfl) (-1 : Int32) (by decide) ?_
    exact bs_iret (u := S) C (bf_dk dd_X8_bit 10 rfl) rfl ⟨rfl, h⟩
  · replace h := h.2 c
    refine bs_iload_n C (bf_dk dd_X8_bit 2 rfl) rfl ?_
    refine bs_aload_n C (bf_dk dd_X8_bit 3 rfl) rfl ?_
    refine bs_get C (bf_dk dd_X8_bit 4 rfl) cl_8 in_8 4 (Nat.le_of_ble_eq_true rfl) rfl f_8_33 (ge_bW8_0 S) rfl ?_
    refine bs_aload_n C (bf_dk dd_X8_bit 5 rfl) rfl ?_
    refine bs_get C (bf_dk dd_X8_bit 6 rfl) cl_8 in_8 9 (Nat.le_of_ble_eq_true rfl) rfl f_8_65 (ge_bW8_0 S) rfl ?_
    refine bs_pureV_i (ps := [45, 46, 47, 48, 49, 50, 51, 52, 53, 54, 55, 56, 57]) (w := (bW8 S)) C hR (c_X6_rowLength _ _ _ _ _ (b8g_tree S) ((b8g_chosenRow S)) _ h) my_X6_rowLength m_8_289 rfl cl_6 (ge_bW6_0 _) rfl (Nat.le_of_ble_eq_true rfl) (Nat.le_of_ble_eq_true rfl) (su_bW8_45_bW6 S) bnd_45t57 (st := [.int a1]) (Nat.le_of_ble_eq_true rfl) (bf_dk dd_X8_bit 7 rfl) rfl (fun _ => rfl) (fun r1 h => ?_)
    refine bs_icmp_lt C (bf_dk dd_X8_bit 8 rfl) (tgt := 21) rfl (fun c => ?_) (fun c => ?_)
    · replace h := h.1 c
      refine bs_aload_n C (bf_dk dd_X8_bit 11 rfl) rfl ?_
      refine bs_get C (bf_dk dd_X8_bit 12 rfl) cl_8 in_8 4 (Nat.le_of_ble_eq_true rfl) rfl f_8_33 (ge_bW8_0 S) rfl ?_
      refine bs_aload_n C (bf_dk dd_X8_bit 13 rfl) rfl ?_
      refine bs_get C (bf_dk dd_X8_bit 14 rfl) cl_8 in_8 9 (Nat.le_of_ble_eq_true rfl) rfl f_8_65 (ge_bW8_0 S) rfl ?_
      refine bs_iload_n C (bf_dk dd_X8_bit 15 rfl) rfl ?_
      refine bs_iconst C (bf_dk dd_X8_bit 16 rfl) (1 : Int32) (by decide) ?_
      refine bs_iadd C (bf_dk dd_X8_bit 17 rfl) ?_
      refine bs_pureV_i (ps := [45, 46, 47, 48, 49, 50, 51, 52, 53, 54, 55, 56, 57]) (w := (bW8 S)) C hR (c_X6_onesAhead _ _ _ _ _ (b8g_tree S) ((b8g_chosenRow S)) ((a1 + (1 : Int32))) _ h) my_X6_onesAhead m_8_292 rfl cl_6 (ge_bW6_0 _) rfl (Nat.le_of_ble_eq_true rfl) (Nat.le_of_ble_eq_true rfl) (su_bW8_45_bW6 S) bnd_45t57 (st := []) (Nat.le_of_ble_eq_true rfl) (bf_dk dd_X8_bit 18 rfl) rfl (fun _ => rfl) (fun r3 h => ?_)
      refine bs_aload_n C (bf_dk dd_X8_bit 19 rfl) rfl ?_
      refine bs_get C (bf_dk dd_X8_bit 20 rfl) cl_8 in_8 4 (Nat.le_of_ble_eq_true rfl) rfl f_8_33 (ge_bW8_0 S) rfl ?_
      refine bs_aload_n C (bf_dk dd_X8_bit 21 rfl) rfl ?_
      refine bs_get C (bf_dk dd_X8_bit 22 rfl) cl_8 in_8 9 (Nat.le_of_ble_eq_true rfl) rfl f_8_65 (ge_bW8_0 S) rfl ?_
      refine bs_iload_n C (bf_dk dd_X8_bit 23 rfl) rfl ?_
      refine bs_pureV_i (ps := [45, 46, 47, 48, 49, 50, 51, 52, 53, 54, 55, 56, 57]) (w := (bW8 S)) C hR (c_X6_onesAhead _ _ _ _ _ (b8g_tree S) ((b8g_chosenRow S)) (a1) _ h) my_X6_onesAhead m_8_292 rfl cl_6 (ge_bW6_0 _) rfl (Nat.le_of_ble_eq_true rfl) (Nat.le_of_ble_eq_true rfl) (su_bW8_45_bW6 S) bnd_45t57 (st := [.int r3]) (Nat.le_of_ble_eq_true rfl) (bf_dk dd_X8_bit 24 rfl) rfl (fun _ => rfl) (fun r5 h => ?_)
      refine bs_isub C (bf_dk dd_X8_bit 25 rfl) ?_
      exact bs_iret (u := S) C (bf_dk dd_X8_bit 26 rfl) rfl ⟨rfl, h⟩
    · replace h := h.2 c
      refine bs_iconst C (bf_dk dd_X8_bit 9 rfl) (-1 : Int32) (by decide) ?_
      exact bs_iret (u := S) C (bf_dk dd_X8_bit 10 rfl) rfl ⟨rfl, h⟩
theorem c_X8_bit (l : Launch) (dC : Nat → ClassId) (dI : Nat → Nat → Nat) (ac : Nat → ClassId) (al : Nat → Nat) (S : bT8) (a1 : Int32) (Q : Int32 → Prop) (h : wp_X8_bit S a1 Q) : bf_M l yX8_bit cX8_bit 2 (some .int) 4 91 dC dI ac al [.ref 0, .int a1] (bW8 S) (bf_Ki dC dI ac al bW8 (fun r u => u = S ∧ Q r)) := by
  refine bf_start [some (.ref 0), some (.int a1)] (by decide) (Nat.le_of_ble_eq_true rfl) (bf_s1 (bf_s1 bf_s0)) ?_
  intro X hl C hR e1 e2 e3 e4
  subst e1; subst e2; subst e3; subst e4
  exact t_X8_bit C hR S a1 Q h
def wp_X8_rank (S : bT8) (a1 : Int32) (Q : Int32 → Prop) : Prop := ((a1 < 0 → (Q (-1 : Int32))) ∧ (¬ a1 < 0 → (wp_X6_rowLength (b8g_tree S) ((b8g_chosenRow S)) (fun r1 => ((a1 ≤ r1 → (wp_X6_onesAhead (b8g_tree S) ((b8g_chosenRow S)) (a1) (fun r3 => (Q r3)))) ∧ (¬ a1 ≤ r1 → (Q (-1 : Int32))))))))
set_option maxRecDepth 20000 in
theorem t_X8_rank {X : bf_X} (C : bf_C X RX8 cX8_rank 2 (some .int)) (hR : bf_Rm X 4 91) (S : bT8) (a1 : Int32) (Q : Int32 → Prop) (h : wp_X8_rank S a1 Q) : bf_A X (bf_Zi X bW8 (fun r u => u = S ∧ Q r)) 2 0 [some (.ref 0), some (.int a1)] [] (bW8 S) := by
  unfold wp_X8_rank at h
  refine bs_iload_n C (bf_dk dd_X8_rank 0 rfl) rfl ?_
  refine bs_if_lt C (bf_dk dd_X8_rank 1 rfl) (tgt := 19) rfl (fun c => ?_) (fun c => ?_)
  · replace h := h.1 c
    refine bs_iconst C (bf_dk dd_X8_rank 9 rfl) (-1 : Int32) (by decide) ?_
    exact bs_iret (u := S) C (bf_dk dd_X8_rank 10 rfl) rfl ⟨rfl, h⟩
  · replace h := h.2 c
    refine bs_iload_n C (bf_dk dd_X8_rank 2 rfl) rfl ?_
    refine bs_aload_n C (bf_dk dd_X8_rank 3 rfl) rfl ?_
    refine bs_get C (bf_dk dd_X8_rank 4 rfl) cl_8 in_8 4 (Nat.le_of_ble_eq_true rfl) rfl f_8_33 (ge_bW8_0 S) rfl ?_
    refine bs_aload_n C (bf_dk dd_X8_rank 5 rfl) rfl ?_
    refine bs_get C (bf_dk dd_X8_rank 6 rfl) cl_8 in_8 9 (Nat.le_of_ble_eq_true rfl) rfl f_8_65 (ge_bW8_0 S) rfl ?_
    refine bs_pureV_i (ps := [45, 46, 47, 48, 49, 50, 51, 52, 53, 54, 55, 56, 57]) (w := (bW8 S)) C hR (c_X6_rowLength _ _ _ _ _ (b8g_tree S) ((b8g_chosenRow S)) _ h) my_X6_rowLength m_8_289 rfl cl_6 (ge_bW6_0 _) rfl (Nat.le_of_ble_eq_true rfl) (Nat.le_of_ble_eq_true rfl) (su_bW8_45_bW6 S) bnd_45t57 (st := [.int a1]) (Nat.le_of_ble_eq_true rfl) (bf_dk dd_X8_rank 7 rfl) rfl (fun _ => rfl) (fun r1 h => ?_)
    refine bs_icmp_le C (bf_dk dd_X8_rank 8 rfl) (tgt := 21) rfl (fun c => ?_) (fun c => ?_)
    · replace h := h.1 c
      refine bs_aload_n C (bf_dk dd_X8_rank 11 rfl) rfl ?_
      refine bs_get C (bf_dk dd_X8_rank 12 rfl) cl_8 in_8 4 (Nat.le_of_ble_eq_true rfl) rfl f_8_33 (ge_bW8_0 S) rfl ?_
      refine bs_aload_n C (bf_dk dd_X8_rank 13 rfl) rfl ?_
      refine bs_get C (bf_dk dd_X8_rank 14 rfl) cl_8 in_8 9 (Nat.le_of_ble_eq_true rfl) rfl f_8_65 (ge_bW8_0 S) rfl ?_
      refine bs_iload_n C (bf_dk dd_X8_rank 15 rfl) rfl ?_
      refine bs_pureV_i (ps := [45, 46, 47, 48, 49, 50, 51, 52, 53, 54, 55, 56, 57]) (w := (bW8 S)) C hR (c_X6_onesAhead _ _ _ _ _ (b8g_tree S) ((b8g_chosenRow S)) (a1) _ h) my_X6_onesAhead m_8_292 rfl cl_6 (ge_bW6_0 _) rfl (Nat.le_of_ble_eq_true rfl) (Nat.le_of_ble_eq_true rfl) (su_bW8_45_bW6 S) bnd_45t57 (st := []) (Nat.le_of_ble_eq_true rfl) (bf_dk dd_X8_rank 16 rfl) rfl (fun _ => rfl) (fun r3 h => ?_)
      exact bs_iret (u := S) C (bf_dk dd_X8_rank 17 rfl) rfl ⟨rfl, h⟩
    · replace h := h.2 c
      refine bs_iconst C (bf_dk dd_X8_rank 9 rfl) (-1 : Int32) (by decide) ?_
      exact bs_iret (u := S) C (bf_dk dd_X8_rank 10 rfl) rfl ⟨rfl, h⟩
theorem c_X8_rank (l : Launch) (dC : Nat → ClassId) (dI : Nat → Nat → Nat) (ac : Nat → ClassId) (al : Nat → Nat) (S : bT8) (a1 : Int32) (Q : Int32 → Prop) (h : wp_X8_rank S a1 Q) : bf_M l yX8_rank cX8_rank 2 (some .int) 4 91 dC dI ac al [.ref 0, .int a1] (bW8 S) (bf_Ki dC dI ac al bW8 (fun r u => u = S ∧ Q r)) := by
  refine bf_start [some (.ref 0), some (.int a1)] (by decide) (Nat.le_of_ble_eq_true rfl) (bf_s1 (bf_s1 bf_s0)) ?_
  intro X hl C hR e1 e2 e3 e4
  subst e1; subst e2; subst e3; subst e4
  exact t_X8_rank C hR S a1 Q h
def wp_X8_select (S : bT8) (a1 : Int32) (Q : Int32 → Prop) : Prop := (wp_X6_placeOfOne (b8g_tree S) ((b8g_chosenRow S)) (a1) (fun r1 => (Q r1)))
set_option maxRecDepth 20000 in
theorem t_X8_select {X : bf_X} (C : bf_C X RX8 cX8_select 2 (some .int)) (hR : bf_Rm X 4 91) (S : bT8) (a1 : Int32) (Q : Int32 → Prop) (h : wp_X8_select S a1 Q) : bf_A X (bf_Zi X bW8 (fun r u => u = S ∧ Q r)) 2 0 [some (.ref 0), some (.int a1)] [] (bW8 S) := by
  unfold wp_X8_select at h
  refine bs_aload_n C (bf_dk dd_X8_select 0 rfl) rfl ?_
  refine bs_get C (bf_dk dd_X8_select 1 rfl) cl_8 in_8 4 (Nat.le_of_ble_eq_true rfl) rfl f_8_33 (ge_bW8_0 S) rfl ?_
  refine bs_aload_n C (bf_dk dd_X8_select 2 rfl) rfl ?_
  refine bs_get C (bf_dk dd_X8_select 3 rfl) cl_8 in_8 9 (Nat.le_of_ble_eq_true rfl) rfl f_8_65 (ge_bW8_0 S) rfl ?_
  refine bs_iload_n C (bf_dk dd_X8_select 4 rfl) rfl ?_
  refine bs_pureV_i (ps := [45, 46, 47, 48, 49, 50, 51, 52, 53, 54, 55, 56, 57]) (w := (bW8 S)) C hR (c_X6_placeOfOne _ _ _ _ _ (b8g_tree S) ((b8g_chosenRow S)) (a1) _ h) my_X6_placeOfOne m_8_295 rfl cl_6 (ge_bW6_0 _) rfl (Nat.le_of_ble_eq_true rfl) (Nat.le_of_ble_eq_true rfl) (su_bW8_45_bW6 S) bnd_45t57 (st := []) (Nat.le_of_ble_eq_true rfl) (bf_dk dd_X8_select 5 rfl) rfl (fun _ => rfl) (fun r1 h => ?_)
  exact bs_iret (u := S) C (bf_dk dd_X8_select 6 rfl) rfl ⟨rfl, h⟩
theorem c_X8_select (l : Launch) (dC : Nat → ClassId) (dI : Nat → Nat → Nat) (ac : Nat → ClassId) (al : Nat → Nat) (S : bT8) (a1 : Int32) (Q : Int32 → Prop) (h : wp_X8_select S a1 Q) : bf_M l yX8_select cX8_select 2 (some .int) 4 91 dC dI ac al [.ref 0, .int a1] (bW8 S) (bf_Ki dC dI ac al bW8 (fun r u => u = S ∧ Q r)) := by
  refine bf_start [some (.ref 0), some (.int a1)] (by decide) (Nat.le_of_ble_eq_true rfl) (bf_s1 (bf_s1 bf_s0)) ?_
  intro X hl C hR e1 e2 e3 e4
  subst e1; subst e2; subst e3; subst e4
  exact t_X8_select C hR S a1 Q h
def wp_X8_bits (S : bT8) (a1 : Int32) (Q : Int32 → Prop) : Prop := (∀ v1 : Int32, v1 = ((513 : Int32) * (b6g_upperNodes (b8g_tree S))) → (wp_X6_bitsBy (b8g_tree S) ((b6g_upper (b8g_tree S))) (fun r2 => ((((a1).toInt < 0 ∨ 6 < (a1).toInt) → (Q (-1 : Int32))) ∧ (a1 = (0 : Int32) → (Q v1)) ∧ (a1 = (1 : Int32) → (Q (r2 - v1))) ∧ (a1 = (2 : Int32) → (wp_X1_tailBits (b8g_leaves S) (fun r4 => (Q r4)))) ∧ (a1 = (3 : Int32) → (wp_X1_tailBits (b8g_leaves S) (fun r6 => (Q (r2 + r6))))) ∧ (a1 = (4 : Int32) → (wp_X0_allBytes (b1g_owners (b8g_leaves S)) (fun r8 => (Q ((8 : Int32) * r8))))) ∧ (a1 = (5 : Int32) → (wp_X6_rowLength (b8g_tree S) ((b8g_chosenRow S)) (fun r10 => (Q r10)))) ∧ (a1 = (6 : Int32) → (wp_X6_rowLength (b8g_tree S) ((b8g_chosenRow S)) (fun r12 => (wp_X6_onesAhead (b8g_tree S) ((b8g_chosenRow S)) (r12) (fun r14 => (Q r14))))))))))
set_option maxRecDepth 20000 in
theorem t_X8_bits {X : bf_X} (C : bf_C X RX8 cX8_bits 4 (some .int)) (hR : bf_Rm X 4 91) (S : bT8) (a1 : Int32) (Q : Int32 → Prop) (h : wp_X8_bits S a1 Q) : bf_A X (bf_Zi X bW8 (fun r u => u = S ∧ Q r)) 4 0 [some (.ref 0), some (.int a1), none, none] [] (bW8 S) := by
  unfold wp_X8_bits at h
  refine bs_sipush C (bf_dk dd_X8_bits 0 rfl) (513 : Int32) (by decide) ?_
  refine bs_aload_n C (bf_dk dd_X8_bits 1 rfl) rfl ?_
  refine bs_get C (bf_dk dd_X8_bits 2 rfl) cl_8 in_8 4 (Nat.le_of_ble_eq_true rfl) rfl f_8_33 (ge_bW8_0 S) rfl ?_
  refine bs_get C (bf_dk dd_X8_bits 3 rfl) cl_6 in_6 17 (Nat.le_of_ble_eq_true rfl) rfl f_8_244 (ge_bW8_45 S) rfl ?_
  refine bs_imul C (bf_dk dd_X8_bits 4 rfl) ?_
  refine bs_name (fun v1 ev1 => ?_)
  replace h := h v1 ev1
  refine bs_istore_n C (bf_dk dd_X8_bits 5 rfl) rfl (Nat.le_of_ble_eq_true rfl) (Nat.le_of_ble_eq_true rfl) (lv2 := [some (.ref 0), some (.int a1), some (.int v1), none]) rfl ?_
  refine bs_aload_n C (bf_dk dd_X8_bits 6 rfl) rfl ?_
  refine bs_get C (bf_dk dd_X8_bits 7 rfl) cl_8 in_8 4 (Nat.le_of_ble_eq_true rfl) rfl f_8_33 (ge_bW8_0 S) rfl ?_
  refine bs_aload_n C (bf_dk dd_X8_bits 8 rfl) rfl ?_
  refine bs_get C (bf_dk dd_X8_bits 9 rfl) cl_8 in_8 4 (Nat.le_of_ble_eq_true rfl) rfl f_8_33 (ge_bW8_0 S) rfl ?_
  refine bs_get C (bf_dk dd_X8_bits 10 rfl) cl_6 in_6 16 (Nat.le_of_ble_eq_true rfl) rfl f_8_265 (ge_bW8_45 S) rfl ?_
  refine bs_pureV_i (ps := [45, 46, 47, 48, 49, 50, 51, 52, 53, 54, 55, 56, 57]) (w := (bW8 S)) C hR (c_X6_bitsBy _ _ _ _ _ (b8g_tree S) ((b6g_upper (b8g_tree S))) _ h) my_X6_bitsBy m_8_298 rfl cl_6 (ge_bW6_0 _) rfl (Nat.le_of_ble_eq_true rfl) (Nat.le_of_ble_eq_true rfl) (su_bW8_45_bW6 S) bnd_45t57 (st := []) (Nat.le_of_ble_eq_true rfl) (bf_dk dd_X8_bits 11 rfl) rfl (fun _ => rfl) (fun r2 h => ?_)
  refine bs_istore_n C (bf_dk dd_X8_bits 12 rfl) rfl (Nat.le_of_ble_eq_true rfl) (Nat.le_of_ble_eq_true rfl) (lv2 := [some (.ref 0), some (.int a1), some (.int v1), some (.int r2)]) rfl ?_
  refine bs_iload_n C (bf_dk dd_X8_bits 13 rfl) rfl ?_
  refine bs_table C (tdef := 145) (fun k => List.getD [72, 74, 78, 86, 96, 110, 122] k 0) 7 (bf_dk dd_X8_bits 14 rfl) rfl rfl (fun k hk => by rcases (show k = 0 ∨ k = 1 ∨ k = 2 ∨ k = 3 ∨ k = 4 ∨ k = 5 ∨ k = 6 by omega) with rfl | rfl | rfl | rfl | rfl | rfl | rfl <;> exact ⟨_, rfl, rfl⟩) (fun c => ?_) (fun k hk c => ?_)
  · replace h := h.1 c
    refine bs_iconst C (bf_dk dd_X8_bits 55 rfl) (-1 : Int32) (by decide) ?_
    exact bs_iret (u := S) C (bf_dk dd_X8_bits 56 rfl) rfl ⟨rfl, h⟩
  · rcases (show k = 0 ∨ k = 1 ∨ k = 2 ∨ k = 3 ∨ k = 4 ∨ k = 5 ∨ k = 6 by omega) with rfl | rfl | rfl | rfl | rfl | rfl | rfl
    · replace h := h.2.1 (bf_i32 c (by decide))
      refine bs_iload_n C (bf_dk dd_X8_bits 15 rfl) rfl ?_
      exact bs_iret (u := S) C (bf_dk dd_X8_bits 16 rfl) rfl ⟨rfl, h⟩
    · replace h := h.2.2.1 (bf_i32 c (by decide))
      refine bs_iload_n C (bf_dk dd_X8_bits 17 rfl) rfl ?_
      refine bs_iload_n C (bf_dk dd_X8_bits 18 rfl) rfl ?_
      refine bs_isub C (bf_dk dd_X8_bits 19 rfl) ?_
      exact bs_iret (u := S) C (bf_dk dd_X8_bits 20 rfl) rfl ⟨rfl, h⟩
    · replace h := h.2.2.2.1 (bf_i32 c (by decide))
      refine bs_aload_n C (bf_dk dd_X8_bits 21 rfl) rfl ?_
      refine bs_get C (bf_dk dd_X8_bits 22 rfl) cl_8 in_8 3 (Nat.le_of_ble_eq_true rfl) rfl f_8_26 (ge_bW8_0 S) rfl ?_
      refine bs_pureV_i (ps := [31, 32, 33, 34, 35, 36, 37, 38, 39, 40, 41, 42, 43, 44]) (w := (bW8 S)) C hR (c_X1_tailBits _ _ _ _ _ (b8g_leaves S) _ h) my_X1_tailBits m_8_301 rfl cl_1 (ge_bW1_0 _) rfl (Nat.le_of_ble_eq_true rfl) (Nat.le_of_ble_eq_true rfl) (su_bW8_31_bW1 S) bnd_31t44 (st := []) (Nat.le_of_ble_eq_true rfl) (bf_dk dd_X8_bits 23 rfl) rfl (fun _ => rfl) (fun r4 h => ?_)
      exact bs_iret (u := S) C (bf_dk dd_X8_bits 24 rfl) rfl ⟨rfl, h⟩
    · replace h := h.2.2.2.2.1 (bf_i32 c (by decide))
      refine bs_iload_n C (bf_dk dd_X8_bits 25 rfl) rfl ?_
      refine bs_aload_n C (bf_dk dd_X8_bits 26 rfl) rfl ?_
      refine bs_get C (bf_dk dd_X8_bits 27 rfl) cl_8 in_8 3 (Nat.le_of_ble_eq_true rfl) rfl f_8_26 (ge_bW8_0 S) rfl ?_
      refine bs_pureV_i (ps := [31, 32, 33, 34, 35, 36, 37, 38, 39, 40, 41, 42, 43, 44]) (w := (bW8 S)) C hR (c_X1_tailBits _ _ _ _ _ (b8g_leaves S) _ h) my_X1_tailBits m_8_301 rfl cl_1 (ge_bW1_0 _) rfl (Nat.le_of_ble_eq_true rfl) (Nat.le_of_ble_eq_true rfl) (su_bW8_31_bW1 S) bnd_31t44 (st := [.int r2]) (Nat.le_of_ble_eq_true rfl) (bf_dk dd_X8_bits 28 rfl) rfl (fun _ => rfl) (fun r6 h => ?_)
      refine bs_iadd C (bf_dk dd_X8_bits 29 rfl) ?_
      exact bs_iret (u := S) C (bf_dk dd_X8_bits 30 rfl) rfl ⟨rfl, h⟩
    · replace h := h.2.2.2.2.2.1 (bf_i32 c (by decide))
      refine bs_bipush C (bf_dk dd_X8_bits 31 rfl) (8 : Int32) (by decide) ?_
      refine bs_aload_n C (bf_dk dd_X8_bits 32 rfl) rfl ?_
      refine bs_get C (bf_dk dd_X8_bits 33 rfl) cl_8 in_8 3 (Nat.le_of_ble_eq_true rfl) rfl f_8_26 (ge_bW8_0 S) rfl ?_
      refine bs_get C (bf_dk dd_X8_bits 34 rfl) cl_1 in_1 0 (Nat.le_of_ble_eq_true rfl) rfl f_8_163 (ge_bW8_31 S) rfl ?_
      refine bs_pureV_i (ps := [32, 33, 34]) (w := (bW8 S)) C hR (c_X0_allBytes _ _ _ _ _ (b1g_owners (b8g_leaves S)) _ h) my_X0_allBytes m_8_304 rfl cl_0 (ge_bW0_0 _) rfl (Nat.le_of_ble_eq_true rfl) (Nat.le_of_ble_eq_true rfl) (su_bW8_32_bW0 S) rfl (st := [.int (8 : Int32)]) (Nat.le_of_ble_eq_true rfl) (bf_dk dd_X8_bits 35 rfl) rfl (fun _ => rfl) (fun r8 h => ?_)
      refine bs_imul C (bf_dk dd_X8_bits 36 rfl) ?_
      exact bs_iret (u := S) C (bf_dk dd_X8_bits 37 rfl) rfl ⟨rfl, h⟩
    · replace h := h.2.2.2.2.2.2.1 (bf_i32 c (by decide))
      refine bs_aload_n C (bf_dk dd_X8_bits 38 rfl) rfl ?_
      refine bs_get C (bf_dk dd_X8_bits 39 rfl) cl_8 in_8 4 (Nat.le_of_ble_eq_true rfl) rfl f_8_33 (ge_bW8_0 S) rfl ?_
      refine bs_aload_n C (bf_dk dd_X8_bits 40 rfl) rfl ?_
      refine bs_get C (bf_dk dd_X8_bits 41 rfl) cl_8 in_8 9 (Nat.le_of_ble_eq_true rfl) rfl f_8_65 (ge_bW8_0 S) rfl ?_
      refine bs_pureV_i (ps := [45, 46, 47, 48, 49, 50, 51, 52, 53, 54, 55, 56, 57]) (w := (bW8 S)) C hR (c_X6_rowLength _ _ _ _ _ (b8g_tree S) ((b8g_chosenRow S)) _ h) my_X6_rowLength m_8_289 rfl cl_6 (ge_bW6_0 _) rfl (Nat.le_of_ble_eq_true rfl) (Nat.le_of_ble_eq_true rfl) (su_bW8_45_bW6 S) bnd_45t57 (st := []) (Nat.le_of_ble_eq_true rfl) (bf_dk dd_X8_bits 42 rfl) rfl (fun _ => rfl) (fun r10 h => ?_)
      exact bs_iret (u := S) C (bf_dk dd_X8_bits 43 rfl) rfl ⟨rfl, h⟩
    · replace h := h.2.2.2.2.2.2.2 (bf_i32 c (by decide))
      refine bs_aload_n C (bf_dk dd_X8_bits 44 rfl) rfl ?_
      refine bs_get C (bf_dk dd_X8_bits 45 rfl) cl_8 in_8 4 (Nat.le_of_ble_eq_true rfl) rfl f_8_33 (ge_bW8_0 S) rfl ?_
      refine bs_aload_n C (bf_dk dd_X8_bits 46 rfl) rfl ?_
      refine bs_get C (bf_dk dd_X8_bits 47 rfl) cl_8 in_8 9 (Nat.le_of_ble_eq_true rfl) rfl f_8_65 (ge_bW8_0 S) rfl ?_
      refine bs_aload_n C (bf_dk dd_X8_bits 48 rfl) rfl ?_
      refine bs_get C (bf_dk dd_X8_bits 49 rfl) cl_8 in_8 4 (Nat.le_of_ble_eq_true rfl) rfl f_8_33 (ge_bW8_0 S) rfl ?_
      refine bs_aload_n C (bf_dk dd_X8_bits 50 rfl) rfl ?_
      refine bs_get C (bf_dk dd_X8_bits 51 rfl) cl_8 in_8 9 (Nat.le_of_ble_eq_true rfl) rfl f_8_65 (ge_bW8_0 S) rfl ?_
      refine bs_pureV_i (ps := [45, 46, 47, 48, 49, 50, 51, 52, 53, 54, 55, 56, 57]) (w := (bW8 S)) C hR (c_X6_rowLength _ _ _ _ _ (b8g_tree S) ((b8g_chosenRow S)) _ h) my_X6_rowLength m_8_289 rfl cl_6 (ge_bW6_0 _) rfl (Nat.le_of_ble_eq_true rfl) (Nat.le_of_ble_eq_true rfl) (su_bW8_45_bW6 S) bnd_45t57 (st := [.int (b8g_chosenRow S), .ref 45]) (Nat.le_of_ble_eq_true rfl) (bf_dk dd_X8_bits 52 rfl) rfl (fun _ => rfl) (fun r12 h => ?_)
      refine bs_pureV_i (ps := [45, 46, 47, 48, 49, 50, 51, 52, 53, 54, 55, 56, 57]) (w := (bW8 S)) C hR (c_X6_onesAhead _ _ _ _ _ (b8g_tree S) ((b8g_chosenRow S)) (r12) _ h) my_X6_onesAhead m_8_292 rfl cl_6 (ge_bW6_0 _) rfl (Nat.le_of_ble_eq_true rfl) (Nat.le_of_ble_eq_true rfl) (su_bW8_45_bW6 S) bnd_45t57 (st := []) (Nat.le_of_ble_eq_true rfl) (bf_dk dd_X8_bits 53 rfl) rfl (fun _ => rfl) (fun r14 h => ?_)
      exact bs_iret (u := S) C (bf_dk dd_X8_bits 54 rfl) rfl ⟨rfl, h⟩
theorem c_X8_bits (l : Launch) (dC : Nat → ClassId) (dI : Nat → Nat → Nat) (ac : Nat → ClassId) (al : Nat → Nat) (S : bT8) (a1 : Int32) (Q : Int32 → Prop) (h : wp_X8_bits S a1 Q) : bf_M l yX8_bits cX8_bits 4 (some .int) 4 91 dC dI ac al [.ref 0, .int a1] (bW8 S) (bf_Ki dC dI ac al bW8 (fun r u => u = S ∧ Q r)) := by
  refine bf_start [some (.ref 0), some (.int a1), none, none] (by decide) (Nat.le_of_ble_eq_true rfl) (bf_s1 (bf_s1 (bf_en 2))) ?_
  intro X hl C hR e1 e2 e3 e4
  subst e1; subst e2; subst e3; subst e4
  exact t_X8_bits C hR S a1 Q h
def wp_X8_least_36 (S : bT8) (x1 : Int32) (x2 : Int32) (x3 : Int32) (Q : Int32 → Prop) (B4 : Int32 → Int32 → Int32 → Prop) : Prop := (B4 (x1) (x2) ((x3 + (1 : Int32))))
set_option maxRecDepth 20000 in
theorem t_X8_least_36 {X : bf_X} (C : bf_C X RX8 cX8_least 4 (some .int)) (hR : bf_Rm X 3 65) (S : bT8) (x1 : Int32) (x2 : Int32) (x3 : Int32) (Q : Int32 → Prop) (B4 : Int32 → Int32 → Int32 → Prop) (hB4 : ∀ (x1 : Int32) (x2 : Int32) (x3 : Int32), B4 x1 x2 x3 → bf_A X (bf_Zi X bW8 (fun r u => u = S ∧ Q r)) 4 4 [some (.ref 0), some (.int x1), some (.int x2), some (.int x3)] [] (bW8 S)) (h : wp_X8_least_36 S x1 x2 x3 Q B4) : bf_A X (bf_Zi X bW8 (fun r u => u = S ∧ Q r)) 4 36 [some (.ref 0), some (.int x1), some (.int x2), some (.int x3)] [] (bW8 S) := by
  unfold wp_X8_least_36 at h
  refine bs_iinc C (bf_dk dd_X8_least 20 rfl) (x3 + (1 : Int32)) rfl rfl (Nat.le_of_ble_eq_true rfl) (Nat.le_of_ble_eq_true rfl) (lv2 := [some (.ref 0), some (.int x1), some (.int x2), some (.int (x3 + (1 : Int32)))]) rfl ?_
  refine bs_goto C (bf_dk dd_X8_least 21 rfl) (tgt := 4) rfl ?_
  exact bs_weak (bf_s1 (bf_s1 (bf_s1 (bf_s1 bf_s0)))) (hB4 (x1) (x2) ((x3 + (1 : Int32))) h)
def wp_X8_least_4b (S : bT8) (x1 : Int32) (x2 : Int32) (x3 : Int32) (Q : Int32 → Prop) (B4 : Int32 → Int32 → Int32 → Prop) : Prop := (((b6g_levels (b8g_tree S)) < x3 → ((¬ x1 = 0 → ((¬ x1 = (1 : Int32) → (Q (-1 : Int32))) ∧ (x1 = (1 : Int32) → (wp_X6_bitsBy (b8g_tree S) (x2) (fun r1 => (wp_X1_tailBits (b8g_leaves S) (fun r3 => (Q (r1 + r3))))))))) ∧ (x1 = 0 → (Q x2)))) ∧ (¬ (b6g_levels (b8g_tree S)) < x3 → (wp_X6_bitsBy (b8g_tree S) (x3) (fun r5 => (wp_X6_bitsBy (b8g_tree S) (x2) (fun r7 => ((r7 ≤ r5 → (wp_X8_least_36 S (x1) (x2) (x3) Q B4)) ∧ (¬ r7 ≤ r5 → (wp_X8_least_36 S (x1) (x3) (x3) Q B4)))))))))
set_option maxRecDepth 20000 in
theorem t_X8_least_4b {X : bf_X} (C : bf_C X RX8 cX8_least 4 (some .int)) (hR : bf_Rm X 3 65) (S : bT8) (x1 : Int32) (x2 : Int32) (x3 : Int32) (Q : Int32 → Prop) (B4 : Int32 → Int32 → Int32 → Prop) (hB4 : ∀ (x1 : Int32) (x2 : Int32) (x3 : Int32), B4 x1 x2 x3 → bf_A X (bf_Zi X bW8 (fun r u => u = S ∧ Q r)) 4 4 [some (.ref 0), some (.int x1), some (.int x2), some (.int x3)] [] (bW8 S)) (h : wp_X8_least_4b S x1 x2 x3 Q B4) : bf_A X (bf_Zi X bW8 (fun r u => u = S ∧ Q r)) 4 4 [some (.ref 0), some (.int x1), some (.int x2), some (.int x3)] [] (bW8 S) := by
  unfold wp_X8_least_4b at h
  refine bs_iload_n C (bf_dk dd_X8_least 4 rfl) rfl ?_
  refine bs_aload_n C (bf_dk dd_X8_least 5 rfl) rfl ?_
  refine bs_get C (bf_dk dd_X8_least 6 rfl) cl_8 in_8 4 (Nat.le_of_ble_eq_true rfl) rfl f_8_33 (ge_bW8_0 S) rfl ?_
  refine bs_get C (bf_dk dd_X8_least 7 rfl) cl_6 in_6 15 (Nat.le_of_ble_eq_true rfl) rfl f_8_256 (ge_bW8_45 S) rfl ?_
  refine bs_icmp_gt C (bf_dk dd_X8_least 8 rfl) (tgt := 42) rfl (fun c => ?_) (fun c => ?_)
  · replace h := h.1 c
    refine bs_iload_n C (bf_dk dd_X8_least 22 rfl) rfl ?_
    refine bs_if_ne C (bf_dk dd_X8_least 23 rfl) (tgt := 48) rfl (fun c => ?_) (fun c => ?_)
    · replace h := h.1 c
      refine bs_iload_n C (bf_dk dd_X8_least 26 rfl) rfl ?_
      refine bs_iconst C (bf_dk dd_X8_least 27 rfl) (1 : Int32) (by decide) ?_
      refine bs_icmp_ne C (bf_dk dd_X8_least 28 rfl) (tgt := 72) rfl (fun c => ?_) (fun c => ?_)
      · replace h := h.1 c
        refine bs_iconst C (bf_dk dd_X8_least 38 rfl) (-1 : Int32) (by decide) ?_
        exact bs_iret (u := S) C (bf_dk dd_X8_least 39 rfl) rfl ⟨rfl, h⟩
      · replace h := h.2 c
        refine bs_aload_n C (bf_dk dd_X8_least 29 rfl) rfl ?_
        refine bs_get C (bf_dk dd_X8_least 30 rfl) cl_8 in_8 4 (Nat.le_of_ble_eq_true rfl) rfl f_8_33 (ge_bW8_0 S) rfl ?_
        refine bs_iload_n C (bf_dk dd_X8_least 31 rfl) rfl ?_
        refine bs_pureV_i (ps := [45, 46, 47, 48, 49, 50, 51, 52, 53, 54, 55, 56, 57]) (w := (bW8 S)) C hR (c_X6_bitsBy _ _ _ _ _ (b8g_tree S) (x2) _ h) my_X6_bitsBy m_8_298 rfl cl_6 (ge_bW6_0 _) rfl (Nat.le_of_ble_eq_true rfl) (Nat.le_of_ble_eq_true rfl) (su_bW8_45_bW6 S) bnd_45t57 (st := []) (Nat.le_of_ble_eq_true rfl) (bf_dk dd_X8_least 32 rfl) rfl (fun _ => rfl) (fun r1 h => ?_)
        refine bs_aload_n C (bf_dk dd_X8_least 33 rfl) rfl ?_
        refine bs_get C (bf_dk dd_X8_least 34 rfl) cl_8 in_8 3 (Nat.le_of_ble_eq_true rfl) rfl f_8_26 (ge_bW8_0 S) rfl ?_
        refine bs_pureV_i (ps := [31, 32, 33, 34, 35, 36, 37, 38, 39, 40, 41, 42, 43, 44]) (w := (bW8 S)) C hR (c_X1_tailBits _ _ _ _ _ (b8g_leaves S) _ h) my_X1_tailBits m_8_301 rfl cl_1 (ge_bW1_0 _) rfl (Nat.le_of_ble_eq_true rfl) (Nat.le_of_ble_eq_true rfl) (su_bW8_31_bW1 S) bnd_31t44 (st := [.int r1]) (Nat.le_of_ble_eq_true rfl) (bf_dk dd_X8_least 35 rfl) rfl (fun _ => rfl) (fun r3 h => ?_)
        refine bs_iadd C (bf_dk dd_X8_least 36 rfl) ?_
        refine bs_goto C (bf_dk dd_X8_least 37 rfl) (tgt := 73) rfl ?_
        exact bs_iret (u := S) C (bf_dk dd_X8_least 39 rfl) rfl ⟨rfl, h⟩
    · replace h := h.2 c
      refine bs_iload_n C (bf_dk dd_X8_least 24 rfl) rfl ?_
      exact bs_iret (u := S) C (bf_dk dd_X8_least 25 rfl) rfl ⟨rfl, h⟩
  · replace h := h.2 c
    refine bs_aload_n C (bf_dk dd_X8_least 9 rfl) rfl ?_
    refine bs_get C (bf_dk dd_X8_least 10 rfl) cl_8 in_8 4 (Nat.le_of_ble_eq_true rfl) rfl f_8_33 (ge_bW8_0 S) rfl ?_
    refine bs_iload_n C (bf_dk dd_X8_least 11 rfl) rfl ?_
    refine bs_pureV_i (ps := [45, 46, 47, 48, 49, 50, 51, 52, 53, 54, 55, 56, 57]) (w := (bW8 S)) C hR (c_X6_bitsBy _ _ _ _ _ (b8g_tree S) (x3) _ h) my_X6_bitsBy m_8_298 rfl cl_6 (ge_bW6_0 _) rfl (Nat.le_of_ble_eq_true rfl) (Nat.le_of_ble_eq_true rfl) (su_bW8_45_bW6 S) bnd_45t57 (st := []) (Nat.le_of_ble_eq_true rfl) (bf_dk dd_X8_least 12 rfl) rfl (fun _ => rfl) (fun r5 h => ?_)
    refine bs_aload_n C (bf_dk dd_X8_least 13 rfl) rfl ?_
    refine bs_get C (bf_dk dd_X8_least 14 rfl) cl_8 in_8 4 (Nat.le_of_ble_eq_true rfl) rfl f_8_33 (ge_bW8_0 S) rfl ?_
    refine bs_iload_n C (bf_dk dd_X8_least 15 rfl) rfl ?_
    refine bs_pureV_i (ps := [45, 46, 47, 48, 49, 50, 51, 52, 53, 54, 55, 56, 57]) (w := (bW8 S)) C hR (c_X6_bitsBy _ _ _ _ _ (b8g_tree S) (x2) _ h) my_X6_bitsBy m_8_298 rfl cl_6 (ge_bW6_0 _) rfl (Nat.le_of_ble_eq_true rfl) (Nat.le_of_ble_eq_true rfl) (su_bW8_45_bW6 S) bnd_45t57 (st := [.int r5]) (Nat.le_of_ble_eq_true rfl) (bf_dk dd_X8_least 16 rfl) rfl (fun _ => rfl) (fun r7 h => ?_)
    refine bs_icmp_ge C (bf_dk dd_X8_least 17 rfl) (tgt := 36) rfl (fun c => ?_) (fun c => ?_)
    · replace h := h.1 c
      exact bs_weak (bf_s1 (bf_s1 (bf_s1 (bf_s1 bf_s0)))) (t_X8_least_36 C hR S (x1) (x2) (x3) Q B4 hB4 h)
    · replace h := h.2 c
      refine bs_iload_n C (bf_dk dd_X8_least 18 rfl) rfl ?_
      refine bs_istore_n C (bf_dk dd_X8_least 19 rfl) rfl (Nat.le_of_ble_eq_true rfl) (Nat.le_of_ble_eq_true rfl) (lv2 := [some (.ref 0), some (.int x1), some (.int x3), some (.int x3)]) rfl ?_
      exact bs_weak (bf_s1 (bf_s1 (bf_s1 (bf_s1 bf_s0)))) (t_X8_least_36 C hR S (x1) (x3) (x3) Q B4 hB4 h)
def wp_X8_least_4 (S : bT8) (x1 : Int32) (x2 : Int32) (x3 : Int32) (Q : Int32 → Prop) : Prop := ∃ I : Nat → Int32 → Int32 → Int32 → Prop, (∃ n : Nat, I n x1 x2 x3) ∧ ∀ (n : Nat) (x1 : Int32) (x2 : Int32) (x3 : Int32), I n x1 x2 x3 → wp_X8_least_4b S x1 x2 x3 Q (fun x1 x2 x3 => ∃ n2 : Nat, n2 < n ∧ I n2 x1 x2 x3)
theorem t_X8_least_4 {X : bf_X} (C : bf_C X RX8 cX8_least 4 (some .int)) (hR : bf_Rm X 3 65) (S : bT8) (x1 : Int32) (x2 : Int32) (x3 : Int32) (Q : Int32 → Prop) (h : wp_X8_least_4 S x1 x2 x3 Q) : bf_A X (bf_Zi X bW8 (fun r u => u = S ∧ Q r)) 4 4 [some (.ref 0), some (.int x1), some (.int x2), some (.int x3)] [] (bW8 S) := by
  obtain ⟨I, ⟨n0, h0⟩, hI⟩ := h
  have key : ∀ (n : Nat) (x1 : Int32) (x2 : Int32) (x3 : Int32), I n x1 x2 x3 → bf_A X (bf_Zi X bW8 (fun r u => u = S ∧ Q r)) 4 4 [some (.ref 0), some (.int x1), some (.int x2), some (.int x3)] [] (bW8 S) := by
    intro n
    induction n using Nat.strongRecOn with
    | _ n ih =>
      intro x1 x2 x3 hi
      exact t_X8_least_4b C hR S x1 x2 x3 Q _ (fun x1 x2 x3 hb => by obtain ⟨n2, hn, hi2⟩ := hb; exact ih n2 hn x1 x2 x3 hi2) (hI n x1 x2 x3 hi)
  exact key n0 x1 x2 x3 h0
def wp_X8_least (S : bT8) (a1 : Int32) (Q : Int32 → Prop) : Prop := (wp_X8_least_4 S (a1) ((0 : Int32)) ((1 : Int32)) Q)
set_option maxRecDepth 20000 in
theorem t_X8_least {X : bf_X} (C : bf_C X RX8 cX8_least 4 (some .int)) (hR : bf_Rm X 3 65) (S : bT8) (a1 : Int32) (Q : Int32 → Prop) (h : wp_X8_least S a1 Q) : bf_A X (bf_Zi X bW8 (fun r u => u = S ∧ Q r)) 4 0 [some (.ref 0), some (.int a1), none, none] [] (bW8 S) := by
  unfold wp_X8_least at h
  refine bs_iconst C (bf_dk dd_X8_least 0 rfl) (0 : Int32) (by decide) ?_
  refine bs_istore_n C (bf_dk dd_X8_least 1 rfl) rfl (Nat.le_of_ble_eq_true rfl) (Nat.le_of_ble_eq_true rfl) (lv2 := [some (.ref 0), some (.int a1), some (.int (0 : Int32)), none]) rfl ?_
  refine bs_iconst C (bf_dk dd_X8_least 2 rfl) (1 : Int32) (by decide) ?_
  refine bs_istore_n C (bf_dk dd_X8_least 3 rfl) rfl (Nat.le_of_ble_eq_true rfl) (Nat.le_of_ble_eq_true rfl) (lv2 := [some (.ref 0), some (.int a1), some (.int (0 : Int32)), some (.int (1 : Int32))]) rfl ?_
  exact bs_weak (bf_s1 (bf_s1 (bf_s1 (bf_s1 bf_s0)))) (t_X8_least_4 C hR S (a1) ((0 : Int32)) ((1 : Int32)) Q h)
theorem c_X8_least (l : Launch) (dC : Nat → ClassId) (dI : Nat → Nat → Nat) (ac : Nat → ClassId) (al : Nat → Nat) (S : bT8) (a1 : Int32) (Q : Int32 → Prop) (h : wp_X8_least S a1 Q) : bf_M l yX8_least cX8_least 4 (some .int) 3 65 dC dI ac al [.ref 0, .int a1] (bW8 S) (bf_Ki dC dI ac al bW8 (fun r u => u = S ∧ Q r)) := by
  refine bf_start [some (.ref 0), some (.int a1), none, none] (by decide) (Nat.le_of_ble_eq_true rfl) (bf_s1 (bf_s1 (bf_en 2))) ?_
  intro X hl C hR e1 e2 e3 e4
  subst e1; subst e2; subst e3; subst e4
  exact t_X8_least C hR S a1 Q h
def wp_X8_isCounted (a0 : Int32) (Q : Int32 → Prop) : Prop := ((a0 < (1 : Int32) → (bf_bool (0 : Int32) ∧ Q (0 : Int32))) ∧ (¬ a0 < (1 : Int32) → (((8 : Int32) ≤ a0 → (bf_bool (0 : Int32) ∧ Q (0 : Int32))) ∧ (¬ (8 : Int32) ≤ a0 → (bf_bool (1 : Int32) ∧ Q (1 : Int32))))))
set_option maxRecDepth 20000 in
theorem t_X8_isCounted {X : bf_X} (C : bf_C X RX8 cX8_isCounted 1 (some .boolean)) (hR : bf_Rm X 0 0) (a0 : Int32) (Q : Int32 → Prop) (h : wp_X8_isCounted a0 Q) : bf_A X (bf_Zi X bWu (fun r u => u = () ∧ Q r)) 1 0 [some (.int a0)] [] (bWu ()) := by
  unfold wp_X8_isCounted at h
  refine bs_iload_n C (bf_dk dd_X8_isCounted 0 rfl) rfl ?_
  refine bs_iconst C (bf_dk dd_X8_isCounted 1 rfl) (1 : Int32) (by decide) ?_
  refine bs_icmp_lt C (bf_dk dd_X8_isCounted 2 rfl) (tgt := 15) rfl (fun c => ?_) (fun c => ?_)
  · replace h := h.1 c
    refine bs_iconst C (bf_dk dd_X8_isCounted 8 rfl) (0 : Int32) (by decide) ?_
    obtain ⟨hi, h⟩ := h
    exact bs_zret (u := ()) C (bf_dk dd_X8_isCounted 9 rfl) hi rfl ⟨rfl, h⟩
  · replace h := h.2 c
    refine bs_iload_n C (bf_dk dd_X8_isCounted 3 rfl) rfl ?_
    refine bs_bipush C (bf_dk dd_X8_isCounted 4 rfl) (8 : Int32) (by decide) ?_
    refine bs_icmp_ge C (bf_dk dd_X8_isCounted 5 rfl) (tgt := 15) rfl (fun c => ?_) (fun c => ?_)
    · replace h := h.1 c
      refine bs_iconst C (bf_dk dd_X8_isCounted 8 rfl) (0 : Int32) (by decide) ?_
      obtain ⟨hi, h⟩ := h
      exact bs_zret (u := ()) C (bf_dk dd_X8_isCounted 9 rfl) hi rfl ⟨rfl, h⟩
    · replace h := h.2 c
      refine bs_iconst C (bf_dk dd_X8_isCounted 6 rfl) (1 : Int32) (by decide) ?_
      refine bs_goto C (bf_dk dd_X8_isCounted 7 rfl) (tgt := 16) rfl ?_
      obtain ⟨hi, h⟩ := h
      exact bs_zret (u := ()) C (bf_dk dd_X8_isCounted 9 rfl) hi rfl ⟨rfl, h⟩
theorem c_X8_isCounted (l : Launch) (dC : Nat → ClassId) (dI : Nat → Nat → Nat) (ac : Nat → ClassId) (al : Nat → Nat) (a0 : Int32) (Q : Int32 → Prop) (h : wp_X8_isCounted a0 Q) : bf_M l yX8_isCounted cX8_isCounted 1 (some .boolean) 0 0 dC dI ac al [.int a0] (bWu ()) (bf_Ki dC dI ac al bWu (fun r u => u = () ∧ Q r)) := by
  refine bf_start [some (.int a0)] (by decide) (Nat.le_of_ble_eq_true rfl) (bf_s1 bf_s0) ?_
  intro X hl C hR e1 e2 e3 e4
  subst e1; subst e2; subst e3; subst e4
  exact t_X8_isCounted C hR a0 Q h
def wp_X8_cover (S : bT8) (a1 : Int32) (Q : Int64 → Prop) : Prop := (wp_X8_isCounted (a1) (fun r1 => ((r1 = 0 → (Q (-1 : Int64))) ∧ (¬ r1 = 0 → (wp_X1_covered (b8g_leaves S) (a1) (fun r3 => (Q r3)))))))
set_option maxRecDepth 20000 in
theorem t_X8_cover {X : bf_X} (C : bf_C X RX8 cX8_cover 2 (some .long)) (hR : bf_Rm X 2 47) (S : bT8) (a1 : Int32) (Q : Int64 → Prop) (h : wp_X8_cover S a1 Q) : bf_A X (bf_Zl X bW8 (fun r u => u = S ∧ Q r)) 2 0 [some (.ref 0), some (.int a1)] [] (bW8 S) := by
  unfold wp_X8_cover at h
  refine bs_iload_n C (bf_dk dd_X8_cover 0 rfl) rfl ?_
  refine bs_pureS_i (ps := []) (w := (bW8 S)) C hR (c_X8_isCounted _ _ _ _ _ (a1) _ h) my_X8_isCounted m_8_307 rfl (Nat.le_of_ble_eq_true rfl) (Nat.le_of_ble_eq_true rfl) rfl rfl (st := []) (Nat.le_of_ble_eq_true rfl) (bf_dk dd_X8_cover 1 rfl) rfl (fun _ => rfl) (fun r1 h => ?_)
  refine bs_if_eq C (bf_dk dd_X8_cover 2 rfl) (tgt := 18) rfl (fun c => ?_) (fun c => ?_)
  · replace h := h.1 c
    refine bs_ldc2 C (bf_dk dd_X8_cover 8 rfl) k_8_313 ?_
    exact bs_lret (u := S) C (bf_dk dd_X8_cover 9 rfl) rfl ⟨rfl, h⟩
  · replace h := h.2 c
    refine bs_aload_n C (bf_dk dd_X8_cover 3 rfl) rfl ?_
    refine bs_get C (bf_dk dd_X8_cover 4 rfl) cl_8 in_8 3 (Nat.le_of_ble_eq_true rfl) rfl f_8_26 (ge_bW8_0 S) rfl ?_
    refine bs_iload_n C (bf_dk dd_X8_cover 5 rfl) rfl ?_
    refine bs_pureV_l (ps := [31, 32, 33, 34, 35, 36, 37, 38, 39, 40, 41, 42, 43, 44]) (w := (bW8 S)) C hR (c_X1_covered _ _ _ _ _ (b8g_leaves S) (a1) _ h) my_X1_covered m_8_310 rfl cl_1 (ge_bW1_0 _) rfl (Nat.le_of_ble_eq_true rfl) (Nat.le_of_ble_eq_true rfl) (su_bW8_31_bW1 S) bnd_31t44 (st := []) (Nat.le_of_ble_eq_true rfl) (bf_dk dd_X8_cover 6 rfl) rfl (fun _ => rfl) (fun r3 h => ?_)
    refine bs_goto C (bf_dk dd_X8_cover 7 rfl) (tgt := 21) rfl ?_
    exact bs_lret (u := S) C (bf_dk dd_X8_cover 9 rfl) rfl ⟨rfl, h⟩
theorem c_X8_cover (l : Launch) (dC : Nat → ClassId) (dI : Nat → Nat → Nat) (ac : Nat → ClassId) (al : Nat → Nat) (S : bT8) (a1 : Int32) (Q : Int64 → Prop) (h : wp_X8_cover S a1 Q) : bf_M l yX8_cover cX8_cover 2 (some .long) 2 47 dC dI ac al [.ref 0, .int a1] (bW8 S) (bf_Kl dC dI ac al bW8 (fun r u => u = S ∧ Q r)) := by
  refine bf_start [some (.ref 0), some (.int a1)] (by decide) (Nat.le_of_ble_eq_true rfl) (bf_s1 (bf_s1 bf_s0)) ?_
  intro X hl C hR e1 e2 e3 e4
  subst e1; subst e2; subst e3; subst e4
  exact t_X8_cover C hR S a1 Q h
def wp_X8_loose (S : bT8) (a1 : Int32) (Q : Int64 → Prop) : Prop := (wp_X8_isCounted (a1) (fun r1 => ((r1 = 0 → (Q (-1 : Int64))) ∧ (¬ r1 = 0 → (wp_X1_covered (b8g_leaves S) (a1) (fun r3 => (wp_X0_ofLength (b1g_owners (b8g_leaves S)) (a1) (fun r5 => (Q (r3 - (r5).toInt64))))))))))
set_option maxRecDepth 20000 in
theorem t_X8_loose {X : bf_X} (C : bf_C X RX8 cX8_loose 2 (some .long)) (hR : bf_Rm X 2 47) (S : bT8) (a1 : Int32) (Q : Int64 → Prop) (h : wp_X8_loose S a1 Q) : bf_A X (bf_Zl X bW8 (fun r u => u = S ∧ Q r)) 2 0 [some (.ref 0), some (.int a1)] [] (bW8 S) := by
  unfold wp_X8_loose at h
  refine bs_iload_n C (bf_dk dd_X8_loose 0 rfl) rfl ?_
  refine bs_pureS_i (ps := []) (w := (bW8 S)) C hR (c_X8_isCounted _ _ _ _ _ (a1) _ h) my_X8_isCounted m_8_307 rfl (Nat.le_of_ble_eq_true rfl) (Nat.le_of_ble_eq_true rfl) rfl rfl (st := []) (Nat.le_of_ble_eq_true rfl) (bf_dk dd_X8_loose 1 rfl) rfl (fun _ => rfl) (fun r1 h => ?_)
  refine bs_if_eq C (bf_dk dd_X8_loose 2 rfl) (tgt := 31) rfl (fun c => ?_) (fun c => ?_)
  · replace h := h.1 c
    refine bs_ldc2 C (bf_dk dd_X8_loose 15 rfl) k_8_313 ?_
    exact bs_lret (u := S) C (bf_dk dd_X8_loose 16 rfl) rfl ⟨rfl, h⟩
  · replace h := h.2 c
    refine bs_aload_n C (bf_dk dd_X8_loose 3 rfl) rfl ?_
    refine bs_get C (bf_dk dd_X8_loose 4 rfl) cl_8 in_8 3 (Nat.le_of_ble_eq_true rfl) rfl f_8_26 (ge_bW8_0 S) rfl ?_
    refine bs_iload_n C (bf_dk dd_X8_loose 5 rfl) rfl ?_
    refine bs_pureV_l (ps := [31, 32, 33, 34, 35, 36, 37, 38, 39, 40, 41, 42, 43, 44]) (w := (bW8 S)) C hR (c_X1_covered _ _ _ _ _ (b8g_leaves S) (a1) _ h) my_X1_covered m_8_310 rfl cl_1 (ge_bW1_0 _) rfl (Nat.le_of_ble_eq_true rfl) (Nat.le_of_ble_eq_true rfl) (su_bW8_31_bW1 S) bnd_31t44 (st := []) (Nat.le_of_ble_eq_true rfl) (bf_dk dd_X8_loose 6 rfl) rfl (fun _ => rfl) (fun r3 h => ?_)
    refine bs_aload_n C (bf_dk dd_X8_loose 7 rfl) rfl ?_
    refine bs_get C (bf_dk dd_X8_loose 8 rfl) cl_8 in_8 3 (Nat.le_of_ble_eq_true rfl) rfl f_8_26 (ge_bW8_0 S) rfl ?_
    refine bs_get C (bf_dk dd_X8_loose 9 rfl) cl_1 in_1 0 (Nat.le_of_ble_eq_true rfl) rfl f_8_163 (ge_bW8_31 S) rfl ?_
    refine bs_iload_n C (bf_dk dd_X8_loose 10 rfl) rfl ?_
    refine bs_pureV_i (ps := [32, 33, 34]) (w := (bW8 S)) C hR (c_X0_ofLength _ _ _ _ _ (b1g_owners (b8g_leaves S)) (a1) _ h) my_X0_ofLength m_8_315 rfl cl_0 (ge_bW0_0 _) rfl (Nat.le_of_ble_eq_true rfl) (Nat.le_of_ble_eq_true rfl) (su_bW8_32_bW0 S) rfl (st := [.long r3]) (Nat.le_of_ble_eq_true rfl) (bf_dk dd_X8_loose 11 rfl) rfl (fun _ => rfl) (fun r5 h => ?_)
    refine bs_i2l C (bf_dk dd_X8_loose 12 rfl) ?_
    refine bs_lsub C (bf_dk dd_X8_loose 13 rfl) ?_
    refine bs_goto C (bf_dk dd_X8_loose 14 rfl) (tgt := 34) rfl ?_
    exact bs_lret (u := S) C (bf_dk dd_X8_loose 16 rfl) rfl ⟨rfl, h⟩
theorem c_X8_loose (l : Launch) (dC : Nat → ClassId) (dI : Nat → Nat → Nat) (ac : Nat → ClassId) (al : Nat → Nat) (S : bT8) (a1 : Int32) (Q : Int64 → Prop) (h : wp_X8_loose S a1 Q) : bf_M l yX8_loose cX8_loose 2 (some .long) 2 47 dC dI ac al [.ref 0, .int a1] (bW8 S) (bf_Kl dC dI ac al bW8 (fun r u => u = S ∧ Q r)) := by
  refine bf_start [some (.ref 0), some (.int a1)] (by decide) (Nat.le_of_ble_eq_true rfl) (bf_s1 (bf_s1 bf_s0)) ?_
  intro X hl C hR e1 e2 e3 e4
  subst e1; subst e2; subst e3; subst e4
  exact t_X8_loose C hR S a1 Q h
def wp_X8_free_64 (S : bT8) (x1 : Int32) (x2 : Int32) (t0 : Int64) (Q : Int64 → Prop) : Prop := (wp_X1_count (b8g_leaves S) (fun r1 => ((¬ x1 = r1 → (wp_X0_bytesAt (b1g_lows (b8g_leaves S)) (x1) (fun r3 => (wp_X0_lengthAt (b1g_lows (b8g_leaves S)) (x1) (fun r5 => (wp_X8_countAhead (r3) (r5) (x2) (fun r7 => (Q (r7 - t0))))))))) ∧ (x1 = r1 → (Q (((1 : Int64) <<< ((((8 : Int32) * x2)).toInt64 &&& 63)) - t0))))))
set_option maxRecDepth 20000 in
theorem t_X8_free_64 {X : bf_X} (C : bf_C X RX8 cX8_free 5 (some .long)) (hR : bf_Rm X 1 23) (S : bT8) (x1 : Int32) (x2 : Int32) (t0 : Int64) (Q : Int64 → Prop) (h : wp_X8_free_64 S x1 x2 t0 Q) : bf_A X (bf_Zl X bW8 (fun r u => u = S ∧ Q r)) 5 64 [some (.ref 0), some (.int x1), some (.int x2), none, none] [.long t0] (bW8 S) := by
  unfold wp_X8_free_64 at h
  refine bs_lstore_n C (bf_dk dd_X8_free 32 rfl) rfl (Nat.le_of_ble_eq_true rfl) (Nat.le_of_ble_eq_true rfl) (lv2 := [some (.ref 0), some (.int x1), some (.int x2), some (.long t0), none]) rfl ?_
  refine bs_iload_n C (bf_dk dd_X8_free 33 rfl) rfl ?_
  refine bs_aload_n C (bf_dk dd_X8_free 34 rfl) rfl ?_
  refine bs_get C (bf_dk dd_X8_free 35 rfl) cl_8 in_8 3 (Nat.le_of_ble_eq_true rfl) rfl f_8_26 (ge_bW8_0 S) rfl ?_
  refine bs_pureV_i (ps := [31, 32, 33, 34, 35, 36, 37, 38, 39, 40, 41, 42, 43, 44]) (w := (bW8 S)) C hR (c_X1_count _ _ _ _ _ (b8g_leaves S) _ h) my_X1_count m_8_160 rfl cl_1 (ge_bW1_0 _) rfl (Nat.le_of_ble_eq_true rfl) (Nat.le_of_ble_eq_true rfl) (su_bW8_31_bW1 S) bnd_31t44 (st := [.int x1]) (Nat.le_of_ble_eq_true rfl) (bf_dk dd_X8_free 36 rfl) rfl (fun _ => rfl) (fun r1 h => ?_)
  refine bs_icmp_ne C (bf_dk dd_X8_free 37 rfl) (tgt := 85) rfl (fun c => ?_) (fun c => ?_)
  · replace h := h.1 c
    refine bs_aload_n C (bf_dk dd_X8_free 46 rfl) rfl ?_
    refine bs_get C (bf_dk dd_X8_free 47 rfl) cl_8 in_8 3 (Nat.le_of_ble_eq_true rfl) rfl f_8_26 (ge_bW8_0 S) rfl ?_
    refine bs_get C (bf_dk dd_X8_free 48 rfl) cl_1 in_1 1 (Nat.le_of_ble_eq_true rfl) rfl f_8_192 (ge_bW8_31 S) rfl ?_
    refine bs_iload_n C (bf_dk dd_X8_free 49 rfl) rfl ?_
    refine bs_pureV_l (ps := [35, 36, 37]) (w := (bW8 S)) C hR (c_X0_bytesAt _ _ _ _ _ (b1g_lows (b8g_leaves S)) (x1) _ h) my_X0_bytesAt m_8_219 rfl cl_0 (ge_bW0_0 _) rfl (Nat.le_of_ble_eq_true rfl) (Nat.le_of_ble_eq_true rfl) (su_bW8_35_bW0 S) rfl (st := []) (Nat.le_of_ble_eq_true rfl) (bf_dk dd_X8_free 50 rfl) rfl (fun _ => rfl) (fun r3 h => ?_)
    refine bs_aload_n C (bf_dk dd_X8_free 51 rfl) rfl ?_
    refine bs_get C (bf_dk dd_X8_free 52 rfl) cl_8 in_8 3 (Nat.le_of_ble_eq_true rfl) rfl f_8_26 (ge_bW8_0 S) rfl ?_
    refine bs_get C (bf_dk dd_X8_free 53 rfl) cl_1 in_1 1 (Nat.le_of_ble_eq_true rfl) rfl f_8_192 (ge_bW8_31 S) rfl ?_
    refine bs_iload_n C (bf_dk dd_X8_free 54 rfl) rfl ?_
    refine bs_pureV_i (ps := [35, 36, 37]) (w := (bW8 S)) C hR (c_X0_lengthAt _ _ _ _ _ (b1g_lows (b8g_leaves S)) (x1) _ h) my_X0_lengthAt m_8_318 rfl cl_0 (ge_bW0_0 _) rfl (Nat.le_of_ble_eq_true rfl) (Nat.le_of_ble_eq_true rfl) (su_bW8_35_bW0 S) rfl (st := [.long r3]) (Nat.le_of_ble_eq_true rfl) (bf_dk dd_X8_free 55 rfl) rfl (fun _ => rfl) (fun r5 h => ?_)
    refine bs_iload_n C (bf_dk dd_X8_free 56 rfl) rfl ?_
    refine bs_pureS_l (ps := []) (w := (bW8 S)) C hR (c_X8_countAhead _ _ _ _ _ (r3) (r5) (x2) _ h) my_X8_countAhead m_8_323 rfl (Nat.le_of_ble_eq_true rfl) (Nat.le_of_ble_eq_true rfl) rfl rfl (st := []) (Nat.le_of_ble_eq_true rfl) (bf_dk dd_X8_free 57 rfl) rfl (fun _ => rfl) (fun r7 h => ?_)
    refine bs_lload_n C (bf_dk dd_X8_free 58 rfl) rfl ?_
    refine bs_lsub C (bf_dk dd_X8_free 59 rfl) ?_
    exact bs_lret (u := S) C (bf_dk dd_X8_free 60 rfl) rfl ⟨rfl, h⟩
  · replace h := h.2 c
    refine bs_lconst C (bf_dk dd_X8_free 38 rfl) (1 : Int64) (by decide) ?_
    refine bs_bipush C (bf_dk dd_X8_free 39 rfl) (8 : Int32) (by decide) ?_
    refine bs_iload_n C (bf_dk dd_X8_free 40 rfl) rfl ?_
    refine bs_imul C (bf_dk dd_X8_free 41 rfl) ?_
    refine bs_lshl C (bf_dk dd_X8_free 42 rfl) ?_
    refine bs_lload_n C (bf_dk dd_X8_free 43 rfl) rfl ?_
    refine bs_lsub C (bf_dk dd_X8_free 44 rfl) ?_
    exact bs_lret (u := S) C (bf_dk dd_X8_free 45 rfl) rfl ⟨rfl, h⟩
def wp_X8_free (S : bT8) (a1 : Int32) (a2 : Int32) (Q : Int64 → Prop) : Prop := ((a1 < 0 → (Q (-1 : Int64))) ∧ (¬ a1 < 0 → (wp_X1_count (b8g_leaves S) (fun r9 => ((r9 < a1 → (Q (-1 : Int64))) ∧ (¬ r9 < a1 → (wp_X8_isCounted (a2) (fun r11 => ((¬ r11 = 0 → ((¬ a1 = 0 → (wp_X0_bytesAt (b1g_highs (b8g_leaves S)) ((a1 - (1 : Int32))) (fun r13 => (wp_X0_lengthAt (b1g_highs (b8g_leaves S)) ((a1 - (1 : Int32))) (fun r15 => (wp_X8_countUpTo (r13) (r15) (a2) (fun r17 => (wp_X8_free_64 S (a1) (a2) (r17) Q)))))))) ∧ (a1 = 0 → (wp_X8_free_64 S (a1) (a2) ((0 : Int64)) Q)))) ∧ (r11 = 0 → (Q (-1 : Int64))))))))))))
set_option maxRecDepth 20000 in
theorem t_X8_free {X : bf_X} (C : bf_C X RX8 cX8_free 5 (some .long)) (hR : bf_Rm X 1 23) (S : bT8) (a1 : Int32) (a2 : Int32) (Q : Int64 → Prop) (h : wp_X8_free S a1 a2 Q) : bf_A X (bf_Zl X bW8 (fun r u => u = S ∧ Q r)) 5 0 [some (.ref 0), some (.int a1), some (.int a2), none, none] [] (bW8 S) := by
  unfold wp_X8_free at h
  refine bs_iload_n C (bf_dk dd_X8_free 0 rfl) rfl ?_
  refine bs_if_lt C (bf_dk dd_X8_free 1 rfl) (tgt := 22) rfl (fun c => ?_) (fun c => ?_)
  · replace h := h.1 c
    refine bs_ldc2 C (bf_dk dd_X8_free 10 rfl) k_8_313 ?_
    exact bs_lret (u := S) C (bf_dk dd_X8_free 11 rfl) rfl ⟨rfl, h⟩
  · replace h := h.2 c
    refine bs_iload_n C (bf_dk dd_X8_free 2 rfl) rfl ?_
    refine bs_aload_n C (bf_dk dd_X8_free 3 rfl) rfl ?_
    refine bs_get C (bf_dk dd_X8_free 4 rfl) cl_8 in_8 3 (Nat.le_of_ble_eq_true rfl) rfl f_8_26 (ge_bW8_0 S) rfl ?_
    refine bs_pureV_i (ps := [31, 32, 33, 34, 35, 36, 37, 38, 39, 40, 41, 42, 43, 44]) (w := (bW8 S)) C hR (c_X1_count _ _ _ _ _ (b8g_leaves S) _ h) my_X1_count m_8_160 rfl cl_1 (ge_bW1_0 _) rfl (Nat.le_of_ble_eq_true rfl) (Nat.le_of_ble_eq_true rfl) (su_bW8_31_bW1 S) bnd_31t44 (st := [.int a1]) (Nat.le_of_ble_eq_true rfl) (bf_dk dd_X8_free 5 rfl) rfl (fun _ => rfl) (fun r9 h => ?_)
    refine bs_icmp_gt C (bf_dk dd_X8_free 6 rfl) (tgt := 22) rfl (fun c => ?_) (fun c => ?_)
    · replace h := h.1 c
      refine bs_ldc2 C (bf_dk dd_X8_free 10 rfl) k_8_313 ?_
      exact bs_lret (u := S) C (bf_dk dd_X8_free 11 rfl) rfl ⟨rfl, h⟩
    · replace h := h.2 c
      refine bs_iload_n C (bf_dk dd_X8_free 7 rfl) rfl ?_
      refine bs_pureS_i (ps := []) (w := (bW8 S)) C hR (c_X8_isCounted _ _ _ _ _ (a2) _ h) my_X8_isCounted m_8_307 rfl (Nat.le_of_ble_eq_true rfl) (Nat.le_of_ble_eq_true rfl) rfl rfl (st := []) (Nat.le_of_ble_eq_true rfl) (bf_dk dd_X8_free 8 rfl) rfl (fun _ => rfl) (fun r11 h => ?_)
      refine bs_if_ne C (bf_dk dd_X8_free 9 rfl) (tgt := 26) rfl (fun c => ?_) (fun c => ?_)
      · replace h := h.1 c
        refine bs_iload_n C (bf_dk dd_X8_free 12 rfl) rfl ?_
        refine bs_if_ne C (bf_dk dd_X8_free 13 rfl) (tgt := 34) rfl (fun c => ?_) (fun c => ?_)
        · replace h := h.1 c
          refine bs_aload_n C (bf_dk dd_X8_free 16 rfl) rfl ?_
          refine bs_get C (bf_dk dd_X8_free 17 rfl) cl_8 in_8 3 (Nat.le_of_ble_eq_true rfl) rfl f_8_26 (ge_bW8_0 S) rfl ?_
          refine bs_get C (bf_dk dd_X8_free 18 rfl) cl_1 in_1 2 (Nat.le_of_ble_eq_true rfl) rfl f_8_186 (ge_bW8_31 S) rfl ?_
          refine bs_iload_n C (bf_dk dd_X8_free 19 rfl) rfl ?_
          refine bs_iconst C (bf_dk dd_X8_free 20 rfl) (1 : Int32) (by decide) ?_
          refine bs_isub C (bf_dk dd_X8_free 21 rfl) ?_
          refine bs_pureV_l (ps := [38, 39, 40]) (w := (bW8 S)) C hR (c_X0_bytesAt _ _ _ _ _ (b1g_highs (b8g_leaves S)) ((a1 - (1 : Int32))) _ h) my_X0_bytesAt m_8_219 rfl cl_0 (ge_bW0_0 _) rfl (Nat.le_of_ble_eq_true rfl) (Nat.le_of_ble_eq_true rfl) (su_bW8_38_bW0 S) rfl (st := []) (Nat.le_of_ble_eq_true rfl) (bf_dk dd_X8_free 22 rfl) rfl (fun _ => rfl) (fun r13 h => ?_)
          refine bs_aload_n C (bf_dk dd_X8_free 23 rfl) rfl ?_
          refine bs_get C (bf_dk dd_X8_free 24 rfl) cl_8 in_8 3 (Nat.le_of_ble_eq_true rfl) rfl f_8_26 (ge_bW8_0 S) rfl ?_
          refine bs_get C (bf_dk dd_X8_free 25 rfl) cl_1 in_1 2 (Nat.le_of_ble_eq_true rfl) rfl f_8_186 (ge_bW8_31 S) rfl ?_
          refine bs_iload_n C (bf_dk dd_X8_free 26 rfl) rfl ?_
          refine bs_iconst C (bf_dk dd_X8_free 27 rfl) (1 : Int32) (by decide) ?_
          refine bs_isub C (bf_dk dd_X8_free 28 rfl) ?_
          refine bs_pureV_i (ps := [38, 39, 40]) (w := (bW8 S)) C hR (c_X0_lengthAt _ _ _ _ _ (b1g_highs (b8g_leaves S)) ((a1 - (1 : Int32))) _ h) my_X0_lengthAt m_8_318 rfl cl_0 (ge_bW0_0 _) rfl (Nat.le_of_ble_eq_true rfl) (Nat.le_of_ble_eq_true rfl) (su_bW8_38_bW0 S) rfl (st := [.long r13]) (Nat.le_of_ble_eq_true rfl) (bf_dk dd_X8_free 29 rfl) rfl (fun _ => rfl) (fun r15 h => ?_)
          refine bs_iload_n C (bf_dk dd_X8_free 30 rfl) rfl ?_
          refine bs_pureS_l (ps := []) (w := (bW8 S)) C hR (c_X8_countUpTo _ _ _ _ _ (r13) (r15) (a2) _ h) my_X8_countUpTo m_8_319 rfl (Nat.le_of_ble_eq_true rfl) (Nat.le_of_ble_eq_true rfl) rfl rfl (st := []) (Nat.le_of_ble_eq_true rfl) (bf_dk dd_X8_free 31 rfl) rfl (fun _ => rfl) (fun r17 h => ?_)
          exact bs_weak (bf_s1 (bf_s1 (bf_s1 (bf_sn (bf_sn bf_s0))))) (t_X8_free_64 C hR S (a1) (a2) (r17) Q h)
        · replace h := h.2 c
          refine bs_lconst C (bf_dk dd_X8_free 14 rfl) (0 : Int64) (by decide) ?_
          refine bs_goto C (bf_dk dd_X8_free 15 rfl) (tgt := 64) rfl ?_
          exact bs_weak (bf_s1 (bf_s1 (bf_s1 (bf_sn (bf_sn bf_s0))))) (t_X8_free_64 C hR S (a1) (a2) ((0 : Int64)) Q h)
      · replace h := h.2 c
        refine bs_ldc2 C (bf_dk dd_X8_free 10 rfl) k_8_313 ?_
        exact bs_lret (u := S) C (bf_dk dd_X8_free 11 rfl) rfl ⟨rfl, h⟩
theorem c_X8_free (l : Launch) (dC : Nat → ClassId) (dI : Nat → Nat → Nat) (ac : Nat → ClassId) (al : Nat → Nat) (S : bT8) (a1 : Int32) (a2 : Int32) (Q : Int64 → Prop) (h : wp_X8_free S a1 a2 Q) : bf_M l yX8_free cX8_free 5 (some .long) 1 23 dC dI ac al [.ref 0, .int a1, .int a2] (bW8 S) (bf_Kl dC dI ac al bW8 (fun r u => u = S ∧ Q r)) := by
  refine bf_start [some (.ref 0), some (.int a1), some (.int a2), none, none] (by decide) (Nat.le_of_ble_eq_true rfl) (bf_s1 (bf_s1 (bf_s1 (bf_en 2)))) ?_
  intro X hl C hR e1 e2 e3 e4
  subst e1; subst e2; subst e3; subst e4
  exact t_X8_free C hR S a1 a2 Q h
def wp_X8_spread_101 (S : bT8) (x3 : Int32) (x4 : Int32) (x5 : Int64) (x7 : Int32) (x8 : Int32) (x9 : Int32) (x10 : Int32) (Q : Int32 → Prop) (B40 : Int32 → Int32 → Int64 → Int32 → Int32 → Int32 → Int32 → Prop) : Prop := (B40 (x3) (x4) (x5) (x7) (x8) (x9) ((x10 + (1 : Int32))))
set_option maxRecDepth 20000 in
theorem t_X8_spread_101 {X : bf_X} (C : bf_C X RX8 cX8_spread 12 (some .int)) (hR : bf_Rm X 5 124) (S : bT8) (x3 : Int32) (x4 : Int32) (x5 : Int64) (x7 : Int32) (x8 : Int32) (x9 : Int32) (x10 : Int32) (Q : Int32 → Prop) (B40 : Int32 → Int32 → Int64 → Int32 → Int32 → Int32 → Int32 → Prop) (hB40 : ∀ (x3 : Int32) (x4 : Int32) (x5 : Int64) (x7 : Int32) (x8 : Int32) (x9 : Int32) (x10 : Int32), B40 x3 x4 x5 x7 x8 x9 x10 → bf_A X (bf_Zi X bW8 (fun r u => u = S ∧ Q r)) 12 40 [some (.ref 0), none, none, some (.int x3), some (.int x4), some (.long x5), none, some (.int x7), some (.int x8), some (.int x9), some (.int x10), none] [] (bW8 S)) (h : wp_X8_spread_101 S x3 x4 x5 x7 x8 x9 x10 Q B40) : bf_A X (bf_Zi X bW8 (fun r u => u = S ∧ Q r)) 12 101 [some (.ref 0), none, none, some (.int x3), some (.int x4), some (.long x5), none, some (.int x7), some (.int x8), some (.int x9), some (.int x10), none] [] (bW8 S) := by
  unfold wp_X8_spread_101 at h
  refine bs_iinc C (bf_dk dd_X8_spread 52 rfl) (x10 + (1 : Int32)) rfl rfl (Nat.le_of_ble_eq_true rfl) (Nat.le_of_ble_eq_true rfl) (lv2 := [some (.ref 0), none, none, some (.int x3), some (.int x4), some (.long x5), none, some (.int x7), some (.int x8), some (.int x9), some (.int (x10 + (1 : Int32))), none]) rfl ?_
  refine bs_goto C (bf_dk dd_X8_spread 53 rfl) (tgt := 40) rfl ?_
  exact bs_weak (bf_s1 (bf_sn (bf_sn (bf_s1 (bf_s1 (bf_s1 (bf_sn (bf_s1 (bf_s1 (bf_s1 (bf_s1 (bf_sn bf_s0)))))))))))) (hB40 (x3) (x4) (x5) (x7) (x8) (x9) ((x10 + (1 : Int32))) h)
def wp_X8_spread_92 (S : bT8) (x3 : Int32) (x4 : Int32) (x5 : Int64) (x7 : Int32) (x8 : Int32) (x9 : Int32) (x10 : Int32) (x11 : Int32) (Q : Int32 → Prop) (B40 : Int32 → Int32 → Int64 → Int32 → Int32 → Int32 → Int32 → Prop) : Prop := ((¬ x11 = (2 : Int32) → (wp_X8_spread_101 S (x3) (x4) (x5) (x7) (x8) (x9) (x10) Q B40)) ∧ (x11 = (2 : Int32) → (wp_X8_spread_101 S (x3) (x4) (x5) (x7) ((x8 + (1 : Int32))) (x9) (x10) Q B40)))
set_option maxRecDepth 20000 in
theorem t_X8_spread_92 {X : bf_X} (C : bf_C X RX8 cX8_spread 12 (some .int)) (hR : bf_Rm X 5 124) (S : bT8) (x3 : Int32) (x4 : Int32) (x5 : Int64) (x7 : Int32) (x8 : Int32) (x9 : Int32) (x10 : Int32) (x11 : Int32) (Q : Int32 → Prop) (B40 : Int32 → Int32 → Int64 → Int32 → Int32 → Int32 → Int32 → Prop) (hB40 : ∀ (x3 : Int32) (x4 : Int32) (x5 : Int64) (x7 : Int32) (x8 : Int32) (x9 : Int32) (x10 : Int32), B40 x3 x4 x5 x7 x8 x9 x10 → bf_A X (bf_Zi X bW8 (fun r u => u = S ∧ Q r)) 12 40 [some (.ref 0), none, none, some (.int x3), some (.int x4), some (.long x5), none, some (.int x7), some (.int x8), some (.int x9), some (.int x10), none] [] (bW8 S)) (h : wp_X8_spread_92 S x3 x4 x5 x7 x8 x9 x10 x11 Q B40) : bf_A X (bf_Zi X bW8 (fun r u => u = S ∧ Q r)) 12 92 [some (.ref 0), none, none, some (.int x3), some (.int x4), some (.long x5), none, some (.int x7), some (.int x8), some (.int x9), some (.int x10), some (.int x11)] [] (bW8 S) := by
  unfold wp_X8_spread_92 at h
  refine bs_iload C (bf_dk dd_X8_spread 48 rfl) rfl ?_
  refine bs_iconst C (bf_dk dd_X8_spread 49 rfl) (2 : Int32) (by decide) ?_
  refine bs_icmp_ne C (bf_dk dd_X8_spread 50 rfl) (tgt := 101) rfl (fun c => ?_) (fun c => ?_)
  · replace h := h.1 c
    exact bs_weak (bf_s1 (bf_sn (bf_sn (bf_s1 (bf_s1 (bf_s1 (bf_sn (bf_s1 (bf_s1 (bf_s1 (bf_s1 (bf_sn bf_s0)))))))))))) (t_X8_spread_101 C hR S (x3) (x4) (x5) (x7) (x8) (x9) (x10) Q B40 hB40 h)
  · replace h := h.2 c
    refine bs_iinc C (bf_dk dd_X8_spread 51 rfl) (x8 + (1 : Int32)) rfl rfl (Nat.le_of_ble_eq_true rfl) (Nat.le_of_ble_eq_true rfl) (lv2 := [some (.ref 0), none, none, some (.int x3), some (.int x4), some (.long x5), none, some (.int x7), some (.int (x8 + (1 : Int32))), some (.int x9), some (.int x10), some (.int x11)]) rfl ?_
    exact bs_weak (bf_s1 (bf_sn (bf_sn (bf_s1 (bf_s1 (bf_s1 (bf_sn (bf_s1 (bf_s1 (bf_s1 (bf_s1 (bf_sn bf_s0)))))))))))) (t_X8_spread_101 C hR S (x3) (x4) (x5) (x7) ((x8 + (1 : Int32))) (x9) (x10) Q B40 hB40 h)
def wp_X8_spread_90 (S : bT8) (x3 : Int32) (x4 : Int32) (x5 : Int64) (x7 : Int32) (x8 : Int32) (x10 : Int32) (x11 : Int32) (t0 : Int32) (Q : Int32 → Prop) (B40 : Int32 → Int32 → Int64 → Int32 → Int32 → Int32 → Int32 → Prop) : Prop := (wp_X8_spread_92 S (x3) (x4) (x5) (x7) (x8) (t0) (x10) (x11) Q B40)
set_option maxRecDepth 20000 in
theorem t_X8_spread_90 {X : bf_X} (C : bf_C X RX8 cX8_spread 12 (some .int)) (hR : bf_Rm X 5 124) (S : bT8) (x3 : Int32) (x4 : Int32) (x5 : Int64) (x7 : Int32) (x8 : Int32) (x10 : Int32) (x11 : Int32) (t0 : Int32) (Q : Int32 → Prop) (B40 : Int32 → Int32 → Int64 → Int32 → Int32 → Int32 → Int32 → Prop) (hB40 : ∀ (x3 : Int32) (x4 : Int32) (x5 : Int64) (x7 : Int32) (x8 : Int32) (x9 : Int32) (x10 : Int32), B40 x3 x4 x5 x7 x8 x9 x10 → bf_A X (bf_Zi X bW8 (fun r u => u = S ∧ Q r)) 12 40 [some (.ref 0), none, none, some (.int x3), some (.int x4), some (.long x5), none, some (.int x7), some (.int x8), some (.int x9), some (.int x10), none] [] (bW8 S)) (h : wp_X8_spread_90 S x3 x4 x5 x7 x8 x10 x11 t0 Q B40) : bf_A X (bf_Zi X bW8 (fun r u => u = S ∧ Q r)) 12 90 [some (.ref 0), none, none, some (.int x3), some (.int x4), some (.long x5), none, some (.int x7), some (.int x8), none, some (.int x10), some (.int x11)] [.int t0] (bW8 S) := by
  unfold wp_X8_spread_90 at h
  refine bs_istore C (bf_dk dd_X8_spread 47 rfl) (Nat.le_of_ble_eq_true rfl) (Nat.le_of_ble_eq_true rfl) (lv2 := [some (.ref 0), none, none, some (.int x3), some (.int x4), some (.long x5), none, some (.int x7), some (.int x8), some (.int t0), some (.int x10), some (.int x11)]) rfl ?_
  exact bs_weak (bf_s1 (bf_sn (bf_sn (bf_s1 (bf_s1 (bf_s1 (bf_sn (bf_s1 (bf_s1 (bf_s1 (bf_s1 (bf_s1 bf_s0)))))))))))) (t_X8_spread_92 C hR S (x3) (x4) (x5) (x7) (x8) (t0) (x10) (x11) Q B40 hB40 h)
def wp_X8_spread_40b (S : bT8) (x3 : Int32) (x4 : Int32) (x5 : Int64) (x7 : Int32) (x8 : Int32) (x9 : Int32) (x10 : Int32) (Q : Int32 → Prop) (B40 : Int32 → Int32 → Int64 → Int32 → Int32 → Int32 → Int32 → Prop) : Prop := (((256 : Int32) ≤ x10 → ((¬ x4 = (2 : Int32) → ((¬ x4 = 0 → (Q x8)) ∧ (x4 = 0 → (Q x7)))) ∧ (x4 = (2 : Int32) → (Q x9)))) ∧ (¬ (256 : Int32) ≤ x10 → (wp_X8_octetTo (x10) (x3) (fun r1 => (wp_X1_verdictOf (b8g_leaves S) ((x5 ||| r1)) ((x3 + (1 : Int32))) (fun r3 => ((r3 = 0 → (wp_X8_spread_92 S (x3) (x4) (x5) (x7) (x8) (x9) (x10) (r3) Q B40)) ∧ (¬ r3 = 0 → ((¬ x9 = (-1 : Int32) → (wp_X8_spread_90 S (x3) (x4) (x5) ((x7 + (1 : Int32))) (x8) (x10) (r3) (x9) Q B40)) ∧ (x9 = (-1 : Int32) → (wp_X8_spread_90 S (x3) (x4) (x5) ((x7 + (1 : Int32))) (x8) (x10) (r3) (x10) Q B40)))))))))))
set_option maxRecDepth 20000 in
theorem t_X8_spread_40b {X : bf_X} (C : bf_C X RX8 cX8_spread 12 (some .int)) (hR : bf_Rm X 5 124) (S : bT8) (x3 : Int32) (x4 : Int32) (x5 : Int64) (x7 : Int32) (x8 : Int32) (x9 : Int32) (x10 : Int32) (Q : Int32 → Prop) (B40 : Int32 → Int32 → Int64 → Int32 → Int32 → Int32 → Int32 → Prop) (hB40 : ∀ (x3 : Int32) (x4 : Int32) (x5 : Int64) (x7 : Int32) (x8 : Int32) (x9 : Int32) (x10 : Int32), B40 x3 x4 x5 x7 x8 x9 x10 → bf_A X (bf_Zi X bW8 (fun r u => u = S ∧ Q r)) 12 40 [some (.ref 0), none, none, some (.int x3), some (.int x4), some (.long x5), none, some (.int x7), some (.int x8), some (.int x9), some (.int x10), none] [] (bW8 S)) (h : wp_X8_spread_40b S x3 x4 x5 x7 x8 x9 x10 Q B40) : bf_A X (bf_Zi X bW8 (fun r u => u = S ∧ Q r)) 12 40 [some (.ref 0), none, none, some (.int x3), some (.int x4), some (.long x5), none, some (.int x7), some (.int x8), some (.int x9), some (.int x10), none] [] (bW8 S) := by
  unfold wp_X8_spread_40b at h
  refine bs_iload C (bf_dk dd_X8_spread 23 rfl) rfl ?_
  refine bs_sipush C (bf_dk dd_X8_spread 24 rfl) (256 : Int32) (by decide) ?_
  refine bs_icmp_ge C (bf_dk dd_X8_spread 25 rfl) (tgt := 107) rfl (fun c => ?_) (fun c => ?_)
  · replace h := h.1 c
    refine bs_iload C (bf_dk dd_X8_spread 54 rfl) rfl ?_
    refine bs_iconst C (bf_dk dd_X8_spread 55 rfl) (2 : Int32) (by decide) ?_
    refine bs_icmp_ne C (bf_dk dd_X8_spread 56 rfl) (tgt := 116) rfl (fun c => ?_) (fun c => ?_)
    · replace h := h.1 c
      refine bs_iload C (bf_dk dd_X8_spread 59 rfl) rfl ?_
      refine bs_if_ne C (bf_dk dd_X8_spread 60 rfl) (tgt := 126) rfl (fun c => ?_) (fun c => ?_)
      · replace h := h.1 c
        refine bs_iload C (bf_dk dd_X8_spread 63 rfl) rfl ?_
        exact bs_iret (u := S) C (bf_dk dd_X8_spread 64 rfl) rfl ⟨rfl, h⟩
      · replace h := h.2 c
        refine bs_iload C (bf_dk dd_X8_spread 61 rfl) rfl ?_
        refine bs_goto C (bf_dk dd_X8_spread 62 rfl) (tgt := 128) rfl ?_
        exact bs_iret (u := S) C (bf_dk dd_X8_spread 64 rfl) rfl ⟨rfl, h⟩
    · replace h := h.2 c
      refine bs_iload C (bf_dk dd_X8_spread 57 rfl) rfl ?_
      exact bs_iret (u := S) C (bf_dk dd_X8_spread 58 rfl) rfl ⟨rfl, h⟩
  · replace h := h.2 c
    refine bs_aload_n C (bf_dk dd_X8_spread 26 rfl) rfl ?_
    refine bs_get C (bf_dk dd_X8_spread 27 rfl) cl_8 in_8 3 (Nat.le_of_ble_eq_true rfl) rfl f_8_26 (ge_bW8_0 S) rfl ?_
    refine bs_lload C (bf_dk dd_X8_spread 28 rfl) rfl ?_
    refine bs_iload C (bf_dk dd_X8_spread 29 rfl) rfl ?_
    refine bs_iload_n C (bf_dk dd_X8_spread 30 rfl) rfl ?_
    refine bs_pureS_l (ps := []) (w := (bW8 S)) C hR (c_X8_octetTo _ _ _ _ _ (x10) (x3) _ h) my_X8_octetTo m_8_326 rfl (Nat.le_of_ble_eq_true rfl) (Nat.le_of_ble_eq_true rfl) rfl rfl (st := [.long x5, .ref 31]) (Nat.le_of_ble_eq_true rfl) (bf_dk dd_X8_spread 31 rfl) rfl (fun _ => rfl) (fun r1 h => ?_)
    refine bs_lor C (bf_dk dd_X8_spread 32 rfl) ?_
    refine bs_iload_n C (bf_dk dd_X8_spread 33 rfl) rfl ?_
    refine bs_iconst C (bf_dk dd_X8_spread 34 rfl) (1 : Int32) (by decide) ?_
    refine bs_iadd C (bf_dk dd_X8_spread 35 rfl) ?_
    refine bs_pureV_i (ps := [31, 32, 33, 34, 35, 36, 37, 38, 39, 40, 41, 42, 43, 44]) (w := (bW8 S)) C hR (c_X1_verdictOf _ _ _ _ _ (b8g_leaves S) ((x5 ||| r1)) ((x3 + (1 : Int32))) _ h) my_X1_verdictOf m_8_330 rfl cl_1 (ge_bW1_0 _) rfl (Nat.le_of_ble_eq_true rfl) (Nat.le_of_ble_eq_true rfl) (su_bW8_31_bW1 S) bnd_31t44 (st := []) (Nat.le_of_ble_eq_true rfl) (bf_dk dd_X8_spread 36 rfl) rfl (fun _ => rfl) (fun r3 h => ?_)
    refine bs_istore C (bf_dk dd_X8_spread 37 rfl) (Nat.le_of_ble_eq_true rfl) (Nat.le_of_ble_eq_true rfl) (lv2 := [some (.ref 0), none, none, some (.int x3), some (.int x4), some (.long x5), none, some (.int x7), some (.int x8), some (.int x9), some (.int x10), some (.int r3)]) rfl ?_
    refine bs_iload C (bf_dk dd_X8_spread 38 rfl) rfl ?_
    refine bs_if_eq C (bf_dk dd_X8_spread 39 rfl) (tgt := 92) rfl (fun c => ?_) (fun c => ?_)
    · replace h := h.1 c
      exact bs_weak (bf_s1 (bf_sn (bf_sn (bf_s1 (bf_s1 (bf_s1 (bf_sn (bf_s1 (bf_s1 (bf_s1 (bf_s1 (bf_s1 bf_s0)))))))))))) (t_X8_spread_92 C hR S (x3) (x4) (x5) (x7) (x8) (x9) (x10) (r3) Q B40 hB40 h)
    · replace h := h.2 c
      refine bs_iinc C (bf_dk dd_X8_spread 40 rfl) (x7 + (1 : Int32)) rfl rfl (Nat.le_of_ble_eq_true rfl) (Nat.le_of_ble_eq_true rfl) (lv2 := [some (.ref 0), none, none, some (.int x3), some (.int x4), some (.long x5), none, some (.int (x7 + (1 : Int32))), some (.int x8), some (.int x9), some (.int x10), some (.int r3)]) rfl ?_
      refine bs_iload C (bf_dk dd_X8_spread 41 rfl) rfl ?_
      refine bs_iconst C (bf_dk dd_X8_spread 42 rfl) (-1 : Int32) (by decide) ?_
      refine bs_icmp_ne C (bf_dk dd_X8_spread 43 rfl) (tgt := 88) rfl (fun c => ?_) (fun c => ?_)
      · replace h := h.1 c
        refine bs_iload C (bf_dk dd_X8_spread 46 rfl) rfl ?_
        exact bs_weak (bf_s1 (bf_sn (bf_sn (bf_s1 (bf_s1 (bf_s1 (bf_sn (bf_s1 (bf_s1 (bf_sn (bf_s1 (bf_s1 bf_s0)))))))))))) (t_X8_spread_90 C hR S (x3) (x4) (x5) ((x7 + (1 : Int32))) (x8) (x10) (r3) (x9) Q B40 hB40 h)
      · replace h := h.2 c
        refine bs_iload C (bf_dk dd_X8_spread 44 rfl) rfl ?_
        refine bs_goto C (bf_dk dd_X8_spread 45 rfl) (tgt := 90) rfl ?_
        exact bs_weak (bf_s1 (bf_sn (bf_sn (bf_s1 (bf_s1 (bf_s1 (bf_sn (bf_s1 (bf_s1 (bf_sn (bf_s1 (bf_s1 bf_s0)))))))))))) (t_X8_spread_90 C hR S (x3) (x4) (x5) ((x7 + (1 : Int32))) (x8) (x10) (r3) (x10) Q B40 hB40 h)
def wp_X8_spread_40 (S : bT8) (x3 : Int32) (x4 : Int32) (x5 : Int64) (x7 : Int32) (x8 : Int32) (x9 : Int32) (x10 : Int32) (Q : Int32 → Prop) : Prop := ∃ I : Nat → Int32 → Int32 → Int64 → Int32 → Int32 → Int32 → Int32 → Prop, (∃ n : Nat, I n x3 x4 x5 x7 x8 x9 x10) ∧ ∀ (n : Nat) (x3 : Int32) (x4 : Int32) (x5 : Int64) (x7 : Int32) (x8 : Int32) (x9 : Int32) (x10 : Int32), I n x3 x4 x5 x7 x8 x9 x10 → wp_X8_spread_40b S x3 x4 x5 x7 x8 x9 x10 Q (fun x3 x4 x5 x7 x8 x9 x10 => ∃ n2 : Nat, n2 < n ∧ I n2 x3 x4 x5 x7 x8 x9 x10)
theorem t_X8_spread_40 {X : bf_X} (C : bf_C X RX8 cX8_spread 12 (some .int)) (hR : bf_Rm X 5 124) (S : bT8) (x3 : Int32) (x4 : Int32) (x5 : Int64) (x7 : Int32) (x8 : Int32) (x9 : Int32) (x10 : Int32) (Q : Int32 → Prop) (h : wp_X8_spread_40 S x3 x4 x5 x7 x8 x9 x10 Q) : bf_A X (bf_Zi X bW8 (fun r u => u = S ∧ Q r)) 12 40 [some (.ref 0), none, none, some (.int x3), some (.int x4), some (.long x5), none, some (.int x7), some (.int x8), some (.int x9), some (.int x10), none] [] (bW8 S) := by
  obtain ⟨I, ⟨n0, h0⟩, hI⟩ := h
  have key : ∀ (n : Nat) (x3 : Int32) (x4 : Int32) (x5 : Int64) (x7 : Int32) (x8 : Int32) (x9 : Int32) (x10 : Int32), I n x3 x4 x5 x7 x8 x9 x10 → bf_A X (bf_Zi X bW8 (fun r u => u = S ∧ Q r)) 12 40 [some (.ref 0), none, none, some (.int x3), some (.int x4), some (.long x5), none, some (.int x7), some (.int x8), some (.int x9), some (.int x10), none] [] (bW8 S) := by
    intro n
    induction n using Nat.strongRecOn with
    | _ n ih =>
      intro x3 x4 x5 x7 x8 x9 x10 hi
      exact t_X8_spread_40b C hR S x3 x4 x5 x7 x8 x9 x10 Q _ (fun x3 x4 x5 x7 x8 x9 x10 hb => by obtain ⟨n2, hn, hi2⟩ := hb; exact ih n2 hn x3 x4 x5 x7 x8 x9 x10 hi2) (hI n x3 x4 x5 x7 x8 x9 x10 hi)
  exact key n0 x3 x4 x5 x7 x8 x9 x10 h0
def wp_X8_spread (S : bT8) (a1 : Int32) (a2 : Int32) (a3 : Int32) (a4 : Int32) (Q : Int32 → Prop) : Prop := (wp_X8_isCounted (a3) (fun r5 => ((r5 = 0 → (Q (-1 : Int32))) ∧ (¬ r5 = 0 → ((a4 < 0 → (Q (-1 : Int32))) ∧ (¬ a4 < 0 → ((a4 ≤ (2 : Int32) → (wp_X8_keyOf (a1) (a2) (a3) (fun r7 => (wp_X8_spread_40 S (a3) (a4) (r7) ((0 : Int32)) ((0 : Int32)) ((-1 : Int32)) ((0 : Int32)) Q)))) ∧ (¬ a4 ≤ (2 : Int32) → (Q (-1 : Int32))))))))))
set_option maxRecDepth 20000 in
theorem t_X8_spread {X : bf_X} (C : bf_C X RX8 cX8_spread 12 (some .int)) (hR : bf_Rm X 5 124) (S : bT8) (a1 : Int32) (a2 : Int32) (a3 : Int32) (a4 : Int32) (Q : Int32 → Prop) (h : wp_X8_spread S a1 a2 a3 a4 Q) : bf_A X (bf_Zi X bW8 (fun r u => u = S ∧ Q r)) 12 0 [some (.ref 0), some (.int a1), some (.int a2), some (.int a3), some (.int a4), none, none, none, none, none, none, none] [] (bW8 S) := by
  unfold wp_X8_spread at h
  refine bs_iload_n C (bf_dk dd_X8_spread 0 rfl) rfl ?_
  refine bs_pureS_i (ps := []) (w := (bW8 S)) C hR (c_X8_isCounted _ _ _ _ _ (a3) _ h) my_X8_isCounted m_8_307 rfl (Nat.le_of_ble_eq_true rfl) (Nat.le_of_ble_eq_true rfl) rfl rfl (st := []) (Nat.le_of_ble_eq_true rfl) (bf_dk dd_X8_spread 1 rfl) rfl (fun _ => rfl) (fun r5 h => ?_)
  refine bs_if_eq C (bf_dk dd_X8_spread 2 rfl) (tgt := 18) rfl (fun c => ?_) (fun c => ?_)
  · replace h := h.1 c
    refine bs_iconst C (bf_dk dd_X8_spread 8 rfl) (-1 : Int32) (by decide) ?_
    exact bs_iret (u := S) C (bf_dk dd_X8_spread 9 rfl) rfl ⟨rfl, h⟩
  · replace h := h.2 c
    refine bs_iload C (bf_dk dd_X8_spread 3 rfl) rfl ?_
    refine bs_if_lt C (bf_dk dd_X8_spread 4 rfl) (tgt := 18) rfl (fun c => ?_) (fun c => ?_)
    · replace h := h.1 c
      refine bs_iconst C (bf_dk dd_X8_spread 8 rfl) (-1 : Int32) (by decide) ?_
      exact bs_iret (u := S) C (bf_dk dd_X8_spread 9 rfl) rfl ⟨rfl, h⟩
    · replace h := h.2 c
      refine bs_iload C (bf_dk dd_X8_spread 5 rfl) rfl ?_
      refine bs_iconst C (bf_dk dd_X8_spread 6 rfl) (2 : Int32) (by decide) ?_
      refine bs_icmp_le C (bf_dk dd_X8_spread 7 rfl) (tgt := 20) rfl (fun c => ?_) (fun c => ?_)
      · replace h := h.1 c
        refine bs_iload_n C (bf_dk dd_X8_spread 10 rfl) rfl ?_
        refine bs_iload_n C (bf_dk dd_X8_spread 11 rfl) rfl ?_
        refine bs_iload_n C (bf_dk dd_X8_spread 12 rfl) rfl ?_
        refine bs_pureS_l (ps := []) (w := (bW8 S)) C hR (c_X8_keyOf _ _ _ _ _ (a1) (a2) (a3) _ h) my_X8_keyOf m_8_132 rfl (Nat.le_of_ble_eq_true rfl) (Nat.le_of_ble_eq_true rfl) rfl rfl (st := []) (Nat.le_of_ble_eq_true rfl) (bf_dk dd_X8_spread 13 rfl) rfl (fun _ => rfl) (fun r7 h => ?_)
        refine bs_lstore C (bf_dk dd_X8_spread 14 rfl) (Nat.le_of_ble_eq_true rfl) (Nat.le_of_ble_eq_true rfl) (lv2 := [some (.ref 0), some (.int a1), some (.int a2), some (.int a3), some (.int a4), some (.long r7), none, none, none, none, none, none]) rfl ?_
        refine bs_iconst C (bf_dk dd_X8_spread 15 rfl) (0 : Int32) (by decide) ?_
        refine bs_istore C (bf_dk dd_X8_spread 16 rfl) (Nat.le_of_ble_eq_true rfl) (Nat.le_of_ble_eq_true rfl) (lv2 := [some (.ref 0), some (.int a1), some (.int a2), some (.int a3), some (.int a4), some (.long r7), none, some (.int (0 : Int32)), none, none, none, none]) rfl ?_
        refine bs_iconst C (bf_dk dd_X8_spread 17 rfl) (0 : Int32) (by decide) ?_
        refine bs_istore C (bf_dk dd_X8_spread 18 rfl) (Nat.le_of_ble_eq_true rfl) (Nat.le_of_ble_eq_true rfl) (lv2 := [some (.ref 0), some (.int a1), some (.int a2), some (.int a3), some (.int a4), some (.long r7), none, some (.int (0 : Int32)), some (.int (0 : Int32)), none, none, none]) rfl ?_
        refine bs_iconst C (bf_dk dd_X8_spread 19 rfl) (-1 : Int32) (by decide) ?_
        refine bs_istore C (bf_dk dd_X8_spread 20 rfl) (Nat.le_of_ble_eq_true rfl) (Nat.le_of_ble_eq_true rfl) (lv2 := [some (.ref 0), some (.int a1), some (.int a2), some (.int a3), some (.int a4), some (.long r7), none, some (.int (0 : Int32)), some (.int (0 : Int32)), some (.int (-1 : Int32)), none, none]) rfl ?_
        refine bs_iconst C (bf_dk dd_X8_spread 21 rfl) (0 : Int32) (by decide) ?_
        refine bs_istore C (bf_dk dd_X8_spread 22 rfl) (Nat.le_of_ble_eq_true rfl) (Nat.le_of_ble_eq_true rfl) (lv2 := [some (.ref 0), some (.int a1), some (.int a2), some (.int a3), some (.int a4), some (.long r7), none, some (.int (0 : Int32)), some (.int (0 : Int32)), some (.int (-1 : Int32)), some (.int (0 : Int32)), none]) rfl ?_
        exact bs_weak (bf_s1 (bf_sn (bf_sn (bf_s1 (bf_s1 (bf_s1 (bf_sn (bf_s1 (bf_s1 (bf_s1 (bf_s1 (bf_sn bf_s0)))))))))))) (t_X8_spread_40 C hR S (a3) (a4) (r7) ((0 : Int32)) ((0 : Int32)) ((-1 : Int32)) ((0 : Int32)) Q h)
      · replace h := h.2 c
        refine bs_iconst C (bf_dk dd_X8_spread 8 rfl) (-1 : Int32) (by decide) ?_
        exact bs_iret (u := S) C (bf_dk dd_X8_spread 9 rfl) rfl ⟨rfl, h⟩
theorem c_X8_spread (l : Launch) (dC : Nat → ClassId) (dI : Nat → Nat → Nat) (ac : Nat → ClassId) (al : Nat → Nat) (S : bT8) (a1 : Int32) (a2 : Int32) (a3 : Int32) (a4 : Int32) (Q : Int32 → Prop) (h : wp_X8_spread S a1 a2 a3 a4 Q) : bf_M l yX8_spread cX8_spread 12 (some .int) 5 124 dC dI ac al [.ref 0, .int a1, .int a2, .int a3, .int a4] (bW8 S) (bf_Ki dC dI ac al bW8 (fun r u => u = S ∧ Q r)) := by
  refine bf_start [some (.ref 0), some (.int a1), some (.int a2), some (.int a3), some (.int a4), none, none, none, none, none, none, none] (by decide) (Nat.le_of_ble_eq_true rfl) (bf_s1 (bf_s1 (bf_s1 (bf_s1 (bf_s1 (bf_en 7)))))) ?_
  intro X hl C hR e1 e2 e3 e4
  subst e1; subst e2; subst e3; subst e4
  exact t_X8_spread C hR S a1 a2 a3 a4 Q h
def wp_X8_question (S : bT8) (a1 : Int32) (a2 : Int32) (a3 : Int32) (Q : Int32 → (bT8) → Prop) : Prop := (wp_X8_isLength (a3) (fun r1 => ((r1 = 0 → (Q (-1 : Int32) S)) ∧ (¬ r1 = 0 → (((b0g_count (b2g_questions (b8g_now S))) < (16 : Int32) → (wp_X8_keyOf (a1) (a2) (a3) (fun r3 => (wp_X0_append (b2g_questions (b8g_now S)) (r3) (a3) (fun u6 => (∀ S7 : bT8, S7 = (b8s_now S (b2s_questions (b8g_now S) u6)) → (Q (b0g_count (b2g_questions (b8g_now S7))) S7))))))) ∧ (¬ (b0g_count (b2g_questions (b8g_now S))) < (16 : Int32) → (Q (-1 : Int32) S)))))))
set_option maxRecDepth 20000 in
theorem t_X8_question {X : bf_X} (C : bf_C X RX8 cX8_question 4 (some .int)) (hR : bf_Rm X 2 42) (S : bT8) (a1 : Int32) (a2 : Int32) (a3 : Int32) (Q : Int32 → (bT8) → Prop) (h : wp_X8_question S a1 a2 a3 Q) : bf_A X (bf_Zi X bW8 Q) 4 0 [some (.ref 0), some (.int a1), some (.int a2), some (.int a3)] [] (bW8 S) := by
  unfold wp_X8_question at h
  refine bs_iload_n C (bf_dk dd_X8_question 0 rfl) rfl ?_
  refine bs_pureS_i (ps := []) (w := (bW8 S)) C hR (c_X8_isLength _ _ _ _ _ (a3) _ h) my_X8_isLength m_8_128 rfl (Nat.le_of_ble_eq_true rfl) (Nat.le_of_ble_eq_true rfl) rfl rfl (st := []) (Nat.le_of_ble_eq_true rfl) (bf_dk dd_X8_question 1 rfl) rfl (fun _ => rfl) (fun r1 h => ?_)
  refine bs_if_eq C (bf_dk dd_X8_question 2 rfl) (tgt := 22) rfl (fun c => ?_) (fun c => ?_)
  · replace h := h.1 c
    refine bs_iconst C (bf_dk dd_X8_question 9 rfl) (-1 : Int32) (by decide) ?_
    exact bs_iret (u := S) C (bf_dk dd_X8_question 10 rfl) rfl h
  · replace h := h.2 c
    refine bs_aload_n C (bf_dk dd_X8_question 3 rfl) rfl ?_
    refine bs_get C (bf_dk dd_X8_question 4 rfl) cl_8 in_8 0 (Nat.le_of_ble_eq_true rfl) rfl f_8_12 (ge_bW8_0 S) rfl ?_
    refine bs_get C (bf_dk dd_X8_question 5 rfl) cl_2 in_2 2 (Nat.le_of_ble_eq_true rfl) rfl f_8_333 (ge_bW8_1 S) rfl ?_
    refine bs_get C (bf_dk dd_X8_question 6 rfl) cl_0 in_0 2 (Nat.le_of_ble_eq_true rfl) rfl f_8_110 (ge_bW8_12 S) rfl ?_
    refine bs_bipush C (bf_dk dd_X8_question 7 rfl) (16 : Int32) (by decide) ?_
    refine bs_icmp_lt C (bf_dk dd_X8_question 8 rfl) (tgt := 24) rfl (fun c => ?_) (fun c => ?_)
    · replace h := h.1 c
      refine bs_aload_n C (bf_dk dd_X8_question 11 rfl) rfl ?_
      refine bs_get C (bf_dk dd_X8_question 12 rfl) cl_8 in_8 0 (Nat.le_of_ble_eq_true rfl) rfl f_8_12 (ge_bW8_0 S) rfl ?_
      refine bs_get C (bf_dk dd_X8_question 13 rfl) cl_2 in_2 2 (Nat.le_of_ble_eq_true rfl) rfl f_8_333 (ge_bW8_1 S) rfl ?_
      refine bs_iload_n C (bf_dk dd_X8_question 14 rfl) rfl ?_
      refine bs_iload_n C (bf_dk dd_X8_question 15 rfl) rfl ?_
      refine bs_iload_n C (bf_dk dd_X8_question 16 rfl) rfl ?_
      refine bs_pureS_l (ps := []) (w := (bW8 S)) C hR (c_X8_keyOf _ _ _ _ _ (a1) (a2) (a3) _ h) my_X8_keyOf m_8_132 rfl (Nat.le_of_ble_eq_true rfl) (Nat.le_of_ble_eq_true rfl) rfl rfl (st := [.ref 12]) (Nat.le_of_ble_eq_true rfl) (bf_dk dd_X8_question 17 rfl) rfl (fun _ => rfl) (fun r3 h => ?_)
      refine bs_iload_n C (bf_dk dd_X8_question 18 rfl) rfl ?_
      refine bs_callV_v (ps := [12, 13, 14]) (w := (bW8 S)) C hR (c_X0_append _ _ _ _ _ (b2g_questions (b8g_now S)) (r3) (a3) _ h) my_X0_append m_8_336 rfl cl_0 (ge_bW0_0 _) rfl (Nat.le_of_ble_eq_true rfl) (Nat.le_of_ble_eq_true rfl) (su_bW8_12_bW0 S) rfl (st := []) (Nat.le_of_ble_eq_true rfl) (bf_dk dd_X8_question 19 rfl) rfl (fun _ => rfl) (w2 := fun u6 => bW8 (b8s_now S (b2s_questions (b8g_now S) u6))) (pt_bW8_12_bW0 S) (fun u6 h => ?_)
      refine bs_nameS bW8 (fun S7 eS7 => ?_)
      replace h := h S7 eS7
      refine bs_aload_n C (bf_dk dd_X8_question 20 rfl) rfl ?_
      refine bs_get C (bf_dk dd_X8_question 21 rfl) cl_8 in_8 0 (Nat.le_of_ble_eq_true rfl) rfl f_8_12 (ge_bW8_0 S7) rfl ?_
      refine bs_get C (bf_dk dd_X8_question 22 rfl) cl_2 in_2 2 (Nat.le_of_ble_eq_true rfl) rfl f_8_333 (ge_bW8_1 S7) rfl ?_
      refine bs_get C (bf_dk dd_X8_question 23 rfl) cl_0 in_0 2 (Nat.le_of_ble_eq_true rfl) rfl f_8_110 (ge_bW8_12 S7) rfl ?_
      exact bs_iret (u := S7) C (bf_dk dd_X8_question 24 rfl) rfl h
    · replace h := h.2 c
      refine bs_iconst C (bf_dk dd_X8_question 9 rfl) (-1 : Int32) (by decide) ?_
      exact bs_iret (u := S) C (bf_dk dd_X8_question 10 rfl) rfl h
theorem c_X8_question (l : Launch) (dC : Nat → ClassId) (dI : Nat → Nat → Nat) (ac : Nat → ClassId) (al : Nat → Nat) (S : bT8) (a1 : Int32) (a2 : Int32) (a3 : Int32) (Q : Int32 → (bT8) → Prop) (h : wp_X8_question S a1 a2 a3 Q) : bf_M l yX8_question cX8_question 4 (some .int) 2 42 dC dI ac al [.ref 0, .int a1, .int a2, .int a3] (bW8 S) (bf_Ki dC dI ac al bW8 Q) := by
  refine bf_start [some (.ref 0), some (.int a1), some (.int a2), some (.int a3)] (by decide) (Nat.le_of_ble_eq_true rfl) (bf_s1 (bf_s1 (bf_s1 (bf_s1 bf_s0)))) ?_
  intro X hl C hR e1 e2 e3 e4
  subst e1; subst e2; subst e3; subst e4
  exact t_X8_question C hR S a1 a2 a3 Q h
def wp_X8_forget (S : bT8) (Q : Int32 → (bT8) → Prop) : Prop := (∀ S1 : bT8, S1 = (b8s_now S (b2s_questions (b8g_now S) (b0s_count (b2g_questions (b8g_now S)) (0 : Int32)))) → (Q (b0g_count (b2g_questions (b8g_now S))) S1))
set_option maxRecDepth 20000 in
theorem t_X8_forget {X : bf_X} (C : bf_C X RX8 cX8_forget 2 (some .int)) (hR : bf_Rm X 0 0) (S : bT8) (Q : Int32 → (bT8) → Prop) (h : wp_X8_forget S Q) : bf_A X (bf_Zi X bW8 Q) 2 0 [some (.ref 0), none] [] (bW8 S) := by
  unfold wp_X8_forget at h
  refine bs_aload_n C (bf_dk dd_X8_forget 0 rfl) rfl ?_
  refine bs_get C (bf_dk dd_X8_forget 1 rfl) cl_8 in_8 0 (Nat.le_of_ble_eq_true rfl) rfl f_8_12 (ge_bW8_0 S) rfl ?_
  refine bs_get C (bf_dk dd_X8_forget 2 rfl) cl_2 in_2 2 (Nat.le_of_ble_eq_true rfl) rfl f_8_333 (ge_bW8_1 S) rfl ?_
  refine bs_get C (bf_dk dd_X8_forget 3 rfl) cl_0 in_0 2 (Nat.le_of_ble_eq_true rfl) rfl f_8_110 (ge_bW8_12 S) rfl ?_
  refine bs_istore_n C (bf_dk dd_X8_forget 4 rfl) rfl (Nat.le_of_ble_eq_true rfl) (Nat.le_of_ble_eq_true rfl) (lv2 := [some (.ref 0), some (.int (b0g_count (b2g_questions (b8g_now S))))]) rfl ?_
  refine bs_aload_n C (bf_dk dd_X8_forget 5 rfl) rfl ?_
  refine bs_get C (bf_dk dd_X8_forget 6 rfl) cl_8 in_8 0 (Nat.le_of_ble_eq_true rfl) rfl f_8_12 (ge_bW8_0 S) rfl ?_
  refine bs_get C (bf_dk dd_X8_forget 7 rfl) cl_2 in_2 2 (Nat.le_of_ble_eq_true rfl) rfl f_8_333 (ge_bW8_1 S) rfl ?_
  refine bs_iconst C (bf_dk dd_X8_forget 8 rfl) (0 : Int32) (by decide) ?_
  refine bs_put C (bf_dk dd_X8_forget 9 rfl) tyX0_ok nmX0 cl_0 in_0 2 (Nat.le_of_ble_eq_true rfl) rfl f_8_110 rfl (ge_bW8_12 S) (Nat.le_of_ble_eq_true rfl) rfl rfl (pu_bW8_12_2 S (0 : Int32)) ?_
  refine bs_nameS bW8 (fun S1 eS1 => ?_)
  replace h := h S1 eS1
  refine bs_iload_n C (bf_dk dd_X8_forget 10 rfl) rfl ?_
  exact bs_iret (u := S1) C (bf_dk dd_X8_forget 11 rfl) rfl h
theorem c_X8_forget (l : Launch) (dC : Nat → ClassId) (dI : Nat → Nat → Nat) (ac : Nat → ClassId) (al : Nat → Nat) (S : bT8) (Q : Int32 → (bT8) → Prop) (h : wp_X8_forget S Q) : bf_M l yX8_forget cX8_forget 2 (some .int) 0 0 dC dI ac al [.ref 0] (bW8 S) (bf_Ki dC dI ac al bW8 Q) := by
  refine bf_start [some (.ref 0), none] (by decide) (Nat.le_of_ble_eq_true rfl) (bf_s1 (bf_en 1)) ?_
  intro X hl C hR e1 e2 e3 e4
  subst e1; subst e2; subst e3; subst e4
  exact t_X8_forget C hR S Q h
def wp_X8_tuned (S : bT8) (a1 : Int32) (a2 : Int32) (Q : Int32 → (bT8) → Prop) : Prop := ((a1 < 0 → (Q (-1 : Int32) S)) ∧ (¬ a1 < 0 → (((16 : Int32) < a1 → (Q (-1 : Int32) S)) ∧ (¬ (16 : Int32) < a1 → ((a2 < 0 → (Q (-1 : Int32) S)) ∧ (¬ a2 < 0 → ((a2 ≤ (2 : Int32) → (wp_X7_tune ((b8g_tuning S), (b8g_leaves S), (b2g_questions (b8g_now S))) (a1) (fun u2 => (∀ S3 : bT8, S3 = (b8s_now (b8s_leaves (b8s_tuning S u2.1) u2.2.1) (b2s_questions (b8g_now (b8s_leaves (b8s_tuning S u2.1) u2.2.1)) u2.2.2)) → ((¬ a2 = (2 : Int32) → ((¬ a2 = 0 → (Q (b7g_realBits (b8g_tuning S3)) S3)) ∧ (a2 = 0 → (Q (b7g_hashBits (b8g_tuning S3)) S3)))) ∧ (a2 = (2 : Int32) → (Q (b7g_falsely (b8g_tuning S3)) S3))))))) ∧ (¬ a2 ≤ (2 : Int32) → (Q (-1 : Int32) S)))))))))
set_option maxRecDepth 20000 in
theorem t_X8_tuned {X : bf_X} (C : bf_C X RX8 cX8_tuned 3 (some .int)) (hR : bf_Rm X 6 153) (S : bT8) (a1 : Int32) (a2 : Int32) (Q : Int32 → (bT8) → Prop) (h : wp_X8_tuned S a1 a2 Q) : bf_A X (bf_Zi X bW8 Q) 3 0 [some (.ref 0), some (.int a1), some (.int a2)] [] (bW8 S) := by
  unfold wp_X8_tuned at h
  refine bs_iload_n C (bf_dk dd_X8_tuned 0 rfl) rfl ?_
  refine bs_if_lt C (bf_dk dd_X8_tuned 1 rfl) (tgt := 19) rfl (fun c => ?_) (fun c => ?_)
  · replace h := h.1 c
    refine bs_iconst C (bf_dk dd_X8_tuned 10 rfl) (-1 : Int32) (by decide) ?_
    exact bs_iret (u := S) C (bf_dk dd_X8_tuned 11 rfl) rfl h
  · replace h := h.2 c
    refine bs_iload_n C (bf_dk dd_X8_tuned 2 rfl) rfl ?_
    refine bs_bipush C (bf_dk dd_X8_tuned 3 rfl) (16 : Int32) (by decide) ?_
    refine bs_icmp_gt C (bf_dk dd_X8_tuned 4 rfl) (tgt := 19) rfl (fun c => ?_) (fun c => ?_)
    · replace h := h.1 c
      refine bs_iconst C (bf_dk dd_X8_tuned 10 rfl) (-1 : Int32) (by decide) ?_
      exact bs_iret (u := S) C (bf_dk dd_X8_tuned 11 rfl) rfl h
    · replace h := h.2 c
      refine bs_iload_n C (bf_dk dd_X8_tuned 5 rfl) rfl ?_
      refine bs_if_lt C (bf_dk dd_X8_tuned 6 rfl) (tgt := 19) rfl (fun c => ?_) (fun c => ?_)
      · replace h := h.1 c
        refine bs_iconst C (bf_dk dd_X8_tuned 10 rfl) (-1 : Int32) (by decide) ?_
        exact bs_iret (u := S) C (bf_dk dd_X8_tuned 11 rfl) rfl h
      · replace h := h.2 c
        refine bs_iload_n C (bf_dk dd_X8_tuned 7 rfl) rfl ?_
        refine bs_iconst C (bf_dk dd_X8_tuned 8 rfl) (2 : Int32) (by decide) ?_
        refine bs_icmp_le C (bf_dk dd_X8_tuned 9 rfl) (tgt := 21) rfl (fun c => ?_) (fun c => ?_)
        · replace h := h.1 c
          refine bs_aload_n C (bf_dk dd_X8_tuned 12 rfl) rfl ?_
          refine bs_get C (bf_dk dd_X8_tuned 13 rfl) cl_8 in_8 5 (Nat.le_of_ble_eq_true rfl) rfl f_8_40 (ge_bW8_0 S) rfl ?_
          refine bs_aload_n C (bf_dk dd_X8_tuned 14 rfl) rfl ?_
          refine bs_get C (bf_dk dd_X8_tuned 15 rfl) cl_8 in_8 3 (Nat.le_of_ble_eq_true rfl) rfl f_8_26 (ge_bW8_0 S) rfl ?_
          refine bs_aload_n C (bf_dk dd_X8_tuned 16 rfl) rfl ?_
          refine bs_get C (bf_dk dd_X8_tuned 17 rfl) cl_8 in_8 0 (Nat.le_of_ble_eq_true rfl) rfl f_8_12 (ge_bW8_0 S) rfl ?_
          refine bs_get C (bf_dk dd_X8_tuned 18 rfl) cl_2 in_2 2 (Nat.le_of_ble_eq_true rfl) rfl f_8_333 (ge_bW8_1 S) rfl ?_
          refine bs_iload_n C (bf_dk dd_X8_tuned 19 rfl) rfl ?_
          refine bs_callV_v (ps := [58, 59, 60, 31, 32, 33, 34, 35, 36, 37, 38, 39, 40, 41, 42, 43, 44, 12, 13, 14]) (w := (bW8 S)) C hR (c_X7_tune _ _ _ _ _ ((b8g_tuning S), (b8g_leaves S), (b2g_questions (b8g_now S))) (a1) _ h) my_X7_tune m_8_340 rfl cl_7 (ge_bW7_1_0_0 _) rfl (Nat.le_of_ble_eq_true rfl) (Nat.le_of_ble_eq_true rfl) (su_bW8_58_31_12_bW7_1_0 S) bnd_58t60_31t44_12t14 (st := []) (Nat.le_of_ble_eq_true rfl) (bf_dk dd_X8_tuned 20 rfl) rfl (fun _ => rfl) (w2 := fun u2 => bW8 (b8s_now (b8s_leaves (b8s_tuning S u2.1) u2.2.1) (b2s_questions (b8g_now (b8s_leaves (b8s_tuning S u2.1) u2.2.1)) u2.2.2))) (pt_bW8_58_31_12_bW7_1_0 S) (fun u2 h => ?_)
          refine bs_nameS bW8 (fun S3 eS3 => ?_)
          replace h := h S3 eS3
          refine bs_iload_n C (bf_dk dd_X8_tuned 21 rfl) rfl ?_
          refine bs_iconst C (bf_dk dd_X8_tuned 22 rfl) (2 : Int32) (by decide) ?_
          refine bs_icmp_ne C (bf_dk dd_X8_tuned 23 rfl) (tgt := 53) rfl (fun c => ?_) (fun c => ?_)
          · replace h := h.1 c
            refine bs_iload_n C (bf_dk dd_X8_tuned 28 rfl) rfl ?_
            refine bs_if_ne C (bf_dk dd_X8_tuned 29 rfl) (tgt := 67) rfl (fun c => ?_) (fun c => ?_)
            · replace h := h.1 c
              refine bs_aload_n C (bf_dk dd_X8_tuned 34 rfl) rfl ?_
              refine bs_get C (bf_dk dd_X8_tuned 35 rfl) cl_8 in_8 5 (Nat.le_of_ble_eq_true rfl) rfl f_8_40 (ge_bW8_0 S3) rfl ?_
              refine bs_get C (bf_dk dd_X8_tuned 36 rfl) cl_7 in_7 4 (Nat.le_of_ble_eq_true rfl) rfl f_8_350 (ge_bW8_58 S3) rfl ?_
              exact bs_iret (u := S3) C (bf_dk dd_X8_tuned 37 rfl) rfl h
            · replace h := h.2 c
              refine bs_aload_n C (bf_dk dd_X8_tuned 30 rfl) rfl ?_
              refine bs_get C (bf_dk dd_X8_tuned 31 rfl) cl_8 in_8 5 (Nat.le_of_ble_eq_true rfl) rfl f_8_40 (ge_bW8_0 S3) rfl ?_
              refine bs_get C (bf_dk dd_X8_tuned 32 rfl) cl_7 in_7 3 (Nat.le_of_ble_eq_true rfl) rfl f_8_347 (ge_bW8_58 S3) rfl ?_
              refine bs_goto C (bf_dk dd_X8_tuned 33 rfl) (tgt := 74) rfl ?_
              exact bs_iret (u := S3) C (bf_dk dd_X8_tuned 37 rfl) rfl h
          · replace h := h.2 c
            refine bs_aload_n C (bf_dk dd_X8_tuned 24 rfl) rfl ?_
            refine bs_get C (bf_dk dd_X8_tuned 25 rfl) cl_8 in_8 5 (Nat.le_of_ble_eq_true rfl) rfl f_8_40 (ge_bW8_0 S3) rfl ?_
            refine bs_get C (bf_dk dd_X8_tuned 26 rfl) cl_7 in_7 5 (Nat.le_of_ble_eq_true rfl) rfl f_8_344 (ge_bW8_58 S3) rfl ?_
            exact bs_iret (u := S3) C (bf_dk dd_X8_tuned 27 rfl) rfl h
        · replace h := h.2 c
          refine bs_iconst C (bf_dk dd_X8_tuned 10 rfl) (-1 : Int32) (by decide) ?_
          exact bs_iret (u := S) C (bf_dk dd_X8_tuned 11 rfl) rfl h
theorem c_X8_tuned (l : Launch) (dC : Nat → ClassId) (dI : Nat → Nat → Nat) (ac : Nat → ClassId) (al : Nat → Nat) (S : bT8) (a1 : Int32) (a2 : Int32) (Q : Int32 → (bT8) → Prop) (h : wp_X8_tuned S a1 a2 Q) : bf_M l yX8_tuned cX8_tuned 3 (some .int) 6 153 dC dI ac al [.ref 0, .int a1, .int a2] (bW8 S) (bf_Ki dC dI ac al bW8 Q) := by
  refine bf_start [some (.ref 0), some (.int a1), some (.int a2)] (by decide) (Nat.le_of_ble_eq_true rfl) (bf_s1 (bf_s1 (bf_s1 bf_s0))) ?_
  intro X hl C hR e1 e2 e3 e4
  subst e1; subst e2; subst e3; subst e4
  exact t_X8_tuned C hR S a1 a2 Q h
def wp_X8_storm_70 (S : bT8) (x1 : Int32) (x2 : Int32) (x3 : Int32) (x4 : Int32) (Q : Int32 → (bT8) → Prop) (B26 : Int32 → Int32 → Int32 → Int32 → (bT8) → Prop) : Prop := (B26 (x1) (x2) (x3) ((x4 + (1 : Int32))) S)
set_option maxRecDepth 20000 in
theorem t_X8_storm_70 {X : bf_X} (C : bf_C X RX8 cX8_storm 8 (some .int)) (hR : bf_Rm X 6 148) (S : bT8) (x1 : Int32) (x2 : Int32) (x3 : Int32) (x4 : Int32) (Q : Int32 → (bT8) → Prop) (B26 : Int32 → Int32 → Int32 → Int32 → (bT8) → Prop) (hB26 : ∀ (x1 : Int32) (x2 : Int32) (x3 : Int32) (x4 : Int32) (S : bT8), B26 x1 x2 x3 x4 S → bf_A X (bf_Zi X bW8 Q) 8 26 [some (.ref 0), some (.int x1), some (.int x2), some (.int x3), some (.int x4), none, none, none] [] (bW8 S)) (h : wp_X8_storm_70 S x1 x2 x3 x4 Q B26) : bf_A X (bf_Zi X bW8 Q) 8 70 [some (.ref 0), some (.int x1), some (.int x2), some (.int x3), some (.int x4), none, none, none] [] (bW8 S) := by
  unfold wp_X8_storm_70 at h
  refine bs_iinc C (bf_dk dd_X8_storm 37 rfl) (x4 + (1 : Int32)) rfl rfl (Nat.le_of_ble_eq_true rfl) (Nat.le_of_ble_eq_true rfl) (lv2 := [some (.ref 0), some (.int x1), some (.int x2), some (.int x3), some (.int (x4 + (1 : Int32))), none, none, none]) rfl ?_
  refine bs_goto C (bf_dk dd_X8_storm 38 rfl) (tgt := 26) rfl ?_
  exact bs_weak (bf_s1 (bf_s1 (bf_s1 (bf_s1 (bf_s1 (bf_sn (bf_sn (bf_sn bf_s0)))))))) (hB26 (x1) (x2) (x3) ((x4 + (1 : Int32))) S h)
def wp_X8_storm_26b (S : bT8) (x1 : Int32) (x2 : Int32) (x3 : Int32) (x4 : Int32) (Q : Int32 → (bT8) → Prop) (B26 : Int32 → Int32 → Int32 → Int32 → (bT8) → Prop) : Prop := ((x1 ≤ x4 → (Q x3 S)) ∧ (¬ x1 ≤ x4 → (wp_X2_draw (b8g_now S) (x2) (fun r1 u2 => (∀ S3 : bT8, S3 = (b8s_now S u2) → (wp_X2_drawBytes (b8g_now S3) ((r1 + (1 : Int32))) (fun r4 u5 => (∀ S6 : bT8, S6 = (b8s_now S3 u5) → (wp_X8_askKey S6 (r4) ((r1 + (1 : Int32))) (fun r7 u8 => ((¬ r7 = (2 : Int32) → (wp_X8_storm_70 u8 (x1) (x2) (x3) (x4) Q B26)) ∧ (r7 = (2 : Int32) → (wp_X8_storm_70 u8 (x1) (x2) ((x3 + (1 : Int32))) (x4) Q B26)))))))))))))
set_option maxRecDepth 20000 in
theorem t_X8_storm_26b {X : bf_X} (C : bf_C X RX8 cX8_storm 8 (some .int)) (hR : bf_Rm X 6 148) (S : bT8) (x1 : Int32) (x2 : Int32) (x3 : Int32) (x4 : Int32) (Q : Int32 → (bT8) → Prop) (B26 : Int32 → Int32 → Int32 → Int32 → (bT8) → Prop) (hB26 : ∀ (x1 : Int32) (x2 : Int32) (x3 : Int32) (x4 : Int32) (S : bT8), B26 x1 x2 x3 x4 S → bf_A X (bf_Zi X bW8 Q) 8 26 [some (.ref 0), some (.int x1), some (.int x2), some (.int x3), some (.int x4), none, none, none] [] (bW8 S)) (h : wp_X8_storm_26b S x1 x2 x3 x4 Q B26) : bf_A X (bf_Zi X bW8 Q) 8 26 [some (.ref 0), some (.int x1), some (.int x2), some (.int x3), some (.int x4), none, none, none] [] (bW8 S) := by
  unfold wp_X8_storm_26b at h
  refine bs_iload C (bf_dk dd_X8_storm 15 rfl) rfl ?_
  refine bs_iload_n C (bf_dk dd_X8_storm 16 rfl) rfl ?_
  refine bs_icmp_ge C (bf_dk dd_X8_storm 17 rfl) (tgt := 76) rfl (fun c => ?_) (fun c => ?_)
  · replace h := h.1 c
    refine bs_iload_n C (bf_dk dd_X8_storm 39 rfl) rfl ?_
    exact bs_iret (u := S) C (bf_dk dd_X8_storm 40 rfl) rfl h
  · replace h := h.2 c
    refine bs_aload_n C (bf_dk dd_X8_storm 18 rfl) rfl ?_
    refine bs_get C (bf_dk dd_X8_storm 19 rfl) cl_8 in_8 0 (Nat.le_of_ble_eq_true rfl) rfl f_8_12 (ge_bW8_0 S) rfl ?_
    refine bs_iload_n C (bf_dk dd_X8_storm 20 rfl) rfl ?_
    refine bs_callV_i (ps := [1, 2, 3, 4, 5, 6, 7, 8, 9, 10, 11, 12, 13, 14, 15]) (w := (bW8 S)) C hR (c_X2_draw _ _ _ _ _ (b8g_now S) (x2) _ h) my_X2_draw m_8_146 rfl cl_2 (ge_bW2_0 _) rfl (Nat.le_of_ble_eq_true rfl) (Nat.le_of_ble_eq_true rfl) (su_bW8_1_bW2 S) bnd_1t15 (st := []) (Nat.le_of_ble_eq_true rfl) (bf_dk dd_X8_storm 21 rfl) rfl (fun _ => rfl) (w2 := fun u2 => bW8 (b8s_now S u2)) (pt_bW8_1_bW2 S) (fun r1 u2 h => ?_)
    refine bs_nameS bW8 (fun S3 eS3 => ?_)
    replace h := h S3 eS3
    refine bs_iconst C (bf_dk dd_X8_storm 22 rfl) (1 : Int32) (by decide) ?_
    refine bs_iadd C (bf_dk dd_X8_storm 23 rfl) ?_
    refine bs_istore C (bf_dk dd_X8_storm 24 rfl) (Nat.le_of_ble_eq_true rfl) (Nat.le_of_ble_eq_true rfl) (lv2 := [some (.ref 0), some (.int x1), some (.int x2), some (.int x3), some (.int x4), some (.int (r1 + (1 : Int32))), none, none]) rfl ?_
    refine bs_aload_n C (bf_dk dd_X8_storm 25 rfl) rfl ?_
    refine bs_get C (bf_dk dd_X8_storm 26 rfl) cl_8 in_8 0 (Nat.le_of_ble_eq_true rfl) rfl f_8_12 (ge_bW8_0 S3) rfl ?_
    refine bs_iload C (bf_dk dd_X8_storm 27 rfl) rfl ?_
    refine bs_callV_l (ps := [1, 2, 3, 4, 5, 6, 7, 8, 9, 10, 11, 12, 13, 14, 15]) (w := (bW8 S3)) C hR (c_X2_drawBytes _ _ _ _ _ (b8g_now S3) ((r1 + (1 : Int32))) _ h) my_X2_drawBytes m_8_150 rfl cl_2 (ge_bW2_0 _) rfl (Nat.le_of_ble_eq_true rfl) (Nat.le_of_ble_eq_true rfl) (su_bW8_1_bW2 S3) bnd_1t15 (st := []) (Nat.le_of_ble_eq_true rfl) (bf_dk dd_X8_storm 28 rfl) rfl (fun _ => rfl) (w2 := fun u5 => bW8 (b8s_now S3 u5)) (pt_bW8_1_bW2 S3) (fun r4 u5 h => ?_)
    refine bs_nameS bW8 (fun S6 eS6 => ?_)
    replace h := h S6 eS6
    refine bs_lstore C (bf_dk dd_X8_storm 29 rfl) (Nat.le_of_ble_eq_true rfl) (Nat.le_of_ble_eq_true rfl) (lv2 := [some (.ref 0), some (.int x1), some (.int x2), some (.int x3), some (.int x4), some (.int (r1 + (1 : Int32))), some (.long r4), none]) rfl ?_
    refine bs_aload_n C (bf_dk dd_X8_storm 30 rfl) rfl ?_
    refine bs_lload C (bf_dk dd_X8_storm 31 rfl) rfl ?_
    refine bs_iload C (bf_dk dd_X8_storm 32 rfl) rfl ?_
    refine bs_selfV_i C hR (c_X8_askKey _ _ _ _ _ S6 (r4) ((r1 + (1 : Int32))) _ h) my_X8_askKey m_8_166 rfl cl_8 (ge_bW8_0 _) rfl (Nat.le_of_ble_eq_true rfl) (Nat.le_of_ble_eq_true rfl) (st := []) (Nat.le_of_ble_eq_true rfl) (bf_dk dd_X8_storm 33 rfl) rfl (len := 68) (fun _ => rfl) (fun r7 u8 h => ?_)
    refine bs_iconst C (bf_dk dd_X8_storm 34 rfl) (2 : Int32) (by decide) ?_
    refine bs_icmp_ne C (bf_dk dd_X8_storm 35 rfl) (tgt := 70) rfl (fun c => ?_) (fun c => ?_)
    · replace h := h.1 c
      exact bs_weak (bf_s1 (bf_s1 (bf_s1 (bf_s1 (bf_s1 (bf_sn (bf_sn (bf_sn bf_s0)))))))) (t_X8_storm_70 C hR u8 (x1) (x2) (x3) (x4) Q B26 hB26 h)
    · replace h := h.2 c
      refine bs_iinc C (bf_dk dd_X8_storm 36 rfl) (x3 + (1 : Int32)) rfl rfl (Nat.le_of_ble_eq_true rfl) (Nat.le_of_ble_eq_true rfl) (lv2 := [some (.ref 0), some (.int x1), some (.int x2), some (.int (x3 + (1 : Int32))), some (.int x4), some (.int (r1 + (1 : Int32))), some (.long r4), none]) rfl ?_
      exact bs_weak (bf_s1 (bf_s1 (bf_s1 (bf_s1 (bf_s1 (bf_sn (bf_sn (bf_sn bf_s0)))))))) (t_X8_storm_70 C hR u8 (x1) (x2) ((x3 + (1 : Int32))) (x4) Q B26 hB26 h)
def wp_X8_storm_26 (S : bT8) (x1 : Int32) (x2 : Int32) (x3 : Int32) (x4 : Int32) (Q : Int32 → (bT8) → Prop) : Prop := ∃ I : Nat → Int32 → Int32 → Int32 → Int32 → (bT8) → Prop, (∃ n : Nat, I n x1 x2 x3 x4 S) ∧ ∀ (n : Nat) (x1 : Int32) (x2 : Int32) (x3 : Int32) (x4 : Int32) (S : bT8), I n x1 x2 x3 x4 S → wp_X8_storm_26b S x1 x2 x3 x4 Q (fun x1 x2 x3 x4 S => ∃ n2 : Nat, n2 < n ∧ I n2 x1 x2 x3 x4 S)
theorem t_X8_storm_26 {X : bf_X} (C : bf_C X RX8 cX8_storm 8 (some .int)) (hR : bf_Rm X 6 148) (S : bT8) (x1 : Int32) (x2 : Int32) (x3 : Int32) (x4 : Int32) (Q : Int32 → (bT8) → Prop) (h : wp_X8_storm_26 S x1 x2 x3 x4 Q) : bf_A X (bf_Zi X bW8 Q) 8 26 [some (.ref 0), some (.int x1), some (.int x2), some (.int x3), some (.int x4), none, none, none] [] (bW8 S) := by
  obtain ⟨I, ⟨n0, h0⟩, hI⟩ := h
  have key : ∀ (n : Nat) (x1 : Int32) (x2 : Int32) (x3 : Int32) (x4 : Int32) (S : bT8), I n x1 x2 x3 x4 S → bf_A X (bf_Zi X bW8 Q) 8 26 [some (.ref 0), some (.int x1), some (.int x2), some (.int x3), some (.int x4), none, none, none] [] (bW8 S) := by
    intro n
    induction n using Nat.strongRecOn with
    | _ n ih =>
      intro x1 x2 x3 x4 S hi
      exact t_X8_storm_26b C hR S x1 x2 x3 x4 Q _ (fun x1 x2 x3 x4 S hb => by obtain ⟨n2, hn, hi2⟩ := hb; exact ih n2 hn x1 x2 x3 x4 S hi2) (hI n x1 x2 x3 x4 S hi)
  exact key n0 x1 x2 x3 x4 S h0
def wp_X8_storm (S : bT8) (a1 : Int32) (a2 : Int32) (Q : Int32 → (bT8) → Prop) : Prop := ((a1 < (1 : Int32) → (Q (-1 : Int32) S)) ∧ (¬ a1 < (1 : Int32) → (((200 : Int32) < a1 → (Q (-1 : Int32) S)) ∧ (¬ (200 : Int32) < a1 → (wp_X8_isLength (a2) (fun r9 => ((¬ r9 = 0 → (wp_X8_storm_26 S (a1) (a2) ((0 : Int32)) ((0 : Int32)) Q)) ∧ (r9 = 0 → (Q (-1 : Int32) S)))))))))
set_option maxRecDepth 20000 in
theorem t_X8_storm {X : bf_X} (C : bf_C X RX8 cX8_storm 8 (some .int)) (hR : bf_Rm X 6 148) (S : bT8) (a1 : Int32) (a2 : Int32) (Q : Int32 → (bT8) → Prop) (h : wp_X8_storm S a1 a2 Q) : bf_A X (bf_Zi X bW8 Q) 8 0 [some (.ref 0), some (.int a1), some (.int a2), none, none, none, none, none] [] (bW8 S) := by
  unfold wp_X8_storm at h
  refine bs_iload_n C (bf_dk dd_X8_storm 0 rfl) rfl ?_
  refine bs_iconst C (bf_dk dd_X8_storm 1 rfl) (1 : Int32) (by decide) ?_
  refine bs_icmp_lt C (bf_dk dd_X8_storm 2 rfl) (tgt := 19) rfl (fun c => ?_) (fun c => ?_)
  · replace h := h.1 c
    refine bs_iconst C (bf_dk dd_X8_storm 9 rfl) (-1 : Int32) (by decide) ?_
    exact bs_iret (u := S) C (bf_dk dd_X8_storm 10 rfl) rfl h
  · replace h := h.2 c
    refine bs_iload_n C (bf_dk dd_X8_storm 3 rfl) rfl ?_
    refine bs_sipush C (bf_dk dd_X8_storm 4 rfl) (200 : Int32) (by decide) ?_
    refine bs_icmp_gt C (bf_dk dd_X8_storm 5 rfl) (tgt := 19) rfl (fun c => ?_) (fun c => ?_)
    · replace h := h.1 c
      refine bs_iconst C (bf_dk dd_X8_storm 9 rfl) (-1 : Int32) (by decide) ?_
      exact bs_iret (u := S) C (bf_dk dd_X8_storm 10 rfl) rfl h
    · replace h := h.2 c
      refine bs_iload_n C (bf_dk dd_X8_storm 6 rfl) rfl ?_
      refine bs_pureS_i (ps := []) (w := (bW8 S)) C hR (c_X8_isLength _ _ _ _ _ (a2) _ h) my_X8_isLength m_8_128 rfl (Nat.le_of_ble_eq_true rfl) (Nat.le_of_ble_eq_true rfl) rfl rfl (st := []) (Nat.le_of_ble_eq_true rfl) (bf_dk dd_X8_storm 7 rfl) rfl (fun _ => rfl) (fun r9 h => ?_)
      refine bs_if_ne C (bf_dk dd_X8_storm 8 rfl) (tgt := 21) rfl (fun c => ?_) (fun c => ?_)
      · replace h := h.1 c
        refine bs_iconst C (bf_dk dd_X8_storm 11 rfl) (0 : Int32) (by decide) ?_
        refine bs_istore_n C (bf_dk dd_X8_storm 12 rfl) rfl (Nat.le_of_ble_eq_true rfl) (Nat.le_of_ble_eq_true rfl) (lv2 := [some (.ref 0), some (.int a1), some (.int a2), some (.int (0 : Int32)), none, none, none, none]) rfl ?_
        refine bs_iconst C (bf_dk dd_X8_storm 13 rfl) (0 : Int32) (by decide) ?_
        refine bs_istore C (bf_dk dd_X8_storm 14 rfl) (Nat.le_of_ble_eq_true rfl) (Nat.le_of_ble_eq_true rfl) (lv2 := [some (.ref 0), some (.int a1), some (.int a2), some (.int (0 : Int32)), some (.int (0 : Int32)), none, none, none]) rfl ?_
        exact bs_weak (bf_s1 (bf_s1 (bf_s1 (bf_s1 (bf_s1 (bf_sn (bf_sn (bf_sn bf_s0)))))))) (t_X8_storm_26 C hR S (a1) (a2) ((0 : Int32)) ((0 : Int32)) Q h)
      · replace h := h.2 c
        refine bs_iconst C (bf_dk dd_X8_storm 9 rfl) (-1 : Int32) (by decide) ?_
        exact bs_iret (u := S) C (bf_dk dd_X8_storm 10 rfl) rfl h
theorem c_X8_storm (l : Launch) (dC : Nat → ClassId) (dI : Nat → Nat → Nat) (ac : Nat → ClassId) (al : Nat → Nat) (S : bT8) (a1 : Int32) (a2 : Int32) (Q : Int32 → (bT8) → Prop) (h : wp_X8_storm S a1 a2 Q) : bf_M l yX8_storm cX8_storm 8 (some .int) 6 148 dC dI ac al [.ref 0, .int a1, .int a2] (bW8 S) (bf_Ki dC dI ac al bW8 Q) := by
  refine bf_start [some (.ref 0), some (.int a1), some (.int a2), none, none, none, none, none] (by decide) (Nat.le_of_ble_eq_true rfl) (bf_s1 (bf_s1 (bf_s1 (bf_en 5)))) ?_
  intro X hl C hR e1 e2 e3 e4
  subst e1; subst e2; subst e3; subst e4
  exact t_X8_storm C hR S a1 a2 Q h
def wp_X8_stormRange_127 (S : bT8) (x1 : Int32) (x2 : Int32) (x3 : Int32) (x4 : Int32) (x5 : Int32) (Q : Int32 → (bT8) → Prop) (B38 : Int32 → Int32 → Int32 → Int32 → Int32 → (bT8) → Prop) : Prop := (B38 (x1) (x2) (x3) (x4) ((x5 + (1 : Int32))) S)
set_option maxRecDepth 20000 in
theorem t_X8_stormRange_127 {X : bf_X} (C : bf_C X RX8 cX8_stormRange 12 (some .int)) (hR : bf_Rm X 5 129) (S : bT8) (x1 : Int32) (x2 : Int32) (x3 : Int32) (x4 : Int32) (x5 : Int32) (Q : Int32 → (bT8) → Prop) (B38 : Int32 → Int32 → Int32 → Int32 → Int32 → (bT8) → Prop) (hB38 : ∀ (x1 : Int32) (x2 : Int32) (x3 : Int32) (x4 : Int32) (x5 : Int32) (S : bT8), B38 x1 x2 x3 x4 x5 S → bf_A X (bf_Zi X bW8 Q) 12 38 [some (.ref 0), some (.int x1), some (.int x2), some (.int x3), some (.int x4), some (.int x5), none, none, none, none, none, none] [] (bW8 S)) (h : wp_X8_stormRange_127 S x1 x2 x3 x4 x5 Q B38) : bf_A X (bf_Zi X bW8 Q) 12 127 [some (.ref 0), some (.int x1), some (.int x2), some (.int x3), some (.int x4), some (.int x5), none, none, none, none, none, none] [] (bW8 S) := by
  unfold wp_X8_stormRange_127 at h
  refine bs_iinc C (bf_dk dd_X8_stormRange 67 rfl) (x5 + (1 : Int32)) rfl rfl (Nat.le_of_ble_eq_true rfl) (Nat.le_of_ble_eq_true rfl) (lv2 := [some (.ref 0), some (.int x1), some (.int x2), some (.int x3), some (.int x4), some (.int (x5 + (1 : Int32))), none, none, none, none, none, none]) rfl ?_
  refine bs_goto C (bf_dk dd_X8_stormRange 68 rfl) (tgt := 38) rfl ?_
  exact bs_weak (bf_s1 (bf_s1 (bf_s1 (bf_s1 (bf_s1 (bf_s1 (bf_sn (bf_sn (bf_sn (bf_sn (bf_sn (bf_sn bf_s0)))))))))))) (hB38 (x1) (x2) (x3) (x4) ((x5 + (1 : Int32))) S h)
def wp_X8_stormRange_38b (S : bT8) (x1 : Int32) (x2 : Int32) (x3 : Int32) (x4 : Int32) (x5 : Int32) (Q : Int32 → (bT8) → Prop) (B38 : Int32 → Int32 → Int32 → Int32 → Int32 → (bT8) → Prop) : Prop := ((x1 ≤ x5 → (Q x4 S)) ∧ (¬ x1 ≤ x5 → (wp_X2_draw (b8g_now S) (x2) (fun r1 u2 => (∀ S3 : bT8, S3 = (b8s_now S u2) → (wp_X2_drawBytes (b8g_now S3) ((r1 + (1 : Int32))) (fun r4 u5 => (∀ S6 : bT8, S6 = (b8s_now S3 u5) → (wp_X8_octetAt (r4) (((r1 + (1 : Int32)) - (1 : Int32))) (fun r7 => (wp_X8_front (((r1 + (1 : Int32)) - (1 : Int32))) (fun r9 => (wp_X8_octetTo ((if (255 : Int32) < (r7 + x3) then (255 : Int32) else (r7 + x3))) (((r1 + (1 : Int32)) - (1 : Int32))) (fun r11 => (wp_X8_askRange S6 (r4) ((r1 + (1 : Int32))) (((r4 &&& r9) ||| r11)) ((r1 + (1 : Int32))) (fun r13 u14 => ((¬ r13 = (2 : Int32) → (wp_X8_stormRange_127 u14 (x1) (x2) (x3) (x4) (x5) Q B38)) ∧ (r13 = (2 : Int32) → (wp_X8_stormRange_127 u14 (x1) (x2) (x3) ((x4 + (1 : Int32))) (x5) Q B38)))))))))))))))))))
set_option maxRecDepth 20000 in
theorem t_X8_stormRange_38b {X : bf_X} (C : bf_C X RX8 cX8_stormRange 12 (some .int)) (hR : bf_Rm X 5 129) (S : bT8) (x1 : Int32) (x2 : Int32) (x3 : Int32) (x4 : Int32) (x5 : Int32) (Q : Int32 → (bT8) → Prop) (B38 : Int32 → Int32 → Int32 → Int32 → Int32 → (bT8) → Prop) (hB38 : ∀ (x1 : Int32) (x2 : Int32) (x3 : Int32) (x4 : Int32) (x5 : Int32) (S : bT8), B38 x1 x2 x3 x4 x5 S → bf_A X (bf_Zi X bW8 Q) 12 38 [some (.ref 0), some (.int x1), some (.int x2), some (.int x3), some (.int x4), some (.int x5), none, none, none, none, none, none] [] (bW8 S)) (h : wp_X8_stormRange_38b S x1 x2 x3 x4 x5 Q B38) : bf_A X (bf_Zi X bW8 Q) 12 38 [some (.ref 0), some (.int x1), some (.int x2), some (.int x3), some (.int x4), some (.int x5), none, none, none, none, none, none] [] (bW8 S) := by
  unfold wp_X8_stormRange_38b at h
  refine bs_iload C (bf_dk dd_X8_stormRange 20 rfl) rfl ?_
  refine bs_iload_n C (bf_dk dd_X8_stormRange 21 rfl) rfl ?_
  refine bs_icmp_ge C (bf_dk dd_X8_stormRange 22 rfl) (tgt := 133) rfl (fun c => ?_) (fun c => ?_)
  · replace h := h.1 c
    refine bs_iload C (bf_dk dd_X8_stormRange 69 rfl) rfl ?_
    exact bs_iret (u := S) C (bf_dk dd_X8_stormRange 70 rfl) rfl h
  · replace h := h.2 c
    refine bs_aload_n C (bf_dk dd_X8_stormRange 23 rfl) rfl ?_
    refine bs_get C (bf_dk dd_X8_stormRange 24 rfl) cl_8 in_8 0 (Nat.le_of_ble_eq_true rfl) rfl f_8_12 (ge_bW8_0 S) rfl ?_
    refine bs_iload_n C (bf_dk dd_X8_stormRange 25 rfl) rfl ?_
    refine bs_callV_i (ps := [1, 2, 3, 4, 5, 6, 7, 8, 9, 10, 11, 12, 13, 14, 15]) (w := (bW8 S)) C hR (c_X2_draw _ _ _ _ _ (b8g_now S) (x2) _ h) my_X2_draw m_8_146 rfl cl_2 (ge_bW2_0 _) rfl (Nat.le_of_ble_eq_true rfl) (Nat.le_of_ble_eq_true rfl) (su_bW8_1_bW2 S) bnd_1t15 (st := []) (Nat.le_of_ble_eq_true rfl) (bf_dk dd_X8_stormRange 26 rfl) rfl (fun _ => rfl) (w2 := fun u2 => bW8 (b8s_now S u2)) (pt_bW8_1_bW2 S) (fun r1 u2 h => ?_)
    refine bs_nameS bW8 (fun S3 eS3 => ?_)
    replace h := h S3 eS3
    refine bs_iconst C (bf_dk dd_X8_stormRange 27 rfl) (1 : Int32) (by decide) ?_
    refine bs_iadd C (bf_dk dd_X8_stormRange 28 rfl) ?_
    refine bs_istore C (bf_dk dd_X8_stormRange 29 rfl) (Nat.le_of_ble_eq_true rfl) (Nat.le_of_ble_eq_true rfl) (lv2 := [some (.ref 0), some (.int x1), some (.int x2), some (.int x3), some (.int x4), some (.int x5), some (.int (r1 + (1 : Int32))), none, none, none, none, none]) rfl ?_
    refine bs_aload_n C (bf_dk dd_X8_stormRange 30 rfl) rfl ?_
    refine bs_get C (bf_dk dd_X8_stormRange 31 rfl) cl_8 in_8 0 (Nat.le_of_ble_eq_true rfl) rfl f_8_12 (ge_bW8_0 S3) rfl ?_
    refine bs_iload C (bf_dk dd_X8_stormRange 32 rfl) rfl ?_
    refine bs_callV_l (ps := [1, 2, 3, 4, 5, 6, 7, 8, 9, 10, 11, 12, 13, 14, 15]) (w := (bW8 S3)) C hR (c_X2_drawBytes _ _ _ _ _ (b8g_now S3) ((r1 + (1 : Int32))) _ h) my_X2_drawBytes m_8_150 rfl cl_2 (ge_bW2_0 _) rfl (Nat.le_of_ble_eq_true rfl) (Nat.le_of_ble_eq_true rfl) (su_bW8_1_bW2 S3) bnd_1t15 (st := []) (Nat.le_of_ble_eq_true rfl) (bf_dk dd_X8_stormRange 33 rfl) rfl (fun _ => rfl) (w2 := fun u5 => bW8 (b8s_now S3 u5)) (pt_bW8_1_bW2 S3) (fun r4 u5 h => ?_)
    refine bs_nameS bW8 (fun S6 eS6 => ?_)
    replace h := h S6 eS6
    refine bs_lstore C (bf_dk dd_X8_stormRange 34 rfl) (Nat.le_of_ble_eq_true rfl) (Nat.le_of_ble_eq_true rfl) (lv2 := [some (.ref 0), some (.int x1), some (.int x2), some (.int x3), some (.int x4), some (.int x5), some (.int (r1 + (1 : Int32))), some (.long r4), none, none, none, none]) rfl ?_
    refine bs_lload C (bf_dk dd_X8_stormRange 35 rfl) rfl ?_
    refine bs_iload C (bf_dk dd_X8_stormRange 36 rfl) rfl ?_
    refine bs_iconst C (bf_dk dd_X8_stormRange 37 rfl) (1 : Int32) (by decide) ?_
    refine bs_isub C (bf_dk dd_X8_stormRange 38 rfl) ?_
    refine bs_pureS_i (ps := []) (w := (bW8 S6)) C hR (c_X8_octetAt _ _ _ _ _ (r4) (((r1 + (1 : Int32)) - (1 : Int32))) _ h) my_X8_octetAt m_8_222 rfl (Nat.le_of_ble_eq_true rfl) (Nat.le_of_ble_eq_true rfl) rfl rfl (st := []) (Nat.le_of_ble_eq_true rfl) (bf_dk dd_X8_stormRange 39 rfl) rfl (fun _ => rfl) (fun r7 h => ?_)
    refine bs_istore C (bf_dk dd_X8_stormRange 40 rfl) (Nat.le_of_ble_eq_true rfl) (Nat.le_of_ble_eq_true rfl) (lv2 := [some (.ref 0), some (.int x1), some (.int x2), some (.int x3), some (.int x4), some (.int x5), some (.int (r1 + (1 : Int32))), some (.long r4), none, some (.int r7), none, none]) rfl ?_
    refine bs_lload C (bf_dk dd_X8_stormRange 41 rfl) rfl ?_
    refine bs_iload C (bf_dk dd_X8_stormRange 42 rfl) rfl ?_
    refine bs_iconst C (bf_dk dd_X8_stormRange 43 rfl) (1 : Int32) (by decide) ?_
    refine bs_isub C (bf_dk dd_X8_stormRange 44 rfl) ?_
    refine bs_pureS_l (ps := []) (w := (bW8 S6)) C hR (c_X8_front _ _ _ _ _ (((r1 + (1 : Int32)) - (1 : Int32))) _ h) my_X8_front m_8_353 rfl (Nat.le_of_ble_eq_true rfl) (Nat.le_of_ble_eq_true rfl) rfl rfl (st := [.long r4]) (Nat.le_of_ble_eq_true rfl) (bf_dk dd_X8_stormRange 45 rfl) rfl (fun _ => rfl) (fun r9 h => ?_)
    refine bs_land C (bf_dk dd_X8_stormRange 46 rfl) ?_
    refine bs_iload C (bf_dk dd_X8_stormRange 47 rfl) rfl ?_
    refine bs_iload_n C (bf_dk dd_X8_stormRange 48 rfl) rfl ?_
    refine bs_iadd C (bf_dk dd_X8_stormRange 49 rfl) ?_
    refine bs_sipush C (bf_dk dd_X8_stormRange 50 rfl) (255 : Int32) (by decide) ?_
    refine bs_mmin C hR m_8_356 ma_min.1 ma_min.2.1 ma_min.2.2 (Nat.le_of_ble_eq_true rfl) (Nat.le_of_ble_eq_true rfl) (bf_dk dd_X8_stormRange 51 rfl) ?_
    refine bs_iload C (bf_dk dd_X8_stormRange 52 rfl) rfl ?_
    refine bs_iconst C (bf_dk dd_X8_stormRange 53 rfl) (1 : Int32) (by decide) ?_
    refine bs_isub C (bf_dk dd_X8_stormRange 54 rfl) ?_
    refine bs_pureS_l (ps := []) (w := (bW8 S6)) C hR (c_X8_octetTo _ _ _ _ _ ((if (255 : Int32) < (r7 + x3) then (255 : Int32) else (r7 + x3))) (((r1 + (1 : Int32)) - (1 : Int32))) _ h) my_X8_octetTo m_8_326 rfl (Nat.le_of_ble_eq_true rfl) (Nat.le_of_ble_eq_true rfl) rfl rfl (st := [.long (r4 &&& r9)]) (Nat.le_of_ble_eq_true rfl) (bf_dk dd_X8_stormRange 55 rfl) rfl (fun _ => rfl) (fun r11 h => ?_)
    refine bs_lor C (bf_dk dd_X8_stormRange 56 rfl) ?_
    refine bs_lstore C (bf_dk dd_X8_stormRange 57 rfl) (Nat.le_of_ble_eq_true rfl) (Nat.le_of_ble_eq_true rfl) (lv2 := [some (.ref 0), some (.int x1), some (.int x2), some (.int x3), some (.int x4), some (.int x5), some (.int (r1 + (1 : Int32))), some (.long r4), none, some (.int r7), some (.long ((r4 &&& r9) ||| r11)), none]) rfl ?_
    refine bs_aload_n C (bf_dk dd_X8_stormRange 58 rfl) rfl ?_
    refine bs_lload C (bf_dk dd_X8_stormRange 59 rfl) rfl ?_
    refine bs_iload C (bf_dk dd_X8_stormRange 60 rfl) rfl ?_
    refine bs_lload C (bf_dk dd_X8_stormRange 61 rfl) rfl ?_
    refine bs_iload C (bf_dk dd_X8_stormRange 62 rfl) rfl ?_
    refine bs_selfV_i C hR (c_X8_askRange _ _ _ _ _ S6 (r4) ((r1 + (1 : Int32))) (((r4 &&& r9) ||| r11)) ((r1 + (1 : Int32))) _ h) my_X8_askRange m_8_176 rfl cl_8 (ge_bW8_0 _) rfl (Nat.le_of_ble_eq_true rfl) (Nat.le_of_ble_eq_true rfl) (st := []) (Nat.le_of_ble_eq_true rfl) (bf_dk dd_X8_stormRange 63 rfl) rfl (len := 68) (fun _ => rfl) (fun r13 u14 h => ?_)
    refine bs_iconst C (bf_dk dd_X8_stormRange 64 rfl) (2 : Int32) (by decide) ?_
    refine bs_icmp_ne C (bf_dk dd_X8_stormRange 65 rfl) (tgt := 127) rfl (fun c => ?_) (fun c => ?_)
    · replace h := h.1 c
      exact bs_weak (bf_s1 (bf_s1 (bf_s1 (bf_s1 (bf_s1 (bf_s1 (bf_sn (bf_sn (bf_sn (bf_sn (bf_sn (bf_sn bf_s0)))))))))))) (t_X8_stormRange_127 C hR u14 (x1) (x2) (x3) (x4) (x5) Q B38 hB38 h)
    · replace h := h.2 c
      refine bs_iinc C (bf_dk dd_X8_stormRange 66 rfl) (x4 + (1 : Int32)) rfl rfl (Nat.le_of_ble_eq_true rfl) (Nat.le_of_ble_eq_true rfl) (lv2 := [some (.ref 0), some (.int x1), some (.int x2), some (.int x3), some (.int (x4 + (1 : Int32))), some (.int x5), some (.int (r1 + (1 : Int32))), some (.long r4), none, some (.int r7), some (.long ((r4 &&& r9) ||| r11)), none]) rfl ?_
      exact bs_weak (bf_s1 (bf_s1 (bf_s1 (bf_s1 (bf_s1 (bf_s1 (bf_sn (bf_sn (bf_sn (bf_sn (bf_sn (bf_sn bf_s0)))))))))))) (t_X8_stormRange_127 C hR u14 (x1) (x2) (x3) ((x4 + (1 : Int32))) (x5) Q B38 hB38 h)
def wp_X8_stormRange_38 (S : bT8) (x1 : Int32) (x2 : Int32) (x3 : Int32) (x4 : Int32) (x5 : Int32) (Q : Int32 → (bT8) → Prop) : Prop := ∃ I : Nat → Int32 → Int32 → Int32 → Int32 → Int32 → (bT8) → Prop, (∃ n : Nat, I n x1 x2 x3 x4 x5 S) ∧ ∀ (n : Nat) (x1 : Int32) (x2 : Int32) (x3 : Int32) (x4 : Int32) (x5 : Int32) (S : bT8), I n x1 x2 x3 x4 x5 S → wp_X8_stormRange_38b S x1 x2 x3 x4 x5 Q (fun x1 x2 x3 x4 x5 S => ∃ n2 : Nat, n2 < n ∧ I n2 x1 x2 x3 x4 x5 S)
theorem t_X8_stormRange_38 {X : bf_X} (C : bf_C X RX8 cX8_stormRange 12 (some .int)) (hR : bf_Rm X 5 129) (S : bT8) (x1 : Int32) (x2 : Int32) (x3 : Int32) (x4 : Int32) (x5 : Int32) (Q : Int32 → (bT8) → Prop) (h : wp_X8_stormRange_38 S x1 x2 x3 x4 x5 Q) : bf_A X (bf_Zi X bW8 Q) 12 38 [some (.ref 0), some (.int x1), some (.int x2), some (.int x3), some (.int x4), some (.int x5), none, none, none, none, none, none] [] (bW8 S) := by
  obtain ⟨I, ⟨n0, h0⟩, hI⟩ := h
  have key : ∀ (n : Nat) (x1 : Int32) (x2 : Int32) (x3 : Int32) (x4 : Int32) (x5 : Int32) (S : bT8), I n x1 x2 x3 x4 x5 S → bf_A X (bf_Zi X bW8 Q) 12 38 [some (.ref 0), some (.int x1), some (.int x2), some (.int x3), some (.int x4), some (.int x5), none, none, none, none, none, none] [] (bW8 S) := by
    intro n
    induction n using Nat.strongRecOn with
    | _ n ih =>
      intro x1 x2 x3 x4 x5 S hi
      exact t_X8_stormRange_38b C hR S x1 x2 x3 x4 x5 Q _ (fun x1 x2 x3 x4 x5 S hb => by obtain ⟨n2, hn, hi2⟩ := hb; exact ih n2 hn x1 x2 x3 x4 x5 S hi2) (hI n x1 x2 x3 x4 x5 S hi)
  exact key n0 x1 x2 x3 x4 x5 S h0
def wp_X8_stormRange (S : bT8) (a1 : Int32) (a2 : Int32) (a3 : Int32) (Q : Int32 → (bT8) → Prop) : Prop := ((a1 < (1 : Int32) → (Q (-1 : Int32) S)) ∧ (¬ a1 < (1 : Int32) → (((200 : Int32) < a1 → (Q (-1 : Int32) S)) ∧ (¬ (200 : Int32) < a1 → (wp_X8_isLength (a2) (fun r15 => ((r15 = 0 → (Q (-1 : Int32) S)) ∧ (¬ r15 = 0 → ((a3 < 0 → (Q (-1 : Int32) S)) ∧ (¬ a3 < 0 → ((a3 < (256 : Int32) → (wp_X8_stormRange_38 S (a1) (a2) (a3) ((0 : Int32)) ((0 : Int32)) Q)) ∧ (¬ a3 < (256 : Int32) → (Q (-1 : Int32) S)))))))))))))
set_option maxRecDepth 20000 in
theorem t_X8_stormRange {X : bf_X} (C : bf_C X RX8 cX8_stormRange 12 (some .int)) (hR : bf_Rm X 5 129) (S : bT8) (a1 : Int32) (a2 : Int32) (a3 : Int32) (Q : Int32 → (bT8) → Prop) (h : wp_X8_stormRange S a1 a2 a3 Q) : bf_A X (bf_Zi X bW8 Q) 12 0 [some (.ref 0), some (.int a1), some (.int a2), some (.int a3), none, none, none, none, none, none, none, none] [] (bW8 S) := by
  unfold wp_X8_stormRange at h
  refine bs_iload_n C (bf_dk dd_X8_stormRange 0 rfl) rfl ?_
  refine bs_iconst C (bf_dk dd_X8_stormRange 1 rfl) (1 : Int32) (by decide) ?_
  refine bs_icmp_lt C (bf_dk dd_X8_stormRange 2 rfl) (tgt := 30) rfl (fun c => ?_) (fun c => ?_)
  · replace h := h.1 c
    refine bs_iconst C (bf_dk dd_X8_stormRange 14 rfl) (-1 : Int32) (by decide) ?_
    exact bs_iret (u := S) C (bf_dk dd_X8_stormRange 15 rfl) rfl h
  · replace h := h.2 c
    refine bs_iload_n C (bf_dk dd_X8_stormRange 3 rfl) rfl ?_
    refine bs_sipush C (bf_dk dd_X8_stormRange 4 rfl) (200 : Int32) (by decide) ?_
    refine bs_icmp_gt C (bf_dk dd_X8_stormRange 5 rfl) (tgt := 30) rfl (fun c => ?_) (fun c => ?_)
    · replace h := h.1 c
      refine bs_iconst C (bf_dk dd_X8_stormRange 14 rfl) (-1 : Int32) (by decide) ?_
      exact bs_iret (u := S) C (bf_dk dd_X8_stormRange 15 rfl) rfl h
    · replace h := h.2 c
      refine bs_iload_n C (bf_dk dd_X8_stormRange 6 rfl) rfl ?_
      refine bs_pureS_i (ps := []) (w := (bW8 S)) C hR (c_X8_isLength _ _ _ _ _ (a2) _ h) my_X8_isLength m_8_128 rfl (Nat.le_of_ble_eq_true rfl) (Nat.le_of_ble_eq_true rfl) rfl rfl (st := []) (Nat.le_of_ble_eq_true rfl) (bf_dk dd_X8_stormRange 7 rfl) rfl (fun _ => rfl) (fun r15 h => ?_)
      refine bs_if_eq C (bf_dk dd_X8_stormRange 8 rfl) (tgt := 30) rfl (fun c => ?_) (fun c => ?_)
      · replace h := h.1 c
        refine bs_iconst C (bf_dk dd_X8_stormRange 14 rfl) (-1 : Int32) (by decide) ?_
        exact bs_iret (u := S) C (bf_dk dd_X8_stormRange 15 rfl) rfl h
      · replace h := h.2 c
        refine bs_iload_n C (bf_dk dd_X8_stormRange 9 rfl) rfl ?_
        refine bs_if_lt C (bf_dk dd_X8_stormRange 10 rfl) (tgt := 30) rfl (fun c => ?_) (fun c => ?_)
        · replace h := h.1 c
          refine bs_iconst C (bf_dk dd_X8_stormRange 14 rfl) (-1 : Int32) (by decide) ?_
          exact bs_iret (u := S) C (bf_dk dd_X8_stormRange 15 rfl) rfl h
        · replace h := h.2 c
          refine bs_iload_n C (bf_dk dd_X8_stormRange 11 rfl) rfl ?_
          refine bs_sipush C (bf_dk dd_X8_stormRange 12 rfl) (256 : Int32) (by decide) ?_
          refine bs_icmp_lt C (bf_dk dd_X8_stormRange 13 rfl) (tgt := 32) rfl (fun c => ?_) (fun c => ?_)
          · replace h := h.1 c
            refine bs_iconst C (bf_dk dd_X8_stormRange 16 rfl) (0 : Int32) (by decide) ?_
            refine bs_istore C (bf_dk dd_X8_stormRange 17 rfl) (Nat.le_of_ble_eq_true rfl) (Nat.le_of_ble_eq_true rfl) (lv2 := [some (.ref 0), some (.int a1), some (.int a2), some (.int a3), some (.int (0 : Int32)), none, none, none, none, none, none, none]) rfl ?_
            refine bs_iconst C (bf_dk dd_X8_stormRange 18 rfl) (0 : Int32) (by decide) ?_
            refine bs_istore C (bf_dk dd_X8_stormRange 19 rfl) (Nat.le_of_ble_eq_true rfl) (Nat.le_of_ble_eq_true rfl) (lv2 := [some (.ref 0), some (.int a1), some (.int a2), some (.int a3), some (.int (0 : Int32)), some (.int (0 : Int32)), none, none, none, none, none, none]) rfl ?_
            exact bs_weak (bf_s1 (bf_s1 (bf_s1 (bf_s1 (bf_s1 (bf_s1 (bf_sn (bf_sn (bf_sn (bf_sn (bf_sn (bf_sn bf_s0)))))))))))) (t_X8_stormRange_38 C hR S (a1) (a2) (a3) ((0 : Int32)) ((0 : Int32)) Q h)
          · replace h := h.2 c
            refine bs_iconst C (bf_dk dd_X8_stormRange 14 rfl) (-1 : Int32) (by decide) ?_
            exact bs_iret (u := S) C (bf_dk dd_X8_stormRange 15 rfl) rfl h
theorem c_X8_stormRange (l : Launch) (dC : Nat → ClassId) (dI : Nat → Nat → Nat) (ac : Nat → ClassId) (al : Nat → Nat) (S : bT8) (a1 : Int32) (a2 : Int32) (a3 : Int32) (Q : Int32 → (bT8) → Prop) (h : wp_X8_stormRange S a1 a2 a3 Q) : bf_M l yX8_stormRange cX8_stormRange 12 (some .int) 5 129 dC dI ac al [.ref 0, .int a1, .int a2, .int a3] (bW8 S) (bf_Ki dC dI ac al bW8 Q) := by
  refine bf_start [some (.ref 0), some (.int a1), some (.int a2), some (.int a3), none, none, none, none, none, none, none, none] (by decide) (Nat.le_of_ble_eq_true rfl) (bf_s1 (bf_s1 (bf_s1 (bf_s1 (bf_en 8))))) ?_
  intro X hl C hR e1 e2 e3 e4
  subst e1; subst e2; subst e3; subst e4
  exact t_X8_stormRange C hR S a1 a2 a3 Q h
def wp_X8_account (S : bT8) (a1 : Int32) (Q : Int32 → Prop) : Prop := ((a1 < 0 → (Q (-1 : Int32))) ∧ (¬ a1 < 0 → (((6 : Int32) ≤ a1 → (Q (-1 : Int32))) ∧ (¬ (6 : Int32) ≤ a1 → (wp_X8_at 6 (b2g_answers (b8g_now S)) (a1) (fun r1 => (Q r1)))))))
set_option maxRecDepth 20000 in
theorem t_X8_account {X : bf_X} (C : bf_C X RX8 cX8_account 2 (some .int)) (hR : bf_Rm X 1 21) (S : bT8) (a1 : Int32) (Q : Int32 → Prop) (h : wp_X8_account S a1 Q) : bf_A X (bf_Zi X bW8 (fun r u => u = S ∧ Q r)) 2 0 [some (.ref 0), some (.int a1)] [] (bW8 S) := by
  unfold wp_X8_account at h
  refine bs_iload_n C (bf_dk dd_X8_account 0 rfl) rfl ?_
  refine bs_if_lt C (bf_dk dd_X8_account 1 rfl) (tgt := 24) rfl (fun c => ?_) (fun c => ?_)
  · replace h := h.1 c
    refine bs_iconst C (bf_dk dd_X8_account 11 rfl) (-1 : Int32) (by decide) ?_
    exact bs_iret (u := S) C (bf_dk dd_X8_account 12 rfl) rfl ⟨rfl, h⟩
  · replace h := h.2 c
    refine bs_iload_n C (bf_dk dd_X8_account 2 rfl) rfl ?_
    refine bs_bipush C (bf_dk dd_X8_account 3 rfl) (6 : Int32) (by decide) ?_
    refine bs_icmp_ge C (bf_dk dd_X8_account 4 rfl) (tgt := 24) rfl (fun c => ?_) (fun c => ?_)
    · replace h := h.1 c
      refine bs_iconst C (bf_dk dd_X8_account 11 rfl) (-1 : Int32) (by decide) ?_
      exact bs_iret (u := S) C (bf_dk dd_X8_account 12 rfl) rfl ⟨rfl, h⟩
    · replace h := h.2 c
      refine bs_aload_n C (bf_dk dd_X8_account 5 rfl) rfl ?_
      refine bs_get C (bf_dk dd_X8_account 6 rfl) cl_8 in_8 0 (Nat.le_of_ble_eq_true rfl) rfl f_8_12 (ge_bW8_0 S) rfl ?_
      refine bs_get C (bf_dk dd_X8_account 7 rfl) cl_2 in_2 3 (Nat.le_of_ble_eq_true rfl) rfl f_8_361 (ge_bW8_1 S) rfl ?_
      refine bs_iload_n C (bf_dk dd_X8_account 8 rfl) rfl ?_
      refine bs_pureS_i (ps := [15]) (w := (bW8 S)) C hR (c_X8_at _ _ _ _ _ 6 (b2g_answers (b8g_now S)) (a1) _ h) my_X8_at m_8_115 rfl (Nat.le_of_ble_eq_true rfl) (Nat.le_of_ble_eq_true rfl) (su_bW8_15_bWan6 S) rfl (st := []) (Nat.le_of_ble_eq_true rfl) (bf_dk dd_X8_account 9 rfl) rfl (fun _ => rfl) (fun r1 h => ?_)
      refine bs_goto C (bf_dk dd_X8_account 10 rfl) (tgt := 25) rfl ?_
      exact bs_iret (u := S) C (bf_dk dd_X8_account 12 rfl) rfl ⟨rfl, h⟩
theorem c_X8_account (l : Launch) (dC : Nat → ClassId) (dI : Nat → Nat → Nat) (ac : Nat → ClassId) (al : Nat → Nat) (S : bT8) (a1 : Int32) (Q : Int32 → Prop) (h : wp_X8_account S a1 Q) : bf_M l yX8_account cX8_account 2 (some .int) 1 21 dC dI ac al [.ref 0, .int a1] (bW8 S) (bf_Ki dC dI ac al bW8 (fun r u => u = S ∧ Q r)) := by
  refine bf_start [some (.ref 0), some (.int a1)] (by decide) (Nat.le_of_ble_eq_true rfl) (bf_s1 (bf_s1 bf_s0)) ?_
  intro X hl C hR e1 e2 e3 e4
  subst e1; subst e2; subst e3; subst e4
  exact t_X8_account C hR S a1 Q h
def wp_X8_newOnesThatMayBe_47 (S : bT8) (x2 : Int32) (x3 : Int32) (Q : Int32 → Prop) (B15 : Int32 → Int32 → Prop) : Prop := (B15 (x2) ((x3 + (1 : Int32))))
set_option maxRecDepth 20000 in
theorem t_X8_newOnesThatMayBe_47 {X : bf_X} (C : bf_C X RX8 cX8_newOnesThatMayBe 4 (some .int)) (hR : bf_Rm X 5 124) (S : bT8) (x2 : Int32) (x3 : Int32) (Q : Int32 → Prop) (B15 : Int32 → Int32 → Prop) (hB15 : ∀ (x2 : Int32) (x3 : Int32), B15 x2 x3 → bf_A X (bf_Zi X bW8 (fun r u => u = S ∧ Q r)) 4 15 [some (.ref 0), some (.ref 3), some (.int x2), some (.int x3)] [] (bW8 S)) (h : wp_X8_newOnesThatMayBe_47 S x2 x3 Q B15) : bf_A X (bf_Zi X bW8 (fun r u => u = S ∧ Q r)) 4 47 [some (.ref 0), some (.ref 3), some (.int x2), some (.int x3)] [] (bW8 S) := by
  unfold wp_X8_newOnesThatMayBe_47 at h
  refine bs_iinc C (bf_dk dd_X8_newOnesThatMayBe 25 rfl) (x3 + (1 : Int32)) rfl rfl (Nat.le_of_ble_eq_true rfl) (Nat.le_of_ble_eq_true rfl) (lv2 := [some (.ref 0), some (.ref 3), some (.int x2), some (.int (x3 + (1 : Int32)))]) rfl ?_
  refine bs_goto C (bf_dk dd_X8_newOnesThatMayBe 26 rfl) (tgt := 15) rfl ?_
  exact bs_weak (bf_s1 (bf_s1 (bf_s1 (bf_s1 bf_s0)))) (hB15 (x2) ((x3 + (1 : Int32))) h)
def wp_X8_newOnesThatMayBe_15b (S : bT8) (x2 : Int32) (x3 : Int32) (Q : Int32 → Prop) (B15 : Int32 → Int32 → Prop) : Prop := (((b0g_count (b3g_members (b2g_told (b8g_now S)))) ≤ x3 → (Q x2)) ∧ (¬ (b0g_count (b3g_members (b2g_told (b8g_now S)))) ≤ x3 → (wp_X0_bytesAt (b3g_members (b2g_told (b8g_now S))) (x3) (fun r1 => (wp_X0_lengthAt (b3g_members (b2g_told (b8g_now S))) (x3) (fun r3 => (wp_X1_verdictOf (b8g_leaves S) (r1) (r3) (fun r5 => ((¬ r5 = (2 : Int32) → (wp_X8_newOnesThatMayBe_47 S (x2) (x3) Q B15)) ∧ (r5 = (2 : Int32) → (wp_X8_newOnesThatMayBe_47 S ((x2 + (1 : Int32))) (x3) Q B15)))))))))))
set_option maxRecDepth 20000 in
theorem t_X8_newOnesThatMayBe_15b {X : bf_X} (C : bf_C X RX8 cX8_newOnesThatMayBe 4 (some .int)) (hR : bf_Rm X 5 124) (S : bT8) (x2 : Int32) (x3 : Int32) (Q : Int32 → Prop) (B15 : Int32 → Int32 → Prop) (hB15 : ∀ (x2 : Int32) (x3 : Int32), B15 x2 x3 → bf_A X (bf_Zi X bW8 (fun r u => u = S ∧ Q r)) 4 15 [some (.ref 0), some (.ref 3), some (.int x2), some (.int x3)] [] (bW8 S)) (h : wp_X8_newOnesThatMayBe_15b S x2 x3 Q B15) : bf_A X (bf_Zi X bW8 (fun r u => u = S ∧ Q r)) 4 15 [some (.ref 0), some (.ref 3), some (.int x2), some (.int x3)] [] (bW8 S) := by
  unfold wp_X8_newOnesThatMayBe_15b at h
  refine bs_iload_n C (bf_dk dd_X8_newOnesThatMayBe 9 rfl) rfl ?_
  refine bs_aload_n C (bf_dk dd_X8_newOnesThatMayBe 10 rfl) rfl ?_
  refine bs_get C (bf_dk dd_X8_newOnesThatMayBe 11 rfl) cl_0 in_0 2 (Nat.le_of_ble_eq_true rfl) rfl f_8_110 (ge_bW8_3 S) rfl ?_
  refine bs_icmp_ge C (bf_dk dd_X8_newOnesThatMayBe 12 rfl) (tgt := 53) rfl (fun c => ?_) (fun c => ?_)
  · replace h := h.1 c
    refine bs_iload_n C (bf_dk dd_X8_newOnesThatMayBe 27 rfl) rfl ?_
    exact bs_iret (u := S) C (bf_dk dd_X8_newOnesThatMayBe 28 rfl) rfl ⟨rfl, h⟩
  · replace h := h.2 c
    refine bs_aload_n C (bf_dk dd_X8_newOnesThatMayBe 13 rfl) rfl ?_
    refine bs_get C (bf_dk dd_X8_newOnesThatMayBe 14 rfl) cl_8 in_8 3 (Nat.le_of_ble_eq_true rfl) rfl f_8_26 (ge_bW8_0 S) rfl ?_
    refine bs_aload_n C (bf_dk dd_X8_newOnesThatMayBe 15 rfl) rfl ?_
    refine bs_iload_n C (bf_dk dd_X8_newOnesThatMayBe 16 rfl) rfl ?_
    refine bs_pureV_l (ps := [3, 4, 5]) (w := (bW8 S)) C hR (c_X0_bytesAt _ _ _ _ _ (b3g_members (b2g_told (b8g_now S))) (x3) _ h) my_X0_bytesAt m_8_219 rfl cl_0 (ge_bW0_0 _) rfl (Nat.le_of_ble_eq_true rfl) (Nat.le_of_ble_eq_true rfl) (su_bW8_3_bW0 S) rfl (st := [.ref 31]) (Nat.le_of_ble_eq_true rfl) (bf_dk dd_X8_newOnesThatMayBe 17 rfl) rfl (fun _ => rfl) (fun r1 h => ?_)
    refine bs_aload_n C (bf_dk dd_X8_newOnesThatMayBe 18 rfl) rfl ?_
    refine bs_iload_n C (bf_dk dd_X8_newOnesThatMayBe 19 rfl) rfl ?_
    refine bs_pureV_i (ps := [3, 4, 5]) (w := (bW8 S)) C hR (c_X0_lengthAt _ _ _ _ _ (b3g_members (b2g_told (b8g_now S))) (x3) _ h) my_X0_lengthAt m_8_318 rfl cl_0 (ge_bW0_0 _) rfl (Nat.le_of_ble_eq_true rfl) (Nat.le_of_ble_eq_true rfl) (su_bW8_3_bW0 S) rfl (st := [.long r1, .ref 31]) (Nat.le_of_ble_eq_true rfl) (bf_dk dd_X8_newOnesThatMayBe 20 rfl) rfl (fun _ => rfl) (fun r3 h => ?_)
    refine bs_pureV_i (ps := [31, 32, 33, 34, 35, 36, 37, 38, 39, 40, 41, 42, 43, 44]) (w := (bW8 S)) C hR (c_X1_verdictOf _ _ _ _ _ (b8g_leaves S) (r1) (r3) _ h) my_X1_verdictOf m_8_330 rfl cl_1 (ge_bW1_0 _) rfl (Nat.le_of_ble_eq_true rfl) (Nat.le_of_ble_eq_true rfl) (su_bW8_31_bW1 S) bnd_31t44 (st := []) (Nat.le_of_ble_eq_true rfl) (bf_dk dd_X8_newOnesThatMayBe 21 rfl) rfl (fun _ => rfl) (fun r5 h => ?_)
    refine bs_iconst C (bf_dk dd_X8_newOnesThatMayBe 22 rfl) (2 : Int32) (by decide) ?_
    refine bs_icmp_ne C (bf_dk dd_X8_newOnesThatMayBe 23 rfl) (tgt := 47) rfl (fun c => ?_) (fun c => ?_)
    · replace h := h.1 c
      exact bs_weak (bf_s1 (bf_s1 (bf_s1 (bf_s1 bf_s0)))) (t_X8_newOnesThatMayBe_47 C hR S (x2) (x3) Q B15 hB15 h)
    · replace h := h.2 c
      refine bs_iinc C (bf_dk dd_X8_newOnesThatMayBe 24 rfl) (x2 + (1 : Int32)) rfl rfl (Nat.le_of_ble_eq_true rfl) (Nat.le_of_ble_eq_true rfl) (lv2 := [some (.ref 0), some (.ref 3), some (.int (x2 + (1 : Int32))), some (.int x3)]) rfl ?_
      exact bs_weak (bf_s1 (bf_s1 (bf_s1 (bf_s1 bf_s0)))) (t_X8_newOnesThatMayBe_47 C hR S ((x2 + (1 : Int32))) (x3) Q B15 hB15 h)
def wp_X8_newOnesThatMayBe_15 (S : bT8) (x2 : Int32) (x3 : Int32) (Q : Int32 → Prop) : Prop := ∃ I : Nat → Int32 → Int32 → Prop, (∃ n : Nat, I n x2 x3) ∧ ∀ (n : Nat) (x2 : Int32) (x3 : Int32), I n x2 x3 → wp_X8_newOnesThatMayBe_15b S x2 x3 Q (fun x2 x3 => ∃ n2 : Nat, n2 < n ∧ I n2 x2 x3)
theorem t_X8_newOnesThatMayBe_15 {X : bf_X} (C : bf_C X RX8 cX8_newOnesThatMayBe 4 (some .int)) (hR : bf_Rm X 5 124) (S : bT8) (x2 : Int32) (x3 : Int32) (Q : Int32 → Prop) (h : wp_X8_newOnesThatMayBe_15 S x2 x3 Q) : bf_A X (bf_Zi X bW8 (fun r u => u = S ∧ Q r)) 4 15 [some (.ref 0), some (.ref 3), some (.int x2), some (.int x3)] [] (bW8 S) := by
  obtain ⟨I, ⟨n0, h0⟩, hI⟩ := h
  have key : ∀ (n : Nat) (x2 : Int32) (x3 : Int32), I n x2 x3 → bf_A X (bf_Zi X bW8 (fun r u => u = S ∧ Q r)) 4 15 [some (.ref 0), some (.ref 3), some (.int x2), some (.int x3)] [] (bW8 S) := by
    intro n
    induction n using Nat.strongRecOn with
    | _ n ih =>
      intro x2 x3 hi
      exact t_X8_newOnesThatMayBe_15b C hR S x2 x3 Q _ (fun x2 x3 hb => by obtain ⟨n2, hn, hi2⟩ := hb; exact ih n2 hn x2 x3 hi2) (hI n x2 x3 hi)
  exact key n0 x2 x3 h0
def wp_X8_newOnesThatMayBe (S : bT8) (Q : Int32 → Prop) : Prop := (wp_X8_newOnesThatMayBe_15 S ((0 : Int32)) ((0 : Int32)) Q)
set_option maxRecDepth 20000 in
theorem t_X8_newOnesThatMayBe {X : bf_X} (C : bf_C X RX8 cX8_newOnesThatMayBe 4 (some .int)) (hR : bf_Rm X 5 124) (S : bT8) (Q : Int32 → Prop) (h : wp_X8_newOnesThatMayBe S Q) : bf_A X (bf_Zi X bW8 (fun r u => u = S ∧ Q r)) 4 0 [some (.ref 0), none, none, none] [] (bW8 S) := by
  unfold wp_X8_newOnesThatMayBe at h
  refine bs_aload_n C (bf_dk dd_X8_newOnesThatMayBe 0 rfl) rfl ?_
  refine bs_get C (bf_dk dd_X8_newOnesThatMayBe 1 rfl) cl_8 in_8 0 (Nat.le_of_ble_eq_true rfl) rfl f_8_12 (ge_bW8_0 S) rfl ?_
  refine bs_get C (bf_dk dd_X8_newOnesThatMayBe 2 rfl) cl_2 in_2 0 (Nat.le_of_ble_eq_true rfl) rfl f_8_87 (ge_bW8_1 S) rfl ?_
  refine bs_get C (bf_dk dd_X8_newOnesThatMayBe 3 rfl) cl_3 in_3 0 (Nat.le_of_ble_eq_true rfl) rfl f_8_99 (ge_bW8_2 S) rfl ?_
  refine bs_astore_n C (bf_dk dd_X8_newOnesThatMayBe 4 rfl) rfl (Nat.le_of_ble_eq_true rfl) (Nat.le_of_ble_eq_true rfl) (lv2 := [some (.ref 0), some (.ref 3), none, none]) rfl ?_
  refine bs_iconst C (bf_dk dd_X8_newOnesThatMayBe 5 rfl) (0 : Int32) (by decide) ?_
  refine bs_istore_n C (bf_dk dd_X8_newOnesThatMayBe 6 rfl) rfl (Nat.le_of_ble_eq_true rfl) (Nat.le_of_ble_eq_true rfl) (lv2 := [some (.ref 0), some (.ref 3), some (.int (0 : Int32)), none]) rfl ?_
  refine bs_iconst C (bf_dk dd_X8_newOnesThatMayBe 7 rfl) (0 : Int32) (by decide) ?_
  refine bs_istore_n C (bf_dk dd_X8_newOnesThatMayBe 8 rfl) rfl (Nat.le_of_ble_eq_true rfl) (Nat.le_of_ble_eq_true rfl) (lv2 := [some (.ref 0), some (.ref 3), some (.int (0 : Int32)), some (.int (0 : Int32))]) rfl ?_
  exact bs_weak (bf_s1 (bf_s1 (bf_s1 (bf_s1 bf_s0)))) (t_X8_newOnesThatMayBe_15 C hR S ((0 : Int32)) ((0 : Int32)) Q h)
theorem c_X8_newOnesThatMayBe (l : Launch) (dC : Nat → ClassId) (dI : Nat → Nat → Nat) (ac : Nat → ClassId) (al : Nat → Nat) (S : bT8) (Q : Int32 → Prop) (h : wp_X8_newOnesThatMayBe S Q) : bf_M l yX8_newOnesThatMayBe cX8_newOnesThatMayBe 4 (some .int) 5 124 dC dI ac al [.ref 0] (bW8 S) (bf_Ki dC dI ac al bW8 (fun r u => u = S ∧ Q r)) := by
  refine bf_start [some (.ref 0), none, none, none] (by decide) (Nat.le_of_ble_eq_true rfl) (bf_s1 (bf_en 3)) ?_
  intro X hl C hR e1 e2 e3 e4
  subst e1; subst e2; subst e3; subst e4
  exact t_X8_newOnesThatMayBe C hR S Q h
def wp_X8_since (S : bT8) (a1 : Int32) (Q : Int32 → Prop) : Prop := ((((a1).toInt < 0 ∨ 2 < (a1).toInt) → (Q (-1 : Int32))) ∧ (a1 = (0 : Int32) → (wp_X0_notIn ((b3g_members (b2g_told (b8g_now S))), (b1g_owners (b8g_leaves S))) (fun r1 => (Q r1)))) ∧ (a1 = (1 : Int32) → (wp_X8_newOnesThatMayBe S (fun r3 => (Q r3)))) ∧ (a1 = (2 : Int32) → (wp_X0_notIn ((b1g_owners (b8g_leaves S)), (b3g_members (b2g_told (b8g_now S)))) (fun r5 => (Q r5)))))
set_option maxRecDepth 20000 in
theorem t_X8_since {X : bf_X} (C : bf_C X RX8 cX8_since 3 (some .int)) (hR : bf_Rm X 6 147) (S : bT8) (a1 : Int32) (Q : Int32 → Prop) (h : wp_X8_since S a1 Q) : bf_A X (bf_Zi X bW8 (fun r u => u = S ∧ Q r)) 3 0 [some (.ref 0), some (.int a1), none] [] (bW8 S) := by
  unfold wp_X8_since at h
  refine bs_aload_n C (bf_dk dd_X8_since 0 rfl) rfl ?_
  refine bs_get C (bf_dk dd_X8_since 1 rfl) cl_8 in_8 0 (Nat.le_of_ble_eq_true rfl) rfl f_8_12 (ge_bW8_0 S) rfl ?_
  refine bs_get C (bf_dk dd_X8_since 2 rfl) cl_2 in_2 0 (Nat.le_of_ble_eq_true rfl) rfl f_8_87 (ge_bW8_1 S) rfl ?_
  refine bs_get C (bf_dk dd_X8_since 3 rfl) cl_3 in_3 0 (Nat.le_of_ble_eq_true rfl) rfl f_8_99 (ge_bW8_2 S) rfl ?_
  refine bs_astore_n C (bf_dk dd_X8_since 4 rfl) rfl (Nat.le_of_ble_eq_true rfl) (Nat.le_of_ble_eq_true rfl) (lv2 := [some (.ref 0), some (.int a1), some (.ref 3)]) rfl ?_
  refine bs_iload_n C (bf_dk dd_X8_since 5 rfl) rfl ?_
  refine bs_table C (tdef := 69) (fun k => List.getD [40, 52, 57] k 0) 3 (bf_dk dd_X8_since 6 rfl) rfl rfl (fun k hk => by rcases (show k = 0 ∨ k = 1 ∨ k = 2 by omega) with rfl | rfl | rfl <;> exact ⟨_, rfl, rfl⟩) (fun c => ?_) (fun k hk c => ?_)
  · replace h := h.1 c
    refine bs_iconst C (bf_dk dd_X8_since 22 rfl) (-1 : Int32) (by decide) ?_
    exact bs_iret (u := S) C (bf_dk dd_X8_since 23 rfl) rfl ⟨rfl, h⟩
  · rcases (show k = 0 ∨ k = 1 ∨ k = 2 by omega) with rfl | rfl | rfl
    · replace h := h.2.1 (bf_i32 c (by decide))
      refine bs_aload_n C (bf_dk dd_X8_since 7 rfl) rfl ?_
      refine bs_aload_n C (bf_dk dd_X8_since 8 rfl) rfl ?_
      refine bs_get C (bf_dk dd_X8_since 9 rfl) cl_8 in_8 3 (Nat.le_of_ble_eq_true rfl) rfl f_8_26 (ge_bW8_0 S) rfl ?_
      refine bs_get C (bf_dk dd_X8_since 10 rfl) cl_1 in_1 0 (Nat.le_of_ble_eq_true rfl) rfl f_8_163 (ge_bW8_31 S) rfl ?_
      refine bs_pureV_i (ps := [3, 4, 5, 32, 33, 34]) (w := (bW8 S)) C hR (c_X0_notIn _ _ _ _ _ ((b3g_members (b2g_told (b8g_now S))), (b1g_owners (b8g_leaves S))) _ h) my_X0_notIn m_8_364 rfl cl_0 (ge_bW0_0_0 _) rfl (Nat.le_of_ble_eq_true rfl) (Nat.le_of_ble_eq_true rfl) (su_bW8_3_32_bW0_0 S) bnd_3t5_32t34 (st := []) (Nat.le_of_ble_eq_true rfl) (bf_dk dd_X8_since 11 rfl) rfl (fun _ => rfl) (fun r1 h => ?_)
      exact bs_iret (u := S) C (bf_dk dd_X8_since 12 rfl) rfl ⟨rfl, h⟩
    · replace h := h.2.2.1 (bf_i32 c (by decide))
      refine bs_aload_n C (bf_dk dd_X8_since 13 rfl) rfl ?_
      refine bs_selfPV_i C hR (c_X8_newOnesThatMayBe _ _ _ _ _ S _ h) my_X8_newOnesThatMayBe m_8_368 rfl cl_8 (ge_bW8_0 _) rfl (Nat.le_of_ble_eq_true rfl) (Nat.le_of_ble_eq_true rfl) (st := []) (Nat.le_of_ble_eq_true rfl) (bf_dk dd_X8_since 14 rfl) rfl (fun r3 h => ?_)
      exact bs_iret (u := S) C (bf_dk dd_X8_since 15 rfl) rfl ⟨rfl, h⟩
    · replace h := h.2.2.2 (bf_i32 c (by decide))
      refine bs_aload_n C (bf_dk dd_X8_since 16 rfl) rfl ?_
      refine bs_get C (bf_dk dd_X8_since 17 rfl) cl_8 in_8 3 (Nat.le_of_ble_eq_true rfl) rfl f_8_26 (ge_bW8_0 S) rfl ?_
      refine bs_get C (bf_dk dd_X8_since 18 rfl) cl_1 in_1 0 (Nat.le_of_ble_eq_true rfl) rfl f_8_163 (ge_bW8_31 S) rfl ?_
      refine bs_aload_n C (bf_dk dd_X8_since 19 rfl) rfl ?_
      refine bs_pureV_i (ps := [32, 33, 34, 3, 4, 5]) (w := (bW8 S)) C hR (c_X0_notIn _ _ _ _ _ ((b1g_owners (b8g_leaves S)), (b3g_members (b2g_told (b8g_now S)))) _ h) my_X0_notIn m_8_364 rfl cl_0 (ge_bW0_0_0 _) rfl (Nat.le_of_ble_eq_true rfl) (Nat.le_of_ble_eq_true rfl) (su_bW8_32_3_bW0_0 S) bnd_32t34_3t5 (st := []) (Nat.le_of_ble_eq_true rfl) (bf_dk dd_X8_since 20 rfl) rfl (fun _ => rfl) (fun r5 h => ?_)
      exact bs_iret (u := S) C (bf_dk dd_X8_since 21 rfl) rfl ⟨rfl, h⟩
theorem c_X8_since (l : Launch) (dC : Nat → ClassId) (dI : Nat → Nat → Nat) (ac : Nat → ClassId) (al : Nat → Nat) (S : bT8) (a1 : Int32) (Q : Int32 → Prop) (h : wp_X8_since S a1 Q) : bf_M l yX8_since cX8_since 3 (some .int) 6 147 dC dI ac al [.ref 0, .int a1] (bW8 S) (bf_Ki dC dI ac al bW8 (fun r u => u = S ∧ Q r)) := by
  refine bf_start [some (.ref 0), some (.int a1), none] (by decide) (Nat.le_of_ble_eq_true rfl) (bf_s1 (bf_s1 (bf_en 1))) ?_
  intro X hl C hR e1 e2 e3 e4
  subst e1; subst e2; subst e3; subst e4
  exact t_X8_since C hR S a1 Q h
