def wp_X8_child (S : bT8) (a1 : Int32) (a2 : Int32) (Q : Int32 → Prop) : Prop := ((a1 < 0 → (Q (-1 : Int32))) ∧ (¬ a1 < 0 → (((b6g_nodes (b8g_tree S)) ≤ a1 → (Q (-1 : Int32))) ∧ (¬ (b6g_nodes (b8g_tree S)) ≤ a1 → ((a2 < 0 → (Q (-1 : Int32))) ∧ (¬ a2 < 0 → ((a2 < (256 : Int32) → (wp_X6_goneAlong (b8g_tree S) (a1) (a2) (fun r1 => (Q r1)))) ∧ (¬ a2 < (256 : Int32) → (Q (-1 : Int32))))))))))
set_option maxRecDepth 20000 in
theorem t_X8_child {X : bf_X} (C : bf_C X RX8 cX8_child 3 (some .int)) (hR : bf_Rm X 3 65) (S : bT8) (a1 : Int32) (a2 : Int32) (Q : Int32 → Prop) (h : wp_X8_child S a1 a2 Q) : bf_A X (bf_Zi X bW8 (fun r u => u = S ∧ Q r)) 3 0 [some (.ref 0), some (.int a1), some (.int a2)] [] (bW8 S) := by
  unfold wp_X8_child at h
  refine bs_iload_n C (bf_dk dd_X8_child 0 rfl) rfl ?_
  refine bs_if_lt C (bf_dk dd_X8_child 1 rfl) (tgt := 26) rfl (fun c => ?_) (fun c => ?_)
  · replace h := h.1 c
    refine bs_iconst C (bf_dk dd_X8_child 12 rfl) (-1 : Int32) (by decide) ?_
    exact bs_iret (u := S) C (bf_dk dd_X8_child 13 rfl) rfl ⟨rfl, h⟩
  · replace h := h.2 c
    refine bs_iload_n C (bf_dk dd_X8_child 2 rfl) rfl ?_
    refine bs_aload_n C (bf_dk dd_X8_child 3 rfl) rfl ?_
    refine bs_get C (bf_dk dd_X8_child 4 rfl) cl_8 in_8 4 (Nat.le_of_ble_eq_true rfl) rfl f_8_33 (ge_bW8_0 S) rfl ?_
    refine bs_get C (bf_dk dd_X8_child 5 rfl) cl_6 in_6 12 (Nat.le_of_ble_eq_true rfl) rfl f_8_228 (ge_bW8_45 S) rfl ?_
    refine bs_icmp_ge C (bf_dk dd_X8_child 6 rfl) (tgt := 26) rfl (fun c => ?_) (fun c => ?_)
    · replace h := h.1 c
      refine bs_iconst C (bf_dk dd_X8_child 12 rfl) (-1 : Int32) (by decide) ?_
      exact bs_iret (u := S) C (bf_dk dd_X8_child 13 rfl) rfl ⟨rfl, h⟩
    · replace h := h.2 c
      refine bs_iload_n C (bf_dk dd_X8_child 7 rfl) rfl ?_
      refine bs_if_lt C (bf_dk dd_X8_child 8 rfl) (tgt := 26) rfl (fun c => ?_) (fun c => ?_)
      · replace h := h.1 c
        refine bs_iconst C (bf_dk dd_X8_child 12 rfl) (-1 : Int32) (by decide) ?_
        exact bs_iret (u := S) C (bf_dk dd_X8_child 13 rfl) rfl ⟨rfl, h⟩
      · replace h := h.2 c
        refine bs_iload_n C (bf_dk dd_X8_child 9 rfl) rfl ?_
        refine bs_sipush C (bf_dk dd_X8_child 10 rfl) (256 : Int32) (by decide) ?_
        refine bs_icmp_lt C (bf_dk dd_X8_child 11 rfl) (tgt := 28) rfl (fun c => ?_) (fun c => ?_)
        · replace h := h.1 c
          refine bs_aload_n C (bf_dk dd_X8_child 14 rfl) rfl ?_
          refine bs_get C (bf_dk dd_X8_child 15 rfl) cl_8 in_8 4 (Nat.le_of_ble_eq_true rfl) rfl f_8_33 (ge_bW8_0 S) rfl ?_
          refine bs_iload_n C (bf_dk dd_X8_child 16 rfl) rfl ?_
          refine bs_iload_n C (bf_dk dd_X8_child 17 rfl) rfl ?_
          refine bs_pureV_i (ps := [45, 46, 47, 48, 49, 50, 51, 52, 53, 54, 55, 56, 57]) (w := (bW8 S)) C hR (c_X6_goneAlong _ _ _ _ _ (b8g_tree S) (a1) (a2) _ h) my_X6_goneAlong m_8_253 rfl cl_6 (ge_bW6_0 _) rfl (Nat.le_of_ble_eq_true rfl) (Nat.le_of_ble_eq_true rfl) (su_bW8_45_bW6 S) bnd_45t57 (st := []) (Nat.le_of_ble_eq_true rfl) (bf_dk dd_X8_child 18 rfl) rfl (fun _ => rfl) (fun r1 h => ?_)
          exact bs_iret (u := S) C (bf_dk dd_X8_child 19 rfl) rfl ⟨rfl, h⟩
        · replace h := h.2 c
          refine bs_iconst C (bf_dk dd_X8_child 12 rfl) (-1 : Int32) (by decide) ?_
          exact bs_iret (u := S) C (bf_dk dd_X8_child 13 rfl) rfl ⟨rfl, h⟩
theorem c_X8_child (l : Launch) (dC : Nat → ClassId) (dI : Nat → Nat → Nat) (ac : Nat → ClassId) (al : Nat → Nat) (S : bT8) (a1 : Int32) (a2 : Int32) (Q : Int32 → Prop) (h : wp_X8_child S a1 a2 Q) : bf_M l yX8_child cX8_child 3 (some .int) 3 65 dC dI ac al [.ref 0, .int a1, .int a2] (bW8 S) (bf_Ki dC dI ac al bW8 (fun r u => u = S ∧ Q r)) := by
  refine bf_start [some (.ref 0), some (.int a1), some (.int a2)] (by decide) (Nat.le_of_ble_eq_true rfl) (bf_s1 (bf_s1 (bf_s1 bf_s0))) ?_
  intro X hl C hR e1 e2 e3 e4
  subst e1; subst e2; subst e3; subst e4
  exact t_X8_child C hR S a1 a2 Q h
def wp_X8_level (S : bT8) (a1 : Int32) (a2 : Int32) (Q : Int32 → Prop) : Prop := ((a1 < 0 → (Q (-1 : Int32))) ∧ (¬ a1 < 0 → ((a1 < (b6g_levels (b8g_tree S)) → (wp_X8_at 9 (b6g_levelStarts (b8g_tree S)) (a1) (fun r1 => (wp_X8_at 9 (b6g_levelStarts (b8g_tree S)) ((a1 + (1 : Int32))) (fun r3 => ((((a2).toInt < 0 ∨ 4 < (a2).toInt) → (Q (-1 : Int32))) ∧ (a2 = (0 : Int32) → (Q (r3 - r1))) ∧ (a2 = (1 : Int32) → (wp_X6_branches (b8g_tree S) (r1) (r3) (fun r5 => (Q r5)))) ∧ (a2 = (2 : Int32) → (wp_X1_ofLevel (b8g_leaves S) (a1) (fun r7 => (Q r7)))) ∧ (a2 = (3 : Int32) → (((b6g_upper (b8g_tree S)) ≤ a1 → (Q (0 : Int32))) ∧ (¬ (b6g_upper (b8g_tree S)) ≤ a1 → (Q (1 : Int32))))) ∧ (a2 = (4 : Int32) → (((b6g_upper (b8g_tree S)) ≤ a1 → (wp_X6_edgesAmong (b8g_tree S) (r1) (r3) (fun r9 => (Q ((11 : Int32) * r9))))) ∧ (¬ (b6g_upper (b8g_tree S)) ≤ a1 → (Q ((513 : Int32) * (r3 - r1)))))))))))) ∧ (¬ a1 < (b6g_levels (b8g_tree S)) → (Q (-1 : Int32))))))
set_option maxRecDepth 20000 in
theorem t_X8_level {X : bf_X} (C : bf_C X RX8 cX8_level 5 (some .int)) (hR : bf_Rm X 4 88) (S : bT8) (a1 : Int32) (a2 : Int32) (Q : Int32 → Prop) (h : wp_X8_level S a1 a2 Q) : bf_A X (bf_Zi X bW8 (fun r u => u = S ∧ Q r)) 5 0 [some (.ref 0), some (.int a1), some (.int a2), none, none] [] (bW8 S) := by
  unfold wp_X8_level at h
  refine bs_iload_n C (bf_dk dd_X8_level 0 rfl) rfl ?_
  refine bs_if_lt C (bf_dk dd_X8_level 1 rfl) (tgt := 15) rfl (fun c => ?_) (fun c => ?_)
  · replace h := h.1 c
    refine bs_iconst C (bf_dk dd_X8_level 7 rfl) (-1 : Int32) (by decide) ?_
    exact bs_iret (u := S) C (bf_dk dd_X8_level 8 rfl) rfl ⟨rfl, h⟩
  · replace h := h.2 c
    refine bs_iload_n C (bf_dk dd_X8_level 2 rfl) rfl ?_
    refine bs_aload_n C (bf_dk dd_X8_level 3 rfl) rfl ?_
    refine bs_get C (bf_dk dd_X8_level 4 rfl) cl_8 in_8 4 (Nat.le_of_ble_eq_true rfl) rfl f_8_33 (ge_bW8_0 S) rfl ?_
    refine bs_get C (bf_dk dd_X8_level 5 rfl) cl_6 in_6 15 (Nat.le_of_ble_eq_true rfl) rfl f_8_256 (ge_bW8_45 S) rfl ?_
    refine bs_icmp_lt C (bf_dk dd_X8_level 6 rfl) (tgt := 17) rfl (fun c => ?_) (fun c => ?_)
    · replace h := h.1 c
      refine bs_aload_n C (bf_dk dd_X8_level 9 rfl) rfl ?_
      refine bs_get C (bf_dk dd_X8_level 10 rfl) cl_8 in_8 4 (Nat.le_of_ble_eq_true rfl) rfl f_8_33 (ge_bW8_0 S) rfl ?_
      refine bs_get C (bf_dk dd_X8_level 11 rfl) cl_6 in_6 8 (Nat.le_of_ble_eq_true rfl) rfl f_8_259 (ge_bW8_45 S) rfl ?_
      refine bs_iload_n C (bf_dk dd_X8_level 12 rfl) rfl ?_
      refine bs_pureS_i (ps := [54]) (w := (bW8 S)) C hR (c_X8_at _ _ _ _ _ 9 (b6g_levelStarts (b8g_tree S)) (a1) _ h) my_X8_at m_8_115 rfl (Nat.le_of_ble_eq_true rfl) (Nat.le_of_ble_eq_true rfl) (su_bW8_54_bWan9 S) rfl (st := []) (Nat.le_of_ble_eq_true rfl) (bf_dk dd_X8_level 13 rfl) rfl (fun _ => rfl) (fun r1 h => ?_)
      refine bs_istore_n C (bf_dk dd_X8_level 14 rfl) rfl (Nat.le_of_ble_eq_true rfl) (Nat.le_of_ble_eq_true rfl) (lv2 := [some (.ref 0), some (.int a1), some (.int a2), some (.int r1), none]) rfl ?_
      refine bs_aload_n C (bf_dk dd_X8_level 15 rfl) rfl ?_
      refine bs_get C (bf_dk dd_X8_level 16 rfl) cl_8 in_8 4 (Nat.le_of_ble_eq_true rfl) rfl f_8_33 (ge_bW8_0 S) rfl ?_
      refine bs_get C (bf_dk dd_X8_level 17 rfl) cl_6 in_6 8 (Nat.le_of_ble_eq_true rfl) rfl f_8_259 (ge_bW8_45 S) rfl ?_
      refine bs_iload_n C (bf_dk dd_X8_level 18 rfl) rfl ?_
      refine bs_iconst C (bf_dk dd_X8_level 19 rfl) (1 : Int32) (by decide) ?_
      refine bs_iadd C (bf_dk dd_X8_level 20 rfl) ?_
      refine bs_pureS_i (ps := [54]) (w := (bW8 S)) C hR (c_X8_at _ _ _ _ _ 9 (b6g_levelStarts (b8g_tree S)) ((a1 + (1 : Int32))) _ h) my_X8_at m_8_115 rfl (Nat.le_of_ble_eq_true rfl) (Nat.le_of_ble_eq_true rfl) (su_bW8_54_bWan9 S) rfl (st := []) (Nat.le_of_ble_eq_true rfl) (bf_dk dd_X8_level 21 rfl) rfl (fun _ => rfl) (fun r3 h => ?_)
      refine bs_istore C (bf_dk dd_X8_level 22 rfl) (Nat.le_of_ble_eq_true rfl) (Nat.le_of_ble_eq_true rfl) (lv2 := [some (.ref 0), some (.int a1), some (.int a2), some (.int r1), some (.int r3)]) rfl ?_
      refine bs_iload_n C (bf_dk dd_X8_level 23 rfl) rfl ?_
      refine bs_table C (tdef := 158) (fun k => List.getD [80, 85, 96, 105, 122] k 0) 5 (bf_dk dd_X8_level 24 rfl) rfl rfl (fun k hk => by rcases (show k = 0 ∨ k = 1 ∨ k = 2 ∨ k = 3 ∨ k = 4 by omega) with rfl | rfl | rfl | rfl | rfl <;> exact ⟨_, rfl, rfl⟩) (fun c => ?_) (fun k hk c => ?_)
      · replace h := h.1 c
        refine bs_iconst C (bf_dk dd_X8_level 68 rfl) (-1 : Int32) (by decide) ?_
        exact bs_iret (u := S) C (bf_dk dd_X8_level 69 rfl) rfl ⟨rfl, h⟩
      · rcases (show k = 0 ∨ k = 1 ∨ k = 2 ∨ k = 3 ∨ k = 4 by omega) with rfl | rfl | rfl | rfl | rfl
        · replace h := h.2.1 (bf_i32 c (by decide))
          refine bs_iload C (bf_dk dd_X8_level 25 rfl) rfl ?_
          refine bs_iload_n C (bf_dk dd_X8_level 26 rfl) rfl ?_
          refine bs_isub C (bf_dk dd_X8_level 27 rfl) ?_
          exact bs_iret (u := S) C (bf_dk dd_X8_level 28 rfl) rfl ⟨rfl, h⟩
        · replace h := h.2.2.1 (bf_i32 c (by decide))
          refine bs_aload_n C (bf_dk dd_X8_level 29 rfl) rfl ?_
          refine bs_get C (bf_dk dd_X8_level 30 rfl) cl_8 in_8 4 (Nat.le_of_ble_eq_true rfl) rfl f_8_33 (ge_bW8_0 S) rfl ?_
          refine bs_iload_n C (bf_dk dd_X8_level 31 rfl) rfl ?_
          refine bs_iload C (bf_dk dd_X8_level 32 rfl) rfl ?_
          refine bs_pureV_i (ps := [45, 46, 47, 48, 49, 50, 51, 52, 53, 54, 55, 56, 57]) (w := (bW8 S)) C hR (c_X6_branches _ _ _ _ _ (b8g_tree S) (r1) (r3) _ h) my_X6_branches m_8_234 rfl cl_6 (ge_bW6_0 _) rfl (Nat.le_of_ble_eq_true rfl) (Nat.le_of_ble_eq_true rfl) (su_bW8_45_bW6 S) bnd_45t57 (st := []) (Nat.le_of_ble_eq_true rfl) (bf_dk dd_X8_level 33 rfl) rfl (fun _ => rfl) (fun r5 h => ?_)
          exact bs_iret (u := S) C (bf_dk dd_X8_level 34 rfl) rfl ⟨rfl, h⟩
        · replace h := h.2.2.2.1 (bf_i32 c (by decide))
          refine bs_aload_n C (bf_dk dd_X8_level 35 rfl) rfl ?_
          refine bs_get C (bf_dk dd_X8_level 36 rfl) cl_8 in_8 3 (Nat.le_of_ble_eq_true rfl) rfl f_8_26 (ge_bW8_0 S) rfl ?_
          refine bs_iload_n C (bf_dk dd_X8_level 37 rfl) rfl ?_
          refine bs_pureV_i (ps := [31, 32, 33, 34, 35, 36, 37, 38, 39, 40, 41, 42, 43, 44]) (w := (bW8 S)) C hR (c_X1_ofLevel _ _ _ _ _ (b8g_leaves S) (a1) _ h) my_X1_ofLevel m_8_262 rfl cl_1 (ge_bW1_0 _) rfl (Nat.le_of_ble_eq_true rfl) (Nat.le_of_ble_eq_true rfl) (su_bW8_31_bW1 S) bnd_31t44 (st := []) (Nat.le_of_ble_eq_true rfl) (bf_dk dd_X8_level 38 rfl) rfl (fun _ => rfl) (fun r7 h => ?_)
          exact bs_iret (u := S) C (bf_dk dd_X8_level 39 rfl) rfl ⟨rfl, h⟩
        · replace h := h.2.2.2.2.1 (bf_i32 c (by decide))
          refine bs_iload_n C (bf_dk dd_X8_level 40 rfl) rfl ?_
          refine bs_aload_n C (bf_dk dd_X8_level 41 rfl) rfl ?_
          refine bs_get C (bf_dk dd_X8_level 42 rfl) cl_8 in_8 4 (Nat.le_of_ble_eq_true rfl) rfl f_8_33 (ge_bW8_0 S) rfl ?_
          refine bs_get C (bf_dk dd_X8_level 43 rfl) cl_6 in_6 16 (Nat.le_of_ble_eq_true rfl) rfl f_8_265 (ge_bW8_45 S) rfl ?_
          refine bs_icmp_ge C (bf_dk dd_X8_level 44 rfl) (tgt := 120) rfl (fun c => ?_) (fun c => ?_)
          · replace h := h.1 c
            refine bs_iconst C (bf_dk dd_X8_level 47 rfl) (0 : Int32) (by decide) ?_
            exact bs_iret (u := S) C (bf_dk dd_X8_level 48 rfl) rfl ⟨rfl, h⟩
          · replace h := h.2 c
            refine bs_iconst C (bf_dk dd_X8_level 45 rfl) (1 : Int32) (by decide) ?_
            refine bs_goto C (bf_dk dd_X8_level 46 rfl) (tgt := 121) rfl ?_
            exact bs_iret (u := S) C (bf_dk dd_X8_level 48 rfl) rfl ⟨rfl, h⟩
        · replace h := h.2.2.2.2.2 (bf_i32 c (by decide))
          refine bs_iload_n C (bf_dk dd_X8_level 49 rfl) rfl ?_
          refine bs_aload_n C (bf_dk dd_X8_level 50 rfl) rfl ?_
          refine bs_get C (bf_dk dd_X8_level 51 rfl) cl_8 in_8 4 (Nat.le_of_ble_eq_true rfl) rfl f_8_33 (ge_bW8_0 S) rfl ?_
          refine bs_get C (bf_dk dd_X8_level 52 rfl) cl_6 in_6 16 (Nat.le_of_ble_eq_true rfl) rfl f_8_265 (ge_bW8_45 S) rfl ?_
          refine bs_icmp_ge C (bf_dk dd_X8_level 53 rfl) (tgt := 144) rfl (fun c => ?_) (fun c => ?_)
          · replace h := h.1 c
            refine bs_bipush C (bf_dk dd_X8_level 60 rfl) (11 : Int32) (by decide) ?_
            refine bs_aload_n C (bf_dk dd_X8_level 61 rfl) rfl ?_
            refine bs_get C (bf_dk dd_X8_level 62 rfl) cl_8 in_8 4 (Nat.le_of_ble_eq_true rfl) rfl f_8_33 (ge_bW8_0 S) rfl ?_
            refine bs_iload_n C (bf_dk dd_X8_level 63 rfl) rfl ?_
            refine bs_iload C (bf_dk dd_X8_level 64 rfl) rfl ?_
            refine bs_pureV_i (ps := [45, 46, 47, 48, 49, 50, 51, 52, 53, 54, 55, 56, 57]) (w := (bW8 S)) C hR (c_X6_edgesAmong _ _ _ _ _ (b8g_tree S) (r1) (r3) _ h) my_X6_edgesAmong m_8_268 rfl cl_6 (ge_bW6_0 _) rfl (Nat.le_of_ble_eq_true rfl) (Nat.le_of_ble_eq_true rfl) (su_bW8_45_bW6 S) bnd_45t57 (st := [.int (11 : Int32)]) (Nat.le_of_ble_eq_true rfl) (bf_dk dd_X8_level 65 rfl) rfl (fun _ => rfl) (fun r9 h => ?_)
            refine bs_imul C (bf_dk dd_X8_level 66 rfl) ?_
            exact bs_iret (u := S) C (bf_dk dd_X8_level 67 rfl) rfl ⟨rfl, h⟩
          · replace h := h.2 c
            refine bs_sipush C (bf_dk dd_X8_level 54 rfl) (513 : Int32) (by decide) ?_
            refine bs_iload C (bf_dk dd_X8_level 55 rfl) rfl ?_
            refine bs_iload_n C (bf_dk dd_X8_level 56 rfl) rfl ?_
            refine bs_isub C (bf_dk dd_X8_level 57 rfl) ?_
            refine bs_imul C (bf_dk dd_X8_level 58 rfl) ?_
            refine bs_goto C (bf_dk dd_X8_level 59 rfl) (tgt := 157) rfl ?_
            exact bs_iret (u := S) C (bf_dk dd_X8_level 67 rfl) rfl ⟨rfl, h⟩
    · replace h := h.2 c
      refine bs_iconst C (bf_dk dd_X8_level 7 rfl) (-1 : Int32) (by decide) ?_
      exact bs_iret (u := S) C (bf_dk dd_X8_level 8 rfl) rfl ⟨rfl, h⟩
theorem c_X8_level (l : Launch) (dC : Nat → ClassId) (dI : Nat → Nat → Nat) (ac : Nat → ClassId) (al : Nat → Nat) (S : bT8) (a1 : Int32) (a2 : Int32) (Q : Int32 → Prop) (h : wp_X8_level S a1 a2 Q) : bf_M l yX8_level cX8_level 5 (some .int) 4 88 dC dI ac al [.ref 0, .int a1, .int a2] (bW8 S) (bf_Ki dC dI ac al bW8 (fun r u => u = S ∧ Q r)) := by
  refine bf_start [some (.ref 0), some (.int a1), some (.int a2), none, none] (by decide) (Nat.le_of_ble_eq_true rfl) (bf_s1 (bf_s1 (bf_s1 (bf_en 2)))) ?_
  intro X hl C hR e1 e2 e3 e4
  subst e1; subst e2; subst e3; subst e4
  exact t_X8_level C hR S a1 a2 Q h
def wp_X8_item (S : bT8) (a1 : Int32) (a2 : Int32) (Q : Int32 → Prop) : Prop := ((a1 < 0 → (Q (-1 : Int32))) ∧ (¬ a1 < 0 → (wp_X6_items (b8g_tree S) (fun r1 => ((a1 < r1 → ((((a2).toInt < 0 ∨ 3 < (a2).toInt) → (Q (-1 : Int32))) ∧ (a2 = (0 : Int32) → (wp_X8_at 296 (b6g_edgeOctets (b8g_tree S)) (((b6g_itemStart (b8g_tree S)) + a1)) (fun r3 => (Q r3)))) ∧ (a2 = (1 : Int32) → (wp_X6_isEnd (b8g_tree S) (((b6g_itemStart (b8g_tree S)) + a1)) (fun r5 => ((r5 = 0 → (Q (0 : Int32))) ∧ (¬ r5 = 0 → (Q (1 : Int32))))))) ∧ (a2 = (2 : Int32) → (wp_X6_hasChild (b8g_tree S) (((b6g_itemStart (b8g_tree S)) + a1)) (fun r7 => ((r7 = 0 → (Q (0 : Int32))) ∧ (¬ r7 = 0 → (Q (1 : Int32))))))) ∧ (a2 = (3 : Int32) → (wp_X8_at 296 (b6g_edgeNodes (b8g_tree S)) (((b6g_itemStart (b8g_tree S)) + a1)) (fun r9 => (Q r9)))))) ∧ (¬ a1 < r1 → (Q (-1 : Int32))))))))
set_option maxRecDepth 20000 in
theorem t_X8_item {X : bf_X} (C : bf_C X RX8 cX8_item 4 (some .int)) (hR : bf_Rm X 2 42) (S : bT8) (a1 : Int32) (a2 : Int32) (Q : Int32 → Prop) (h : wp_X8_item S a1 a2 Q) : bf_A X (bf_Zi X bW8 (fun r u => u = S ∧ Q r)) 4 0 [some (.ref 0), some (.int a1), some (.int a2), none] [] (bW8 S) := by
  unfold wp_X8_item at h
  refine bs_iload_n C (bf_dk dd_X8_item 0 rfl) rfl ?_
  refine bs_if_lt C (bf_dk dd_X8_item 1 rfl) (tgt := 15) rfl (fun c => ?_) (fun c => ?_)
  · replace h := h.1 c
    refine bs_iconst C (bf_dk dd_X8_item 7 rfl) (-1 : Int32) (by decide) ?_
    exact bs_iret (u := S) C (bf_dk dd_X8_item 8 rfl) rfl ⟨rfl, h⟩
  · replace h := h.2 c
    refine bs_iload_n C (bf_dk dd_X8_item 2 rfl) rfl ?_
    refine bs_aload_n C (bf_dk dd_X8_item 3 rfl) rfl ?_
    refine bs_get C (bf_dk dd_X8_item 4 rfl) cl_8 in_8 4 (Nat.le_of_ble_eq_true rfl) rfl f_8_33 (ge_bW8_0 S) rfl ?_
    refine bs_pureV_i (ps := [45, 46, 47, 48, 49, 50, 51, 52, 53, 54, 55, 56, 57]) (w := (bW8 S)) C hR (c_X6_items _ _ _ _ _ (b8g_tree S) _ h) my_X6_items m_8_271 rfl cl_6 (ge_bW6_0 _) rfl (Nat.le_of_ble_eq_true rfl) (Nat.le_of_ble_eq_true rfl) (su_bW8_45_bW6 S) bnd_45t57 (st := [.int a1]) (Nat.le_of_ble_eq_true rfl) (bf_dk dd_X8_item 5 rfl) rfl (fun _ => rfl) (fun r1 h => ?_)
    refine bs_icmp_lt C (bf_dk dd_X8_item 6 rfl) (tgt := 17) rfl (fun c => ?_) (fun c => ?_)
    · replace h := h.1 c
      refine bs_aload_n C (bf_dk dd_X8_item 9 rfl) rfl ?_
      refine bs_get C (bf_dk dd_X8_item 10 rfl) cl_8 in_8 4 (Nat.le_of_ble_eq_true rfl) rfl f_8_33 (ge_bW8_0 S) rfl ?_
      refine bs_get C (bf_dk dd_X8_item 11 rfl) cl_6 in_6 18 (Nat.le_of_ble_eq_true rfl) rfl f_8_274 (ge_bW8_45 S) rfl ?_
      refine bs_iload_n C (bf_dk dd_X8_item 12 rfl) rfl ?_
      refine bs_iadd C (bf_dk dd_X8_item 13 rfl) ?_
      refine bs_istore_n C (bf_dk dd_X8_item 14 rfl) rfl (Nat.le_of_ble_eq_true rfl) (Nat.le_of_ble_eq_true rfl) (lv2 := [some (.ref 0), some (.int a1), some (.int a2), some (.int ((b6g_itemStart (b8g_tree S)) + a1))]) rfl ?_
      refine bs_iload_n C (bf_dk dd_X8_item 15 rfl) rfl ?_
      refine bs_table C (tdef := 118) (fun k => List.getD [60, 72, 89, 106] k 0) 4 (bf_dk dd_X8_item 16 rfl) rfl rfl (fun k hk => by rcases (show k = 0 ∨ k = 1 ∨ k = 2 ∨ k = 3 by omega) with rfl | rfl | rfl | rfl <;> exact ⟨_, rfl, rfl⟩) (fun c => ?_) (fun k hk c => ?_)
      · replace h := h.1 c
        refine bs_iconst C (bf_dk dd_X8_item 47 rfl) (-1 : Int32) (by decide) ?_
        exact bs_iret (u := S) C (bf_dk dd_X8_item 48 rfl) rfl ⟨rfl, h⟩
      · rcases (show k = 0 ∨ k = 1 ∨ k = 2 ∨ k = 3 by omega) with rfl | rfl | rfl | rfl
        · replace h := h.2.1 (bf_i32 c (by decide))
          refine bs_aload_n C (bf_dk dd_X8_item 17 rfl) rfl ?_
          refine bs_get C (bf_dk dd_X8_item 18 rfl) cl_8 in_8 4 (Nat.le_of_ble_eq_true rfl) rfl f_8_33 (ge_bW8_0 S) rfl ?_
          refine bs_get C (bf_dk dd_X8_item 19 rfl) cl_6 in_6 5 (Nat.le_of_ble_eq_true rfl) rfl f_8_277 (ge_bW8_45 S) rfl ?_
          refine bs_iload_n C (bf_dk dd_X8_item 20 rfl) rfl ?_
          refine bs_pureS_i (ps := [51]) (w := (bW8 S)) C hR (c_X8_at _ _ _ _ _ 296 (b6g_edgeOctets (b8g_tree S)) (((b6g_itemStart (b8g_tree S)) + a1)) _ h) my_X8_at m_8_115 rfl (Nat.le_of_ble_eq_true rfl) (Nat.le_of_ble_eq_true rfl) (su_bW8_51_bWan296 S) rfl (st := []) (Nat.le_of_ble_eq_true rfl) (bf_dk dd_X8_item 21 rfl) rfl (fun _ => rfl) (fun r3 h => ?_)
          exact bs_iret (u := S) C (bf_dk dd_X8_item 22 rfl) rfl ⟨rfl, h⟩
        · replace h := h.2.2.1 (bf_i32 c (by decide))
          refine bs_aload_n C (bf_dk dd_X8_item 23 rfl) rfl ?_
          refine bs_get C (bf_dk dd_X8_item 24 rfl) cl_8 in_8 4 (Nat.le_of_ble_eq_true rfl) rfl f_8_33 (ge_bW8_0 S) rfl ?_
          refine bs_iload_n C (bf_dk dd_X8_item 25 rfl) rfl ?_
          refine bs_pureV_i (ps := [45, 46, 47, 48, 49, 50, 51, 52, 53, 54, 55, 56, 57]) (w := (bW8 S)) C hR (c_X6_isEnd _ _ _ _ _ (b8g_tree S) (((b6g_itemStart (b8g_tree S)) + a1)) _ h) my_X6_isEnd m_8_280 rfl cl_6 (ge_bW6_0 _) rfl (Nat.le_of_ble_eq_true rfl) (Nat.le_of_ble_eq_true rfl) (su_bW8_45_bW6 S) bnd_45t57 (st := []) (Nat.le_of_ble_eq_true rfl) (bf_dk dd_X8_item 26 rfl) rfl (fun _ => rfl) (fun r5 h => ?_)
          refine bs_if_eq C (bf_dk dd_X8_item 27 rfl) (tgt := 87) rfl (fun c => ?_) (fun c => ?_)
          · replace h := h.1 c
            refine bs_iconst C (bf_dk dd_X8_item 30 rfl) (0 : Int32) (by decide) ?_
            exact bs_iret (u := S) C (bf_dk dd_X8_item 31 rfl) rfl ⟨rfl, h⟩
          · replace h := h.2 c
            refine bs_iconst C (bf_dk dd_X8_item 28 rfl) (1 : Int32) (by decide) ?_
            refine bs_goto C (bf_dk dd_X8_item 29 rfl) (tgt := 88) rfl ?_
            exact bs_iret (u := S) C (bf_dk dd_X8_item 31 rfl) rfl ⟨rfl, h⟩
        · replace h := h.2.2.2.1 (bf_i32 c (by decide))
          refine bs_aload_n C (bf_dk dd_X8_item 32 rfl) rfl ?_
          refine bs_get C (bf_dk dd_X8_item 33 rfl) cl_8 in_8 4 (Nat.le_of_ble_eq_true rfl) rfl f_8_33 (ge_bW8_0 S) rfl ?_
          refine bs_iload_n C (bf_dk dd_X8_item 34 rfl) rfl ?_
          refine bs_pureV_i (ps := [45, 46, 47, 48, 49, 50, 51, 52, 53, 54, 55, 56, 57]) (w := (bW8 S)) C hR (c_X6_hasChild _ _ _ _ _ (b8g_tree S) (((b6g_itemStart (b8g_tree S)) + a1)) _ h) my_X6_hasChild m_8_283 rfl cl_6 (ge_bW6_0 _) rfl (Nat.le_of_ble_eq_true rfl) (Nat.le_of_ble_eq_true rfl) (su_bW8_45_bW6 S) bnd_45t57 (st := []) (Nat.le_of_ble_eq_true rfl) (bf_dk dd_X8_item 35 rfl) rfl (fun _ => rfl) (fun r7 h => ?_)
          refine bs_if_eq C (bf_dk dd_X8_item 36 rfl) (tgt := 104) rfl (fun c => ?_) (fun c => ?_)
          · replace h := h.1 c
            refine bs_iconst C (bf_dk dd_X8_item 39 rfl) (0 : Int32) (by decide) ?_
            exact bs_iret (u := S) C (bf_dk dd_X8_item 40 rfl) rfl ⟨rfl, h⟩
          · replace h := h.2 c
            refine bs_iconst C (bf_dk dd_X8_item 37 rfl) (1 : Int32) (by decide) ?_
            refine bs_goto C (bf_dk dd_X8_item 38 rfl) (tgt := 105) rfl ?_
            exact bs_iret (u := S) C (bf_dk dd_X8_item 40 rfl) rfl ⟨rfl, h⟩
        · replace h := h.2.2.2.2 (bf_i32 c (by decide))
          refine bs_aload_n C (bf_dk dd_X8_item 41 rfl) rfl ?_
          refine bs_get C (bf_dk dd_X8_item 42 rfl) cl_8 in_8 4 (Nat.le_of_ble_eq_true rfl) rfl f_8_33 (ge_bW8_0 S) rfl ?_
          refine bs_get C (bf_dk dd_X8_item 43 rfl) cl_6 in_6 4 (Nat.le_of_ble_eq_true rfl) rfl f_8_286 (ge_bW8_45 S) rfl ?_
          refine bs_iload_n C (bf_dk dd_X8_item 44 rfl) rfl ?_
          refine bs_pureS_i (ps := [50]) (w := (bW8 S)) C hR (c_X8_at _ _ _ _ _ 296 (b6g_edgeNodes (b8g_tree S)) (((b6g_itemStart (b8g_tree S)) + a1)) _ h) my_X8_at m_8_115 rfl (Nat.le_of_ble_eq_true rfl) (Nat.le_of_ble_eq_true rfl) (su_bW8_50_bWan296 S) rfl (st := []) (Nat.le_of_ble_eq_true rfl) (bf_dk dd_X8_item 45 rfl) rfl (fun _ => rfl) (fun r9 h => ?_)
          exact bs_iret (u := S) C (bf_dk dd_X8_item 46 rfl) rfl ⟨rfl, h⟩
    · replace h := h.2 c
      refine bs_iconst C (bf_dk dd_X8_item 7 rfl) (-1 : Int32) (by decide) ?_
      exact bs_iret (u := S) C (bf_dk dd_X8_item 8 rfl) rfl ⟨rfl, h⟩
theorem c_X8_item (l : Launch) (dC : Nat → ClassId) (dI : Nat → Nat → Nat) (ac : Nat → ClassId) (al : Nat → Nat) (S : bT8) (a1 : Int32) (a2 : Int32) (Q : Int32 → Prop) (h : wp_X8_item S a1 a2 Q) : bf_M l yX8_item cX8_item 4 (some .int) 2 42 dC dI ac al [.ref 0, .int a1, .int a2] (bW8 S) (bf_Ki dC dI ac al bW8 (fun r u => u = S ∧ Q r)) := by
  refine bf_start [some (.ref 0), some (.int a1), some (.int a2), none] (by decide) (Nat.le_of_ble_eq_true rfl) (bf_s1 (bf_s1 (bf_s1 (bf_en 1)))) ?_
  intro X hl C hR e1 e2 e3 e4
  subst e1; subst e2; subst e3; subst e4
  exact t_X8_item C hR S a1 a2 Q h
def wp_X8_bit (S : bT8) (a1 : Int32) (Q : Int32 → Prop) : Prop := ((a1 < 0 → (Q (-1 : Int32))) ∧ (¬ a1 < 0 → (wp_X6_rowLength (b8g_tree S) ((b8g_chosenRow S)) (fun r1 => ((a1 < r1 → (wp_X6_onesAhead (b8g_tree S) ((b8g_chosenRow S)) ((a1 + (1 : Int32))) (fun r3 => (wp_X6_onesAhead (b8g_tree S) ((b8g_chosenRow S)) (a1) (fun r5 => (Q (r3 - r5))))))) ∧ (¬ a1 < r1 → (Q (-1 : Int32))))))))
set_option maxRecDepth 20000 in
theorem t_X8_bit {X : bf_X} (C : bf_C X RX8 cX8_bit 2 (some .int)) (hR : bf_Rm X 4 91) (S : bT8) (a1 : Int32) (Q : Int32 → Prop) (h : wp_X8_bit S a1 Q) : bf_A X (bf_Zi X bW8 (fun r u => u = S ∧ Q r)) 2 0 [some (.ref 0), some (.int a1)] [] (bW8 S) := by
  unfold wp_X8_bit at h
  refine bs_iload_n C (bf_dk dd_X8_bit 0 rfl) rfl ?_
  refine bs_if_lt C (bf_dk dd_X8_bit 1 rfl) (tgt := 19) rfl (fun c => ?_) (fun c => ?_)
  · replace h := h.1 c
    refine bs_iconst C (bf_dk dd_X8_bit 9 rfl) (-1 : Int32) (by decide) ?_
    exact bs_iret (u := S) C (bf_dk dd_X8_bit 10 rfl) rfl ⟨rfl, h⟩
  · replace h := h.2 c
    refine bs_iload_n C (bf_dk dd_X8_bit 2 rfl) rfl ?_
    refine bs_aload_n C (bf_dk dd_X8_bit 3 rfl) rfl ?_
    refine bs_get C (bf_dk dd_X8_bit 4 rfl) cl_8 in_8 4 (Nat.le_of_ble_eq_true rfl) rfl f_8_33 (ge_bW8_0 S) rfl ?_
    refine bs_aload_n C (bf_dk dd_X8_bit 5 rfl) rfl ?_
    refine bs_get C (bf_dk dd_X8_bit 6 rfl) cl_8 in_8 9 (Nat.le_of_ble_eq_true rfl) rfl f_8_65 (ge_bW8_0 S) rfl ?_
    refine bs_pureV_i (ps := [45, 46, 47, 48, 49, 50, 51, 52, 53, 54, 55, 56, 57]) (w := (bW8 S)) C hR (c_X6_rowLength _ _ _ _ _ (b8g_tree S) ((b8g_chosenRow S)) _ h) my_X6_rowLength m_8_289 rfl cl_6 (ge_bW6_0 _) rfl (Nat.le_of_ble_eq_true rfl) (Nat.le_of_ble_eq_true rfl) (su_bW8_45_bW6 S) bnd_45t57 (st := [.int a1]) (Nat.le_of_ble_eq_true rfl) (bf_dk dd_X8_bit 7 rfl) rfl (fun _ => rfl) (fun r1 h => ?_)
    refine bs_icmp_lt C (bf_dk dd_X8_bit 8 rfl) (tgt := 21) rfl (fun c => ?_) (fun c => ?_)
    · replace h := h.1 c
      refine bs_aload_n C (bf_dk dd_X8_bit 11 rfl) rfl ?_
      refine bs_get C (bf_dk dd_X8_bit 12 rfl) cl_8 in_8 4 (Nat.le_of_ble_eq_true rfl) rfl f_8_33 (ge_bW8_0 S) rfl ?_
      refine bs_aload_n C (bf_dk dd_X8_bit 13 rfl) rfl ?_
      refine bs_get C (bf_dk dd_X8_bit 14 rfl) cl_8 in_8 9 (Nat.le_of_ble_eq_true rfl) rfl f_8_65 (ge_bW8_0 S) rfl ?_
      refine bs_iload_n C (bf_dk dd_X8_bit 15 rfl) rfl ?_
      refine bs_iconst C (bf_dk dd_X8_bit 16 rfl) (1 : Int32) (by decide) ?_
      refine bs_iadd C (bf_dk dd_X8_bit 17 rfl) ?_
      refine bs_pureV_i (ps := [45, 46, 47, 48, 49, 50, 51, 52, 53, 54, 55, 56, 57]) (w := (bW8 S)) C hR (c_X6_onesAhead _ _ _ _ _ (b8g_tree S) ((b8g_chosenRow S)) ((a1 + (1 : Int32))) _ h) my_X6_onesAhead m_8_292 rfl cl_6 (ge_bW6_0 _) rfl (Nat.le_of_ble_eq_true rfl) (Nat.le_of_ble_eq_true rfl) (su_bW8_45_bW6 S) bnd_45t57 (st := []) (Nat.le_of_ble_eq_true rfl) (bf_dk dd_X8_bit 18 rfl) rfl (fun _ => rfl) (fun r3 h => ?_)
      refine bs_aload_n C (bf_dk dd_X8_bit 19 rfl) rfl ?_
      refine bs_get C (bf_dk dd_X8_bit 20 rfl) cl_8 in_8 4 (Nat.le_of_ble_eq_true rfl) rfl f_8_33 (ge_bW8_0 S) rfl ?_
      refine bs_aload_n C (bf_dk dd_X8_bit 21 rfl) rfl ?_
      refine bs_get C (bf_dk dd_X8_bit 22 rfl) cl_8 in_8 9 (Nat.le_of_ble_eq_true rfl) rfl f_8_65 (ge_bW8_0 S) rfl ?_
      refine bs_iload_n C (bf_dk dd_X8_bit 23 rfl) rfl ?_
      refine bs_pureV_i (ps := [45, 46, 47, 48, 49, 50, 51, 52, 53, 54, 55, 56, 57]) (w := (bW8 S)) C hR (c_X6_onesAhead _ _ _ _ _ (b8g_tree S) ((b8g_chosenRow S)) (a1) _ h) my_X6_onesAhead m_8_292 rfl cl_6 (ge_bW6_0 _) rfl (Nat.le_of_ble_eq_true rfl) (Nat.le_of_ble_eq_true rfl) (su_bW8_45_bW6 S) bnd_45t57 (st := [.int r3]) (Nat.le_of_ble_eq_true rfl) (bf_dk dd_X8_bit 24 rfl) rfl (fun _ => rfl) (fun r5 h => ?_)
      refine bs_isub C (bf_dk dd_X8_bit 25 rfl) ?_
      exact bs_iret (u := S) C (bf_dk dd_X8_bit 26 rfl) rfl ⟨rfl, h⟩
    · replace h := h.2 c
      refine bs_iconst C (bf_dk dd_X8_bit 9 rfl) (-1 : Int32) (by decide) ?_
      exact bs_iret (u := S) C (bf_dk dd_X8_bit 10 rfl) rfl ⟨rfl, h⟩
theorem c_X8_bit (l : Launch) (dC : Nat → ClassId) (dI : Nat → Nat → Nat) (ac : Nat → ClassId) (al : Nat → Nat) (S : bT8) (a1 : Int32) (Q : Int32 → Prop) (h : wp_X8_bit S a1 Q) : bf_M l yX8_bit cX8_bit 2 (some .int) 4 91 dC dI ac al [.ref 0, .int a1] (bW8 S) (bf_Ki dC dI ac al bW8 (fun r u => u = S ∧ Q r)) := by
  refine bf_start [some (.ref 0), some (.int a1)] (by decide) (Nat.le_of_ble_eq_true rfl) (bf_s1 (bf_s1 bf_s0)) ?_
  intro X hl C hR e1 e2 e3 e4
  subst e1; subst e2; subst e3; subst e4
  exact t_X8_bit C hR S a1 Q h
def wp_X8_rank (S : bT8) (a1 : Int32) (Q : Int32 → Prop) : Prop := ((a1 < 0 → (Q (-1 : Int32))) ∧ (¬ a1 < 0 → (wp_X6_rowLength (b8g_tree S) ((b8g_chosenRow S)) (fun r1 => ((a1 ≤ r1 → (wp_X6_onesAhead (b8g_tree S) ((b8g_chosenRow S)) (a1) (fun r3 => (Q r3)))) ∧ (¬ a1 ≤ r1 → (Q (-1 : Int32))))))))
set_option maxRecDepth 20000 in
theorem t_X8_rank {X : bf_X} (C : bf_C X RX8 cX8_rank 2 (some .int)) (hR : bf_Rm X 4 91) (S : bT8) (a1 : Int32) (Q : Int32 → Prop) (h : wp_X8_rank S a1 Q) : bf_A X (bf_Zi X bW8 (fun r u => u = S ∧ Q r)) 2 0 [some (.ref 0), some (.int a1)] [] (bW8 S) := by
  unfold wp_X8_rank at h
  refine bs_iload_n C (bf_dk dd_X8_rank 0 rfl) rfl ?_
  refine bs_if_lt C (bf_dk dd_X8_rank 1 rfl) (tgt := 19) rfl (fun c => ?_) (fun c => ?_)
  · replace h := h.1 c
    refine bs_iconst C (bf_dk dd_X8_rank 9 rfl) (-1 : Int32) (by decide) ?_
    exact bs_iret (u := S) C (bf_dk dd_X8_rank 10 rfl) rfl ⟨rfl, h⟩
  · replace h := h.2 c
    refine bs_iload_n C (bf_dk dd_X8_rank 2 rfl) rfl ?_
    refine bs_aload_n C (bf_dk dd_X8_rank 3 rfl) rfl ?_
    refine bs_get C (bf_dk dd_X8_rank 4 rfl) cl_8 in_8 4 (Nat.le_of_ble_eq_true rfl) rfl f_8_33 (ge_bW8_0 S) rfl ?_
    refine bs_aload_n C (bf_dk dd_X8_rank 5 rfl) rfl ?_
    refine bs_get C (bf_dk dd_X8_rank 6 rfl) cl_8 in_8 9 (Nat.le_of_ble_eq_true rfl) rfl f_8_65 (ge_bW8_0 S) rfl ?_
    refine bs_pureV_i (ps := [45, 46, 47, 48, 49, 50, 51, 52, 53, 54, 55, 56, 57]) (w := (bW8 S)) C hR (c_X6_rowLength _ _ _ _ _ (b8g_tree S) ((b8g_chosenRow S)) _ h) my_X6_rowLength m_8_289 rfl cl_6 (ge_bW6_0 _) rfl (Nat.le_of_ble_eq_true rfl) (Nat.le_of_ble_eq_true rfl) (su_bW8_45_bW6 S) bnd_45t57 (st := [.int a1]) (Nat.le_of_ble_eq_true rfl) (bf_dk dd_X8_rank 7 rfl) rfl (fun _ => rfl) (fun r1 h => ?_)
    refine bs_icmp_le C (bf_dk dd_X8_rank 8 rfl) (tgt := 21) rfl (fun c => ?_) (fun c => ?_)
    · replace h := h.1 c
      refine bs_aload_n C (bf_dk dd_X8_rank 11 rfl) rfl ?_
      refine bs_get C (bf_dk dd_X8_rank 12 rfl) cl_8 in_8 4 (Nat.le_of_ble_eq_true rfl) rfl f_8_33 (ge_bW8_0 S) rfl ?_
      refine bs_aload_n C (bf_dk dd_X8_rank 13 rfl) rfl ?_
      refine bs_get C (bf_dk dd_X8_rank 14 rfl) cl_8 in_8 9 (Nat.le_of_ble_eq_true rfl) rfl f_8_65 (ge_bW8_0 S) rfl ?_
      refine bs_iload_n C (bf_dk dd_X8_rank 15 rfl) rfl ?_
      refine bs_pureV_i (ps := [45, 46, 47, 48, 49, 50, 51, 52, 53, 54, 55, 56, 57]) (w := (bW8 S)) C hR (c_X6_onesAhead _ _ _ _ _ (b8g_tree S) ((b8g_chosenRow S)) (a1) _ h) my_X6_onesAhead m_8_292 rfl cl_6 (ge_bW6_0 _) rfl (Nat.le_of_ble_eq_true rfl) (Nat.le_of_ble_eq_true rfl) (su_bW8_45_bW6 S) bnd_45t57 (st := []) (Nat.le_of_ble_eq_true rfl) (bf_dk dd_X8_rank 16 rfl) rfl (fun _ => rfl) (fun r3 h => ?_)
      exact bs_iret (u := S) C (bf_dk dd_X8_rank 17 rfl) rfl ⟨rfl, h⟩
    · replace h := h.2 c
      refine bs_iconst C (bf_dk dd_X8_rank 9 rfl) (-1 : Int32) (by decide) ?_
      exact bs_iret (u := S) C (bf_dk dd_X8_rank 10 rfl) rfl ⟨rfl, h⟩
theorem c_X8_rank (l : Launch) (dC : Nat → ClassId) (dI : Nat → Nat → Nat) (ac : Nat → ClassId) (al : Nat → Nat) (S : bT8) (a1 : Int32) (Q : Int32 → Prop) (h : wp_X8_rank S a1 Q) : bf_M l yX8_rank cX8_rank 2 (some .int) 4 91 dC dI ac al [.ref 0, .int a1] (bW8 S) (bf_Ki dC dI ac al bW8 (fun r u => u = S ∧ Q r)) := by
  refine bf_start [some (.ref 0), some (.int a1)] (by decide) (Nat.le_of_ble_eq_true rfl) (bf_s1 (bf_s1 bf_s0)) ?_
  intro X hl C hR e1 e2 e3 e4
  subst e1; subst e2; subst e3; subst e4
  exact t_X8_rank C hR S a1 Q h
def wp_X8_select (S : bT8) (a1 : Int32) (Q : Int32 → Prop) : Prop := (wp_X6_placeOfOne (b8g_tree S) ((b8g_chosenRow S)) (a1) (fun r1 => (Q r1)))
set_option maxRecDepth 20000 in
theorem t_X8_select {X : bf_X} (C : bf_C X RX8 cX8_select 2 (some .int)) (hR : bf_Rm X 4 91) (S : bT8) (a1 : Int32) (Q : Int32 → Prop) (h : wp_X8_select S a1 Q) : bf_A X (bf_Zi X bW8 (fun r u => u = S ∧ Q r)) 2 0 [some (.ref 0), some (.int a1)] [] (bW8 S) := by
  unfold wp_X8_select at h
  refine bs_aload_n C (bf_dk dd_X8_select 0 rfl) rfl ?_
  refine bs_get C (bf_dk dd_X8_select 1 rfl) cl_8 in_8 4 (Nat.le_of_ble_eq_true rfl) rfl f_8_33 (ge_bW8_0 S) rfl ?_
  refine bs_aload_n C (bf_dk dd_X8_select 2 rfl) rfl ?_
  refine bs_get C (bf_dk dd_X8_select 3 rfl) cl_8 in_8 9 (Nat.le_of_ble_eq_true rfl) rfl f_8_65 (ge_bW8_0 S) rfl ?_
  refine bs_iload_n C (bf_dk dd_X8_select 4 rfl) rfl ?_
  refine bs_pureV_i (ps := [45, 46, 47, 48, 49, 50, 51, 52, 53, 54, 55, 56, 57]) (w := (bW8 S)) C hR (c_X6_placeOfOne _ _ _ _ _ (b8g_tree S) ((b8g_chosenRow S)) (a1) _ h) my_X6_placeOfOne m_8_295 rfl cl_6 (ge_bW6_0 _) rfl (Nat.le_of_ble_eq_true rfl) (Nat.le_of_ble_eq_true rfl) (su_bW8_45_bW6 S) bnd_45t57 (st := []) (Nat.le_of_ble_eq_true rfl) (bf_dk dd_X8_select 5 rfl) rfl (fun _ => rfl) (fun r1 h => ?_)
  exact bs_iret (u := S) C (bf_dk dd_X8_select 6 rfl) rfl ⟨rfl, h⟩
theorem c_X8_select (l : Launch) (dC : Nat → ClassId) (dI : Nat → Nat → Nat) (ac : Nat → ClassId) (al : Nat → Nat) (S : bT8) (a1 : Int32) (Q : Int32 → Prop) (h : wp_X8_select S a1 Q) : bf_M l yX8_select cX8_select 2 (some .int) 4 91 dC dI ac al [.ref 0, .int a1] (bW8 S) (bf_Ki dC dI ac al bW8 (fun r u => u = S ∧ Q r)) := by
  refine bf_start [some (.ref 0), some (.int a1)] (by decide) (Nat.le_of_ble_eq_true rfl) (bf_s1 (bf_s1 bf_s0)) ?_
  intro X hl C hR e1 e2 e3 e4
  subst e1; subst e2; subst e3; subst e4
  exact t_X8_select C hR S a1 Q h
def wp_X8_bits (S : bT8) (a1 : Int32) (Q : Int32 → Prop) : Prop := (∀ v1 : Int32, v1 = ((513 : Int32) * (b6g_upperNodes (b8g_tree S))) → (wp_X6_bitsBy (b8g_tree S) ((b6g_upper (b8g_tree S))) (fun r2 => ((((a1).toInt < 0 ∨ 6 < (a1).toInt) → (Q (-1 : Int32))) ∧ (a1 = (0 : Int32) → (Q v1)) ∧ (a1 = (1 : Int32) → (Q (r2 - v1))) ∧ (a1 = (2 : Int32) → (wp_X1_tailBits (b8g_leaves S) (fun r4 => (Q r4)))) ∧ (a1 = (3 : Int32) → (wp_X1_tailBits (b8g_leaves S) (fun r6 => (Q (r2 + r6))))) ∧ (a1 = (4 : Int32) → (wp_X0_allBytes (b1g_owners (b8g_leaves S)) (fun r8 => (Q ((8 : Int32) * r8))))) ∧ (a1 = (5 : Int32) → (wp_X6_rowLength (b8g_tree S) ((b8g_chosenRow S)) (fun r10 => (Q r10)))) ∧ (a1 = (6 : Int32) → (wp_X6_rowLength (b8g_tree S) ((b8g_chosenRow S)) (fun r12 => (wp_X6_onesAhead (b8g_tree S) ((b8g_chosenRow S)) (r12) (fun r14 => (Q r14))))))))))
set_option maxRecDepth 20000 in
theorem t_X8_bits {X : bf_X} (C : bf_C X RX8 cX8_bits 4 (some .int)) (hR : bf_Rm X 4 91) (S : bT8) (a1 : Int32) (Q : Int32 → Prop) (h : wp_X8_bits S a1 Q) : bf_A X (bf_Zi X bW8 (fun r u => u = S ∧ Q r)) 4 0 [some (.ref 0), some (.int a1), none, none] [] (bW8 S) := by
  unfold wp_X8_bits at h
  refine bs_sipush C (bf_dk dd_X8_bits 0 rfl) (513 : Int32) (by decide) ?_
  refine bs_aload_n C (bf_dk dd_X8_bits 1 rfl) rfl ?_
  refine bs_get C (bf_dk dd_X8_bits 2 rfl) cl_8 in_8 4 (Nat.le_of_ble_eq_true rfl) rfl f_8_33 (ge_bW8_0 S) rfl ?_
  refine bs_get C (bf_dk dd_X8_bits 3 rfl) cl_6 in_6 17 (Nat.le_of_ble_eq_true rfl) rfl f_8_244 (ge_bW8_45 S) rfl ?_
  refine bs_imul C (bf_dk dd_X8_bits 4 rfl) ?_
  refine bs_name (fun v1 ev1 => ?_)
  replace h := h v1 ev1
  refine bs_istore_n C (bf_dk dd_X8_bits 5 rfl) rfl (Nat.le_of_ble_eq_true rfl) (Nat.le_of_ble_eq_true rfl) (lv2 := [some (.ref 0), some (.int a1), some (.int v1), none]) rfl ?_
  refine bs_aload_n C (bf_dk dd_X8_bits 6 rfl) rfl ?_
  refine bs_get C (bf_dk dd_X8_bits 7 rfl) cl_8 in_8 4 (Nat.le_of_ble_eq_true rfl) rfl f_8_33 (ge_bW8_0 S) rfl ?_
  refine bs_aload_n C (bf_dk dd_X8_bits 8 rfl) rfl ?_
  refine bs_get C (bf_dk dd_X8_bits 9 rfl) cl_8 in_8 4 (Nat.le_of_ble_eq_true rfl) rfl f_8_33 (ge_bW8_0 S) rfl ?_
  refine bs_get C (bf_dk dd_X8_bits 10 rfl) cl_6 in_6 16 (Nat.le_of_ble_eq_true rfl) rfl f_8_265 (ge_bW8_45 S) rfl ?_
  refine bs_pureV_i (ps := [45, 46, 47, 48, 49, 50, 51, 52, 53, 54, 55, 56, 57]) (w := (bW8 S)) C hR (c_X6_bitsBy _ _ _ _ _ (b8g_tree S) ((b6g_upper (b8g_tree S))) _ h) my_X6_bitsBy m_8_298 rfl cl_6 (ge_bW6_0 _) rfl (Nat.le_of_ble_eq_true rfl) (Nat.le_of_ble_eq_true rfl) (su_bW8_45_bW6 S) bnd_45t57 (st := []) (Nat.le_of_ble_eq_true rfl) (bf_dk dd_X8_bits 11 rfl) rfl (fun _ => rfl) (fun r2 h => ?_)
  refine bs_istore_n C (bf_dk dd_X8_bits 12 rfl) rfl (Nat.le_of_ble_eq_true rfl) (Nat.le_of_ble_eq_true rfl) (lv2 := [some (.ref 0), some (.int a1), some (.int v1), some (.int r2)]) rfl ?_
  refine bs_iload_n C (bf_dk dd_X8_bits 13 rfl) rfl ?_
  refine bs_table C (tdef := 145) (fun k => List.getD [72, 74, 78, 86, 96, 110, 122] k 0) 7 (bf_dk dd_X8_bits 14 rfl) rfl rfl (fun k hk => by rcases (show k = 0 ∨ k = 1 ∨ k = 2 ∨ k = 3 ∨ k = 4 ∨ k = 5 ∨ k = 6 by omega) with rfl | rfl | rfl | rfl | rfl | rfl | rfl <;> exact ⟨_, rfl, rfl⟩) (fun c => ?_) (fun k hk c => ?_)
  · replace h := h.1 c
    refine bs_iconst C (bf_dk dd_X8_bits 55 rfl) (-1 : Int32) (by decide) ?_
    exact bs_iret (u := S) C (bf_dk dd_X8_bits 56 rfl) rfl ⟨rfl, h⟩
  · rcases (show k = 0 ∨ k = 1 ∨ k = 2 ∨ k = 3 ∨ k = 4 ∨ k = 5 ∨ k = 6 by omega) with rfl | rfl | rfl | rfl | rfl | rfl | rfl
    · replace h := h.2.1 (bf_i32 c (by decide))
      refine bs_iload_n C (bf_dk dd_X8_bits 15 rfl) rfl ?_
      exact bs_iret (u := S) C (bf_dk dd_X8_bits 16 rfl) rfl ⟨rfl, h⟩
    · replace h := h.2.2.1 (bf_i32 c (by decide))
      refine bs_iload_n C (bf_dk dd_X8_bits 17 rfl) rfl ?_
      refine bs_iload_n C (bf_dk dd_X8_bits 18 rfl) rfl ?_
      refine bs_isub C (bf_dk dd_X8_bits 19 rfl) ?_
      exact bs_iret (u := S) C (bf_dk dd_X8_bits 20 rfl) rfl ⟨rfl, h⟩
    · replace h := h.2.2.2.1 (bf_i32 c (by decide))
      refine bs_aload_n C (bf_dk dd_X8_bits 21 rfl) rfl ?_
      refine bs_get C (bf_dk dd_X8_bits 22 rfl) cl_8 in_8 3 (Nat.le_of_ble_eq_true rfl) rfl f_8_26 (ge_bW8_0 S) rfl ?_
      refine bs_pureV_i (ps := [31, 32, 33, 34, 35, 36, 37, 38, 39, 40, 41, 42, 43, 44]) (w := (bW8 S)) C hR (c_X1_tailBits _ _ _ _ _ (b8g_leaves S) _ h) my_X1_tailBits m_8_301 rfl cl_1 (ge_bW1_0 _) rfl (Nat.le_of_ble_eq_true rfl) (Nat.le_of_ble_eq_true rfl) (su_bW8_31_bW1 S) bnd_31t44 (st := []) (Nat.le_of_ble_eq_true rfl) (bf_dk dd_X8_bits 23 rfl) rfl (fun _ => rfl) (fun r4 h => ?_)
      exact bs_iret (u := S) C (bf_dk dd_X8_bits 24 rfl) rfl ⟨rfl, h⟩
    · replace h := h.2.2.2.2.1 (bf_i32 c (by decide))
      refine bs_iload_n C (bf_dk dd_X8_bits 25 rfl) rfl ?_
      refine bs_aload_n C (bf_dk dd_X8_bits 26 rfl) rfl ?_
      refine bs_get C (bf_dk dd_X8_bits 27 rfl) cl_8 in_8 3 (Nat.le_of_ble_eq_true rfl) rfl f_8_26 (ge_bW8_0 S) rfl ?_
      refine bs_pureV_i (ps := [31, 32, 33, 34, 35, 36, 37, 38, 39, 40, 41, 42, 43, 44]) (w := (bW8 S)) C hR (c_X1_tailBits _ _ _ _ _ (b8g_leaves S) _ h) my_X1_tailBits m_8_301 rfl cl_1 (ge_bW1_0 _) rfl (Nat.le_of_ble_eq_true rfl) (Nat.le_of_ble_eq_true rfl) (su_bW8_31_bW1 S) bnd_31t44 (st := [.int r2]) (Nat.le_of_ble_eq_true rfl) (bf_dk dd_X8_bits 28 rfl) rfl (fun _ => rfl) (fun r6 h => ?_)
      refine bs_iadd C (bf_dk dd_X8_bits 29 rfl) ?_
      exact bs_iret (u := S) C (bf_dk dd_X8_bits 30 rfl) rfl ⟨rfl, h⟩
    · replace h := h.2.2.2.2.2.1 (bf_i32 c (by decide))
      refine bs_bipush C (bf_dk dd_X8_bits 31 rfl) (8 : Int32) (by decide) ?_
      refine bs_aload_n C (bf_dk dd_X8_bits 32 rfl) rfl ?_
      refine bs_get C (bf_dk dd_X8_bits 33 rfl) cl_8 in_8 3 (Nat.le_of_ble_eq_true rfl) rfl f_8_26 (ge_bW8_0 S) rfl ?_
      refine bs_get C (bf_dk dd_X8_bits 34 rfl) cl_1 in_1 0 (Nat.le_of_ble_eq_true rfl) rfl f_8_163 (ge_bW8_31 S) rfl ?_
      refine bs_pureV_i (ps := [32, 33, 34]) (w := (bW8 S)) C hR (c_X0_allBytes _ _ _ _ _ (b1g_owners (b8g_leaves S)) _ h) my_X0_allBytes m_8_304 rfl cl_0 (ge_bW0_0 _) rfl (Nat.le_of_ble_eq_true rfl) (Nat.le_of_ble_eq_true rfl) (su_bW8_32_bW0 S) rfl (st := [.int (8 : Int32)]) (Nat.le_of_ble_eq_true rfl) (bf_dk dd_X8_bits 35 rfl) rfl (fun _ => rfl) (fun r8 h => ?_)
      refine bs_imul C (bf_dk dd_X8_bits 36 rfl) ?_
      exact bs_iret (u := S) C (bf_dk dd_X8_bits 37 rfl) rfl ⟨rfl, h⟩
    · replace h := h.2.2.2.2.2.2.1 (bf_i32 c (by decide))
      refine bs_aload_n C (bf_dk dd_X8_bits 38 rfl) rfl ?_
      refine bs_get C (bf_dk dd_X8_bits 39 rfl) cl_8 in_8 4 (Nat.le_of_ble_eq_true rfl) rfl f_8_33 (ge_bW8_0 S) rfl ?_
      refine bs_aload_n C (bf_dk dd_X8_bits 40 rfl) rfl ?_
      refine bs_get C (bf_dk dd_X8_bits 41 rfl) cl_8 in_8 9 (Nat.le_of_ble_eq_true rfl) rfl f_8_65 (ge_bW8_0 S) rfl ?_
      refine bs_pureV_i (ps := [45, 46, 47, 48, 49, 50, 51, 52, 53, 54, 55, 56, 57]) (w := (bW8 S)) C hR (c_X6_rowLength _ _ _ _ _ (b8g_tree S) ((b8g_chosenRow S)) _ h) my_X6_rowLength m_8_289 rfl cl_6 (ge_bW6_0 _) rfl (Nat.le_of_ble_eq_true rfl) (Nat.le_of_ble_eq_true rfl) (su_bW8_45_bW6 S) bnd_45t57 (st := []) (Nat.le_of_ble_eq_true rfl) (bf_dk dd_X8_bits 42 rfl) rfl (fun _ => rfl) (fun r10 h => ?_)
      exact bs_iret (u := S) C (bf_dk dd_X8_bits 43 rfl) rfl ⟨rfl, h⟩
    · replace h := h.2.2.2.2.2.2.2 (bf_i32 c (by decide))
      refine bs_aload_n C (bf_dk dd_X8_bits 44 rfl) rfl ?_
      refine bs_get C (bf_dk dd_X8_bits 45 rfl) cl_8 in_8 4 (Nat.le_of_ble_eq_true rfl) rfl f_8_33 (ge_bW8_0 S) rfl ?_
      refine bs_aload_n C (bf_dk dd_X8_bits 46 rfl) rfl ?_
      refine bs_get C (bf_dk dd_X8_bits 47 rfl) cl_8 in_8 9 (Nat.le_of_ble_eq_true rfl) rfl f_8_65 (ge_bW8_0 S) rfl ?_
      refine bs_aload_n C (bf_dk dd_X8_bits 48 rfl) rfl ?_
      refine bs_get C (bf_dk dd_X8_bits 49 rfl) cl_8 in_8 4 (Nat.le_of_ble_eq_true rfl) rfl f_8_33 (ge_bW8_0 S) rfl ?_
      refine bs_aload_n C (bf_dk dd_X8_bits 50 rfl) rfl ?_
      refine bs_get C (bf_dk dd_X8_bits 51 rfl) cl_8 in_8 9 (Nat.le_of_ble_eq_true rfl) rfl f_8_65 (ge_bW8_0 S) rfl ?_
      refine bs_pureV_i (ps := [45, 46, 47, 48, 49, 50, 51, 52, 53, 54, 55, 56, 57]) (w := (bW8 S)) C hR (c_X6_rowLength _ _ _ _ _ (b8g_tree S) ((b8g_chosenRow S)) _ h) my_X6_rowLength m_8_289 rfl cl_6 (ge_bW6_0 _) rfl (Nat.le_of_ble_eq_true rfl) (Nat.le_of_ble_eq_true rfl) (su_bW8_45_bW6 S) bnd_45t57 (st := [.int (b8g_chosenRow S), .ref 45]) (Nat.le_of_ble_eq_true rfl) (bf_dk dd_X8_bits 52 rfl) rfl (fun _ => rfl) (fun r12 h => ?_)
      refine bs_pureV_i (ps := [45, 46, 47, 48, 49, 50, 51, 52, 53, 54, 55, 56, 57]) (w := (bW8 S)) C hR (c_X6_onesAhead _ _ _ _ _ (b8g_tree S) ((b8g_chosenRow S)) (r12) _ h) my_X6_onesAhead m_8_292 rfl cl_6 (ge_bW6_0 _) rfl (Nat.le_of_ble_eq_true rfl) (Nat.le_of_ble_eq_true rfl) (su_bW8_45_bW6 S) bnd_45t57 (st := []) (Nat.le_of_ble_eq_true rfl) (bf_dk dd_X8_bits 53 rfl) rfl (fun _ => rfl) (fun r14 h => ?_)
      exact bs_iret (u := S) C (bf_dk dd_X8_bits 54 rfl) rfl ⟨rfl, h⟩
theorem c_X8_bits (l : Launch) (dC : Nat → ClassId) (dI : Nat → Nat → Nat) (ac : Nat → ClassId) (al : Nat → Nat) (S : bT8) (a1 : Int32) (Q : Int32 → Prop) (h : wp_X8_bits S a1 Q) : bf_M l yX8_bits cX8_bits 4 (some .int) 4 91 dC dI ac al [.ref 0, .int a1] (bW8 S) (bf_Ki dC dI ac al bW8 (fun r u => u = S ∧ Q r)) := by
  refine bf_start [some (.ref 0), some (.int a1), none, none] (by decide) (Nat.le_of_ble_eq_true rfl) (bf_s1 (bf_s1 (bf_en 2))) ?_
  intro X hl C hR e1 e2 e3 e4
  subst e1; subst e2; subst e3; subst e4
  exact t_X8_bits C hR S a1 Q h
def wp_X8_least_36 (S : bT8) (x1 : Int32) (x2 : Int32) (x3 : Int32) (Q : Int32 → Prop) (B4 : Int32 → Int32 → Int32 → Prop) : Prop := (B4 (x1) (x2) ((x3 + (1 : Int32))))
set_option maxRecDepth 20000 in
theorem t_X8_least_36 {X : bf_X} (C : bf_C X RX8 cX8_least 4 (some .int)) (hR : bf_Rm X 3 65) (S : bT8) (x1 : Int32) (x2 : Int32) (x3 : Int32) (Q : Int32 → Prop) (B4 : Int32 → Int32 → Int32 → Prop) (hB4 : ∀ (x1 : Int32) (x2 : Int32) (x3 : Int32), B4 x1 x2 x3 → bf_A X (bf_Zi X bW8 (fun r u => u = S ∧ Q r)) 4 4 [some (.ref 0), some (.int x1), some (.int x2), some (.int x3)] [] (bW8 S)) (h : wp_X8_least_36 S x1 x2 x3 Q B4) : bf_A X (bf_Zi X bW8 (fun r u => u = S ∧ Q r)) 4 36 [some (.ref 0), some (.int x1), some (.int x2), some (.int x3)] [] (bW8 S) := by
  unfold wp_X8_least_36 at h
  refine bs_iinc C (bf_dk dd_X8_least 20 rfl) (x3 + (1 : Int32)) rfl rfl (Nat.le_of_ble_eq_true rfl) (Nat.le_of_ble_eq_true rfl) (lv2 := [some (.ref 0), some (.int x1), some (.int x2), some (.int (x3 + (1 : Int32)))]) rfl ?_
  refine bs_goto C (bf_dk dd_X8_least 21 rfl) (tgt := 4) rfl ?_
  exact bs_weak (bf_s1 (bf_s1 (bf_s1 (bf_s1 bf_s0)))) (hB4 (x1) (x2) ((x3 + (1 : Int32))) h)
def wp_X8_least_4b (S : bT8) (x1 : Int32) (x2 : Int32) (x3 : Int32) (Q : Int32 → Prop) (B4 : Int32 → Int32 → Int32 → Prop) : Prop := (((b6g_levels (b8g_tree S)) < x3 → ((¬ x1 = 0 → ((¬ x1 = (1 : Int32) → (Q (-1 : Int32))) ∧ (x1 = (1 : Int32) → (wp_X6_bitsBy (b8g_tree S) (x2) (fun r1 => (wp_X1_tailBits (b8g_leaves S) (fun r3 => (Q (r1 + r3))))))))) ∧ (x1 = 0 → (Q x2)))) ∧ (¬ (b6g_levels (b8g_tree S)) < x3 → (wp_X6_bitsBy (b8g_tree S) (x3) (fun r5 => (wp_X6_bitsBy (b8g_tree S) (x2) (fun r7 => ((r7 ≤ r5 → (wp_X8_least_36 S (x1) (x2) (x3) Q B4)) ∧ (¬ r7 ≤ r5 → (wp_X8_least_36 S (x1) (x3) (x3) Q B4)))))))))
set_option maxRecDepth 20000 in
theorem t_X8_least_4b {X : bf_X} (C : bf_C X RX8 cX8_least 4 (some .int)) (hR : bf_Rm X 3 65) (S : bT8) (x1 : Int32) (x2 : Int32) (x3 : Int32) (Q : Int32 → Prop) (B4 : Int32 → Int32 → Int32 → Prop) (hB4 : ∀ (x1 : Int32) (x2 : Int32) (x3 : Int32), B4 x1 x2 x3 → bf_A X (bf_Zi X bW8 (fun r u => u = S ∧ Q r)) 4 4 [some (.ref 0), some (.int x1), some (.int x2), some (.int x3)] [] (bW8 S)) (h : wp_X8_least_4b S x1 x2 x3 Q B4) : bf_A X (bf_Zi X bW8 (fun r u => u = S ∧ Q r)) 4 4 [some (.ref 0), some (.int x1), some (.int x2), some (.int x3)] [] (bW8 S) := by
  unfold wp_X8_least_4b at h
  refine bs_iload_n C (bf_dk dd_X8_least 4 rfl) rfl ?_
  refine bs_aload_n C (bf_dk dd_X8_least 5 rfl) rfl ?_
  refine bs_get C (bf_dk dd_X8_least 6 rfl) cl_8 in_8 4 (Nat.le_of_ble_eq_true rfl) rfl f_8_33 (ge_bW8_0 S) rfl ?_
  refine bs_get C (bf_dk dd_X8_least 7 rfl) cl_6 in_6 15 (Nat.le_of_ble_eq_true rfl) rfl f_8_256 (ge_bW8_45 S) rfl ?_
  refine bs_icmp_gt C (bf_dk dd_X8_least 8 rfl) (tgt := 42) rfl (fun c => ?_) (fun c => ?_)
  · replace h := h.1 c
    refine bs_iload_n C (bf_dk dd_X8_least 22 rfl) rfl ?_
    refine bs_if_ne C (bf_dk dd_X8_least 23 rfl) (tgt := 48) rfl (fun c => ?_) (fun c => ?_)
    · replace h := h.1 c
      refine bs_iload_n C (bf_dk dd_X8_least 26 rfl) rfl ?_
      refine bs_iconst C (bf_dk dd_X8_least 27 rfl) (1 : Int32) (by decide) ?_
      refine bs_icmp_ne C (bf_dk dd_X8_least 28 rfl) (tgt := 72) rfl (fun c => ?_) (fun c => ?_)
      · replace h := h.1 c
        refine bs_iconst C (bf_dk dd_X8_least 38 rfl) (-1 : Int32) (by decide) ?_
        exact bs_iret (u := S) C (bf_dk dd_X8_least 39 rfl) rfl ⟨rfl, h⟩
      · replace h := h.2 c
        refine bs_aload_n C (bf_dk dd_X8_least 29 rfl) rfl ?_
        refine bs_get C (bf_dk dd_X8_least 30 rfl) cl_8 in_8 4 (Nat.le_of_ble_eq_true rfl) rfl f_8_33 (ge_bW8_0 S) rfl ?_
        refine bs_iload_n C (bf_dk dd_X8_least 31 rfl) rfl ?_
        refine bs_pureV_i (ps := [45, 46, 47, 48, 49, 50, 51, 52, 53, 54, 55, 56, 57]) (w := (bW8 S)) C hR (c_X6_bitsBy _ _ _ _ _ (b8g_tree S) (x2) _ h) my_X6_bitsBy m_8_298 rfl cl_6 (ge_bW6_0 _) rfl (Nat.le_of_ble_eq_true rfl) (Nat.le_of_ble_eq_true rfl) (su_bW8_45_bW6 S) bnd_45t57 (st := []) (Nat.le_of_ble_eq_true rfl) (bf_dk dd_X8_least 32 rfl) rfl (fun _ => rfl) (fun r1 h => ?_)
        refine bs_aload_n C (bf_dk dd_X8_least 33 rfl) rfl ?_
        refine bs_get C (bf_dk dd_X8_least 34 rfl) cl_8 in_8 3 (Nat.le_of_ble_eq_true rfl) rfl f_8_26 (ge_bW8_0 S) rfl ?_
        refine bs_pureV_i (ps := [31, 32, 33, 34, 35, 36, 37, 38, 39, 40, 41, 42, 43, 44]) (w := (bW8 S)) C hR (c_X1_tailBits _ _ _ _ _ (b8g_leaves S) _ h) my_X1_tailBits m_8_301 rfl cl_1 (ge_bW1_0 _) rfl (Nat.le_of_ble_eq_true rfl) (Nat.le_of_ble_eq_true rfl) (su_bW8_31_bW1 S) bnd_31t44 (st := [.int r1]) (Nat.le_of_ble_eq_true rfl) (bf_dk dd_X8_least 35 rfl) rfl (fun _ => rfl) (fun r3 h => ?_)
        refine bs_iadd C (bf_dk dd_X8_least 36 rfl) ?_
        refine bs_goto C (bf_dk dd_X8_least 37 rfl) (tgt := 73) rfl ?_
        exact bs_iret (u := S) C (bf_dk dd_X8_least 39 rfl) rfl ⟨rfl, h⟩
    · replace h := h.2 c
      refine bs_iload_n C (bf_dk dd_X8_least 24 rfl) rfl ?_
      exact bs_iret (u := S) C (bf_dk dd_X8_least 25 rfl) rfl ⟨rfl, h⟩
  · replace h := h.2 c
    refine bs_aload_n C (bf_dk dd_X8_least 9 rfl) rfl ?_
    refine bs_get C (bf_dk dd_X8_least 10 rfl) cl_8 in_8 4 (Nat.le_of_ble_eq_true rfl) rfl f_8_33 (ge_bW8_0 S) rfl ?_
    refine bs_iload_n C (bf_dk dd_X8_least 11 rfl) rfl ?_
    refine bs_pureV_i (ps := [45, 46, 47, 48, 49, 50, 51, 52, 53, 54, 55, 56, 57]) (w := (bW8 S)) C hR (c_X6_bitsBy _ _ _ _ _ (b8g_tree S) (x3) _ h) my_X6_bitsBy m_8_298 rfl cl_6 (ge_bW6_0 _) rfl (Nat.le_of_ble_eq_true rfl) (Nat.le_of_ble_eq_true rfl) (su_bW8_45_bW6 S) bnd_45t57 (st := []) (Nat.le_of_ble_eq_true rfl) (bf_dk dd_X8_least 12 rfl) rfl (fun _ => rfl) (fun r5 h => ?_)
    refine bs_aload_n C (bf_dk dd_X8_least 13 rfl) rfl ?_
    refine bs_get C (bf_dk dd_X8_least 14 rfl) cl_8 in_8 4 (Nat.le_of_ble_eq_true rfl) rfl f_8_33 (ge_bW8_0 S) rfl ?_
    refine bs_iload_n C (bf_dk dd_X8_least 15 rfl) rfl ?_
    refine bs_pureV_i (ps := [45, 46, 47, 48, 49, 50, 51, 52, 53, 54, 55, 56, 57]) (w := (bW8 S)) C hR (c_X6_bitsBy _ _ _ _ _ (b8g_tree S) (x2) _ h) my_X6_bitsBy m_8_298 rfl cl_6 (ge_bW6_0 _) rfl (Nat.le_of_ble_eq_true rfl) (Nat.le_of_ble_eq_true rfl) (su_bW8_45_bW6 S) bnd_45t57 (st := [.int r5]) (Nat.le_of_ble_eq_true rfl) (bf_dk dd_X8_least 16 rfl) rfl (fun _ => rfl) (fun r7 h => ?_)
    refine bs_icmp_ge C (bf_dk dd_X8_least 17 rfl) (tgt := 36) rfl (fun c => ?_) (fun c => ?_)
    · replace h := h.1 c
      exact bs_weak (bf_s1 (bf_s1 (bf_s1 (bf_s1 bf_s0)))) (t_X8_least_36 C hR S (x1) (x2) (x3) Q B4 hB4 h)
    · replace h := h.2 c
      refine bs_iload_n C (bf_dk dd_X8_least 18 rfl) rfl ?_
      refine bs_istore_n C (bf_dk dd_X8_least 19 rfl) rfl (Nat.le_of_ble_eq_true rfl) (Nat.le_of_ble_eq_true rfl) (lv2 := [some (.ref 0), some (.int x1), some (.int x3), some (.int x3)]) rfl ?_
      exact bs_weak (bf_s1 (bf_s1 (bf_s1 (bf_s1 bf_s0)))) (t_X8_least_36 C hR S (x1) (x3) (x3) Q B4 hB4 h)
def wp_X8_least_4 (S : bT8) (x1 : Int32) (x2 : Int32) (x3 : Int32) (Q : Int32 → Prop) : Prop := ∃ I : Nat → Int32 → Int32 → Int32 → Prop, (∃ n : Nat, I n x1 x2 x3) ∧ ∀ (n : Nat) (x1 : Int32) (x2 : Int32) (x3 : Int32), I n x1 x2 x3 → wp_X8_least_4b S x1 x2 x3 Q (fun x1 x2 x3 => ∃ n2 : Nat, n2 < n ∧ I n2 x1 x2 x3)
theorem t_X8_least_4 {X : bf_X} (C : bf_C X RX8 cX8_least 4 (some .int)) (hR : bf_Rm X 3 65) (S : bT8) (x1 : Int32) (x2 : Int32) (x3 : Int32) (Q : Int32 → Prop) (h : wp_X8_least_4 S x1 x2 x3 Q) : bf_A X (bf_Zi X bW8 (fun r u => u = S ∧ Q r)) 4 4 [some (.ref 0), some (.int x1), some (.int x2), some (.int x3)] [] (bW8 S) := by
  obtain ⟨I, ⟨n0, h0⟩, hI⟩ := h
  have key : ∀ (n : Nat) (x1 : Int32) (x2 : Int32) (x3 : Int32), I n x1 x2 x3 → bf_A X (bf_Zi X bW8 (fun r u => u = S ∧ Q r)) 4 4 [some (.ref 0), some (.int x1), some (.int x2), some (.int x3)] [] (bW8 S) := by
    intro n
    induction n using Nat.strongRecOn with
    | _ n ih =>
      intro x1 x2 x3 hi
      exact t_X8_least_4b C hR S x1 x2 x3 Q _ (fun x1 x2 x3 hb => by obtain ⟨n2, hn, hi2⟩ := hb; exact ih n2 hn x1 x2 x3 hi2) (hI n x1 x2 x3 hi)
  exact key n0 x1 x2 x3 h0
def wp_X8_least (S : bT8) (a1 : Int32) (Q : Int32 → Prop) : Prop := (wp_X8_least_4 S (a1) ((0 : Int32)) ((1 : Int32)) Q)
set_option maxRecDepth 20000 in
theorem t_X8_least {X : bf_X} (C : bf_C X RX8 cX8_least 4 (some .int)) (hR : bf_Rm X 3 65) (S : bT8) (a1 : Int32) (Q : Int32 → Prop) (h : wp_X8_least S a1 Q) : bf_A X (bf_Zi X bW8 (fun r u => u = S ∧ Q r)) 4 0 [some (.ref 0), some (.int a1), none, none] [] (bW8 S) := by
  unfold wp_X8_least at h
  refine bs_iconst C (bf_dk dd_X8_least 0 rfl) (0 : Int32) (by decide) ?_
  refine bs_istore_n C (bf_dk dd_X8_least 1 rfl) rfl (Nat.le_of_ble_eq_true rfl) (Nat.le_of_ble_eq_true rfl) (lv2 := [some (.ref 0), some (.int a1), some (.int (0 : Int32)), none]) rfl ?_
  refine bs_iconst C (bf_dk dd_X8_least 2 rfl) (1 : Int32) (by decide) ?_
  refine bs_istore_n C (bf_dk dd_X8_least 3 rfl) rfl (Nat.le_of_ble_eq_true rfl) (Nat.le_of_ble_eq_true rfl) (lv2 := [some (.ref 0), some (.int a1), some (.int (0 : Int32)), some (.int (1 : Int32))]) rfl ?_
  exact bs_weak (bf_s1 (bf_s1 (bf_s1 (bf_s1 bf_s0)))) (t_X8_least_4 C hR S (a1) ((0 : Int32)) ((1 : Int32)) Q h)
theorem c_X8_least (l : Launch) (dC : Nat → ClassId) (dI : Nat → Nat → Nat) (ac : Nat → ClassId) (al : Nat → Nat) (S : bT8) (a1 : Int32) (Q : Int32 → Prop) (h : wp_X8_least S a1 Q) : bf_M l yX8_least cX8_least 4 (some .int) 3 65 dC dI ac al [.ref 0, .int a1] (bW8 S) (bf_Ki dC dI ac al bW8 (fun r u => u = S ∧ Q r)) := by
  refine bf_start [some (.ref 0), some (.int a1), none, none] (by decide) (Nat.le_of_ble_eq_true rfl) (bf_s1 (bf_s1 (bf_en 2))) ?_
  intro X hl C hR e1 e2 e3 e4
  subst e1; subst e2; subst e3; subst e4
  exact t_X8_least C hR S a1 Q h
def wp_X8_isCounted (a0 : Int32) (Q : Int32 → Prop) : Prop := ((a0 < (1 : Int32) → (bf_bool (0 : Int32) ∧ Q (0 : Int32))) ∧ (¬ a0 < (1 : Int32) → (((8 : Int32) ≤ a0 → (bf_bool (0 : Int32) ∧ Q (0 : Int32))) ∧ (¬ (8 : Int32) ≤ a0 → (bf_bool (1 : Int32) ∧ Q (1 : Int32))))))
set_option maxRecDepth 20000 in
theorem t_X8_isCounted {X : bf_X} (C : bf_C X RX8 cX8_isCounted 1 (some .boolean)) (hR : bf_Rm X 0 0) (a0 : Int32) (Q : Int32 → Prop) (h : wp_X8_isCounted a0 Q) : bf_A X (bf_Zi X bWu (fun r u => u = () ∧ Q r)) 1 0 [some (.int a0)] [] (bWu ()) := by
  unfold wp_X8_isCounted at h
  refine bs_iload_n C (bf_dk dd_X8_isCounted 0 rfl) rfl ?_
  refine bs_iconst C (bf_dk dd_X8_isCounted 1 rfl) (1 : Int32) (by decide) ?_
  refine bs_icmp_lt C (bf_dk dd_X8_isCounted 2 rfl) (tgt := 15) rfl (fun c => ?_) (fun c => ?_)
  · replace h := h.1 c
    refine bs_iconst C (bf_dk dd_X8_isCounted 8 rfl) (0 : Int32) (by decide) ?_
    obtain ⟨hi, h⟩ := h
    exact bs_zret (u := ()) C (bf_dk dd_X8_isCounted 9 rfl) hi rfl ⟨rfl, h⟩
  · replace h := h.2 c
    refine bs_iload_n C (bf_dk dd_X8_isCounted 3 rfl) rfl ?_
    refine bs_bipush C (bf_dk dd_X8_isCounted 4 rfl) (8 : Int32) (by decide) ?_
    refine bs_icmp_ge C (bf_dk dd_X8_isCounted 5 rfl) (tgt := 15) rfl (fun c => ?_) (fun c => ?_)
    · replace h := h.1 c
      refine bs_iconst C (bf_dk dd_X8_isCounted 8 rfl) (0 : Int32) (by decide) ?_
      obtain ⟨hi, h⟩ := h
      exact bs_zret (u := ()) C (bf_dk dd_X8_isCounted 9 rfl) hi rfl ⟨rfl, h⟩
    · replace h := h.2 c
      refine bs_iconst C (bf_dk dd_X8_isCounted 6 rfl) (1 : Int32) (by decide) ?_
      refine bs_goto C (bf_dk dd_X8_isCounted 7 rfl) (tgt := 16) rfl ?_
      obtain ⟨hi, h⟩ := h
      exact bs_zret (u := ()) C (bf_dk dd_X8_isCounted 9 rfl) hi rfl ⟨rfl, h⟩
theorem c_X8_isCounted (l : Launch) (dC : Nat → ClassId) (dI : Nat → Nat → Nat) (ac : Nat → ClassId) (al : Nat → Nat) (a0 : Int32) (Q : Int32 → Prop) (h : wp_X8_isCounted a0 Q) : bf_M l yX8_isCounted cX8_isCounted 1 (some .boolean) 0 0 dC dI ac al [.int a0] (bWu ()) (bf_Ki dC dI ac al bWu (fun r u => u = () ∧ Q r)) := by
  refine bf_start [some (.int a0)] (by decide) (Nat.le_of_ble_eq_true rfl) (bf_s1 bf_s0) ?_
  intro X hl C hR e1 e2 e3 e4
  subst e1; subst e2; subst e3; subst e4
  exact t_X8_isCounted C hR a0 Q h
def wp_X8_cover (S : bT8) (a1 : Int32) (Q : Int64 → Prop) : Prop := (wp_X8_isCounted (a1) (fun r1 => ((r1 = 0 → (Q (-1 : Int64))) ∧ (¬ r1 = 0 → (wp_X1_covered (b8g_leaves S) (a1) (fun r3 => (Q r3)))))))
set_option maxRecDepth 20000 in
theorem t_X8_cover {X : bf_X} (C : bf_C X RX8 cX8_cover 2 (some .long)) (hR : bf_Rm X 2 47) (S : bT8) (a1 : Int32) (Q : Int64 → Prop) (h : wp_X8_cover S a1 Q) : bf_A X (bf_Zl X bW8 (fun r u => u = S ∧ Q r)) 2 0 [some (.ref 0), some (.int a1)] [] (bW8 S) := by
  unfold wp_X8_cover at h
  refine bs_iload_n C (bf_dk dd_X8_cover 0 rfl) rfl ?_
  refine bs_pureS_i (ps := []) (w := (bW8 S)) C hR (c_X8_isCounted _ _ _ _ _ (a1) _ h) my_X8_isCounted m_8_307 rfl (Nat.le_of_ble_eq_true rfl) (Nat.le_of_ble_eq_true rfl) rfl rfl (st := []) (Nat.le_of_ble_eq_true rfl) (bf_dk dd_X8_cover 1 rfl) rfl (fun _ => rfl) (fun r1 h => ?_)
  refine bs_if_eq C (bf_dk dd_X8_cover 2 rfl) (tgt := 18) rfl (fun c => ?_) (fun c => ?_)
  · replace h := h.1 c
    refine bs_ldc2 C (bf_dk dd_X8_cover 8 rfl) k_8_313 ?_
    exact bs_lret (u := S) C (bf_dk dd_X8_cover 9 rfl) rfl ⟨rfl, h⟩
  · replace h := h.2 c
    refine bs_aload_n C (bf_dk dd_X8_cover 3 rfl) rfl ?_
    refine bs_get C (bf_dk dd_X8_cover 4 rfl) cl_8 in_8 3 (Nat.le_of_ble_eq_true rfl) rfl f_8_26 (ge_bW8_0 S) rfl ?_
    refine bs_iload_n C (bf_dk dd_X8_cover 5 rfl) rfl ?_
    refine bs_pureV_l (ps := [31, 32, 33, 34, 35, 36, 37, 38, 39, 40, 41, 42, 43, 44]) (w := (bW8 S)) C hR (c_X1_covered _ _ _ _ _ (b8g_leaves S) (a1) _ h) my_X1_covered m_8_310 rfl cl_1 (ge_bW1_0 _) rfl (Nat.le_of_ble_eq_true rfl) (Nat.le_of_ble_eq_true rfl) (su_bW8_31_bW1 S) bnd_31t44 (st := []) (Nat.le_of_ble_eq_true rfl) (bf_dk dd_X8_cover 6 rfl) rfl (fun _ => rfl) (fun r3 h => ?_)
    refine bs_goto C (bf_dk dd_X8_cover 7 rfl) (tgt := 21) rfl ?_
    exact bs_lret (u := S) C (bf_dk dd_X8_cover 9 rfl) rfl ⟨rfl, h⟩
theorem c_X8_cover (l : Launch) (dC : Nat → ClassId) (dI : Nat → Nat → Nat) (ac : Nat → ClassId) (al : Nat → Nat) (S : bT8) (a1 : Int32) (Q : Int64 → Prop) (h : wp_X8_cover S a1 Q) : bf_M l yX8_cover cX8_cover 2 (some .long) 2 47 dC dI ac al [.ref 0, .int a1] (bW8 S) (bf_Kl dC dI ac al bW8 (fun r u => u = S ∧ Q r)) := by
  refine bf_start [some (.ref 0), some (.int a1)] (by decide) (Nat.le_of_ble_eq_true rfl) (bf_s1 (bf_s1 bf_s0)) ?_
  intro X hl C hR e1 e2 e3 e4
  subst e1; subst e2; subst e3; subst e4
  exact t_X8_cover C hR S a1 Q h
def wp_X8_loose (S : bT8) (a1 : Int32) (Q : Int64 → Prop) : Prop := (wp_X8_isCounted (a1) (fun r1 => ((r1 = 0 → (Q (-1 : Int64))) ∧ (¬ r1 = 0 → (wp_X1_covered (b8g_leaves S) (a1) (fun r3 => (wp_X0_ofLength (b1g_owners (b8g_leaves S)) (a1) (fun r5 => (Q (r3 - (r5).toInt64))))))))))
set_option maxRecDepth 20000 in
theorem t_X8_loose {X : bf_X} (C : bf_C X RX8 cX8_loose 2 (some .long)) (hR : bf_Rm X 2 47) (S : bT8) (a1 : Int32) (Q : Int64 → Prop) (h : wp_X8_loose S a1 Q) : bf_A X (bf_Zl X bW8 (fun r u => u = S ∧ Q r)) 2 0 [some (.ref 0), some (.int a1)] [] (bW8 S) := by
  unfold wp_X8_loose at h
  refine bs_iload_n C (bf_dk dd_X8_loose 0 rfl) rfl ?_
  refine bs_pureS_i (ps := []) (w := (bW8 S)) C hR (c_X8_isCounted _ _ _ _ _ (a1) _ h) my_X8_isCounted m_8_307 rfl (Nat.le_of_ble_eq_true rfl) (Nat.le_of_ble_eq_true rfl) rfl rfl (st := []) (Nat.le_of_ble_eq_true rfl) (bf_dk dd_X8_loose 1 rfl) rfl (fun _ => rfl) (fun r1 h => ?_)
  refine bs_if_eq C (bf_dk dd_X8_loose 2 rfl) (tgt := 31) rfl (fun c => ?_) (fun c => ?_)
  · replace h := h.1 c
    refine bs_ldc2 C (bf_dk dd_X8_loose 15 rfl) k_8_313 ?_
    exact bs_lret (u := S) C (bf_dk dd_X8_loose 16 rfl) rfl ⟨rfl, h⟩
  · replace h := h.2 c
    refine bs_aload_n C (bf_dk dd_X8_loose 3 rfl) rfl ?_
    refine bs_get C (bf_dk dd_X8_loose 4 rfl) cl_8 in_8 3 (Nat.le_of_ble_eq_true rfl) rfl f_8_26 (ge_bW8_0 S) rfl ?_
    refine bs_iload_n C (bf_dk dd_X8_loose 5 rfl) rfl ?_
    refine bs_pureV_l (ps := [31, 32, 33, 34, 35, 36, 37, 38, 39, 40, 41, 42, 43, 44]) (w := (bW8 S)) C hR (c_X1_covered _ _ _ _ _ (b8g_leaves S) (a1) _ h) my_X1_covered m_8_310 rfl cl_1 (ge_bW1_0 _) rfl (Nat.le_of_ble_eq_true rfl) (Nat.le_of_ble_eq_true rfl) (su_bW8_31_bW1 S) bnd_31t44 (st := []) (Nat.le_of_ble_eq_true rfl) (bf_dk dd_X8_loose 6 rfl) rfl (fun _ => rfl) (fun r3 h => ?_)
    refine bs_aload_n C (bf_dk dd_X8_loose 7 rfl) rfl ?_
    refine bs_get C (bf_dk dd_X8_loose 8 rfl) cl_8 in_8 3 (Nat.le_of_ble_eq_true rfl) rfl f_8_26 (ge_bW8_0 S) rfl ?_
    refine bs_get C (bf_dk dd_X8_loose 9 rfl) cl_1 in_1 0 (Nat.le_of_ble_eq_true rfl) rfl f_8_163 (ge_bW8_31 S) rfl ?_
    refine bs_iload_n C (bf_dk dd_X8_loose 10 rfl) rfl ?_
    refine bs_pureV_i (ps := [32, 33, 34]) (w := (bW8 S)) C hR (c_X0_ofLength _ _ _ _ _ (b1g_owners (b8g_leaves S)) (a1) _ h) my_X0_ofLength m_8_315 rfl cl_0 (ge_bW0_0 _) rfl (Nat.le_of_ble_eq_true rfl) (Nat.le_of_ble_eq_true rfl) (su_bW8_32_bW0 S) rfl (st := [.long r3]) (Nat.le_of_ble_eq_true rfl) (bf_dk dd_X8_loose 11 rfl) rfl (fun _ => rfl) (fun r5 h => ?_)
    refine bs_i2l C (bf_dk dd_X8_loose 12 rfl) ?_
    refine bs_lsub C (bf_dk dd_X8_loose 13 rfl) ?_
    refine bs_goto C (bf_dk dd_X8_loose 14 rfl) (tgt := 34) rfl ?_
    exact bs_lret (u := S) C (bf_dk dd_X8_loose 16 rfl) rfl ⟨rfl, h⟩
theorem c_X8_loose (l : Launch) (dC : Nat → ClassId) (dI : Nat → Nat → Nat) (ac : Nat → ClassId) (al : Nat → Nat) (S : bT8) (a1 : Int32) (Q : Int64 → Prop) (h : wp_X8_loose S a1 Q) : bf_M l yX8_loose cX8_loose 2 (some .long) 2 47 dC dI ac al [.ref 0, .int a1] (bW8 S) (bf_Kl dC dI ac al bW8 (fun r u => u = S ∧ Q r)) := by
  refine bf_start [some (.ref 0), some (.int a1)] (by decide) (Nat.le_of_ble_eq_true rfl) (bf_s1 (bf_s1 bf_s0)) ?_
  intro X hl C hR e1 e2 e3 e4
  subst e1; subst e2; subst e3; subst e4
  exact t_X8_loose C hR S a1 Q h
def wp_X8_free_64 (S : bT8) (x1 : Int32) (x2 : Int32) (t0 : Int64) (Q : Int64 → Prop) : Prop := (wp_X1_count (b8g_leaves S) (fun r1 => ((¬ x1 = r1 → (wp_X0_bytesAt (b1g_lows (b8g_leaves S)) (x1) (fun r3 => (wp_X0_lengthAt (b1g_lows (b8g_leaves S)) (x1) (fun r5 => (wp_X8_countAhead (r3) (r5) (x2) (fun r7 => (Q (r7 - t0))))))))) ∧ (x1 = r1 → (Q (((1 : Int64) <<< ((((8 : Int32) * x2)).toInt64 &&& 63)) - t0))))))
set_option maxRecDepth 20000 in
theorem t_X8_free_64 {X : bf_X} (C : bf_C X RX8 cX8_free 5 (some .long)) (hR : bf_Rm X 1 23) (S : bT8) (x1 : Int32) (x2 : Int32) (t0 : Int64) (Q : Int64 → Prop) (h : wp_X8_free_64 S x1 x2 t0 Q) : bf_A X (bf_Zl X bW8 (fun r u => u = S ∧ Q r)) 5 64 [some (.ref 0), some (.int x1), some (.int x2), none, none] [.long t0] (bW8 S) := by
  unfold wp_X8_free_64 at h
  refine bs_lstore_n C (bf_dk dd_X8_free 32 rfl) rfl (Nat.le_of_ble_eq_true rfl) (Nat.le_of_ble_eq_true rfl) (lv2 := [some (.ref 0), some (.int x1), some (.int x2), some (.long t0), none]) rfl ?_
  refine bs_iload_n C (bf_dk dd_X8_free 33 rfl) rfl ?_
  refine bs_aload_n C (bf_dk dd_X8_free 34 rfl) rfl ?_
  refine bs_get C (bf_dk dd_X8_free 35 rfl) cl_8 in_8 3 (Nat.le_of_ble_eq_true rfl) rfl f_8_26 (ge_bW8_0 S) rfl ?_
  refine bs_pureV_i (ps := [31, 32, 33, 34, 35, 36, 37, 38, 39, 40, 41, 42, 43, 44]) (w := (bW8 S)) C hR (c_X1_count _ _ _ _ _ (b8g_leaves S) _ h) my_X1_count m_8_160 rfl cl_1 (ge_bW1_0 _) rfl (Nat.le_of_ble_eq_true rfl) (Nat.le_of_ble_eq_true rfl) (su_bW8_31_bW1 S) bnd_31t44 (st := [.int x1]) (Nat.le_of_ble_eq_true rfl) (bf_dk dd_X8_free 36 rfl) rfl (fun _ => rfl) (fun r1 h => ?_)
  refine bs_icmp_ne C (bf_dk dd_X8_free 37 rfl) (tgt := 85) rfl (fun c => ?_) (fun c => ?_)
  · replace h := h.1 c
    refine bs_aload_n C (bf_dk dd_X8_free 46 rfl) rfl ?_
    refine bs_get C (bf_dk dd_X8_free 47 rfl) cl_8 in_8 3 (Nat.le_of_ble_eq_true rfl) rfl f_8_26 (ge_bW8_0 S) rfl ?_
    refine bs_get C (bf_dk dd_X8_free 48 rfl) cl_1 in_1 1 (Nat.le_of_ble_eq_true rfl) rfl f_8_192 (ge_bW8_31 S) rfl ?_
    refine bs_iload_n C (bf_dk dd_X8_free 49 rfl) rfl ?_
    refine bs_pureV_l (ps := [35, 36, 37]) (w := (bW8 S)) C hR (c_X0_bytesAt _ _ _ _ _ (b1g_lows (b8g_leaves S)) (x1) _ h) my_X0_bytesAt m_8_219 rfl cl_0 (ge_bW0_0 _) rfl (Nat.le_of_ble_eq_true rfl) (Nat.le_of_ble_eq_true rfl) (su_bW8_35_bW0 S) rfl (st := []) (Nat.le_of_ble_eq_true rfl) (bf_dk dd_X8_free 50 rfl) rfl (fun _ => rfl) (fun r3 h => ?_)
    refine bs_aload_n C (bf_dk dd_X8_free 51 rfl) rfl ?_
    refine bs_get C (bf_dk dd_X8_free 52 rfl) cl_8 in_8 3 (Nat.le_of_ble_eq_true rfl) rfl f_8_26 (ge_bW8_0 S) rfl ?_
    refine bs_get C (bf_dk dd_X8_free 53 rfl) cl_1 in_1 1 (Nat.le_of_ble_eq_true rfl) rfl f_8_192 (ge_bW8_31 S) rfl ?_
    refine bs_iload_n C (bf_dk dd_X8_free 54 rfl) rfl ?_
    refine bs_pureV_i (ps := [35, 36, 37]) (w := (bW8 S)) C hR (c_X0_lengthAt _ _ _ _ _ (b1g_lows (b8g_leaves S)) (x1) _ h) my_X0_lengthAt m_8_318 rfl cl_0 (ge_bW0_0 _) rfl (Nat.le_of_ble_eq_true rfl) (Nat.le_of_ble_eq_true rfl) (su_bW8_35_bW0 S) rfl (st := [.long r3]) (Nat.le_of_ble_eq_true rfl) (bf_dk dd_X8_free 55 rfl) rfl (fun _ => rfl) (fun r5 h => ?_)
    refine bs_iload_n C (bf_dk dd_X8_free 56 rfl) rfl ?_
    refine bs_pureS_l (ps := []) (w := (bW8 S)) C hR (c_X8_countAhead _ _ _ _ _ (r3) (r5) (x2) _ h) my_X8_countAhead m_8_323 rfl (Nat.le_of_ble_eq_true rfl) (Nat.le_of_ble_eq_true rfl) rfl rfl (st := []) (Nat.le_of_ble_eq_true rfl) (bf_dk dd_X8_free 57 rfl) rfl (fun _ => rfl) (fun r7 h => ?_)
    refine bs_lload_n C (bf_dk dd_X8_free 58 rfl) rfl ?_
    refine bs_lsub C (bf_dk dd_X8_free 59 rfl) ?_
    exact bs_lret (u := S) C (bf_dk dd_X8_free 60 rfl) rfl ⟨rfl, h⟩
  · replace h := h.2 c
    refine bs_lconst C (bf_dk dd_X8_free 38 rfl) (1 : Int64) (by decide) ?_
    refine bs_bipush C (bf_dk dd_X8_free 39 rfl) (8 : Int32) (by decide) ?_
    refine bs_iload_n C (bf_dk dd_X8_free 40 rfl) rfl ?_
    refine bs_imul C (bf_dk dd_X8_free 41 rfl) ?_
    refine bs_lshl C (bf_dk dd_X8_free 42 rfl) ?_
    refine bs_lload_n C (bf_dk dd_X8_free 43 rfl) rfl ?_
    refine bs_lsub C (bf_dk dd_X8_free 44 rfl) ?_
    exact bs_lret (u := S) C (bf_dk dd_X8_free 45 rfl) rfl ⟨rfl, h⟩
def wp_X8_free (S : bT8) (a1 : Int32) (a2 : Int32) (Q : Int64 → Prop) : Prop := ((a1 < 0 → (Q (-1 : Int64))) ∧ (¬ a1 < 0 → (wp_X1_count (b8g_leaves S) (fun r9 => ((r9 < a1 → (Q (-1 : Int64))) ∧ (¬ r9 < a1 → (wp_X8_isCounted (a2) (fun r11 => ((¬ r11 = 0 → ((¬ a1 = 0 → (wp_X0_bytesAt (b1g_highs (b8g_leaves S)) ((a1 - (1 : Int32))) (fun r13 => (wp_X0_lengthAt (b1g_highs (b8g_leaves S)) ((a1 - (1 : Int32))) (fun r15 => (wp_X8_countUpTo (r13) (r15) (a2) (fun r17 => (wp_X8_free_64 S (a1) (a2) (r17) Q)))))))) ∧ (a1 = 0 → (wp_X8_free_64 S (a1) (a2) ((0 : Int64)) Q)))) ∧ (r11 = 0 → (Q (-1 : Int64))))))))))))
set_option maxRecDepth 20000 in
theorem t_X8_free {X : bf_X} (C : bf_C X RX8 cX8_free 5 (some .long)) (hR : bf_Rm X 1 23) (S : bT8) (a1 : Int32) (a2 : Int32) (Q : Int64 → Prop) (h : wp_X8_free S a1 a2 Q) : bf_A X (bf_Zl X bW8 (fun r u => u = S ∧ Q r)) 5 0 [some (.ref 0), some (.int a1), some (.int a2), none, none] [] (bW8 S) := by
  unfold wp_X8_free at h
  refine bs_iload_n C (bf_dk dd_X8_free 0 rfl) rfl ?_
  refine bs_if_lt C (bf_dk dd_X8_free 1 rfl) (tgt := 22) rfl (fun c => ?_) (fun c => ?_)
  · replace h := h.1 c
    refine bs_ldc2 C (bf_dk dd_X8_free 10 rfl) k_8_313 ?_
    exact bs_lret (u := S) C (bf_dk dd_X8_free 11 rfl) rfl ⟨rfl, h⟩
  · replace h := h.2 c
    refine bs_iload_n C (bf_dk dd_X8_free 2 rfl) rfl ?_
    refine bs_aload_n C (bf_dk dd_X8_free 3 rfl) rfl ?_
    refine bs_get C (bf_dk dd_X8_free 4 rfl) cl_8 in_8 3 (Nat.le_of_ble_eq_true rfl) rfl f_8_26 (ge_bW8_0 S) rfl ?_
    refine bs_pureV_i (ps := [31, 32, 33, 34, 35, 36, 37, 38, 39, 40, 41, 42, 43, 44]) (w := (bW8 S)) C hR (c_X1_count _ _ _ _ _ (b8g_leaves S) _ h) my_X1_count m_8_160 rfl cl_1 (ge_bW1_0 _) rfl (Nat.le_of_ble_eq_true rfl) (Nat.le_of_ble_eq_true rfl) (su_bW8_31_bW1 S) bnd_31t44 (st := [.int a1]) (Nat.le_of_ble_eq_true rfl) (bf_dk dd_X8_free 5 rfl) rfl (fun _ => rfl) (fun r9 h => ?_)
    refine bs_icmp_gt C (bf_dk dd_X8_free 6 rfl) (tgt := 22) rfl (fun c => ?_) (fun c => ?_)
    · replace h := h.1 c
      refine bs_ldc2 C (bf_dk dd_X8_free 10 rfl) k_8_313 ?_
      exact bs_lret (u := S) C (bf_dk dd_X8_free 11 rfl) rfl ⟨rfl, h⟩
    · replace h := h.2 c
      refine bs_iload_n C (bf_dk dd_X8_free 7 rfl) rfl ?_
      refine bs_pureS_i (ps := []) (w := (bW8 S)) C hR (c_X8_isCounted _ _ _ _ _ (a2) _ h) my_X8_isCounted m_8_307 rfl (Nat.le_of_ble_eq_true rfl) (Nat.le_of_ble_eq_true rfl) rfl rfl (st := []) (Nat.le_of_ble_eq_true rfl) (bf_dk dd_X8_free 8 rfl) rfl (fun _ => rfl) (fun r11 h => ?_)
      refine bs_if_ne C (bf_dk dd_X8_free 9 rfl) (tgt := 26) rfl (fun c => ?_) (fun c => ?_)
      · replace h := h.1 c
        refine bs_iload_n C (bf_dk dd_X8_free 12 rfl) rfl ?_
        refine bs_if_ne C (bf_dk dd_X8_free 13 rfl) (tgt := 34) rfl (fun c => ?_) (fun c => ?_)
        · replace h := h.1 c
          refine bs_aload_n C (bf_dk dd_X8_free 16 rfl) rfl ?_
          refine bs_get C (bf_dk dd_X8_free 17 rfl) cl_8 in_8 3 (Nat.le_of_ble_eq_true rfl) rfl f_8_26 (ge_bW8_0 S) rfl ?_
          refine bs_get C (bf_dk dd_X8_free 18 rfl) cl_1 in_1 2 (Nat.le_of_ble_eq_true rfl) rfl f_8_186 (ge_bW8_31 S) rfl ?_
          refine bs_iload_n C (bf_dk dd_X8_free 19 rfl) rfl ?_
          refine bs_iconst C (bf_dk dd_X8_free 20 rfl) (1 : Int32) (by decide) ?_
          refine bs_isub C (bf_dk dd_X8_free 21 rfl) ?_
          refine bs_pureV_l (ps := [38, 39, 40]) (w := (bW8 S)) C hR (c_X0_bytesAt _ _ _ _ _ (b1g_highs (b8g_leaves S)) ((a1 - (1 : Int32))) _ h) my_X0_bytesAt m_8_219 rfl cl_0 (ge_bW0_0 _) rfl (Nat.le_of_ble_eq_true rfl) (Nat.le_of_ble_eq_true rfl) (su_bW8_38_bW0 S) rfl (st := []) (Nat.le_of_ble_eq_true rfl) (bf_dk dd_X8_free 22 rfl) rfl (fun _ => rfl) (fun r13 h => ?_)
          refine bs_aload_n C (bf_dk dd_X8_free 23 rfl) rfl ?_
          refine bs_get C (bf_dk dd_X8_free 24 rfl) cl_8 in_8 3 (Nat.le_of_ble_eq_true rfl) rfl f_8_26 (ge_bW8_0 S) rfl ?_
          refine bs_get C (bf_dk dd_X8_free 25 rfl) cl_1 in_1 2 (Nat.le_of_ble_eq_true rfl) rfl f_8_186 (ge_bW8_31 S) rfl ?_
          refine bs_iload_n C (bf_dk dd_X8_free 26 rfl) rfl ?_
          refine bs_iconst C (bf_dk dd_X8_free 27 rfl) (1 : Int32) (by decide) ?_
          refine bs_isub C (bf_dk dd_X8_free 28 rfl) ?_
          refine bs_pureV_i (ps := [38, 39, 40]) (w := (bW8 S)) C hR (c_X0_lengthAt _ _ _ _ _ (b1g_highs (b8g_leaves S)) ((a1 - (1 : Int32))) _ h) my_X0_lengthAt m_8_318 rfl cl_0 (ge_bW0_0 _) rfl (Nat.le_of_ble_eq_true rfl) (Nat.le_of_ble_eq_true rfl) (su_bW8_38_bW0 S) rfl (st := [.long r13]) (Nat.le_of_ble_eq_true rfl) (bf_dk dd_X8_free 29 rfl) rfl (fun _ => rfl) (fun r15 h => ?_)
          refine bs_iload_n C (bf_dk dd_X8_free 30 rfl) rfl ?_
          refine bs_pureS_l (ps := []) (w := (bW8 S)) C hR (c_X8_countUpTo _ _ _ _ _ (r13) (r15) (a2) _ h) my_X8_countUpTo m_8_319 rfl (Nat.le_of_ble_eq_true rfl) (Nat.le_of_ble_eq_true rfl) rfl rfl (st := []) (Nat.le_of_ble_eq_true rfl) (bf_dk dd_X8_free 31 rfl) rfl (fun _ => rfl) (fun r17 h => ?_)
          exact bs_weak (bf_s1 (bf_s1 (bf_s1 (bf_sn (bf_sn bf_s0))))) (t_X8_free_64 C hR S (a1) (a2) (r17) Q h)
        · replace h := h.2 c
          refine bs_lconst C (bf_dk dd_X8_free 14 rfl) (0 : Int64) (by decide) ?_
          refine bs_goto C (bf_dk dd_X8_free 15 rfl) (tgt := 64) rfl ?_
          exact bs_weak (bf_s1 (bf_s1 (bf_s1 (bf_sn (bf_sn bf_s0))))) (t_X8_free_64 C hR S (a1) (a2) ((0 : Int64)) Q h)
      · replace h := h.2 c
        refine bs_ldc2 C (bf_dk dd_X8_free 10 rfl) k_8_313 ?_
        exact bs_lret (u := S) C (bf_dk dd_X8_free 11 rfl) rfl ⟨rfl, h⟩
theorem c_X8_free (l : Launch) (dC : Nat → ClassId) (dI : Nat → Nat → Nat) (ac : Nat → ClassId) (al : Nat → Nat) (S : bT8) (a1 : Int32) (a2 : Int32) (Q : Int64 → Prop) (h : wp_X8_free S a1 a2 Q) : bf_M l yX8_free cX8_free 5 (some .long) 1 23 dC dI ac al [.ref 0, .int a1, .int a2] (bW8 S) (bf_Kl dC dI ac al bW8 (fun r u => u = S ∧ Q r)) := by
  refine bf_start [some (.ref 0), some (.int a1), some (.int a2), none, none] (by decide) (Nat.le_of_ble_eq_true rfl) (bf_s1 (bf_s1 (bf_s1 (bf_en 2)))) ?_
  intro X hl C hR e1 e2 e3 e4
  subst e1; subst e2; subst e3; subst e4
  exact t_X8_free C hR S a1 a2 Q h
def wp_X8_spread_101 (S : bT8) (x3 : Int32) (x4 : Int32) (x5 : Int64) (x7 : Int32) (x8 : Int32) (x9 : Int32) (x10 : Int32) (Q : Int32 → Prop) (B40 : Int32 → Int32 → Int64 → Int32 → Int32 → Int32 → Int32 → Prop) : Prop := (B40 (x3) (x4) (x5) (x7) (x8) (x9) ((x10 + (1 : Int32))))
set_option maxRecDepth 20000 in
theorem t_X8_spread_101 {X : bf_X} (C : bf_C X RX8 cX8_spread 12 (some .int)) (hR : bf_Rm X 5 124) (S : bT8) (x3 : Int32) (x4 : Int32) (x5 : Int64) (x7 : Int32) (x8 : Int32) (x9 : Int32) (x10 : Int32) (Q : Int32 → Prop) (B40 : Int32 → Int32 → Int64 → Int32 → Int32 → Int32 → Int32 → Prop) (hB40 : ∀ (x3 : Int32) (x4 : Int32) (x5 : Int64) (x7 : Int32) (x8 : Int32) (x9 : Int32) (x10 : Int32), B40 x3 x4 x5 x7 x8 x9 x10 → bf_A X (bf_Zi X bW8 (fun r u => u = S ∧ Q r)) 12 40 [some (.ref 0), none, none, some (.int x3), some (.int x4), some (.long x5), none, some (.int x7), some (.int x8), some (.int x9), some (.int x10), none] [] (bW8 S)) (h : wp_X8_spread_101 S x3 x4 x5 x7 x8 x9 x10 Q B40) : bf_A X (bf_Zi X bW8 (fun r u => u = S ∧ Q r)) 12 101 [some (.ref 0), none, none, some (.int x3), some (.int x4), some (.long x5), none, some (.int x7), some (.int x8), some (.int x9), some (.int x10), none] [] (bW8 S) := by
  unfold wp_X8_spread_101 at h
  refine bs_iinc C (bf_dk dd_X8_spread 52 rfl) (x10 + (1 : Int32)) rfl rfl (Nat.le_of_ble_eq_true rfl) (Nat.le_of_ble_eq_true rfl) (lv2 := [some (.ref 0), none, none, some (.int x3), some (.int x4), some (.long x5), none, some (.int x7), some (.int x8), some (.int x9), some (.int (x10 + (1 : Int32))), none]) rfl ?_
  refine bs_goto C (bf_dk dd_X8_spread 53 rfl) (tgt := 40) rfl ?_
  exact bs_weak (bf_s1 (bf_sn (bf_sn (bf_s1 (bf_s1 (bf_s1 (bf_sn (bf_s1 (bf_s1 (bf_s1 (bf_s1 (bf_sn bf_s0)))))))))))) (hB40 (x3) (x4) (x5) (x7) (x8) (x9) ((x10 + (1 : Int32))) h)
def wp_X8_spread_92 (S : bT8) (x3 : Int32) (x4 : Int32) (x5 : Int64) (x7 : Int32) (x8 : Int32) (x9 : Int32) (x10 : Int32) (x11 : Int32) (Q : Int32 → Prop) (B40 : Int32 → Int32 → Int64 → Int32 → Int32 → Int32 → Int32 → Prop) : Prop := ((¬ x11 = (2 : Int32) → (wp_X8_spread_101 S (x3) (x4) (x5) (x7) (x8) (x9) (x10) Q B40)) ∧ (x11 = (2 : Int32) → (wp_X8_spread_101 S (x3) (x4) (x5) (x7) ((x8 + (1 : Int32))) (x9) (x10) Q B40)))
set_option maxRecDepth 20000 in
theorem t_X8_spread_92 {X : bf_X} (C : bf_C X RX8 cX8_spread 12 (some .int)) (hR : bf_Rm X 5 124) (S : bT8) (x3 : Int32) (x4 : Int32) (x5 : Int64) (x7 : Int32) (x8 : Int32) (x9 : Int32) (x10 : Int32) (x11 : Int32) (Q : Int32 → Prop) (B40 : Int32 → Int32 → Int64 → Int32 → Int32 → Int32 → Int32 → Prop) (hB40 : ∀ (x3 : Int32) (x4 : Int32) (x5 : Int64) (x7 : Int32) (x8 : Int32) (x9 : Int32) (x10 : Int32), B40 x3 x4 x5 x7 x8 x9 x10 → bf_A X (bf_Zi X bW8 (fun r u => u = S ∧ Q r)) 12 40 [some (.ref 0), none, none, some (.int x3), some (.int x4), some (.long x5), none, some (.int x7), some (.int x8), some (.int x9), some (.int x10), none] [] (bW8 S)) (h : wp_X8_spread_92 S x3 x4 x5 x7 x8 x9 x10 x11 Q B40) : bf_A X (bf_Zi X bW8 (fun r u => u = S ∧ Q r)) 12 92 [some (.ref 0), none, none, some (.int x3), some (.int x4), some (.long x5), none, some (.int x7), some (.int x8), some (.int x9), some (.int x10), some (.int x11)] [] (bW8 S) := by
  unfold wp_X8_spread_92 at h
  refine bs_iload C (bf_dk dd_X8_spread 48 rfl) rfl ?_
  refine bs_iconst C (bf_dk dd_X8_spread 49 rfl) (2 : Int32) (by decide) ?_
  refine bs_icmp_ne C (bf_dk dd_X8_spread 50 rfl) (tgt := 101) rfl (fun c => ?_) (fun c => ?_)
  · replace h := h.1 c
    exact bs_weak (bf_s1 (bf_sn (bf_sn (bf_s1 (bf_s1 (bf_s1 (bf_sn (bf_s1 (bf_s1 (bf_s1 (bf_s1 (bf_sn bf_s0)))))))))))) (t_X8_spread_101 C hR S (x3) (x4) (x5) (x7) (x8) (x9) (x10) Q B40 hB40 h)
  · replace h := h.2 c
    refine bs_iinc C (bf_dk dd_X8_spread 51 rfl) (x8 + (1 : Int32)) rfl rfl (Nat.le_of_ble_eq_true rfl) (Nat.le_of_ble_eq_true rfl) (lv2 := [some (.ref 0), none, none, some (.int x3), some (.int x4), some (.long x5), none, some (.int x7), some (.int (x8 + (1 : Int32))), some (.int x9), some (.int x10), some (.int x11)]) rfl ?_
    exact bs_weak (bf_s1 (bf_sn (bf_sn (bf_s1 (bf_s1 (bf_s1 (bf_sn (bf_s1 (bf_s1 (bf_s1 (bf_s1 (bf_sn bf_s0)))))))))))) (t_X8_spread_101 C hR S (x3) (x4) (x5) (x7) ((x8 + (1 : Int32))) (x9) (x10) Q B40 hB40 h)
def wp_X8_spread_90 (S : bT8) (x3 : Int32) (x4 : Int32) (x5 : Int64) (x7 : Int32) (x8 : Int32) (x10 : Int32) (x11 : Int32) (t0 : Int32) (Q : Int32 → Prop) (B40 : Int32 → Int32 → Int64 → Int32 → Int32 → Int32 → Int32 → Prop) : Prop := (wp_X8_spread_92 S (x3) (x4) (x5) (x7) (x8) (t0) (x10) (x11) Q B40)
set_option maxRecDepth 20000 in
theorem t_X8_spread_90 {X : bf_X} (C : bf_C X RX8 cX8_spread 12 (some .int)) (hR : bf_Rm X 5 124) (S : bT8) (x3 : Int32) (x4 : Int32) (x5 : Int64) (x7 : Int32) (x8 : Int32) (x10 : Int32) (x11 : Int32) (t0 : Int32) (Q : Int32 → Prop) (B40 : Int32 → Int32 → Int64 → Int32 → Int32 → Int32 → Int32 → Prop) (hB40 : ∀ (x3 : Int32) (x4 : Int32) (x5 : Int64) (x7 : Int32) (x8 : Int32) (x9 : Int32) (x10 : Int32), B40 x3 x4 x5 x7 x8 x9 x10 → bf_A X (bf_Zi X bW8 (fun r u => u = S ∧ Q r)) 12 40 [some (.ref 0), none, none, some (.int x3), some (.int x4), some (.long x5), none, some (.int x7), some (.int x8), some (.int x9), some (.int x10), none] [] (bW8 S)) (h : wp_X8_spread_90 S x3 x4 x5 x7 x8 x10 x11 t0 Q B40) : bf_A X (bf_Zi X bW8 (fun r u => u = S ∧ Q r)) 12 90 [some (.ref 0), none, none, some (.int x3), some (.int x4), some (.long x5), none, some (.int x7), some (.int x8), none, some (.int x10), some (.int x11)] [.int t0] (bW8 S) := by
  unfold wp_X8_spread_90 at h
  refine bs_istore C (bf_dk dd_X8_spread 47 rfl) (Nat.le_of_ble_eq_true rfl) (Nat.le_of_ble_eq_true rfl) (lv2 := [some (.ref 0), none, none, some (.int x3), some (.int x4), some (.long x5), none, some (.int x7), some (.int x8), some (.int t0), some (.int x10), some (.int x11)]) rfl ?_
  exact bs_weak (bf_s1 (bf_sn (bf_sn (bf_s1 (bf_s1 (bf_s1 (bf_sn (bf_s1 (bf_s1 (bf_s1 (bf_s1 (bf_s1 bf_s0)))))))))))) (t_X8_spread_92 C hR S (x3) (x4) (x5) (x7) (x8) (t0) (x10) (x11) Q B40 hB40 h)
def wp_X8_spread_40b (S : bT8) (x3 : Int32) (x4 : Int32) (x5 : Int64) (x7 : Int32) (x8 : Int32) (x9 : Int32) (x10 : Int32) (Q : Int32 → Prop) (B40 : Int32 → Int32 → Int64 → Int32 → Int32 → Int32 → Int32 → Prop) : Prop := (((256 : Int32) ≤ x10 → ((¬ x4 = (2 : Int32) → ((¬ x4 = 0 → (Q x8)) ∧ (x4 = 0 → (Q x7)))) ∧ (x4 = (2 : Int32) → (Q x9)))) ∧ (¬ (256 : Int32) ≤ x10 → (wp_X8_octetTo (x10) (x3) (fun r1 => (wp_X1_verdictOf (b8g_leaves S) ((x5 ||| r1)) ((x3 + (1 : Int32))) (fun r3 => ((r3 = 0 → (wp_X8_spread_92 S (x3) (x4) (x5) (x7) (x8) (x9) (x10) (r3) Q B40)) ∧ (¬ r3 = 0 → ((¬ x9 = (-1 : Int32) → (wp_X8_spread_90 S (x3) (x4) (x5) ((x7 + (1 : Int32))) (x8) (x10) (r3) (x9) Q B40)) ∧ (x9 = (-1 : Int32) → (wp_X8_spread_90 S (x3) (x4) (x5) ((x7 + (1 : Int32))) (x8) (x10) (r3) (x10) Q B40)))))))))))
set_option maxRecDepth 20000 in
theorem t_X8_spread_40b {X : bf_X} (C : bf_C X RX8 cX8_spread 12 (some .int)) (hR : bf_Rm X 5 124) (S : bT8) (x3 : Int32) (x4 : Int32) (x5 : Int64) (x7 : Int32) (x8 : Int32) (x9 : Int32) (x10 : Int32) (Q : Int32 → Prop) (B40 : Int32 → Int32 → Int64 → Int32 → Int32 → Int32 → Int32 → Prop) (hB40 : ∀ (x3 : Int32) (x4 : Int32) (x5 : Int64) (x7 : Int32) (x8 : Int32) (x9 : Int32) (x10 : Int32), B40 x3 x4 x5 x7 x8 x9 x10 → bf_A X (bf_Zi X bW8 (fun r u => u = S ∧ Q r)) 12 40 [some (.ref 0), none, none, some (.int x3), some (.int x4), some (.long x5), none, some (.int x7), some (.int x8), some (.int x9), some (.int x10), none] [] (bW8 S)) (h : wp_X8_spread_40b S x3 x4 x5 x7 x8 x9 x10 Q B40) : bf_A X (bf_Zi X bW8 (fun r u => u = S ∧ Q r)) 12 40 [some (.ref 0), none, none, some (.int x3), some (.int x4), some (.long x5), none, some (.int x7), some (.int x8), some (.int x9), some (.int x10), none] [] (bW8 S) := by
  unfold wp_X8_spread_40b at h
  refine bs_iload C (bf_dk dd_X8_spread 23 rfl) rfl ?_
  refine bs_sipush C (bf_dk dd_X8_spread 24 rfl) (256 : Int32) (by decide) ?_
  refine bs_icmp_ge C (bf_dk dd_X8_spread 25 rfl) (tgt := 107) rfl (fun c => ?_) (fun c => ?_)
  · replace h := h.1 c
    refine bs_iload C (bf_dk dd_X8_spread 54 rfl) rfl ?_
    refine bs_iconst C (bf_dk dd_X8_spread 55 rfl) (2 : Int32) (by decide) ?_
    refine bs_icmp_ne C (bf_dk dd_X8_spread 56 rfl) (tgt := 116) rfl (fun c => ?_) (fun c => ?_)
    · replace h := h.1 c
      refine bs_iload C (bf_dk dd_X8_spread 59 rfl) rfl ?_
      refine bs_if_ne C (bf_dk dd_X8_spread 60 rfl) (tgt := 126) rfl (fun c => ?_) (fun c => ?_)
      · replace h := h.1 c
        refine bs_iload C (bf_dk dd_X8_spread 63 rfl) rfl ?_
        exact bs_iret (u := S) C (bf_dk dd_X8_spread 64 rfl) rfl ⟨rfl, h⟩
      · replace h := h.2 c
        refine bs_iload C (bf_dk dd_X8_spread 61 rfl) rfl ?_
        refine bs_goto C (bf_dk dd_X8_spread 62 rfl) (tgt := 128) rfl ?_
        exact bs_iret (u := S) C (bf_dk dd_X8_spread 64 rfl) rfl ⟨rfl, h⟩
    · replace h := h.2 c
      refine bs_iload C (bf_dk dd_X8_spread 57 rfl) rfl ?_
      exact bs_iret (u := S) C (bf_dk dd_X8_spread 58 rfl) rfl ⟨rfl, h⟩
  · replace h := h.2 c
    refine bs_aload_n C (bf_dk dd_X8_spread 26 rfl) rfl ?_
    refine bs_get C (bf_dk dd_X8_spread 27 rfl) cl_8 in_8 3 (Nat.le_of_ble_eq_true rfl) rfl f_8_26 (ge_bW8_0 S) rfl ?_
    refine bs_lload C (bf_dk dd_X8_spread 28 rfl) rfl ?_
    refine bs_iload C (bf_dk dd_X8_spread 29 rfl) rfl ?_
    refine bs_iload_n C (bf_dk dd_X8_spread 30 rfl) rfl ?_
    refine bs_pureS_l (ps := []) (w := (bW8 S)) C hR (c_X8_octetTo _ _ _ _ _ (x10) (x3) _ h) my_X8_octetTo m_8_326 rfl (Nat.le_of_ble_eq_true rfl) (Nat.le_of_ble_eq_true rfl) rfl rfl (st := [.long x5, .ref 31]) (Nat.le_of_ble_eq_true rfl) (bf_dk dd_X8_spread 31 rfl) rfl (fun _ => rfl) (fun r1 h => ?_)
    refine bs_lor C (bf_dk dd_X8_spread 32 rfl) ?_
    refine bs_iload_n C (bf_dk dd_X8_spread 33 rfl) rfl ?_
    refine bs_iconst C (bf_dk dd_X8_spread 34 rfl) (1 : Int32) (by decide) ?_
    refine bs_iadd C (bf_dk dd_X8_spread 35 rfl) ?_
    refine bs_pureV_i (ps := [31, 32, 33, 34, 35, 36, 37, 38, 39, 40, 41, 42, 43, 44]) (w := (bW8 S)) C hR (c_X1_verdictOf _ _ _ _ _ (b8g_leaves S) ((x5 ||| r1)) ((x3 + (1 : Int32))) _ h) my_X1_verdictOf m_8_330 rfl cl_1 (ge_bW1_0 _) rfl (Nat.le_of_ble_eq_true rfl) (Nat.le_of_ble_eq_true rfl) (su_bW8_31_bW1 S) bnd_31t44 (st := []) (Nat.le_of_ble_eq_true rfl) (bf_dk dd_X8_spread 36 rfl) rfl (fun _ => rfl) (fun r3 h => ?_)
    refine bs_istore C (bf_dk dd_X8_spread 37 rfl) (Nat.le_of_ble_eq_true rfl) (Nat.le_of_ble_eq_true rfl) (lv2 := [some (.ref 0), none, none, some (.int x3), some (.int x4), some (.long x5), none, some (.int x7), some (.int x8), some (.int x9), some (.int x10), some (.int r3)]) rfl ?_
    refine bs_iload C (bf_dk dd_X8_spread 38 rfl) rfl ?_
    refine bs_if_eq C (bf_dk dd_X8_spread 39 rfl) (tgt := 92) rfl (fun c => ?_) (fun c => ?_)
    · replace h := h.1 c
      exact bs_weak (bf_s1 (bf_sn (bf_sn (bf_s1 (bf_s1 (bf_s1 (bf_sn (bf_s1 (bf_s1 (bf_s1 (bf_s1 (bf_s1 bf_s0)))))))))))) (t_X8_spread_92 C hR S (x3) (x4) (x5) (x7) (x8) (x9) (x10) (r3) Q B40 hB40 h)
    · replace h := h.2 c
      refine bs_iinc C (bf_dk dd_X8_spread 40 rfl) (x7 + (1 : Int32)) rfl rfl (Nat.le_of_ble_eq_true rfl) (Nat.le_of_ble_eq_true rfl) (lv2 := [some (.ref 0), none, none, some (.int x3), some (.int x4), some (.long x5), none, some (.int (x7 + (1 : Int32))), some (.int x8), some (.int x9), some (.int x10), some (.int r3)]) rfl ?_
      refine bs_iload C (bf_dk dd_X8_spread 41 rfl) rfl ?_
      refine bs_iconst C (bf_dk dd_X8_spread 42 rfl) (-1 : Int32) (by decide) ?_
      refine bs_icmp_ne C (bf_dk dd_X8_spread 43 rfl) (tgt := 88) rfl (fun c => ?_) (fun c => ?_)
      · replace h := h.1 c
        refine bs_iload C (bf_dk dd_X8_spread 46 rfl) rfl ?_
        exact bs_weak (bf_s1 (bf_sn (bf_sn (bf_s1 (bf_s1 (bf_s1 (bf_sn (bf_s1 (bf_s1 (bf_sn (bf_s1 (bf_s1 bf_s0)))))))))))) (t_X8_spread_90 C hR S (x3) (x4) (x5) ((x7 + (1 : Int32))) (x8) (x10) (r3) (x9) Q B40 hB40 h)
      · replace h := h.2 c
        refine bs_iload C (bf_dk dd_X8_spread 44 rfl) rfl ?_
        refine bs_goto C (bf_dk dd_X8_spread 45 rfl) (tgt := 90) rfl ?_
        exact bs_weak (bf_s1 (bf_sn (bf_sn (bf_s1 (bf_s1 (bf_s1 (bf_sn (bf_s1 (bf_s1 (bf_sn (bf_s1 (bf_s1 bf_s0)))))))))))) (t_X8_spread_90 C hR S (x3) (x4) (x5) ((x7 + (1 : Int32))) (x8) (x10) (r3) (x10) Q B40 hB40 h)
def wp_X8_spread_40 (S : bT8) (x3 : Int32) (x4 : Int32) (x5 : Int64) (x7 : Int32) (x8 : Int32) (x9 : Int32) (x10 : Int32) (Q : Int32 → Prop) : Prop := ∃ I : Nat → Int32 → Int32 → Int64 → Int32 → Int32 → Int32 → Int32 → Prop, (∃ n : Nat, I n x3 x4 x5 x7 x8 x9 x10) ∧ ∀ (n : Nat) (x3 : Int32) (x4 : Int32) (x5 : Int64) (x7 : Int32) (x8 : Int32) (x9 : Int32) (x10 : Int32), I n x3 x4 x5 x7 x8 x9 x10 → wp_X8_spread_40b S x3 x4 x5 x7 x8 x9 x10 Q (fun x3 x4 x5 x7 x8 x9 x10 => ∃ n2 : Nat, n2 < n ∧ I n2 x3 x4 x5 x7 x8 x9 x10)
theorem t_X8_spread_40 {X : bf_X} (C : bf_C X RX8 cX8_spread 12 (some .int)) (hR : bf_Rm X 5 124) (S : bT8) (x3 : Int32) (x4 : Int32) (x5 : Int64) (x7 : Int32) (x8 : Int32) (x9 : Int32) (x10 : Int32) (Q : Int32 → Prop) (h : wp_X8_spread_40 S x3 x4 x5 x7 x8 x9 x10 Q) : bf_A X (bf_Zi X bW8 (fun r u => u = S ∧ Q r)) 12 40 [some (.ref 0), none, none, some (.int x3), some (.int x4), some (.long x5), none, some (.int x7), some (.int x8), some (.int x9), some (.int x10), none] [] (bW8 S) := by
  obtain ⟨I, ⟨n0, h0⟩, hI⟩ := h
  have key : ∀ (n : Nat) (x3 : Int32) (x4 : Int32) (x5 : Int64) (x7 : Int32) (x8 : Int32) (x9 : Int32) (x10 : Int32), I n x3 x4 x5 x7 x8 x9 x10 → bf_A X (bf_Zi X bW8 (fun r u => u = S ∧ Q r)) 12 40 [some (.ref 0), none, none, some (.int x3), some (.int x4), some (.long x5), none, some (.int x7), some (.int x8), some (.int x9), some (.int x10), none] [] (bW8 S) := by
    intro n
    induction n using Nat.strongRecOn with
    | _ n ih =>
      intro x3 x4 x5 x7 x8 x9 x10 hi
      exact t_X8_spread_40b C hR S x3 x4 x5 x7 x8 x9 x10 Q _ (fun x3 x4 x5 x7 x8 x9 x10 hb => by obtain ⟨n2, hn, hi2⟩ := hb; exact ih n2 hn x3 x4 x5 x7 x8 x9 x10 hi2) (hI n x3 x4 x5 x7 x8 x9 x10 hi)
  exact key n0 x3 x4 x5 x7 x8 x9 x10 h0
def wp_X8_spread (S : bT8) (a1 : Int32) (a2 : Int32) (a3 : Int32) (a4 : Int32) (Q : Int32 → Prop) : Prop := (wp_X8_isCounted (a3) (fun r5 => ((r5 = 0 → (Q (-1 : Int32))) ∧ (¬ r5 = 0 → ((a4 < 0 → (Q (-1 : Int32))) ∧ (¬ a4 < 0 → ((a4 ≤ (2 : Int32) → (wp_X8_keyOf (a1) (a2) (a3) (fun r7 => (wp_X8_spread_40 S (a3) (a4) (r7) ((0 : Int32)) ((0 : Int32)) ((-1 : Int32)) ((0 : Int32)) Q)))) ∧ (¬ a4 ≤ (2 : Int32) → (Q (-1 : Int32))))))))))
set_option maxRecDepth 20000 in
theorem t_X8_spread {X : bf_X} (C : bf_C X RX8 cX8_spread 12 (some .int)) (hR : bf_Rm X 5 124) (S : bT8) (a1 : Int32) (a2 : Int32) (a3 : Int32) (a4 : Int32) (Q : Int32 → Prop) (h : wp_X8_spread S a1 a2 a3 a4 Q) : bf_A X (bf_Zi X bW8 (fun r u => u = S ∧ Q r)) 12 0 [some (.ref 0), some (.int a1), some (.int a2), some (.int a3), some (.int a4), none, none, none, none, none, none, none] [] (bW8 S) := by
  unfold wp_X8_spread at h
  refine bs_iload_n C (bf_dk dd_X8_spread 0 rfl) rfl ?_
  refine bs_pureS_i (ps := []) (w := (bW8 S)) C hR (c_X8_isCounted _ _ _ _ _ (a3) _ h) my_X8_isCounted m_8_307 rfl (Nat.le_of_ble_eq_true rfl) (Nat.le_of_ble_eq_true rfl) rfl rfl (st := []) (Nat.le_of_ble_eq_true rfl) (bf_dk dd_X8_spread 1 rfl) rfl (fun _ => rfl) (fun r5 h => ?_)
  refine bs_if_eq C (bf_dk dd_X8_spread 2 rfl) (tgt := 18) rfl (fun c => ?_) (fun c => ?_)
  · replace h := h.1 c
    refine bs_iconst C (bf_dk dd_X8_spread 8 rfl) (-1 : Int32) (by decide) ?_
    exact bs_iret (u := S) C (bf_dk dd_X8_spread 9 rfl) rfl ⟨rfl, h⟩
  · replace h := h.2 c
    refine bs_iload C (bf_dk dd_X8_spread 3 rfl) rfl ?_
    refine bs_if_lt C (bf_dk dd_X8_spread 4 rfl) (tgt := 18) rfl (fun c => ?_) (fun c => ?_)
    · replace h := h.1 c
      refine bs_iconst C (bf_dk dd_X8_spread 8 rfl) (-1 : Int32) (by decide) ?_
      exact bs_iret (u := S) C (bf_dk dd_X8_spread 9 rfl) rfl ⟨rfl, h⟩
    · replace h := h.2 c
      refine bs_iload C (bf_dk dd_X8_spread 5 rfl) rfl ?_
      refine bs_iconst C (bf_dk dd_X8_spread 6 rfl) (2 : Int32) (by decide) ?_
      refine bs_icmp_le C (bf_dk dd_X8_spread 7 rfl) (tgt := 20) rfl (fun c => ?_) (fun c => ?_)
      · replace h := h.1 c
        refine bs_iload_n C (bf_dk dd_X8_spread 10 rfl) rfl ?_
        refine bs_iload_n C (bf_dk dd_X8_spread 11 rfl) rfl ?_
        refine bs_iload_n C (bf_dk dd_X8_spread 12 rfl) rfl ?_
        refine bs_pureS_l (ps := []) (w := (bW8 S)) C hR (c_X8_keyOf _ _ _ _ _ (a1) (a2) (a3) _ h) my_X8_keyOf m_8_132 rfl (Nat.le_of_ble_eq_true rfl) (Nat.le_of_ble_eq_true rfl) rfl rfl (st := []) (Nat.le_of_ble_eq_true rfl) (bf_dk dd_X8_spread 13 rfl) rfl (fun _ => rfl) (fun r7 h => ?_)
        refine bs_lstore C (bf_dk dd_X8_spread 14 rfl) (Nat.le_of_ble_eq_true rfl) (Nat.le_of_ble_eq_true rfl) (lv2 := [some (.ref 0), some (.int a1), some (.int a2), some (.int a3), some (.int a4), some (.long r7), none, none, none, none, none, none]) rfl ?_
        refine bs_iconst C (bf_dk dd_X8_spread 15 rfl) (0 : Int32) (by decide) ?_
        refine bs_istore C (bf_dk dd_X8_spread 16 rfl) (Nat.le_of_ble_eq_true rfl) (Nat.le_of_ble_eq_true rfl) (lv2 := [some (.ref 0), some (.int a1), some (.int a2), some (.int a3), some (.int a4), some (.long r7), none, some (.int (0 : Int32)), none, none, none, none]) rfl ?_
        refine bs_iconst C (bf_dk dd_X8_spread 17 rfl) (0 : Int32) (by decide) ?_
        refine bs_istore C (bf_dk dd_X8_spread 18 rfl) (Nat.le_of_ble_eq_true rfl) (Nat.le_of_ble_eq_true rfl) (lv2 := [some (.ref 0), some (.int a1), some (.int a2), some (.int a3), some (.int a4), some (.long r7), none, some (.int (0 : Int32)), some (.int (0 : Int32)), none, none, none]) rfl ?_
        refine bs_iconst C (bf_dk dd_X8_spread 19 rfl) (-1 : Int32) (by decide) ?_
        refine bs_istore C (bf_dk dd_X8_spread 20 rfl) (Nat.le_of_ble_eq_true rfl) (Nat.le_of_ble_eq_true rfl) (lv2 := [some (.ref 0), some (.int a1), some (.int a2), some (.int a3), some (.int a4), some (.long r7), none, some (.int (0 : Int32)), some (.int (0 : Int32)), some (.int (-1 : Int32)), none, none]) rfl ?_
        refine bs_iconst C (bf_dk dd_X8_spread 21 rfl) (0 : Int32) (by decide) ?_
        refine bs_istore C (bf_dk dd_X8_spread 22 rfl) (Nat.le_of_ble_eq_true rfl) (Nat.le_of_ble_eq_true rfl) (lv2 := [some (.ref 0), some (.int a1), some (.int a2), some (.int a3), some (.int a4), some (.long r7), none, some (.int (0 : Int32)), some (.int (0 : Int32)), some (.int (-1 : Int32)), some (.int (0 : Int32)), none]) rfl ?_
        exact bs_weak (bf_s1 (bf_sn (bf_sn (bf_s1 (bf_s1 (bf_s1 (bf_sn (bf_s1 (bf_s1 (bf_s1 (bf_s1 (bf_sn bf_s0)))))))))))) (t_X8_spread_40 C hR S (a3) (a4) (r7) ((0 : Int32)) ((0 : Int32)) ((-1 : Int32)) ((0 : Int32)) Q h)
      · replace h := h.2 c
        refine bs_iconst C (bf_dk dd_X8_spread 8 rfl) (-1 : Int32) (by decide) ?_
        exact bs_iret (u := S) C (bf_dk dd_X8_spread 9 rfl) rfl ⟨rfl, h⟩
theorem c_X8_spread (l : Launch) (dC : Nat → ClassId) (dI : Nat → Nat → Nat) (ac : Nat → ClassId) (al : Nat → Nat) (S : bT8) (a1 : Int32) (a2 : Int32) (a3 : Int32) (a4 : Int32) (Q : Int32 → Prop) (h : wp_X8_spread S a1 a2 a3 a4 Q) : bf_M l yX8_spread cX8_spread 12 (some .int) 5 124 dC dI ac al [.ref 0, .int a1, .int a2, .int a3, .int a4] (bW8 S) (bf_Ki dC dI ac al bW8 (fun r u => u = S ∧ Q r)) := by
  refine bf_start [some (.ref 0), some (.int a1), some (.int a2), some (.int a3), some (.int a4), none, none, none, none, none, none, none] (by decide) (Nat.le_of_ble_eq_true rfl) (bf_s1 (bf_s1 (bf_s1 (bf_s1 (bf_s1 (bf_en 7)))))) ?_
  intro X hl C hR e1 e2 e3 e4
  subst e1; subst e2; subst e3; subst e4
  exact t_X8_spread C hR S a1 a2 a3 a4 Q h
def wp_X8_question (S : bT8) (a1 : Int32) (a2 : Int32) (a3 : Int32) (Q : Int32 → (bT8) → Prop) : Prop := (wp_X8_isLength (a3) (fun r1 => ((r1 = 0 → (Q (-1 : Int32) S)) ∧ (¬ r1 = 0 → (((b0g_count (b2g_questions (b8g_now S))) < (16 : Int32) → (wp_X8_keyOf (a1) (a2) (a3) (fun r3 => (wp_X0_append (b2g_questions (b8g_now S)) (r3) (a3) (fun u6 => (∀ S7 : bT8, S7 = (b8s_now S (b2s_questions (b8g_now S) u6)) → (Q (b0g_count (b2g_questions (b8g_now S7))) S7))))))) ∧ (¬ (b0g_count (b2g_questions (b8g_now S))) < (16 : Int32) → (Q (-1 : Int32) S)))))))
set_option maxRecDepth 20000 in
theorem t_X8_question {X : bf_X} (C : bf_C X RX8 cX8_question 4 (some .int)) (hR : bf_Rm X 2 42) (S : bT8) (a1 : Int32) (a2 : Int32) (a3 : Int32) (Q : Int32 → (bT8) → Prop) (h : wp_X8_question S a1 a2 a3 Q) : bf_A X (bf_Zi X bW8 Q) 4 0 [some (.ref 0), some (.int a1), some (.int a2), some (.int a3)] [] (bW8 S) := by
  unfold wp_X8_question at h
  refine bs_iload_n C (bf_dk dd_X8_question 0 rfl) rfl ?_
  refine bs_pureS_i (ps := []) (w := (bW8 S)) C hR (c_X8_isLength _ _ _ _ _ (a3) _ h) my_X8_isLength m_8_128 rfl (Nat.le_of_ble_eq_true rfl) (Nat.le_of_ble_eq_true rfl) rfl rfl (st := []) (Nat.le_of_ble_eq_true rfl) (bf_dk dd_X8_question 1 rfl) rfl (fun _ => rfl) (fun r1 h => ?_)
  refine bs_if_eq C (bf_dk dd_X8_question 2 rfl) (tgt := 22) rfl (fun c => ?_) (fun c => ?_)
  · replace h := h.1 c
    refine bs_iconst C (bf_dk dd_X8_question 9 rfl) (-1 : Int32) (by decide) ?_
    exact bs_iret (u := S) C (bf_dk dd_X8_question 10 rfl) rfl h
  · replace h := h.2 c
    refine bs_aload_n C (bf_dk dd_X8_question 3 rfl) rfl ?_
    refine bs_get C (bf_dk dd_X8_question 4 rfl) cl_8 in_8 0 (Nat.le_of_ble_eq_true rfl) rfl f_8_12 (ge_bW8_0 S) rfl ?_
    refine bs_get C (bf_dk dd_X8_question 5 rfl) cl_2 in_2 2 (Nat.le_of_ble_eq_true rfl) rfl f_8_333 (ge_bW8_1 S) rfl ?_
    refine bs_get C (bf_dk dd_X8_question 6 rfl) cl_0 in_0 2 (Nat.le_of_ble_eq_true rfl) rfl f_8_110 (ge_bW8_12 S) rfl ?_
    refine bs_bipush C (bf_dk dd_X8_question 7 rfl) (16 : Int32) (by decide) ?_
    refine bs_icmp_lt C (bf_dk dd_X8_question 8 rfl) (tgt := 24) rfl (fun c => ?_) (fun c => ?_)
    · replace h := h.1 c
      refine bs_aload_n C (bf_dk dd_X8_question 11 rfl) rfl ?_
      refine bs_get C (bf_dk dd_X8_question 12 rfl) cl_8 in_8 0 (Nat.le_of_ble_eq_true rfl) rfl f_8_12 (ge_bW8_0 S) rfl ?_
      refine bs_get C (bf_dk dd_X8_question 13 rfl) cl_2 in_2 2 (Nat.le_of_ble_eq_true rfl) rfl f_8_333 (ge_bW8_1 S) rfl ?_
      refine bs_iload_n C (bf_dk dd_X8_question 14 rfl) rfl ?_
      refine bs_iload_n C (bf_dk dd_X8_question 15 rfl) rfl ?_
      refine bs_iload_n C (bf_dk dd_X8_question 16 rfl) rfl ?_
      refine bs_pureS_l (ps := []) (w := (bW8 S)) C hR (c_X8_keyOf _ _ _ _ _ (a1) (a2) (a3) _ h) my_X8_keyOf m_8_132 rfl (Nat.le_of_ble_eq_true rfl) (Nat.le_of_ble_eq_true rfl) rfl rfl (st := [.ref 12]) (Nat.le_of_ble_eq_true rfl) (bf_dk dd_X8_question 17 rfl) rfl (fun _ => rfl) (fun r3 h => ?_)
      refine bs_iload_n C (bf_dk dd_X8_question 18 rfl) rfl ?_
      refine bs_callV_v (ps := [12, 13, 14]) (w := (bW8 S)) C hR (c_X0_append _ _ _ _ _ (b2g_questions (b8g_now S)) (r3) (a3) _ h) my_X0_append m_8_336 rfl cl_0 (ge_bW0_0 _) rfl (Nat.le_of_ble_eq_true rfl) (Nat.le_of_ble_eq_true rfl) (su_bW8_12_bW0 S) rfl (st := []) (Nat.le_of_ble_eq_true rfl) (bf_dk dd_X8_question 19 rfl) rfl (fun _ => rfl) (w2 := fun u6 => bW8 (b8s_now S (b2s_questions (b8g_now S) u6))) (pt_bW8_12_bW0 S) (fun u6 h => ?_)
      refine bs_nameS bW8 (fun S7 eS7 => ?_)
      replace h := h S7 eS7
      refine bs_aload_n C (bf_dk dd_X8_question 20 rfl) rfl ?_
      refine bs_get C (bf_dk dd_X8_question 21 rfl) cl_8 in_8 0 (Nat.le_of_ble_eq_true rfl) rfl f_8_12 (ge_bW8_0 S7) rfl ?_
      refine bs_get C (bf_dk dd_X8_question 22 rfl) cl_2 in_2 2 (Nat.le_of_ble_eq_true rfl) rfl f_8_333 (ge_bW8_1 S7) rfl ?_
      refine bs_get C (bf_dk dd_X8_question 23 rfl) cl_0 in_0 2 (Nat.le_of_ble_eq_true rfl) rfl f_8_110 (ge_bW8_12 S7) rfl ?_
      exact bs_iret (u := S7) C (bf_dk dd_X8_question 24 rfl) rfl h
    · replace h := h.2 c
      refine bs_iconst C (bf_dk dd_X8_question 9 rfl) (-1 : Int32) (by decide) ?_
      exact bs_iret (u := S) C (bf_dk dd_X8_question 10 rfl) rfl h
theorem c_X8_question (l : Launch) (dC : Nat → ClassId) (dI : Nat → Nat → Nat) (ac : Nat → ClassId) (al : Nat → Nat) (S : bT8) (a1 : Int32) (a2 : Int32) (a3 : Int32) (Q : Int32 → (bT8) → Prop) (h : wp_X8_question S a1 a2 a3 Q) : bf_M l yX8_question cX8_question 4 (some .int) 2 42 dC dI ac al [.ref 0, .int a1, .int a2, .int a3] (bW8 S) (bf_Ki dC dI ac al bW8 Q) := by
  refine bf_start [some (.ref 0), some (.int a1), some (.int a2), some (.int a3)] (by decide) (Nat.le_of_ble_eq_true rfl) (bf_s1 (bf_s1 (bf_s1 (bf_s1 bf_s0)))) ?_
  intro X hl C hR e1 e2 e3 e4
  subst e1; subst e2; subst e3; subst e4
  exact t_X8_question C hR S a1 a2 a3 Q h
def wp_X8_forget (S : bT8) (Q : Int32 → (bT8) → Prop) : Prop := (∀ S1 : bT8, S1 = (b8s_now S (b2s_questions (b8g_now S) (b0s_count (b2g_questions (b8g_now S)) (0 : Int32)))) → (Q (b0g_count (b2g_questions (b8g_now S))) S1))
set_option maxRecDepth 20000 in
theorem t_X8_forget {X : bf_X} (C : bf_C X RX8 cX8_forget 2 (some .int)) (hR : bf_Rm X 0 0) (S : bT8) (Q : Int32 → (bT8) → Prop) (h : wp_X8_forget S Q) : bf_A X (bf_Zi X bW8 Q) 2 0 [some (.ref 0), none] [] (bW8 S) := by
  unfold wp_X8_forget at h
  refine bs_aload_n C (bf_dk dd_X8_forget 0 rfl) rfl ?_
  refine bs_get C (bf_dk dd_X8_forget 1 rfl) cl_8 in_8 0 (Nat.le_of_ble_eq_true rfl) rfl f_8_12 (ge_bW8_0 S) rfl ?_
  refine bs_get C (bf_dk dd_X8_forget 2 rfl) cl_2 in_2 2 (Nat.le_of_ble_eq_true rfl) rfl f_8_333 (ge_bW8_1 S) rfl ?_
  refine bs_get C (bf_dk dd_X8_forget 3 rfl) cl_0 in_0 2 (Nat.le_of_ble_eq_true rfl) rfl f_8_110 (ge_bW8_12 S) rfl ?_
  refine bs_istore_n C (bf_dk dd_X8_forget 4 rfl) rfl (Nat.le_of_ble_eq_true rfl) (Nat.le_of_ble_eq_true rfl) (lv2 := [some (.ref 0), some (.int (b0g_count (b2g_questions (b8g_now S))))]) rfl ?_
  refine bs_aload_n C (bf_dk dd_X8_forget 5 rfl) rfl ?_
  refine bs_get C (bf_dk dd_X8_forget 6 rfl) cl_8 in_8 0 (Nat.le_of_ble_eq_true rfl) rfl f_8_12 (ge_bW8_0 S) rfl ?_
  refine bs_get C (bf_dk dd_X8_forget 7 rfl) cl_2 in_2 2 (Nat.le_of_ble_eq_true rfl) rfl f_8_333 (ge_bW8_1 S) rfl ?_
  refine bs_iconst C (bf_dk dd_X8_forget 8 rfl) (0 : Int32) (by decide) ?_
  refine bs_put C (bf_dk dd_X8_forget 9 rfl) tyX0_ok nmX0 cl_0 in_0 2 (Nat.le_of_ble_eq_true rfl) rfl f_8_110 rfl (ge_bW8_12 S) (Nat.le_of_ble_eq_true rfl) rfl rfl (pu_bW8_12_2 S (0 : Int32)) ?_
  refine bs_nameS bW8 (fun S1 eS1 => ?_)
  replace h := h S1 eS1
  refine bs_iload_n C (bf_dk dd_X8_forget 10 rfl) rfl ?_
  exact bs_iret (u := S1) C (bf_dk dd_X8_forget 11 rfl) rfl h
theorem c_X8_forget (l : Launch) (dC : Nat → ClassId) (dI : Nat → Nat → Nat) (ac : Nat → ClassId) (al : Nat → Nat) (S : bT8) (Q : Int32 → (bT8) → Prop) (h : wp_X8_forget S Q) : bf_M l yX8_forget cX8_forget 2 (some .int) 0 0 dC dI ac al [.ref 0] (bW8 S) (bf_Ki dC dI ac al bW8 Q) := by
  refine bf_start [some (.ref 0), none] (by decide) (Nat.le_of_ble_eq_true rfl) (bf_s1 (bf_en 1)) ?_
  intro X hl C hR e1 e2 e3 e4
  subst e1; subst e2; subst e3; subst e4
  exact t_X8_forget C hR S Q h
def wp_X8_tuned (S : bT8) (a1 : Int32) (a2 : Int32) (Q : Int32 → (bT8) → Prop) : Prop := ((a1 < 0 → (Q (-1 : Int32) S)) ∧ (¬ a1 < 0 → (((16 : Int32) < a1 → (Q (-1 : Int32) S)) ∧ (¬ (16 : Int32) < a1 → ((a2 < 0 → (Q (-1 : Int32) S)) ∧ (¬ a2 < 0 → ((a2 ≤ (2 : Int32) → (wp_X7_tune ((b8g_tuning S), (b8g_leaves S), (b2g_questions (b8g_now S))) (a1) (fun u2 => (∀ S3 : bT8, S3 = (b8s_now (b8s_leaves (b8s_tuning S u2.1) u2.2.1) (b2s_questions (b8g_now (b8s_leaves (b8s_tuning S u2.1) u2.2.1)) u2.2.2)) → ((¬ a2 = (2 : Int32) → ((¬ a2 = 0 → (Q (b7g_realBits (b8g_tuning S3)) S3)) ∧ (a2 = 0 → (Q (b7g_hashBits (b8g_tuning S3)) S3)))) ∧ (a2 = (2 : Int32) → (Q (b7g_falsely (b8g_tuning S3)) S3))))))) ∧ (¬ a2 ≤ (2 : Int32) → (Q (-1 : Int32) S)))))))))
set_option maxRecDepth 20000 in
theorem t_X8_tuned {X : bf_X} (C : bf_C X RX8 cX8_tuned 3 (some .int)) (hR : bf_Rm X 6 153) (S : bT8) (a1 : Int32) (a2 : Int32) (Q : Int32 → (bT8) → Prop) (h : wp_X8_tuned S a1 a2 Q) : bf_A X (bf_Zi X bW8 Q) 3 0 [some (.ref 0), some (.int a1), some (.int a2)] [] (bW8 S) := by
  unfold wp_X8_tuned at h
  refine bs_iload_n C (bf_dk dd_X8_tuned 0 rfl) rfl ?_
  refine bs_if_lt C (bf_dk dd_X8_tuned 1 rfl) (tgt := 19) rfl (fun c => ?_) (fun c => ?_)
  · replace h := h.1 c
    refine bs_iconst C (bf_dk dd_X8_tuned 10 rfl) (-1 : Int32) (by decide) ?_
    exact bs_iret (u := S) C (bf_dk dd_X8_tuned 11 rfl) rfl h
  · replace h := h.2 c
    refine bs_iload_n C (bf_dk dd_X8_tuned 2 rfl) rfl ?_
    refine bs_bipush C (bf_dk dd_X8_tuned 3 rfl) (16 : Int32) (by decide) ?_
    refine bs_icmp_gt C (bf_dk dd_X8_tuned 4 rfl) (tgt := 19) rfl (fun c => ?_) (fun c => ?_)
    · replace h := h.1 c
      refine bs_iconst C (bf_dk dd_X8_tuned 10 rfl) (-1 : Int32) (by decide) ?_
      exact bs_iret (u := S) C (bf_dk dd_X8_tuned 11 rfl) rfl h
    · replace h := h.2 c
      refine bs_iload_n C (bf_dk dd_X8_tuned 5 rfl) rfl ?_
      refine bs_if_lt C (bf_dk dd_X8_tuned 6 rfl) (tgt := 19) rfl (fun c => ?_) (fun c => ?_)
      · replace h := h.1 c
        refine bs_iconst C (bf_dk dd_X8_tuned 10 rfl) (-1 : Int32) (by decide) ?_
        exact bs_iret (u := S) C (bf_dk dd_X8_tuned 11 rfl) rfl h
      · replace h := h.2 c
        refine bs_iload_n C (bf_dk dd_X8_tuned 7 rfl) rfl ?_
        refine bs_iconst C (bf_dk dd_X8_tuned 8 rfl) (2 : Int32) (by decide) ?_
        refine bs_icmp_le C (bf_dk dd_X8_tuned 9 rfl) (tgt := 21) rfl (fun c => ?_) (fun c => ?_)
        · replace h := h.1 c
          refine bs_aload_n C (bf_dk dd_X8_tuned 12 rfl) rfl ?_
          refine bs_get C (bf_dk dd_X8_tuned 13 rfl) cl_8 in_8 5 (Nat.le_of_ble_eq_true rfl) rfl f_8_40 (ge_bW8_0 S) rfl ?_
          refine bs_aload_n C (bf_dk dd_X8_tuned 14 rfl) rfl ?_
          refine bs_get C (bf_dk dd_X8_tuned 15 rfl) cl_8 in_8 3 (Nat.le_of_ble_eq_true rfl) rfl f_8_26 (ge_bW8_0 S) rfl ?_
          refine bs_aload_n C (bf_dk dd_X8_tuned 16 rfl) rfl ?_
          refine bs_get C (bf_dk dd_X8_tuned 17 rfl) cl_8 in_8 0 (Nat.le_of_ble_eq_true rfl) rfl f_8_12 (ge_bW8_0 S) rfl ?_
          refine bs_get C (bf_dk dd_X8_tuned 18 rfl) cl_2 in_2 2 (Nat.le_of_ble_eq_true rfl) rfl f_8_333 (ge_bW8_1 S) rfl ?_
          refine bs_iload_n C (bf_dk dd_X8_tuned 19 rfl) rfl ?_
          refine bs_callV_v (ps := [58, 59, 60, 31, 32, 33, 34, 35, 36, 37, 38, 39, 40, 41, 42, 43, 44, 12, 13, 14]) (w := (bW8 S)) C hR (c_X7_tune _ _ _ _ _ ((b8g_tuning S), (b8g_leaves S), (b2g_questions (b8g_now S))) (a1) _ h) my_X7_tune m_8_340 rfl cl_7 (ge_bW7_1_0_0 _) rfl (Nat.le_of_ble_eq_true rfl) (Nat.le_of_ble_eq_true rfl) (su_bW8_58_31_12_bW7_1_0 S) bnd_58t60_31t44_12t14 (st := []) (Nat.le_of_ble_eq_true rfl) (bf_dk dd_X8_tuned 20 rfl) rfl (fun _ => rfl) (w2 := fun u2 => bW8 (b8s_now (b8s_leaves (b8s_tuning S u2.1) u2.2.1) (b2s_questions (b8g_now (b8s_leaves (b8s_tuning S u2.1) u2.2.1)) u2.2.2))) (pt_bW8_58_31_12_bW7_1_0 S) (fun u2 h => ?_)
          refine bs_nameS bW8 (fun S3 eS3 => ?_)
          replace h := h S3 eS3
          refine bs_iload_n C (bf_dk dd_X8_tuned 21 rfl) rfl ?_
          refine bs_iconst C (bf_dk dd_X8_tuned 22 rfl) (2 : Int32) (by decide) ?_
          refine bs_icmp_ne C (bf_dk dd_X8_tuned 23 rfl) (tgt := 53) rfl (fun c => ?_) (fun c => ?_)
          · replace h := h.1 c
            refine bs_iload_n C (bf_dk dd_X8_tuned 28 rfl) rfl ?_
            refine bs_if_ne C (bf_dk dd_X8_tuned 29 rfl) (tgt := 67) rfl (fun c => ?_) (fun c => ?_)
            · replace h := h.1 c
              refine bs_aload_n C (bf_dk dd_X8_tuned 34 rfl) rfl ?_
              refine bs_get C (bf_dk dd_X8_tuned 35 rfl) cl_8 in_8 5 (Nat.le_of_ble_eq_true rfl) rfl f_8_40 (ge_bW8_0 S3) rfl ?_
              refine bs_get C (bf_dk dd_X8_tuned 36 rfl) cl_7 in_7 4 (Nat.le_of_ble_eq_true rfl) rfl f_8_350 (ge_bW8_58 S3) rfl ?_
              exact bs_iret (u := S3) C (bf_dk dd_X8_tuned 37 rfl) rfl h
            · replace h := h.2 c
              refine bs_aload_n C (bf_dk dd_X8_tuned 30 rfl) rfl ?_
              refine bs_get C (bf_dk dd_X8_tuned 31 rfl) cl_8 in_8 5 (Nat.le_of_ble_eq_true rfl) rfl f_8_40 (ge_bW8_0 S3) rfl ?_
              refine bs_get C (bf_dk dd_X8_tuned 32 rfl) cl_7 in_7 3 (Nat.le_of_ble_eq_true rfl) rfl f_8_347 (ge_bW8_58 S3) rfl ?_
              refine bs_goto C (bf_dk dd_X8_tuned 33 rfl) (tgt := 74) rfl ?_
              exact bs_iret (u := S3) C (bf_dk dd_X8_tuned 37 rfl) rfl h
          · replace h := h.2 c
            refine bs_aload_n C (bf_dk dd_X8_tuned 24 rfl) rfl ?_
            refine bs_get C (bf_dk dd_X8_tuned 25 rfl) cl_8 in_8 5 (Nat.le_of_ble_eq_true rfl) rfl f_8_40 (ge_bW8_0 S3) rfl ?_
            refine bs_get C (bf_dk dd_X8_tuned 26 rfl) cl_7 in_7 5 (Nat.le_of_ble_eq_true rfl) rfl f_8_344 (ge_bW8_58 S3) rfl ?_
            exact bs_iret (u := S3) C (bf_dk dd_X8_tuned 27 rfl) rfl h
        · replace h := h.2 c
          refine bs_iconst C (bf_dk dd_X8_tuned 10 rfl) (-1 : Int32) (by decide) ?_
          exact bs_iret (u := S) C (bf_dk dd_X8_tuned 11 rfl) rfl h
theorem c_X8_tuned (l : Launch) (dC : Nat → ClassId) (dI : Nat → Nat → Nat) (ac : Nat → ClassId) (al : Nat → Nat) (S : bT8) (a1 : Int32) (a2 : Int32) (Q : Int32 → (bT8) → Prop) (h : wp_X8_tuned S a1 a2 Q) : bf_M l yX8_tuned cX8_tuned 3 (some .int) 6 153 dC dI ac al [.ref 0, .int a1, .int a2] (bW8 S) (bf_Ki dC dI ac al bW8 Q) := by
  refine bf_start [some (.ref 0), some (.int a1), some (.int a2)] (by decide) (Nat.le_of_ble_eq_true rfl) (bf_s1 (bf_s1 (bf_s1 bf_s0))) ?_
  intro X hl C hR e1 e2 e3 e4
  subst e1; subst e2; subst e3; subst e4
  exact t_X8_tuned C hR S a1 a2 Q h
def wp_X8_storm_70 (S : bT8) (x1 : Int32) (x2 : Int32) (x3 : Int32) (x4 : Int32) (Q : Int32 → (bT8) → Prop) (B26 : Int32 → Int32 → Int32 → Int32 → (bT8) → Prop) : Prop := (B26 (x1) (x2) (x3) ((x4 + (1 : Int32))) S)
set_option maxRecDepth 20000 in
theorem t_X8_storm_70 {X : bf_X} (C : bf_C X RX8 cX8_storm 8 (some .int)) (hR : bf_Rm X 6 148) (S : bT8) (x1 : Int32) (x2 : Int32) (x3 : Int32) (x4 : Int32) (Q : Int32 → (bT8) → Prop) (B26 : Int32 → Int32 → Int32 → Int32 → (bT8) → Prop) (hB26 : ∀ (x1 : Int32) (x2 : Int32) (x3 : Int32) (x4 : Int32) (S : bT8), B26 x1 x2 x3 x4 S → bf_A X (bf_Zi X bW8 Q) 8 26 [some (.ref 0), some (.int x1), some (.int x2), some (.int x3), some (.int x4), none, none, none] [] (bW8 S)) (h : wp_X8_storm_70 S x1 x2 x3 x4 Q B26) : bf_A X (bf_Zi X bW8 Q) 8 70 [some (.ref 0), some (.int x1), some (.int x2), some (.int x3), some (.int x4), none, none, none] [] (bW8 S) := by
  unfold wp_X8_storm_70 at h
  refine bs_iinc C (bf_dk dd_X8_storm 37 rfl) (x4 + (1 : Int32)) rfl rfl (Nat.le_of_ble_eq_true rfl) (Nat.le_of_ble_eq_true rfl) (lv2 := [some (.ref 0), some (.int x1), some (.int x2), some (.int x3), some (.int (x4 + (1 : Int32))), none, none, none]) rfl ?_
  refine bs_goto C (bf_dk dd_X8_storm 38 rfl) (tgt := 26) rfl ?_
  exact bs_weak (bf_s1 (bf_s1 (bf_s1 (bf_s1 (bf_s1 (bf_sn (bf_sn (bf_sn bf_s0)))))))) (hB26 (x1) (x2) (x3) ((x4 + (1 : Int32))) S h)
def wp_X8_storm_26b (S : bT8) (x1 : Int32) (x2 : Int32) (x3 : Int32) (x4 : Int32) (Q : Int32 → (bT8) → Prop) (B26 : Int32 → Int32 → Int32 → Int32 → (bT8) → Prop) : Prop := ((x1 ≤ x4 → (Q x3 S)) ∧ (¬ x1 ≤ x4 → (wp_X2_draw (b8g_now S) (x2) (fun r1 u2 => (∀ S3 : bT8, S3 = (b8s_now S u2) → (wp_X2_drawBytes (b8g_now S3) ((r1 + (1 : Int32))) (fun r4 u5 => (∀ S6 : bT8, S6 = (b8s_now S3 u5) → (wp_X8_askKey S6 (r4) ((r1 + (1 : Int32))) (fun r7 u8 => ((¬ r7 = (2 : Int32) → (wp_X8_storm_70 u8 (x1) (x2) (x3) (x4) Q B26)) ∧ (r7 = (2 : Int32) → (wp_X8_storm_70 u8 (x1) (x2) ((x3 + (1 : Int32))) (x4) Q B26)))))))))))))
set_option maxRecDepth 20000 in
theorem t_X8_storm_26b {X : bf_X} (C : bf_C X RX8 cX8_storm 8 (some .int)) (hR : bf_Rm X 6 148) (S : bT8) (x1 : Int32) (x2 : Int32) (x3 : Int32) (x4 : Int32) (Q : Int32 → (bT8) → Prop) (B26 : Int32 → Int32 → Int32 → Int32 → (bT8) → Prop) (hB26 : ∀ (x1 : Int32) (x2 : Int32) (x3 : Int32) (x4 : Int32) (S : bT8), B26 x1 x2 x3 x4 S → bf_A X (bf_Zi X bW8 Q) 8 26 [some (.ref 0), some (.int x1), some (.int x2), some (.int x3), some (.int x4), none, none, none] [] (bW8 S)) (h : wp_X8_storm_26b S x1 x2 x3 x4 Q B26) : bf_A X (bf_Zi X bW8 Q) 8 26 [some (.ref 0), some (.int x1), some (.int x2), some (.int x3), some (.int x4), none, none, none] [] (bW8 S) := by
  unfold wp_X8_storm_26b at h
  refine bs_iload C (bf_dk dd_X8_storm 15 rfl) rfl ?_
  refine bs_iload_n C (bf_dk dd_X8_storm 16 rfl) rfl ?_
  refine bs_icmp_ge C (bf_dk dd_X8_storm 17 rfl) (tgt := 76) rfl (fun c => ?_) (fun c => ?_)
  · replace h := h.1 c
    refine bs_iload_n C (bf_dk dd_X8_storm 39 rfl) rfl ?_
    exact bs_iret (u := S) C (bf_dk dd_X8_storm 40 rfl) rfl h
  · replace h := h.2 c
    refine bs_aload_n C (bf_dk dd_X8_storm 18 rfl) rfl ?_
    refine bs_get C (bf_dk dd_X8_storm 19 rfl) cl_8 in_8 0 (Nat.le_of_ble_eq_true rfl) rfl f_8_12 (ge_bW8_0 S) rfl ?_
    refine bs_iload_n C (bf_dk dd_X8_storm 20 rfl) rfl ?_
    refine bs_callV_i (ps := [1, 2, 3, 4, 5, 6, 7, 8, 9, 10, 11, 12, 13, 14, 15]) (w := (bW8 S)) C hR (c_X2_draw _ _ _ _ _ (b8g_now S) (x2) _ h) my_X2_draw m_8_146 rfl cl_2 (ge_bW2_0 _) rfl (Nat.le_of_ble_eq_true rfl) (Nat.le_of_ble_eq_true rfl) (su_bW8_1_bW2 S) bnd_1t15 (st := []) (Nat.le_of_ble_eq_true rfl) (bf_dk dd_X8_storm 21 rfl) rfl (fun _ => rfl) (w2 := fun u2 => bW8 (b8s_now S u2)) (pt_bW8_1_bW2 S) (fun r1 u2 h => ?_)
    refine bs_nameS bW8 (fun S3 eS3 => ?_)
    replace h := h S3 eS3
    refine bs_iconst C (bf_dk dd_X8_storm 22 rfl) (1 : Int32) (by decide) ?_
    refine bs_iadd C (bf_dk dd_X8_storm 23 rfl) ?_
    refine bs_istore C (bf_dk dd_X8_storm 24 rfl) (Nat.le_of_ble_eq_true rfl) (Nat.le_of_ble_eq_true rfl) (lv2 := [some (.ref 0), some (.int x1), some (.int x2), some (.int x3), some (.int x4), some (.int (r1 + (1 : Int32))), none, none]) rfl ?_
    refine bs_aload_n C (bf_dk dd_X8_storm 25 rfl) rfl ?_
    refine bs_get C (bf_dk dd_X8_storm 26 rfl) cl_8 in_8 0 (Nat.le_of_ble_eq_true rfl) rfl f_8_12 (ge_bW8_0 S3) rfl ?_
    refine bs_iload C (bf_dk dd_X8_storm 27 rfl) rfl ?_
    refine bs_callV_l (ps := [1, 2, 3, 4, 5, 6, 7, 8, 9, 10, 11, 12, 13, 14, 15]) (w := (bW8 S3)) C hR (c_X2_drawBytes _ _ _ _ _ (b8g_now S3) ((r1 + (1 : Int32))) _ h) my_X2_drawBytes m_8_150 rfl cl_2 (ge_bW2_0 _) rfl (Nat.le_of_ble_eq_true rfl) (Nat.le_of_ble_eq_true rfl) (su_bW8_1_bW2 S3) bnd_1t15 (st := []) (Nat.le_of_ble_eq_true rfl) (bf_dk dd_X8_storm 28 rfl) rfl (fun _ => rfl) (w2 := fun u5 => bW8 (b8s_now S3 u5)) (pt_bW8_1_bW2 S3) (fun r4 u5 h => ?_)
    refine bs_nameS bW8 (fun S6 eS6 => ?_)
    replace h := h S6 eS6
    refine bs_lstore C (bf_dk dd_X8_storm 29 rfl) (Nat.le_of_ble_eq_true rfl) (Nat.le_of_ble_eq_true rfl) (lv2 := [some (.ref 0), some (.int x1), some (.int x2), some (.int x3), some (.int x4), some (.int (r1 + (1 : Int32))), some (.long r4), none]) rfl ?_
    refine bs_aload_n C (bf_dk dd_X8_storm 30 rfl) rfl ?_
    refine bs_lload C (bf_dk dd_X8_storm 31 rfl) rfl ?_
    refine bs_iload C (bf_dk dd_X8_storm 32 rfl) rfl ?_
    refine bs_selfV_i C hR (c_X8_askKey _ _ _ _ _ S6 (r4) ((r1 + (1 : Int32))) _ h) my_X8_askKey m_8_166 rfl cl_8 (ge_bW8_0 _) rfl (Nat.le_of_ble_eq_true rfl) (Nat.le_of_ble_eq_true rfl) (st := []) (Nat.le_of_ble_eq_true rfl) (bf_dk dd_X8_storm 33 rfl) rfl (len := 68) (fun _ => rfl) (fun r7 u8 h => ?_)
    refine bs_iconst C (bf_dk dd_X8_storm 34 rfl) (2 : Int32) (by decide) ?_
    refine bs_icmp_ne C (bf_dk dd_X8_storm 35 rfl) (tgt := 70) rfl (fun c => ?_) (fun c => ?_)
    · replace h := h.1 c
      exact bs_weak (bf_s1 (bf_s1 (bf_s1 (bf_s1 (bf_s1 (bf_sn (bf_sn (bf_sn bf_s0)))))))) (t_X8_storm_70 C hR u8 (x1) (x2) (x3) (x4) Q B26 hB26 h)
    · replace h := h.2 c
      refine bs_iinc C (bf_dk dd_X8_storm 36 rfl) (x3 + (1 : Int32)) rfl rfl (Nat.le_of_ble_eq_true rfl) (Nat.le_of_ble_eq_true rfl) (lv2 := [some (.ref 0), some (.int x1), some (.int x2), some (.int (x3 + (1 : Int32))), some (.int x4), some (.int (r1 + (1 : Int32))), some (.long r4), none]) rfl ?_
      exact bs_weak (bf_s1 (bf_s1 (bf_s1 (bf_s1 (bf_s1 (bf_sn (bf_sn (bf_sn bf_s0)))))))) (t_X8_storm_70 C hR u8 (x1) (x2) ((x3 + (1 : Int32))) (x4) Q B26 hB26 h)
def wp_X8_storm_26 (S : bT8) (x1 : Int32) (x2 : Int32) (x3 : Int32) (x4 : Int32) (Q : Int32 → (bT8) → Prop) : Prop := ∃ I : Nat → Int32 → Int32 → Int32 → Int32 → (bT8) → Prop, (∃ n : Nat, I n x1 x2 x3 x4 S) ∧ ∀ (n : Nat) (x1 : Int32) (x2 : Int32) (x3 : Int32) (x4 : Int32) (S : bT8), I n x1 x2 x3 x4 S → wp_X8_storm_26b S x1 x2 x3 x4 Q (fun x1 x2 x3 x4 S => ∃ n2 : Nat, n2 < n ∧ I n2 x1 x2 x3 x4 S)
theorem t_X8_storm_26 {X : bf_X} (C : bf_C X RX8 cX8_storm 8 (some .int)) (hR : bf_Rm X 6 148) (S : bT8) (x1 : Int32) (x2 : Int32) (x3 : Int32) (x4 : Int32) (Q : Int32 → (bT8) → Prop) (h : wp_X8_storm_26 S x1 x2 x3 x4 Q) : bf_A X (bf_Zi X bW8 Q) 8 26 [some (.ref 0), some (.int x1), some (.int x2), some (.int x3), some (.int x4), none, none, none] [] (bW8 S) := by
  obtain ⟨I, ⟨n0, h0⟩, hI⟩ := h
  have key : ∀ (n : Nat) (x1 : Int32) (x2 : Int32) (x3 : Int32) (x4 : Int32) (S : bT8), I n x1 x2 x3 x4 S → bf_A X (bf_Zi X bW8 Q) 8 26 [some (.ref 0), some (.int x1), some (.int x2), some (.int x3), some (.int x4), none, none, none] [] (bW8 S) := by
    intro n
    induction n using Nat.strongRecOn with
    | _ n ih =>
      intro x1 x2 x3 x4 S hi
      exact t_X8_storm_26b C hR S x1 x2 x3 x4 Q _ (fun x1 x2 x3 x4 S hb => by obtain ⟨n2, hn, hi2⟩ := hb; exact ih n2 hn x1 x2 x3 x4 S hi2) (hI n x1 x2 x3 x4 S hi)
  exact key n0 x1 x2 x3 x4 S h0
def wp_X8_storm (S : bT8) (a1 : Int32) (a2 : Int32) (Q : Int32 → (bT8) → Prop) : Prop := ((a1 < (1 : Int32) → (Q (-1 : Int32) S)) ∧ (¬ a1 < (1 : Int32) → (((200 : Int32) < a1 → (Q (-1 : Int32) S)) ∧ (¬ (200 : Int32) < a1 → (wp_X8_isLength (a2) (fun r9 => ((¬ r9 = 0 → (wp_X8_storm_26 S (a1) (a2) ((0 : Int32)) ((0 : Int32)) Q)) ∧ (r9 = 0 → (Q (-1 : Int32) S)))))))))
set_option maxRecDepth 20000 in
theorem t_X8_storm {X : bf_X} (C : bf_C X RX8 cX8_storm 8 (some .int)) (hR : bf_Rm X 6 148) (S : bT8) (a1 : Int32) (a2 : Int32) (Q : Int32 → (bT8) → Prop) (h : wp_X8_storm S a1 a2 Q) : bf_A X (bf_Zi X bW8 Q) 8 0 [some (.ref 0), some (.int a1), some (.int a2), none, none, none, none, none] [] (bW8 S) := by
  unfold wp_X8_storm at h
  refine bs_iload_n C (bf_dk dd_X8_storm 0 rfl) rfl ?_
  refine bs_iconst C (bf_dk dd_X8_storm 1 rfl) (1 : Int32) (by decide) ?_
  refine bs_icmp_lt C (bf_dk dd_X8_storm 2 rfl) (tgt := 19) rfl (fun c => ?_) (fun c => ?_)
  · replace h := h.1 c
    refine bs_iconst C (bf_dk dd_X8_storm 9 rfl) (-1 : Int32) (by decide) ?_
    exact bs_iret (u := S) C (bf_dk dd_X8_storm 10 rfl) rfl h
  · replace h := h.2 c
    refine bs_iload_n C (bf_dk dd_X8_storm 3 rfl) rfl ?_
    refine bs_sipush C (bf_dk dd_X8_storm 4 rfl) (200 : Int32) (by decide) ?_
    refine bs_icmp_gt C (bf_dk dd_X8_storm 5 rfl) (tgt := 19) rfl (fun c => ?_) (fun c => ?_)
    · replace h := h.1 c
      refine bs_iconst C (bf_dk dd_X8_storm 9 rfl) (-1 : Int32) (by decide) ?_
      exact bs_iret (u := S) C (bf_dk dd_X8_storm 10 rfl) rfl h
    · replace h := h.2 c
      refine bs_iload_n C (bf_dk dd_X8_storm 6 rfl) rfl ?_
      refine bs_pureS_i (ps := []) (w := (bW8 S)) C hR (c_X8_isLength _ _ _ _ _ (a2) _ h) my_X8_isLength m_8_128 rfl (Nat.le_of_ble_eq_true rfl) (Nat.le_of_ble_eq_true rfl) rfl rfl (st := []) (Nat.le_of_ble_eq_true rfl) (bf_dk dd_X8_storm 7 rfl) rfl (fun _ => rfl) (fun r9 h => ?_)
      refine bs_if_ne C (bf_dk dd_X8_storm 8 rfl) (tgt := 21) rfl (fun c => ?_) (fun c => ?_)
      · replace h := h.1 c
        refine bs_iconst C (bf_dk dd_X8_storm 11 rfl) (0 : Int32) (by decide) ?_
        refine bs_istore_n C (bf_dk dd_X8_storm 12 rfl) rfl (Nat.le_of_ble_eq_true rfl) (Nat.le_of_ble_eq_true rfl) (lv2 := [some (.ref 0), some (.int a1), some (.int a2), some (.int (0 : Int32)), none, none, none, none]) rfl ?_
        refine bs_iconst C (bf_dk dd_X8_storm 13 rfl) (0 : Int32) (by decide) ?_
        refine bs_istore C (bf_dk dd_X8_storm 14 rfl) (Nat.le_of_ble_eq_true rfl) (Nat.le_of_ble_eq_true rfl) (lv2 := [some (.ref 0), some (.int a1), some (.int a2), some (.int (0 : Int32)), some (.int (0 : Int32)), none, none, none]) rfl ?_
        exact bs_weak (bf_s1 (bf_s1 (bf_s1 (bf_s1 (bf_s1 (bf_sn (bf_sn (bf_sn bf_s0)))))))) (t_X8_storm_26 C hR S (a1) (a2) ((0 : Int32)) ((0 : Int32)) Q h)
      · replace h := h.2 c
        refine bs_iconst C (bf_dk dd_X8_storm 9 rfl) (-1 : Int32) (by decide) ?_
        exact bs_iret (u := S) C (bf_dk dd_X8_storm 10 rfl) rfl h
theorem c_X8_storm (l : Launch) (dC : Nat → ClassId) (dI : Nat → Nat → Nat) (ac : Nat → ClassId) (al : Nat → Nat) (S : bT8) (a1 : Int32) (a2 : Int32) (Q : Int32 → (bT8) → Prop) (h : wp_X8_storm S a1 a2 Q) : bf_M l yX8_storm cX8_storm 8 (some .int) 6 148 dC dI ac al [.ref 0, .int a1, .int a2] (bW8 S) (bf_Ki dC dI ac al bW8 Q) := by
  refine bf_start [some (.ref 0), some (.int a1), some (.int a2), none, none, none, none, none] (by decide) (Nat.le_of_ble_eq_true rfl) (bf_s1 (bf_s1 (bf_s1 (bf_en 5)))) ?_
  intro X hl C hR e1 e2 e3 e4
  subst e1; subst e2; subst e3; subst e4
  exact t_X8_storm C hR S a1 a2 Q h
def wp_X8_stormRange_127 (S : bT8) (x1 : Int32) (x2 : Int32) (x3 : Int32) (x4 : Int32) (x5 : Int32) (Q : Int32 → (bT8) → Prop) (B38 : Int32 → Int32 → Int32 → Int32 → Int32 → (bT8) → Prop) : Prop := (B38 (x1) (x2) (x3) (x4) ((x5 + (1 : Int32))) S)
set_option maxRecDepth 20000 in
theorem t_X8_stormRange_127 {X : bf_X} (C : bf_C X RX8 cX8_stormRange 12 (some .int)) (hR : bf_Rm X 5 129) (S : bT8) (x1 : Int32) (x2 : Int32) (x3 : Int32) (x4 : Int32) (x5 : Int32) (Q : Int32 → (bT8) → Prop) (B38 : Int32 → Int32 → Int32 → Int32 → Int32 → (bT8) → Prop) (hB38 : ∀ (x1 : Int32) (x2 : Int32) (x3 : Int32) (x4 : Int32) (x5 : Int32) (S : bT8), B38 x1 x2 x3 x4 x5 S → bf_A X (bf_Zi X bW8 Q) 12 38 [some (.ref 0), some (.int x1), some (.int x2), some (.int x3), some (.int x4), some (.int x5), none, none, none, none, none, none] [] (bW8 S)) (h : wp_X8_stormRange_127 S x1 x2 x3 x4 x5 Q B38) : bf_A X (bf_Zi X bW8 Q) 12 127 [some (.ref 0), some (.int x1), some (.int x2), some (.int x3), some (.int x4), some (.int x5), none, none, none, none, none, none] [] (bW8 S) := by
  unfold wp_X8_stormRange_127 at h
  refine bs_iinc C (bf_dk dd_X8_stormRange 67 rfl) (x5 + (1 : Int32)) rfl rfl (Nat.le_of_ble_eq_true rfl) (Nat.le_of_ble_eq_true rfl) (lv2 := [some (.ref 0), some (.int x1), some (.int x2), some (.int x3), some (.int x4), some (.int (x5 + (1 : Int32))), none, none, none, none, none, none]) rfl ?_
  refine bs_goto C (bf_dk dd_X8_stormRange 68 rfl) (tgt := 38) rfl ?_
  exact bs_weak (bf_s1 (bf_s1 (bf_s1 (bf_s1 (bf_s1 (bf_s1 (bf_sn (bf_sn (bf_sn (bf_sn (bf_sn (bf_sn bf_s0)))))))))))) (hB38 (x1) (x2) (x3) (x4) ((x5 + (1 : Int32))) S h)
def wp_X8_stormRange_38b (S : bT8) (x1 : Int32) (x2 : Int32) (x3 : Int32) (x4 : Int32) (x5 : Int32) (Q : Int32 → (bT8) → Prop) (B38 : Int32 → Int32 → Int32 → Int32 → Int32 → (bT8) → Prop) : Prop := ((x1 ≤ x5 → (Q x4 S)) ∧ (¬ x1 ≤ x5 → (wp_X2_draw (b8g_now S) (x2) (fun r1 u2 => (∀ S3 : bT8, S3 = (b8s_now S u2) → (wp_X2_drawBytes (b8g_now S3) ((r1 + (1 : Int32))) (fun r4 u5 => (∀ S6 : bT8, S6 = (b8s_now S3 u5) → (wp_X8_octetAt (r4) (((r1 + (1 : Int32)) - (1 : Int32))) (fun r7 => (wp_X8_front (((r1 + (1 : Int32)) - (1 : Int32))) (fun r9 => (wp_X8_octetTo ((if (255 : Int32) < (r7 + x3) then (255 : Int32) else (r7 + x3))) (((r1 + (1 : Int32)) - (1 : Int32))) (fun r11 => (wp_X8_askRange S6 (r4) ((r1 + (1 : Int32))) (((r4 &&& r9) ||| r11)) ((r1 + (1 : Int32))) (fun r13 u14 => ((¬ r13 = (2 : Int32) → (wp_X8_stormRange_127 u14 (x1) (x2) (x3) (x4) (x5) Q B38)) ∧ (r13 = (2 : Int32) → (wp_X8_stormRange_127 u14 (x1) (x2) (x3) ((x4 + (1 : Int32))) (x5) Q B38)))))))))))))))))))
set_option maxRecDepth 20000 in
theorem t_X8_stormRange_38b {X : bf_X} (C : bf_C X RX8 cX8_stormRange 12 (some .int)) (hR : bf_Rm X 5 129) (S : bT8) (x1 : Int32) (x2 : Int32) (x3 : Int32) (x4 : Int32) (x5 : Int32) (Q : Int32 → (bT8) → Prop) (B38 : Int32 → Int32 → Int32 → Int32 → Int32 → (bT8) → Prop) (hB38 : ∀ (x1 : Int32) (x2 : Int32) (x3 : Int32) (x4 : Int32) (x5 : Int32) (S : bT8), B38 x1 x2 x3 x4 x5 S → bf_A X (bf_Zi X bW8 Q) 12 38 [some (.ref 0), some (.int x1), some (.int x2), some (.int x3), some (.int x4), some (.int x5), none, none, none, none, none, none] [] (bW8 S)) (h : wp_X8_stormRange_38b S x1 x2 x3 x4 x5 Q B38) : bf_A X (bf_Zi X bW8 Q) 12 38 [some (.ref 0), some (.int x1), some (.int x2), some (.int x3), some (.int x4), some (.int x5), none, none, none, none, none, none] [] (bW8 S) := by
  unfold wp_X8_stormRange_38b at h
  refine bs_iload C (bf_dk dd_X8_stormRange 20 rfl) rfl ?_
  refine bs_iload_n C (bf_dk dd_X8_stormRange 21 rfl) rfl ?_
  refine bs_icmp_ge C (bf_dk dd_X8_stormRange 22 rfl) (tgt := 133) rfl (fun c => ?_) (fun c => ?_)
  · replace h := h.1 c
    refine bs_iload C (bf_dk dd_X8_stormRange 69 rfl) rfl ?_
    exact bs_iret (u := S) C (bf_dk dd_X8_stormRange 70 rfl) rfl h
  · replace h := h.2 c
    refine bs_aload_n C (bf_dk dd_X8_stormRange 23 rfl) rfl ?_
    refine bs_get C (bf_dk dd_X8_stormRange 24 rfl) cl_8 in_8 0 (Nat.le_of_ble_eq_true rfl) rfl f_8_12 (ge_bW8_0 S) rfl ?_
    refine bs_iload_n C (bf_dk dd_X8_stormRange 25 rfl) rfl ?_
    refine bs_callV_i (ps := [1, 2, 3, 4, 5, 6, 7, 8, 9, 10, 11, 12, 13, 14, 15]) (w := (bW8 S)) C hR (c_X2_draw _ _ _ _ _ (b8g_now S) (x2) _ h) my_X2_draw m_8_146 rfl cl_2 (ge_bW2_0 _) rfl (Nat.le_of_ble_eq_true rfl) (Nat.le_of_ble_eq_true rfl) (su_bW8_1_bW2 S) bnd_1t15 (st := []) (Nat.le_of_ble_eq_true rfl) (bf_dk dd_X8_stormRange 26 rfl) rfl (fun _ => rfl) (w2 := fun u2 => bW8 (b8s_now S u2)) (pt_bW8_1_bW2 S) (fun r1 u2 h => ?_)
    refine bs_nameS bW8 (fun S3 eS3 => ?_)
    replace h := h S3 eS3
    refine bs_iconst C (bf_dk dd_X8_stormRange 27 rfl) (1 : Int32) (by decide) ?_
    refine bs_iadd C (bf_dk dd_X8_stormRange 28 rfl) ?_
    refine bs_istore C (bf_dk dd_X8_stormRange 29 rfl) (Nat.le_of_ble_eq_true rfl) (Nat.le_of_ble_eq_true rfl) (lv2 := [some (.ref 0), some (.int x1), some (.int x2), some (.int x3), some (.int x4), some (.int x5), some (.int (r1 + (1 : Int32))), none, none, none, none, none]) rfl ?_
    refine bs_aload_n C (bf_dk dd_X8_stormRange 30 rfl) rfl ?_
    refine bs_get C (bf_dk dd_X8_stormRange 31 rfl) cl_8 in_8 0 (Nat.le_of_ble_eq_true rfl) rfl f_8_12 (ge_bW8_0 S3) rfl ?_
    refine bs_iload C (bf_dk dd_X8_stormRange 32 rfl) rfl ?_
    refine bs_callV_l (ps := [1, 2, 3, 4, 5, 6, 7, 8, 9, 10, 11, 12, 13, 14, 15]) (w := (bW8 S3)) C hR (c_X2_drawBytes _ _ _ _ _ (b8g_now S3) ((r1 + (1 : Int32))) _ h) my_X2_drawBytes m_8_150 rfl cl_2 (ge_bW2_0 _) rfl (Nat.le_of_ble_eq_true rfl) (Nat.le_of_ble_eq_true rfl) (su_bW8_1_bW2 S3) bnd_1t15 (st := []) (Nat.le_of_ble_eq_true rfl) (bf_dk dd_X8_stormRange 33 rfl) rfl (fun _ => rfl) (w2 := fun u5 => bW8 (b8s_now S3 u5)) (pt_bW8_1_bW2 S3) (fun r4 u5 h => ?_)
    refine bs_nameS bW8 (fun S6 eS6 => ?_)
    replace h := h S6 eS6
    refine bs_lstore C (bf_dk dd_X8_stormRange 34 rfl) (Nat.le_of_ble_eq_true rfl) (Nat.le_of_ble_eq_true rfl) (lv2 := [some (.ref 0), some (.int x1), some (.int x2), some (.int x3), some (.int x4), some (.int x5), some (.int (r1 + (1 : Int32))), some (.long r4), none, none, none, none]) rfl ?_
    refine bs_lload C (bf_dk dd_X8_stormRange 35 rfl) rfl ?_
    refine bs_iload C (bf_dk dd_X8_stormRange 36 rfl) rfl ?_
    refine bs_iconst C (bf_dk dd_X8_stormRange 37 rfl) (1 : Int32) (by decide) ?_
    refine bs_isub C (bf_dk dd_X8_stormRange 38 rfl) ?_
    refine bs_pureS_i (ps := []) (w := (bW8 S6)) C hR (c_X8_octetAt _ _ _ _ _ (r4) (((r1 + (1 : Int32)) - (1 : Int32))) _ h) my_X8_octetAt m_8_222 rfl (Nat.le_of_ble_eq_true rfl) (Nat.le_of_ble_eq_true rfl) rfl rfl (st := []) (Nat.le_of_ble_eq_true rfl) (bf_dk dd_X8_stormRange 39 rfl) rfl (fun _ => rfl) (fun r7 h => ?_)
    refine bs_istore C (bf_dk dd_X8_stormRange 40 rfl) (Nat.le_of_ble_eq_true rfl) (Nat.le_of_ble_eq_true rfl) (lv2 := [some (.ref 0), some (.int x1), some (.int x2), some (.int x3), some (.int x4), some (.int x5), some (.int (r1 + (1 : Int32))), some (.long r4), none, some (.int r7), none, none]) rfl ?_
    refine bs_lload C (bf_dk dd_X8_stormRange 41 rfl) rfl ?_
    refine bs_iload C (bf_dk dd_X8_stormRange 42 rfl) rfl ?_
    refine bs_iconst C (bf_dk dd_X8_stormRange 43 rfl) (1 : Int32) (by decide) ?_
    refine bs_isub C (bf_dk dd_X8_stormRange 44 rfl) ?_
    refine bs_pureS_l (ps := []) (w := (bW8 S6)) C hR (c_X8_front _ _ _ _ _ (((r1 + (1 : Int32)) - (1 : Int32))) _ h) my_X8_front m_8_353 rfl (Nat.le_of_ble_eq_true rfl) (Nat.le_of_ble_eq_true rfl) rfl rfl (st := [.long r4]) (Nat.le_of_ble_eq_true rfl) (bf_dk dd_X8_stormRange 45 rfl) rfl (fun _ => rfl) (fun r9 h => ?_)
    refine bs_land C (bf_dk dd_X8_stormRange 46 rfl) ?_
    refine bs_iload C (bf_dk dd_X8_stormRange 47 rfl) rfl ?_
    refine bs_iload_n C (bf_dk dd_X8_stormRange 48 rfl) rfl ?_
    refine bs_iadd C (bf_dk dd_X8_stormRange 49 rfl) ?_
    refine bs_sipush C (bf_dk dd_X8_stormRange 50 rfl) (255 : Int32) (by decide) ?_
    refine bs_mmin C hR m_8_356 ma_min.1 ma_min.2.1 ma_min.2.2 (Nat.le_of_ble_eq_true rfl) (Nat.le_of_ble_eq_true rfl) (bf_dk dd_X8_stormRange 51 rfl) ?_
    refine bs_iload C (bf_dk dd_X8_stormRange 52 rfl) rfl ?_
    refine bs_iconst C (bf_dk dd_X8_stormRange 53 rfl) (1 : Int32) (by decide) ?_
    refine bs_isub C (bf_dk dd_X8_stormRange 54 rfl) ?_
    refine bs_pureS_l (ps := []) (w := (bW8 S6)) C hR (c_X8_octetTo _ _ _ _ _ ((if (255 : Int32) < (r7 + x3) then (255 : Int32) else (r7 + x3))) (((r1 + (1 : Int32)) - (1 : Int32))) _ h) my_X8_octetTo m_8_326 rfl (Nat.le_of_ble_eq_true rfl) (Nat.le_of_ble_eq_true rfl) rfl rfl (st := [.long (r4 &&& r9)]) (Nat.le_of_ble_eq_true rfl) (bf_dk dd_X8_stormRange 55 rfl) rfl (fun _ => rfl) (fun r11 h => ?_)
    refine bs_lor C (bf_dk dd_X8_stormRange 56 rfl) ?_
    refine bs_lstore C (bf_dk dd_X8_stormRange 57 rfl) (Nat.le_of_ble_eq_true rfl) (Nat.le_of_ble_eq_true rfl) (lv2 := [some (.ref 0), some (.int x1), some (.int x2), some (.int x3), some (.int x4), some (.int x5), some (.int (r1 + (1 : Int32))), some (.long r4), none, some (.int r7), some (.long ((r4 &&& r9) ||| r11)), none]) rfl ?_
    refine bs_aload_n C (bf_dk dd_X8_stormRange 58 rfl) rfl ?_
    refine bs_lload C (bf_dk dd_X8_stormRange 59 rfl) rfl ?_
    refine bs_iload C (bf_dk dd_X8_stormRange 60 rfl) rfl ?_
    refine bs_lload C (bf_dk dd_X8_stormRange 61 rfl) rfl ?_
    refine bs_iload C (bf_dk dd_X8_stormRange 62 rfl) rfl ?_
    refine bs_selfV_i C hR (c_X8_askRange _ _ _ _ _ S6 (r4) ((r1 + (1 : Int32))) (((r4 &&& r9) ||| r11)) ((r1 + (1 : Int32))) _ h) my_X8_askRange m_8_176 rfl cl_8 (ge_bW8_0 _) rfl (Nat.le_of_ble_eq_true rfl) (Nat.le_of_ble_eq_true rfl) (st := []) (Nat.le_of_ble_eq_true rfl) (bf_dk dd_X8_stormRange 63 rfl) rfl (len := 68) (fun _ => rfl) (fun r13 u14 h => ?_)
    refine bs_iconst C (bf_dk dd_X8_stormRange 64 rfl) (2 : Int32) (by decide) ?_
    refine bs_icmp_ne C (bf_dk dd_X8_stormRange 65 rfl) (tgt := 127) rfl (fun c => ?_) (fun c => ?_)
    · replace h := h.1 c
      exact bs_weak (bf_s1 (bf_s1 (bf_s1 (bf_s1 (bf_s1 (bf_s1 (bf_sn (bf_sn (bf_sn (bf_sn (bf_sn (bf_sn bf_s0)))))))))))) (t_X8_stormRange_127 C hR u14 (x1) (x2) (x3) (x4) (x5) Q B38 hB38 h)
    · replace h := h.2 c
      refine bs_iinc C (bf_dk dd_X8_stormRange 66 rfl) (x4 + (1 : Int32)) rfl rfl (Nat.le_of_ble_eq_true rfl) (Nat.le_of_ble_eq_true rfl) (lv2 := [some (.ref 0), some (.int x1), some (.int x2), some (.int x3), some (.int (x4 + (1 : Int32))), some (.int x5), some (.int (r1 + (1 : Int32))), some (.long r4), none, some (.int r7), some (.long ((r4 &&& r9) ||| r11)), none]) rfl ?_
      exact bs_weak (bf_s1 (bf_s1 (bf_s1 (bf_s1 (bf_s1 (bf_s1 (bf_sn (bf_sn (bf_sn (bf_sn (bf_sn (bf_sn bf_s0)))))))))))) (t_X8_stormRange_127 C hR u14 (x1) (x2) (x3) ((x4 + (1 : Int32))) (x5) Q B38 hB38 h)
def wp_X8_stormRange_38 (S : bT8) (x1 : Int32) (x2 : Int32) (x3 : Int32) (x4 : Int32) (x5 : Int32) (Q : Int32 → (bT8) → Prop) : Prop := ∃ I : Nat → Int32 → Int32 → Int32 → Int32 → Int32 → (bT8) → Prop, (∃ n : Nat, I n x1 x2 x3 x4 x5 S) ∧ ∀ (n : Nat) (x1 : Int32) (x2 : Int32) (x3 : Int32) (x4 : Int32) (x5 : Int32) (S : bT8), I n x1 x2 x3 x4 x5 S → wp_X8_stormRange_38b S x1 x2 x3 x4 x5 Q (fun x1 x2 x3 x4 x5 S => ∃ n2 : Nat, n2 < n ∧ I n2 x1 x2 x3 x4 x5 S)
theorem t_X8_stormRange_38 {X : bf_X} (C : bf_C X RX8 cX8_stormRange 12 (some .int)) (hR : bf_Rm X 5 129) (S : bT8) (x1 : Int32) (x2 : Int32) (x3 : Int32) (x4 : Int32) (x5 : Int32) (Q : Int32 → (bT8) → Prop) (h : wp_X8_stormRange_38 S x1 x2 x3 x4 x5 Q) : bf_A X (bf_Zi X bW8 Q) 12 38 [some (.ref 0), some (.int x1), some (.int x2), some (.int x3), some (.int x4), some (.int x5), none, none, none, none, none, none] [] (bW8 S) := by
  obtain ⟨I, ⟨n0, h0⟩, hI⟩ := h
  have key : ∀ (n : Nat) (x1 : Int32) (x2 : Int32) (x3 : Int32) (x4 : Int32) (x5 : Int32) (S : bT8), I n x1 x2 x3 x4 x5 S → bf_A X (bf_Zi X bW8 Q) 12 38 [some (.ref 0), some (.int x1), some (.int x2), some (.int x3), some (.int x4), some (.int x5), none, none, none, none, none, none] [] (bW8 S) := by
    intro n
    induction n using Nat.strongRecOn with
    | _ n ih =>
      intro x1 x2 x3 x4 x5 S hi
      exact t_X8_stormRange_38b C hR S x1 x2 x3 x4 x5 Q _ (fun x1 x2 x3 x4 x5 S hb => by obtain ⟨n2, hn, hi2⟩ := hb; exact ih n2 hn x1 x2 x3 x4 x5 S hi2) (hI n x1 x2 x3 x4 x5 S hi)
  exact key n0 x1 x2 x3 x4 x5 S h0
def wp_X8_stormRange (S : bT8) (a1 : Int32) (a2 : Int32) (a3 : Int32) (Q : Int32 → (bT8) → Prop) : Prop := ((a1 < (1 : Int32) → (Q (-1 : Int32) S)) ∧ (¬ a1 < (1 : Int32) → (((200 : Int32) < a1 → (Q (-1 : Int32) S)) ∧ (¬ (200 : Int32) < a1 → (wp_X8_isLength (a2) (fun r15 => ((r15 = 0 → (Q (-1 : Int32) S)) ∧ (¬ r15 = 0 → ((a3 < 0 → (Q (-1 : Int32) S)) ∧ (¬ a3 < 0 → ((a3 < (256 : Int32) → (wp_X8_stormRange_38 S (a1) (a2) (a3) ((0 : Int32)) ((0 : Int32)) Q)) ∧ (¬ a3 < (256 : Int32) → (Q (-1 : Int32) S)))))))))))))
set_option maxRecDepth 20000 in
theorem t_X8_stormRange {X : bf_X} (C : bf_C X RX8 cX8_stormRange 12 (some .int)) (hR : bf_Rm X 5 129) (S : bT8) (a1 : Int32) (a2 : Int32) (a3 : Int32) (Q : Int32 → (bT8) → Prop) (h : wp_X8_stormRange S a1 a2 a3 Q) : bf_A X (bf_Zi X bW8 Q) 12 0 [some (.ref 0), some (.int a1), some (.int a2), some (.int a3), none, none, none, none, none, none, none, none] [] (bW8 S) := by
  unfold wp_X8_stormRange at h
  refine bs_iload_n C (bf_dk dd_X8_stormRange 0 rfl) rfl ?_
  refine bs_iconst C (bf_dk dd_X8_stormRange 1 rfl) (1 : Int32) (by decide) ?_
  refine bs_icmp_lt C (bf_dk dd_X8_stormRange 2 rfl) (tgt := 30) rfl (fun c => ?_) (fun c => ?_)
  · replace h := h.1 c
    refine bs_iconst C (bf_dk dd_X8_stormRange 14 rfl) (-1 : Int32) (by decide) ?_
    exact bs_iret (u := S) C (bf_dk dd_X8_stormRange 15 rfl) rfl h
  · replace h := h.2 c
    refine bs_iload_n C (bf_dk dd_X8_stormRange 3 rfl) rfl ?_
    refine bs_sipush C (bf_dk dd_X8_stormRange 4 rfl) (200 : Int32) (by decide) ?_
    refine bs_icmp_gt C (bf_dk dd_X8_stormRange 5 rfl) (tgt := 30) rfl (fun c => ?_) (fun c => ?_)
    · replace h := h.1 c
      refine bs_iconst C (bf_dk dd_X8_stormRange 14 rfl) (-1 : Int32) (by decide) ?_
      exact bs_iret (u := S) C (bf_dk dd_X8_stormRange 15 rfl) rfl h
    · replace h := h.2 c
      refine bs_iload_n C (bf_dk dd_X8_stormRange 6 rfl) rfl ?_
      refine bs_pureS_i (ps := []) (w := (bW8 S)) C hR (c_X8_isLength _ _ _ _ _ (a2) _ h) my_X8_isLength m_8_128 rfl (Nat.le_of_ble_eq_true rfl) (Nat.le_of_ble_eq_true rfl) rfl rfl (st := []) (Nat.le_of_ble_eq_true rfl) (bf_dk dd_X8_stormRange 7 rfl) rfl (fun _ => rfl) (fun r15 h => ?_)
      refine bs_if_eq C (bf_dk dd_X8_stormRange 8 rfl) (tgt := 30) rfl (fun c => ?_) (fun c => ?_)
      · replace h := h.1 c
        refine bs_iconst C (bf_dk dd_X8_stormRange 14 rfl) (-1 : Int32) (by decide) ?_
        exact bs_iret (u := S) C (bf_dk dd_X8_stormRange 15 rfl) rfl h
      · replace h := h.2 c
        refine bs_iload_n C (bf_dk dd_X8_stormRange 9 rfl) rfl ?_
        refine bs_if_lt C (bf_dk dd_X8_stormRange 10 rfl) (tgt := 30) rfl (fun c => ?_) (fun c => ?_)
        · replace h := h.1 c
          refine bs_iconst C (bf_dk dd_X8_stormRange 14 rfl) (-1 : Int32) (by decide) ?_
          exact bs_iret (u := S) C (bf_dk dd_X8_stormRange 15 rfl) rfl h
        · replace h := h.2 c
          refine bs_iload_n C (bf_dk dd_X8_stormRange 11 rfl) rfl ?_
          refine bs_sipush C (bf_dk dd_X8_stormRange 12 rfl) (256 : Int32) (by decide) ?_
          refine bs_icmp_lt C (bf_dk dd_X8_stormRange 13 rfl) (tgt := 32) rfl (fun c => ?_) (fun c => ?_)
          · replace h := h.1 c
            refine bs_iconst C (bf_dk dd_X8_stormRange 16 rfl) (0 : Int32) (by decide) ?_
            refine bs_istore C (bf_dk dd_X8_stormRange 17 rfl) (Nat.le_of_ble_eq_true rfl) (Nat.le_of_ble_eq_true rfl) (lv2 := [some (.ref 0), some (.int a1), some (.int a2), some (.int a3), some (.int (0 : Int32)), none, none, none, none, none, none, none]) rfl ?_
            refine bs_iconst C (bf_dk dd_X8_stormRange 18 rfl) (0 : Int32) (by decide) ?_
            refine bs_istore C (bf_dk dd_X8_stormRange 19 rfl) (Nat.le_of_ble_eq_true rfl) (Nat.le_of_ble_eq_true rfl) (lv2 := [some (.ref 0), some (.int a1), some (.int a2), some (.int a3), some (.int (0 : Int32)), some (.int (0 : Int32)), none, none, none, none, none, none]) rfl ?_
            exact bs_weak (bf_s1 (bf_s1 (bf_s1 (bf_s1 (bf_s1 (bf_s1 (bf_sn (bf_sn (bf_sn (bf_sn (bf_sn (bf_sn bf_s0)))))))))))) (t_X8_stormRange_38 C hR S (a1) (a2) (a3) ((0 : Int32)) ((0 : Int32)) Q h)
          · replace h := h.2 c
            refine bs_iconst C (bf_dk dd_X8_stormRange 14 rfl) (-1 : Int32) (by decide) ?_
            exact bs_iret (u := S) C (bf_dk dd_X8_stormRange 15 rfl) rfl h
theorem c_X8_stormRange (l : Launch) (dC : Nat → ClassId) (dI : Nat → Nat → Nat) (ac : Nat → ClassId) (al : Nat → Nat) (S : bT8) (a1 : Int32) (a2 : Int32) (a3 : Int32) (Q : Int32 → (bT8) → Prop) (h : wp_X8_stormRange S a1 a2 a3 Q) : bf_M l yX8_stormRange cX8_stormRange 12 (some .int) 5 129 dC dI ac al [.ref 0, .int a1, .int a2, .int a3] (bW8 S) (bf_Ki dC dI ac al bW8 Q) := by
  refine bf_start [some (.ref 0), some (.int a1), some (.int a2), some (.int a3), none, none, none, none, none, none, none, none] (by decide) (Nat.le_of_ble_eq_true rfl) (bf_s1 (bf_s1 (bf_s1 (bf_s1 (bf_en 8))))) ?_
  intro X hl C hR e1 e2 e3 e4
  subst e1; subst e2; subst e3; subst e4
  exact t_X8_stormRange C hR S a1 a2 a3 Q h
def wp_X8_account (S : bT8) (a1 : Int32) (Q : Int32 → Prop) : Prop := ((a1 < 0 → (Q (-1 : Int32))) ∧ (¬ a1 < 0 → (((6 : Int32) ≤ a1 → (Q (-1 : Int32))) ∧ (¬ (6 : Int32) ≤ a1 → (wp_X8_at 6 (b2g_answers (b8g_now S)) (a1) (fun r1 => (Q r1)))))))
set_option maxRecDepth 20000 in
theorem t_X8_account {X : bf_X} (C : bf_C X RX8 cX8_account 2 (some .int)) (hR : bf_Rm X 1 21) (S : bT8) (a1 : Int32) (Q : Int32 → Prop) (h : wp_X8_account S a1 Q) : bf_A X (bf_Zi X bW8 (fun r u => u = S ∧ Q r)) 2 0 [some (.ref 0), some (.int a1)] [] (bW8 S) := by
  unfold wp_X8_account at h
  refine bs_iload_n C (bf_dk dd_X8_account 0 rfl) rfl ?_
  refine bs_if_lt C (bf_dk dd_X8_account 1 rfl) (tgt := 24) rfl (fun c => ?_) (fun c => ?_)
  · replace h := h.1 c
    refine bs_iconst C (bf_dk dd_X8_account 11 rfl) (-1 : Int32) (by decide) ?_
    exact bs_iret (u := S) C (bf_dk dd_X8_account 12 rfl) rfl ⟨rfl, h⟩
  · replace h := h.2 c
    refine bs_iload_n C (bf_dk dd_X8_account 2 rfl) rfl ?_
    refine bs_bipush C (bf_dk dd_X8_account 3 rfl) (6 : Int32) (by decide) ?_
    refine bs_icmp_ge C (bf_dk dd_X8_account 4 rfl) (tgt := 24) rfl (fun c => ?_) (fun c => ?_)
    · replace h := h.1 c
      refine bs_iconst C (bf_dk dd_X8_account 11 rfl) (-1 : Int32) (by decide) ?_
      exact bs_iret (u := S) C (bf_dk dd_X8_account 12 rfl) rfl ⟨rfl, h⟩
    · replace h := h.2 c
      refine bs_aload_n C (bf_dk dd_X8_account 5 rfl) rfl ?_
      refine bs_get C (bf_dk dd_X8_account 6 rfl) cl_8 in_8 0 (Nat.le_of_ble_eq_true rfl) rfl f_8_12 (ge_bW8_0 S) rfl ?_
      refine bs_get C (bf_dk dd_X8_account 7 rfl) cl_2 in_2 3 (Nat.le_of_ble_eq_true rfl) rfl f_8_361 (ge_bW8_1 S) rfl ?_
      refine bs_iload_n C (bf_dk dd_X8_account 8 rfl) rfl ?_
      refine bs_pureS_i (ps := [15]) (w := (bW8 S)) C hR (c_X8_at _ _ _ _ _ 6 (b2g_answers (b8g_now S)) (a1) _ h) my_X8_at m_8_115 rfl (Nat.le_of_ble_eq_true rfl) (Nat.le_of_ble_eq_true rfl) (su_bW8_15_bWan6 S) rfl (st := []) (Nat.le_of_ble_eq_true rfl) (bf_dk dd_X8_account 9 rfl) rfl (fun _ => rfl) (fun r1 h => ?_)
      refine bs_goto C (bf_dk dd_X8_account 10 rfl) (tgt := 25) rfl ?_
      exact bs_iret (u := S) C (bf_dk dd_X8_account 12 rfl) rfl ⟨rfl, h⟩
theorem c_X8_account (l : Launch) (dC : Nat → ClassId) (dI : Nat → Nat → Nat) (ac : Nat → ClassId) (al : Nat → Nat) (S : bT8) (a1 : Int32) (Q : Int32 → Prop) (h : wp_X8_account S a1 Q) : bf_M l yX8_account cX8_account 2 (some .int) 1 21 dC dI ac al [.ref 0, .int a1] (bW8 S) (bf_Ki dC dI ac al bW8 (fun r u => u = S ∧ Q r)) := by
  refine bf_start [some (.ref 0), some (.int a1)] (by decide) (Nat.le_of_ble_eq_true rfl) (bf_s1 (bf_s1 bf_s0)) ?_
  intro X hl C hR e1 e2 e3 e4
  subst e1; subst e2; subst e3; subst e4
  exact t_X8_account C hR S a1 Q h
def wp_X8_newOnesThatMayBe_47 (S : bT8) (x2 : Int32) (x3 : Int32) (Q : Int32 → Prop) (B15 : Int32 → Int32 → Prop) : Prop := (B15 (x2) ((x3 + (1 : Int32))))
set_option maxRecDepth 20000 in
theorem t_X8_newOnesThatMayBe_47 {X : bf_X} (C : bf_C X RX8 cX8_newOnesThatMayBe 4 (some .int)) (hR : bf_Rm X 5 124) (S : bT8) (x2 : Int32) (x3 : Int32) (Q : Int32 → Prop) (B15 : Int32 → Int32 → Prop) (hB15 : ∀ (x2 : Int32) (x3 : Int32), B15 x2 x3 → bf_A X (bf_Zi X bW8 (fun r u => u = S ∧ Q r)) 4 15 [some (.ref 0), some (.ref 3), some (.int x2), some (.int x3)] [] (bW8 S)) (h : wp_X8_newOnesThatMayBe_47 S x2 x3 Q B15) : bf_A X (bf_Zi X bW8 (fun r u => u = S ∧ Q r)) 4 47 [some (.ref 0), some (.ref 3), some (.int x2), some (.int x3)] [] (bW8 S) := by
  unfold wp_X8_newOnesThatMayBe_47 at h
  refine bs_iinc C (bf_dk dd_X8_newOnesThatMayBe 25 rfl) (x3 + (1 : Int32)) rfl rfl (Nat.le_of_ble_eq_true rfl) (Nat.le_of_ble_eq_true rfl) (lv2 := [some (.ref 0), some (.ref 3), some (.int x2), some (.int (x3 + (1 : Int32)))]) rfl ?_
  refine bs_goto C (bf_dk dd_X8_newOnesThatMayBe 26 rfl) (tgt := 15) rfl ?_
  exact bs_weak (bf_s1 (bf_s1 (bf_s1 (bf_s1 bf_s0)))) (hB15 (x2) ((x3 + (1 : Int32))) h)
def wp_X8_newOnesThatMayBe_15b (S : bT8) (x2 : Int32) (x3 : Int32) (Q : Int32 → Prop) (B15 : Int32 → Int32 → Prop) : Prop := (((b0g_count (b3g_members (b2g_told (b8g_now S)))) ≤ x3 → (Q x2)) ∧ (¬ (b0g_count (b3g_members (b2g_told (b8g_now S)))) ≤ x3 → (wp_X0_bytesAt (b3g_members (b2g_told (b8g_now S))) (x3) (fun r1 => (wp_X0_lengthAt (b3g_members (b2g_told (b8g_now S))) (x3) (fun r3 => (wp_X1_verdictOf (b8g_leaves S) (r1) (r3) (fun r5 => ((¬ r5 = (2 : Int32) → (wp_X8_newOnesThatMayBe_47 S (x2) (x3) Q B15)) ∧ (r5 = (2 : Int32) → (wp_X8_newOnesThatMayBe_47 S ((x2 + (1 : Int32))) (x3) Q B15)))))))))))
set_option maxRecDepth 20000 in
theorem t_X8_newOnesThatMayBe_15b {X : bf_X} (C : bf_C X RX8 cX8_newOnesThatMayBe 4 (some .int)) (hR : bf_Rm X 5 124) (S : bT8) (x2 : Int32) (x3 : Int32) (Q : Int32 → Prop) (B15 : Int32 → Int32 → Prop) (hB15 : ∀ (x2 : Int32) (x3 : Int32), B15 x2 x3 → bf_A X (bf_Zi X bW8 (fun r u => u = S ∧ Q r)) 4 15 [some (.ref 0), some (.ref 3), some (.int x2), some (.int x3)] [] (bW8 S)) (h : wp_X8_newOnesThatMayBe_15b S x2 x3 Q B15) : bf_A X (bf_Zi X bW8 (fun r u => u = S ∧ Q r)) 4 15 [some (.ref 0), some (.ref 3), some (.int x2), some (.int x3)] [] (bW8 S) := by
  unfold wp_X8_newOnesThatMayBe_15b at h
  refine bs_iload_n C (bf_dk dd_X8_newOnesThatMayBe 9 rfl) rfl ?_
  refine bs_aload_n C (bf_dk dd_X8_newOnesThatMayBe 10 rfl) rfl ?_
  refine bs_get C (bf_dk dd_X8_newOnesThatMayBe 11 rfl) cl_0 in_0 2 (Nat.le_of_ble_eq_true rfl) rfl f_8_110 (ge_bW8_3 S) rfl ?_
  refine bs_icmp_ge C (bf_dk dd_X8_newOnesThatMayBe 12 rfl) (tgt := 53) rfl (fun c => ?_) (fun c => ?_)
  · replace h := h.1 c
    refine bs_iload_n C (bf_dk dd_X8_newOnesThatMayBe 27 rfl) rfl ?_
    exact bs_iret (u := S) C (bf_dk dd_X8_newOnesThatMayBe 28 rfl) rfl ⟨rfl, h⟩
  · replace h := h.2 c
    refine bs_aload_n C (bf_dk dd_X8_newOnesThatMayBe 13 rfl) rfl ?_
    refine bs_get C (bf_dk dd_X8_newOnesThatMayBe 14 rfl) cl_8 in_8 3 (Nat.le_of_ble_eq_true rfl) rfl f_8_26 (ge_bW8_0 S) rfl ?_
    refine bs_aload_n C (bf_dk dd_X8_newOnesThatMayBe 15 rfl) rfl ?_
    refine bs_iload_n C (bf_dk dd_X8_newOnesThatMayBe 16 rfl) rfl ?_
    refine bs_pureV_l (ps := [3, 4, 5]) (w := (bW8 S)) C hR (c_X0_bytesAt _ _ _ _ _ (b3g_members (b2g_told (b8g_now S))) (x3) _ h) my_X0_bytesAt m_8_219 rfl cl_0 (ge_bW0_0 _) rfl (Nat.le_of_ble_eq_true rfl) (Nat.le_of_ble_eq_true rfl) (su_bW8_3_bW0 S) rfl (st := [.ref 31]) (Nat.le_of_ble_eq_true rfl) (bf_dk dd_X8_newOnesThatMayBe 17 rfl) rfl (fun _ => rfl) (fun r1 h => ?_)
    refine bs_aload_n C (bf_dk dd_X8_newOnesThatMayBe 18 rfl) rfl ?_
    refine bs_iload_n C (bf_dk dd_X8_newOnesThatMayBe 19 rfl) rfl ?_
    refine bs_pureV_i (ps := [3, 4, 5]) (w := (bW8 S)) C hR (c_X0_lengthAt _ _ _ _ _ (b3g_members (b2g_told (b8g_now S))) (x3) _ h) my_X0_lengthAt m_8_318 rfl cl_0 (ge_bW0_0 _) rfl (Nat.le_of_ble_eq_true rfl) (Nat.le_of_ble_eq_true rfl) (su_bW8_3_bW0 S) rfl (st := [.long r1, .ref 31]) (Nat.le_of_ble_eq_true rfl) (bf_dk dd_X8_newOnesThatMayBe 20 rfl) rfl (fun _ => rfl) (fun r3 h => ?_)
    refine bs_pureV_i (ps := [31, 32, 33, 34, 35, 36, 37, 38, 39, 40, 41, 42, 43, 44]) (w := (bW8 S)) C hR (c_X1_verdictOf _ _ _ _ _ (b8g_leaves S) (r1) (r3) _ h) my_X1_verdictOf m_8_330 rfl cl_1 (ge_bW1_0 _) rfl (Nat.le_of_ble_eq_true rfl) (Nat.le_of_ble_eq_true rfl) (su_bW8_31_bW1 S) bnd_31t44 (st := []) (Nat.le_of_ble_eq_true rfl) (bf_dk dd_X8_newOnesThatMayBe 21 rfl) rfl (fun _ => rfl) (fun r5 h => ?_)
    refine bs_iconst C (bf_dk dd_X8_newOnesThatMayBe 22 rfl) (2 : Int32) (by decide) ?_
    refine bs_icmp_ne C (bf_dk dd_X8_newOnesThatMayBe 23 rfl) (tgt := 47) rfl (fun c => ?_) (fun c => ?_)
    · replace h := h.1 c
      exact bs_weak (bf_s1 (bf_s1 (bf_s1 (bf_s1 bf_s0)))) (t_X8_newOnesThatMayBe_47 C hR S (x2) (x3) Q B15 hB15 h)
    · replace h := h.2 c
      refine bs_iinc C (bf_dk dd_X8_newOnesThatMayBe 24 rfl) (x2 + (1 : Int32)) rfl rfl (Nat.le_of_ble_eq_true rfl) (Nat.le_of_ble_eq_true rfl) (lv2 := [some (.ref 0), some (.ref 3), some (.int (x2 + (1 : Int32))), some (.int x3)]) rfl ?_
      exact bs_weak (bf_s1 (bf_s1 (bf_s1 (bf_s1 bf_s0)))) (t_X8_newOnesThatMayBe_47 C hR S ((x2 + (1 : Int32))) (x3) Q B15 hB15 h)
def wp_X8_newOnesThatMayBe_15 (S : bT8) (x2 : Int32) (x3 : Int32) (Q : Int32 → Prop) : Prop := ∃ I : Nat → Int32 → Int32 → Prop, (∃ n : Nat, I n x2 x3) ∧ ∀ (n : Nat) (x2 : Int32) (x3 : Int32), I n x2 x3 → wp_X8_newOnesThatMayBe_15b S x2 x3 Q (fun x2 x3 => ∃ n2 : Nat, n2 < n ∧ I n2 x2 x3)
theorem t_X8_newOnesThatMayBe_15 {X : bf_X} (C : bf_C X RX8 cX8_newOnesThatMayBe 4 (some .int)) (hR : bf_Rm X 5 124) (S : bT8) (x2 : Int32) (x3 : Int32) (Q : Int32 → Prop) (h : wp_X8_newOnesThatMayBe_15 S x2 x3 Q) : bf_A X (bf_Zi X bW8 (fun r u => u = S ∧ Q r)) 4 15 [some (.ref 0), some (.ref 3), some (.int x2), some (.int x3)] [] (bW8 S) := by
  obtain ⟨I, ⟨n0, h0⟩, hI⟩ := h
  have key : ∀ (n : Nat) (x2 : Int32) (x3 : Int32), I n x2 x3 → bf_A X (bf_Zi X bW8 (fun r u => u = S ∧ Q r)) 4 15 [some (.ref 0), some (.ref 3), some (.int x2), some (.int x3)] [] (bW8 S) := by
    intro n
    induction n using Nat.strongRecOn with
    | _ n ih =>
      intro x2 x3 hi
      exact t_X8_newOnesThatMayBe_15b C hR S x2 x3 Q _ (fun x2 x3 hb => by obtain ⟨n2, hn, hi2⟩ := hb; exact ih n2 hn x2 x3 hi2) (hI n x2 x3 hi)
  exact key n0 x2 x3 h0
def wp_X8_newOnesThatMayBe (S : bT8) (Q : Int32 → Prop) : Prop := (wp_X8_newOnesThatMayBe_15 S ((0 : Int32)) ((0 : Int32)) Q)
set_option maxRecDepth 20000 in
theorem t_X8_newOnesThatMayBe {X : bf_X} (C : bf_C X RX8 cX8_newOnesThatMayBe 4 (some .int)) (hR : bf_Rm X 5 124) (S : bT8) (Q : Int32 → Prop) (h : wp_X8_newOnesThatMayBe S Q) : bf_A X (bf_Zi X bW8 (fun r u => u = S ∧ Q r)) 4 0 [some (.ref 0), none, none, none] [] (bW8 S) := by
  unfold wp_X8_newOnesThatMayBe at h
  refine bs_aload_n C (bf_dk dd_X8_newOnesThatMayBe 0 rfl) rfl ?_
  refine bs_get C (bf_dk dd_X8_newOnesThatMayBe 1 rfl) cl_8 in_8 0 (Nat.le_of_ble_eq_true rfl) rfl f_8_12 (ge_bW8_0 S) rfl ?_
  refine bs_get C (bf_dk dd_X8_newOnesThatMayBe 2 rfl) cl_2 in_2 0 (Nat.le_of_ble_eq_true rfl) rfl f_8_87 (ge_bW8_1 S) rfl ?_
  refine bs_get C (bf_dk dd_X8_newOnesThatMayBe 3 rfl) cl_3 in_3 0 (Nat.le_of_ble_eq_true rfl) rfl f_8_99 (ge_bW8_2 S) rfl ?_
  refine bs_astore_n C (bf_dk dd_X8_newOnesThatMayBe 4 rfl) rfl (Nat.le_of_ble_eq_true rfl) (Nat.le_of_ble_eq_true rfl) (lv2 := [some (.ref 0), some (.ref 3), none, none]) rfl ?_
  refine bs_iconst C (bf_dk dd_X8_newOnesThatMayBe 5 rfl) (0 : Int32) (by decide) ?_
  refine bs_istore_n C (bf_dk dd_X8_newOnesThatMayBe 6 rfl) rfl (Nat.le_of_ble_eq_true rfl) (Nat.le_of_ble_eq_true rfl) (lv2 := [some (.ref 0), some (.ref 3), some (.int (0 : Int32)), none]) rfl ?_
  refine bs_iconst C (bf_dk dd_X8_newOnesThatMayBe 7 rfl) (0 : Int32) (by decide) ?_
  refine bs_istore_n C (bf_dk dd_X8_newOnesThatMayBe 8 rfl) rfl (Nat.le_of_ble_eq_true rfl) (Nat.le_of_ble_eq_true rfl) (lv2 := [some (.ref 0), some (.ref 3), some (.int (0 : Int32)), some (.int (0 : Int32))]) rfl ?_
  exact bs_weak (bf_s1 (bf_s1 (bf_s1 (bf_s1 bf_s0)))) (t_X8_newOnesThatMayBe_15 C hR S ((0 : Int32)) ((0 : Int32)) Q h)
theorem c_X8_newOnesThatMayBe (l : Launch) (dC : Nat → ClassId) (dI : Nat → Nat → Nat) (ac : Nat → ClassId) (al : Nat → Nat) (S : bT8) (Q : Int32 → Prop) (h : wp_X8_newOnesThatMayBe S Q) : bf_M l yX8_newOnesThatMayBe cX8_newOnesThatMayBe 4 (some .int) 5 124 dC dI ac al [.ref 0] (bW8 S) (bf_Ki dC dI ac al bW8 (fun r u => u = S ∧ Q r)) := by
  refine bf_start [some (.ref 0), none, none, none] (by decide) (Nat.le_of_ble_eq_true rfl) (bf_s1 (bf_en 3)) ?_
  intro X hl C hR e1 e2 e3 e4
  subst e1; subst e2; subst e3; subst e4
  exact t_X8_newOnesThatMayBe C hR S Q h
def wp_X8_since (S : bT8) (a1 : Int32) (Q : Int32 → Prop) : Prop := ((((a1).toInt < 0 ∨ 2 < (a1).toInt) → (Q (-1 : Int32))) ∧ (a1 = (0 : Int32) → (wp_X0_notIn ((b3g_members (b2g_told (b8g_now S))), (b1g_owners (b8g_leaves S))) (fun r1 => (Q r1)))) ∧ (a1 = (1 : Int32) → (wp_X8_newOnesThatMayBe S (fun r3 => (Q r3)))) ∧ (a1 = (2 : Int32) → (wp_X0_notIn ((b1g_owners (b8g_leaves S)), (b3g_members (b2g_told (b8g_now S)))) (fun r5 => (Q r5)))))
set_option maxRecDepth 20000 in
theorem t_X8_since {X : bf_X} (C : bf_C X RX8 cX8_since 3 (some .int)) (hR : bf_Rm X 6 147) (S : bT8) (a1 : Int32) (Q : Int32 → Prop) (h : wp_X8_since S a1 Q) : bf_A X (bf_Zi X bW8 (fun r u => u = S ∧ Q r)) 3 0 [some (.ref 0), some (.int a1), none] [] (bW8 S) := by
  unfold wp_X8_since at h
  refine bs_aload_n C (bf_dk dd_X8_since 0 rfl) rfl ?_
  refine bs_get C (bf_dk dd_X8_since 1 rfl) cl_8 in_8 0 (Nat.le_of_ble_eq_true rfl) rfl f_8_12 (ge_bW8_0 S) rfl ?_
  refine bs_get C (bf_dk dd_X8_since 2 rfl) cl_2 in_2 0 (Nat.le_of_ble_eq_true rfl) rfl f_8_87 (ge_bW8_1 S) rfl ?_
  refine bs_get C (bf_dk dd_X8_since 3 rfl) cl_3 in_3 0 (Nat.le_of_ble_eq_true rfl) rfl f_8_99 (ge_bW8_2 S) rfl ?_
  refine bs_astore_n C (bf_dk dd_X8_since 4 rfl) rfl (Nat.le_of_ble_eq_true rfl) (Nat.le_of_ble_eq_true rfl) (lv2 := [some (.ref 0), some (.int a1), some (.ref 3)]) rfl ?_
  refine bs_iload_n C (bf_dk dd_X8_since 5 rfl) rfl ?_
  refine bs_table C (tdef := 69) (fun k => List.getD [40, 52, 57] k 0) 3 (bf_dk dd_X8_since 6 rfl) rfl rfl (fun k hk => by rcases (show k = 0 ∨ k = 1 ∨ k = 2 by omega) with rfl | rfl | rfl <;> exact ⟨_, rfl, rfl⟩) (fun c => ?_) (fun k hk c => ?_)
  · replace h := h.1 c
    refine bs_iconst C (bf_dk dd_X8_since 22 rfl) (-1 : Int32) (by decide) ?_
    exact bs_iret (u := S) C (bf_dk dd_X8_since 23 rfl) rfl ⟨rfl, h⟩
  · rcases (show k = 0 ∨ k = 1 ∨ k = 2 by omega) with rfl | rfl | rfl
    · replace h := h.2.1 (bf_i32 c (by decide))
      refine bs_aload_n C (bf_dk dd_X8_since 7 rfl) rfl ?_
      refine bs_aload_n C (bf_dk dd_X8_since 8 rfl) rfl ?_
      refine bs_get C (bf_dk dd_X8_since 9 rfl) cl_8 in_8 3 (Nat.le_of_ble_eq_true rfl) rfl f_8_26 (ge_bW8_0 S) rfl ?_
      refine bs_get C (bf_dk dd_X8_since 10 rfl) cl_1 in_1 0 (Nat.le_of_ble_eq_true rfl) rfl f_8_163 (ge_bW8_31 S) rfl ?_
      refine bs_pureV_i (ps := [3, 4, 5, 32, 33, 34]) (w := (bW8 S)) C hR (c_X0_notIn _ _ _ _ _ ((b3g_members (b2g_told (b8g_now S))), (b1g_owners (b8g_leaves S))) _ h) my_X0_notIn m_8_364 rfl cl_0 (ge_bW0_0_0 _) rfl (Nat.le_of_ble_eq_true rfl) (Nat.le_of_ble_eq_true rfl) (su_bW8_3_32_bW0_0 S) bnd_3t5_32t34 (st := []) (Nat.le_of_ble_eq_true rfl) (bf_dk dd_X8_since 11 rfl) rfl (fun _ => rfl) (fun r1 h => ?_)
      exact bs_iret (u := S) C (bf_dk dd_X8_since 12 rfl) rfl ⟨rfl, h⟩
    · replace h := h.2.2.1 (bf_i32 c (by decide))
      refine bs_aload_n C (bf_dk dd_X8_since 13 rfl) rfl ?_
      refine bs_selfPV_i C hR (c_X8_newOnesThatMayBe _ _ _ _ _ S _ h) my_X8_newOnesThatMayBe m_8_368 rfl cl_8 (ge_bW8_0 _) rfl (Nat.le_of_ble_eq_true rfl) (Nat.le_of_ble_eq_true rfl) (st := []) (Nat.le_of_ble_eq_true rfl) (bf_dk dd_X8_since 14 rfl) rfl (fun r3 h => ?_)
      exact bs_iret (u := S) C (bf_dk dd_X8_since 15 rfl) rfl ⟨rfl, h⟩
    · replace h := h.2.2.2 (bf_i32 c (by decide))
      refine bs_aload_n C (bf_dk dd_X8_since 16 rfl) rfl ?_
      refine bs_get C (bf_dk dd_X8_since 17 rfl) cl_8 in_8 3 (Nat.le_of_ble_eq_true rfl) rfl f_8_26 (ge_bW8_0 S) rfl ?_
      refine bs_get C (bf_dk dd_X8_since 18 rfl) cl_1 in_1 0 (Nat.le_of_ble_eq_true rfl) rfl f_8_163 (ge_bW8_31 S) rfl ?_
      refine bs_aload_n C (bf_dk dd_X8_since 19 rfl) rfl ?_
      refine bs_pureV_i (ps := [32, 33, 34, 3, 4, 5]) (w := (bW8 S)) C hR (c_X0_notIn _ _ _ _ _ ((b1g_owners (b8g_leaves S)), (b3g_members (b2g_told (b8g_now S)))) _ h) my_X0_notIn m_8_364 rfl cl_0 (ge_bW0_0_0 _) rfl (Nat.le_of_ble_eq_true rfl) (Nat.le_of_ble_eq_true rfl) (su_bW8_32_3_bW0_0 S) bnd_32t34_3t5 (st := []) (Nat.le_of_ble_eq_true rfl) (bf_dk dd_X8_since 20 rfl) rfl (fun _ => rfl) (fun r5 h => ?_)
      exact bs_iret (u := S) C (bf_dk dd_X8_since 21 rfl) rfl ⟨rfl, h⟩
theorem c_X8_since (l : Launch) (dC : Nat → ClassId) (dI : Nat → Nat → Nat) (ac : Nat → ClassId) (al : Nat → Nat) (S : bT8) (a1 : Int32) (Q : Int32 → Prop) (h : wp_X8_since S a1 Q) : bf_M l yX8_since cX8_since 3 (some .int) 6 147 dC dI ac al [.ref 0, .int a1] (bW8 S) (bf_Ki dC dI ac al bW8 (fun r u => u = S ∧ Q r)) := by
  refine bf_start [some (.ref 0), some (.int a1), none] (by decide) (Nat.le_of_ble_eq_true rfl) (bf_s1 (bf_s1 (bf_en 1))) ?_
  intro X hl C hR e1 e2 e3 e4
  subst e1; subst e2; subst e3; subst e4
  exact t_X8_since C hR S a1 Q h
def wp_X8_tellFilter_74 (S : bT8) (x1 : Int32) (x2 : Int32) (x3 : Int32) (t1 : Int32) (Q : (bT8) → Prop) (B2 : Int32 → (bT8) → Prop) : Prop := (wp_X5_put (b8g_text S) (t1) (fun u2 => (∀ S3 : bT8, S3 = (b8s_text S u2) → (wp_X5_putNumber (b8g_text S3) ((x3 - x2)) (fun u5 => (∀ S6 : bT8, S6 = (b8s_text S3 u5) → (wp_X5_put (b8g_text S6) ((58 : Int32)) (fun u8 => (∀ S9 : bT8, S9 = (b8s_text S6 u8) → (wp_X6_branches (b8g_tree S9) (x2) (x3) (fun r10 => (wp_X5_putNumber (b8g_text S9) (r10) (fun u13 => (∀ S14 : bT8, S14 = (b8s_text S9 u13) → (B2 ((x1 + (1 : Int32))) S14)))))))))))))))
set_option maxRecDepth 20000 in
theorem t_X8_tellFilter_74 {X : bf_X} (C : bf_C X RX8 cX8_tellFilter 4 none) (hR : bf_Rm X 4 88) (S : bT8) (x1 : Int32) (x2 : Int32) (x3 : Int32) (t1 : Int32) (Q : (bT8) → Prop) (B2 : Int32 → (bT8) → Prop) (hB2 : ∀ (x1 : Int32) (S : bT8), B2 x1 S → bf_A X (bf_Zv X bW8 Q) 4 2 [some (.ref 0), some (.int x1), none, none] [] (bW8 S)) (h : wp_X8_tellFilter_74 S x1 x2 x3 t1 Q B2) : bf_A X (bf_Zv X bW8 Q) 4 74 [some (.ref 0), some (.int x1), some (.int x2), some (.int x3)] [.int t1, .ref 66] (bW8 S) := by
  unfold wp_X8_tellFilter_74 at h
  refine bs_callV_v (ps := [66, 67]) (w := (bW8 S)) C hR (c_X5_put _ _ _ _ _ (b8g_text S) (t1) _ h) my_X5_put m_8_403 rfl cl_5 (ge_bW5_0 _) rfl (Nat.le_of_ble_eq_true rfl) (Nat.le_of_ble_eq_true rfl) (su_bW8_66_bW5 S) rfl (st := []) (Nat.le_of_ble_eq_true rfl) (bf_dk dd_X8_tellFilter 37 rfl) rfl (fun _ => rfl) (w2 := fun u2 => bW8 (b8s_text S u2)) (pt_bW8_66_bW5 S) (fun u2 h => ?_)
  refine bs_nameS bW8 (fun S3 eS3 => ?_)
  replace h := h S3 eS3
  refine bs_aload_n C (bf_dk dd_X8_tellFilter 38 rfl) rfl ?_
  refine bs_get C (bf_dk dd_X8_tellFilter 39 rfl) cl_8 in_8 8 (Nat.le_of_ble_eq_true rfl) rfl f_8_61 (ge_bW8_0 S3) rfl ?_
  refine bs_iload_n C (bf_dk dd_X8_tellFilter 40 rfl) rfl ?_
  refine bs_iload_n C (bf_dk dd_X8_tellFilter 41 rfl) rfl ?_
  refine bs_isub C (bf_dk dd_X8_tellFilter 42 rfl) ?_
  refine bs_callV_v (ps := [66, 67]) (w := (bW8 S3)) C hR (c_X5_putNumber _ _ _ _ _ (b8g_text S3) ((x3 - x2)) _ h) my_X5_putNumber m_8_407 rfl cl_5 (ge_bW5_0 _) rfl (Nat.le_of_ble_eq_true rfl) (Nat.le_of_ble_eq_true rfl) (su_bW8_66_bW5 S3) rfl (st := []) (Nat.le_of_ble_eq_true rfl) (bf_dk dd_X8_tellFilter 43 rfl) rfl (fun _ => rfl) (w2 := fun u5 => bW8 (b8s_text S3 u5)) (pt_bW8_66_bW5 S3) (fun u5 h => ?_)
  refine bs_nameS bW8 (fun S6 eS6 => ?_)
  replace h := h S6 eS6
  refine bs_aload_n C (bf_dk dd_X8_tellFilter 44 rfl) rfl ?_
  refine bs_get C (bf_dk dd_X8_tellFilter 45 rfl) cl_8 in_8 8 (Nat.le_of_ble_eq_true rfl) rfl f_8_61 (ge_bW8_0 S6) rfl ?_
  refine bs_bipush C (bf_dk dd_X8_tellFilter 46 rfl) (58 : Int32) (by decide) ?_
  refine bs_callV_v (ps := [66, 67]) (w := (bW8 S6)) C hR (c_X5_put _ _ _ _ _ (b8g_text S6) ((58 : Int32)) _ h) my_X5_put m_8_403 rfl cl_5 (ge_bW5_0 _) rfl (Nat.le_of_ble_eq_true rfl) (Nat.le_of_ble_eq_true rfl) (su_bW8_66_bW5 S6) rfl (st := []) (Nat.le_of_ble_eq_true rfl) (bf_dk dd_X8_tellFilter 47 rfl) rfl (fun _ => rfl) (w2 := fun u8 => bW8 (b8s_text S6 u8)) (pt_bW8_66_bW5 S6) (fun u8 h => ?_)
  refine bs_nameS bW8 (fun S9 eS9 => ?_)
  replace h := h S9 eS9
  refine bs_aload_n C (bf_dk dd_X8_tellFilter 48 rfl) rfl ?_
  refine bs_get C (bf_dk dd_X8_tellFilter 49 rfl) cl_8 in_8 8 (Nat.le_of_ble_eq_true rfl) rfl f_8_61 (ge_bW8_0 S9) rfl ?_
  refine bs_aload_n C (bf_dk dd_X8_tellFilter 50 rfl) rfl ?_
  refine bs_get C (bf_dk dd_X8_tellFilter 51 rfl) cl_8 in_8 4 (Nat.le_of_ble_eq_true rfl) rfl f_8_33 (ge_bW8_0 S9) rfl ?_
  refine bs_iload_n C (bf_dk dd_X8_tellFilter 52 rfl) rfl ?_
  refine bs_iload_n C (bf_dk dd_X8_tellFilter 53 rfl) rfl ?_
  refine bs_pureV_i (ps := [45, 46, 47, 48, 49, 50, 51, 52, 53, 54, 55, 56, 57]) (w := (bW8 S9)) C hR (c_X6_branches _ _ _ _ _ (b8g_tree S9) (x2) (x3) _ h) my_X6_branches m_8_234 rfl cl_6 (ge_bW6_0 _) rfl (Nat.le_of_ble_eq_true rfl) (Nat.le_of_ble_eq_true rfl) (su_bW8_45_bW6 S9) bnd_45t57 (st := [.ref 66]) (Nat.le_of_ble_eq_true rfl) (bf_dk dd_X8_tellFilter 54 rfl) rfl (fun _ => rfl) (fun r10 h => ?_)
  refine bs_callV_v (ps := [66, 67]) (w := (bW8 S9)) C hR (c_X5_putNumber _ _ _ _ _ (b8g_text S9) (r10) _ h) my_X5_putNumber m_8_407 rfl cl_5 (ge_bW5_0 _) rfl (Nat.le_of_ble_eq_true rfl) (Nat.le_of_ble_eq_true rfl) (su_bW8_66_bW5 S9) rfl (st := []) (Nat.le_of_ble_eq_true rfl) (bf_dk dd_X8_tellFilter 55 rfl) rfl (fun _ => rfl) (w2 := fun u13 => bW8 (b8s_text S9 u13)) (pt_bW8_66_bW5 S9) (fun u13 h => ?_)
  refine bs_nameS bW8 (fun S14 eS14 => ?_)
  replace h := h S14 eS14
  refine bs_iinc C (bf_dk dd_X8_tellFilter 56 rfl) (x1 + (1 : Int32)) rfl rfl (Nat.le_of_ble_eq_true rfl) (Nat.le_of_ble_eq_true rfl) (lv2 := [some (.ref 0), some (.int (x1 + (1 : Int32))), some (.int x2), some (.int x3)]) rfl ?_
  refine bs_goto C (bf_dk dd_X8_tellFilter 57 rfl) (tgt := 2) rfl ?_
  exact bs_weak (bf_s1 (bf_s1 (bf_sn (bf_sn bf_s0)))) (hB2 ((x1 + (1 : Int32))) S14 h)
def wp_X8_tellFilter_26 (S : bT8) (x1 : Int32) (Q : (bT8) → Prop) (B2 : Int32 → (bT8) → Prop) : Prop := (wp_X8_at 9 (b6g_levelStarts (b8g_tree S)) (x1) (fun r15 => (wp_X8_at 9 (b6g_levelStarts (b8g_tree S)) ((x1 + (1 : Int32))) (fun r17 => (((b6g_upper (b8g_tree S)) ≤ x1 → (wp_X8_tellFilter_74 S (x1) (r15) (r17) ((115 : Int32)) Q B2)) ∧ (¬ (b6g_upper (b8g_tree S)) ≤ x1 → (wp_X8_tellFilter_74 S (x1) (r15) (r17) ((100 : Int32)) Q B2)))))))
set_option maxRecDepth 20000 in
theorem t_X8_tellFilter_26 {X : bf_X} (C : bf_C X RX8 cX8_tellFilter 4 none) (hR : bf_Rm X 4 88) (S : bT8) (x1 : Int32) (Q : (bT8) → Prop) (B2 : Int32 → (bT8) → Prop) (hB2 : ∀ (x1 : Int32) (S : bT8), B2 x1 S → bf_A X (bf_Zv X bW8 Q) 4 2 [some (.ref 0), some (.int x1), none, none] [] (bW8 S)) (h : wp_X8_tellFilter_26 S x1 Q B2) : bf_A X (bf_Zv X bW8 Q) 4 26 [some (.ref 0), some (.int x1), none, none] [] (bW8 S) := by
  unfold wp_X8_tellFilter_26 at h
  refine bs_aload_n C (bf_dk dd_X8_tellFilter 13 rfl) rfl ?_
  refine bs_get C (bf_dk dd_X8_tellFilter 14 rfl) cl_8 in_8 4 (Nat.le_of_ble_eq_true rfl) rfl f_8_33 (ge_bW8_0 S) rfl ?_
  refine bs_get C (bf_dk dd_X8_tellFilter 15 rfl) cl_6 in_6 8 (Nat.le_of_ble_eq_true rfl) rfl f_8_259 (ge_bW8_45 S) rfl ?_
  refine bs_iload_n C (bf_dk dd_X8_tellFilter 16 rfl) rfl ?_
  refine bs_pureS_i (ps := [54]) (w := (bW8 S)) C hR (c_X8_at _ _ _ _ _ 9 (b6g_levelStarts (b8g_tree S)) (x1) _ h) my_X8_at m_8_115 rfl (Nat.le_of_ble_eq_true rfl) (Nat.le_of_ble_eq_true rfl) (su_bW8_54_bWan9 S) rfl (st := []) (Nat.le_of_ble_eq_true rfl) (bf_dk dd_X8_tellFilter 17 rfl) rfl (fun _ => rfl) (fun r15 h => ?_)
  refine bs_istore_n C (bf_dk dd_X8_tellFilter 18 rfl) rfl (Nat.le_of_ble_eq_true rfl) (Nat.le_of_ble_eq_true rfl) (lv2 := [some (.ref 0), some (.int x1), some (.int r15), none]) rfl ?_
  refine bs_aload_n C (bf_dk dd_X8_tellFilter 19 rfl) rfl ?_
  refine bs_get C (bf_dk dd_X8_tellFilter 20 rfl) cl_8 in_8 4 (Nat.le_of_ble_eq_true rfl) rfl f_8_33 (ge_bW8_0 S) rfl ?_
  refine bs_get C (bf_dk dd_X8_tellFilter 21 rfl) cl_6 in_6 8 (Nat.le_of_ble_eq_true rfl) rfl f_8_259 (ge_bW8_45 S) rfl ?_
  refine bs_iload_n C (bf_dk dd_X8_tellFilter 22 rfl) rfl ?_
  refine bs_iconst C (bf_dk dd_X8_tellFilter 23 rfl) (1 : Int32) (by decide) ?_
  refine bs_iadd C (bf_dk dd_X8_tellFilter 24 rfl) ?_
  refine bs_pureS_i (ps := [54]) (w := (bW8 S)) C hR (c_X8_at _ _ _ _ _ 9 (b6g_levelStarts (b8g_tree S)) ((x1 + (1 : Int32))) _ h) my_X8_at m_8_115 rfl (Nat.le_of_ble_eq_true rfl) (Nat.le_of_ble_eq_true rfl) (su_bW8_54_bWan9 S) rfl (st := []) (Nat.le_of_ble_eq_true rfl) (bf_dk dd_X8_tellFilter 25 rfl) rfl (fun _ => rfl) (fun r17 h => ?_)
  refine bs_istore_n C (bf_dk dd_X8_tellFilter 26 rfl) rfl (Nat.le_of_ble_eq_true rfl) (Nat.le_of_ble_eq_true rfl) (lv2 := [some (.ref 0), some (.int x1), some (.int r15), some (.int r17)]) rfl ?_
  refine bs_aload_n C (bf_dk dd_X8_tellFilter 27 rfl) rfl ?_
  refine bs_get C (bf_dk dd_X8_tellFilter 28 rfl) cl_8 in_8 8 (Nat.le_of_ble_eq_true rfl) rfl f_8_61 (ge_bW8_0 S) rfl ?_
  refine bs_iload_n C (bf_dk dd_X8_tellFilter 29 rfl) rfl ?_
  refine bs_aload_n C (bf_dk dd_X8_tellFilter 30 rfl) rfl ?_
  refine bs_get C (bf_dk dd_X8_tellFilter 31 rfl) cl_8 in_8 4 (Nat.le_of_ble_eq_true rfl) rfl f_8_33 (ge_bW8_0 S) rfl ?_
  refine bs_get C (bf_dk dd_X8_tellFilter 32 rfl) cl_6 in_6 16 (Nat.le_of_ble_eq_true rfl) rfl f_8_265 (ge_bW8_45 S) rfl ?_
  refine bs_icmp_ge C (bf_dk dd_X8_tellFilter 33 rfl) (tgt := 72) rfl (fun c => ?_) (fun c => ?_)
  · replace h := h.1 c
    refine bs_bipush C (bf_dk dd_X8_tellFilter 36 rfl) (115 : Int32) (by decide) ?_
    exact bs_weak (bf_s1 (bf_s1 (bf_s1 (bf_s1 bf_s0)))) (t_X8_tellFilter_74 C hR S (x1) (r15) (r17) ((115 : Int32)) Q B2 hB2 h)
  · replace h := h.2 c
    refine bs_bipush C (bf_dk dd_X8_tellFilter 34 rfl) (100 : Int32) (by decide) ?_
    refine bs_goto C (bf_dk dd_X8_tellFilter 35 rfl) (tgt := 74) rfl ?_
    exact bs_weak (bf_s1 (bf_s1 (bf_s1 (bf_s1 bf_s0)))) (t_X8_tellFilter_74 C hR S (x1) (r15) (r17) ((100 : Int32)) Q B2 hB2 h)
def wp_X8_tellFilter_2b (S : bT8) (x1 : Int32) (Q : (bT8) → Prop) (B2 : Int32 → (bT8) → Prop) : Prop := (((b6g_levels (b8g_tree S)) ≤ x1 → (wp_X5_put (b8g_text S) ((46 : Int32)) (fun u20 => (∀ S21 : bT8, S21 = (b8s_text S u20) → (Q S21))))) ∧ (¬ (b6g_levels (b8g_tree S)) ≤ x1 → ((x1 ≤ 0 → (wp_X8_tellFilter_26 S (x1) Q B2)) ∧ (¬ x1 ≤ 0 → (wp_X5_put (b8g_text S) ((44 : Int32)) (fun u23 => (∀ S24 : bT8, S24 = (b8s_text S u23) → (wp_X8_tellFilter_26 S24 (x1) Q B2))))))))
set_option maxRecDepth 20000 in
theorem t_X8_tellFilter_2b {X : bf_X} (C : bf_C X RX8 cX8_tellFilter 4 none) (hR : bf_Rm X 4 88) (S : bT8) (x1 : Int32) (Q : (bT8) → Prop) (B2 : Int32 → (bT8) → Prop) (hB2 : ∀ (x1 : Int32) (S : bT8), B2 x1 S → bf_A X (bf_Zv X bW8 Q) 4 2 [some (.ref 0), some (.int x1), none, none] [] (bW8 S)) (h : wp_X8_tellFilter_2b S x1 Q B2) : bf_A X (bf_Zv X bW8 Q) 4 2 [some (.ref 0), some (.int x1), none, none] [] (bW8 S) := by
  unfold wp_X8_tellFilter_2b at h
  refine bs_iload_n C (bf_dk dd_X8_tellFilter 2 rfl) rfl ?_
  refine bs_aload_n C (bf_dk dd_X8_tellFilter 3 rfl) rfl ?_
  refine bs_get C (bf_dk dd_X8_tellFilter 4 rfl) cl_8 in_8 4 (Nat.le_of_ble_eq_true rfl) rfl f_8_33 (ge_bW8_0 S) rfl ?_
  refine bs_get C (bf_dk dd_X8_tellFilter 5 rfl) cl_6 in_6 15 (Nat.le_of_ble_eq_true rfl) rfl f_8_256 (ge_bW8_45 S) rfl ?_
  refine bs_icmp_ge C (bf_dk dd_X8_tellFilter 6 rfl) (tgt := 118) rfl (fun c => ?_) (fun c => ?_)
  · replace h := h.1 c
    refine bs_aload_n C (bf_dk dd_X8_tellFilter 58 rfl) rfl ?_
    refine bs_get C (bf_dk dd_X8_tellFilter 59 rfl) cl_8 in_8 8 (Nat.le_of_ble_eq_true rfl) rfl f_8_61 (ge_bW8_0 S) rfl ?_
    refine bs_bipush C (bf_dk dd_X8_tellFilter 60 rfl) (46 : Int32) (by decide) ?_
    refine bs_callV_v (ps := [66, 67]) (w := (bW8 S)) C hR (c_X5_put _ _ _ _ _ (b8g_text S) ((46 : Int32)) _ h) my_X5_put m_8_403 rfl cl_5 (ge_bW5_0 _) rfl (Nat.le_of_ble_eq_true rfl) (Nat.le_of_ble_eq_true rfl) (su_bW8_66_bW5 S) rfl (st := []) (Nat.le_of_ble_eq_true rfl) (bf_dk dd_X8_tellFilter 61 rfl) rfl (fun _ => rfl) (w2 := fun u20 => bW8 (b8s_text S u20)) (pt_bW8_66_bW5 S) (fun u20 h => ?_)
    refine bs_nameS bW8 (fun S21 eS21 => ?_)
    replace h := h S21 eS21
    exact bs_vret (u := S21) C (bf_dk dd_X8_tellFilter 62 rfl) rfl h
  · replace h := h.2 c
    refine bs_iload_n C (bf_dk dd_X8_tellFilter 7 rfl) rfl ?_
    refine bs_if_le C (bf_dk dd_X8_tellFilter 8 rfl) (tgt := 26) rfl (fun c => ?_) (fun c => ?_)
    · replace h := h.1 c
      exact bs_weak (bf_s1 (bf_s1 (bf_sn (bf_sn bf_s0)))) (t_X8_tellFilter_26 C hR S (x1) Q B2 hB2 h)
    · replace h := h.2 c
      refine bs_aload_n C (bf_dk dd_X8_tellFilter 9 rfl) rfl ?_
      refine bs_get C (bf_dk dd_X8_tellFilter 10 rfl) cl_8 in_8 8 (Nat.le_of_ble_eq_true rfl) rfl f_8_61 (ge_bW8_0 S) rfl ?_
      refine bs_bipush C (bf_dk dd_X8_tellFilter 11 rfl) (44 : Int32) (by decide) ?_
      refine bs_callV_v (ps := [66, 67]) (w := (bW8 S)) C hR (c_X5_put _ _ _ _ _ (b8g_text S) ((44 : Int32)) _ h) my_X5_put m_8_403 rfl cl_5 (ge_bW5_0 _) rfl (Nat.le_of_ble_eq_true rfl) (Nat.le_of_ble_eq_true rfl) (su_bW8_66_bW5 S) rfl (st := []) (Nat.le_of_ble_eq_true rfl) (bf_dk dd_X8_tellFilter 12 rfl) rfl (fun _ => rfl) (w2 := fun u23 => bW8 (b8s_text S u23)) (pt_bW8_66_bW5 S) (fun u23 h => ?_)
      refine bs_nameS bW8 (fun S24 eS24 => ?_)
      replace h := h S24 eS24
      exact bs_weak (bf_s1 (bf_s1 (bf_sn (bf_sn bf_s0)))) (t_X8_tellFilter_26 C hR S24 (x1) Q B2 hB2 h)
def wp_X8_tellFilter_2 (S : bT8) (x1 : Int32) (Q : (bT8) → Prop) : Prop := ∃ I : Nat → Int32 → (bT8) → Prop, (∃ n : Nat, I n x1 S) ∧ ∀ (n : Nat) (x1 : Int32) (S : bT8), I n x1 S → wp_X8_tellFilter_2b S x1 Q (fun x1 S => ∃ n2 : Nat, n2 < n ∧ I n2 x1 S)
theorem t_X8_tellFilter_2 {X : bf_X} (C : bf_C X RX8 cX8_tellFilter 4 none) (hR : bf_Rm X 4 88) (S : bT8) (x1 : Int32) (Q : (bT8) → Prop) (h : wp_X8_tellFilter_2 S x1 Q) : bf_A X (bf_Zv X bW8 Q) 4 2 [some (.ref 0), some (.int x1), none, none] [] (bW8 S) := by
  obtain ⟨I, ⟨n0, h0⟩, hI⟩ := h
  have key : ∀ (n : Nat) (x1 : Int32) (S : bT8), I n x1 S → bf_A X (bf_Zv X bW8 Q) 4 2 [some (.ref 0), some (.int x1), none, none] [] (bW8 S) := by
    intro n
    induction n using Nat.strongRecOn with
    | _ n ih =>
      intro x1 S hi
      exact t_X8_tellFilter_2b C hR S x1 Q _ (fun x1 S hb => by obtain ⟨n2, hn, hi2⟩ := hb; exact ih n2 hn x1 S hi2) (hI n x1 S hi)
  exact key n0 x1 S h0
def wp_X8_tellFilter (S : bT8) (Q : (bT8) → Prop) : Prop := (wp_X8_tellFilter_2 S ((0 : Int32)) Q)
set_option maxRecDepth 20000 in
theorem t_X8_tellFilter {X : bf_X} (C : bf_C X RX8 cX8_tellFilter 4 none) (hR : bf_Rm X 4 88) (S : bT8) (Q : (bT8) → Prop) (h : wp_X8_tellFilter S Q) : bf_A X (bf_Zv X bW8 Q) 4 0 [some (.ref 0), none, none, none] [] (bW8 S) := by
  unfold wp_X8_tellFilter at h
  refine bs_iconst C (bf_dk dd_X8_tellFilter 0 rfl) (0 : Int32) (by decide) ?_
  refine bs_istore_n C (bf_dk dd_X8_tellFilter 1 rfl) rfl (Nat.le_of_ble_eq_true rfl) (Nat.le_of_ble_eq_true rfl) (lv2 := [some (.ref 0), some (.int (0 : Int32)), none, none]) rfl ?_
  exact bs_weak (bf_s1 (bf_s1 (bf_sn (bf_sn bf_s0)))) (t_X8_tellFilter_2 C hR S ((0 : Int32)) Q h)
theorem c_X8_tellFilter (l : Launch) (dC : Nat → ClassId) (dI : Nat → Nat → Nat) (ac : Nat → ClassId) (al : Nat → Nat) (S : bT8) (Q : (bT8) → Prop) (h : wp_X8_tellFilter S Q) : bf_M l yX8_tellFilter cX8_tellFilter 4 none 4 88 dC dI ac al [.ref 0] (bW8 S) (bf_Kv dC dI ac al bW8 Q) := by
  refine bf_start [some (.ref 0), none, none, none] (by decide) (Nat.le_of_ble_eq_true rfl) (bf_s1 (bf_en 3)) ?_
  intro X hl C hR e1 e2 e3 e4
  subst e1; subst e2; subst e3; subst e4
  exact t_X8_tellFilter C hR S Q h
def wp_X8_tellLeaf_164 (S : bT8) (x1 : Int32) (x4 : Int32) (t1 : Int32) (Q : (bT8) → Prop) (B131 : Int32 → Int32 → (bT8) → Prop) : Prop := (wp_X5_put (b8g_text S) (t1) (fun u2 => (∀ S3 : bT8, S3 = (b8s_text S u2) → (B131 (x1) ((x4 + (-1 : Int32))) S3))))
set_option maxRecDepth 20000 in
theorem t_X8_tellLeaf_164 {X : bf_X} (C : bf_C X RX8 cX8_tellLeaf 5 none) (hR : bf_Rm X 3 63) (S : bT8) (x1 : Int32) (x4 : Int32) (t1 : Int32) (Q : (bT8) → Prop) (B131 : Int32 → Int32 → (bT8) → Prop) (hB131 : ∀ (x1 : Int32) (x4 : Int32) (S : bT8), B131 x1 x4 S → bf_A X (bf_Zv X bW8 Q) 5 131 [some (.ref 0), some (.int x1), none, none, some (.int x4)] [] (bW8 S)) (h : wp_X8_tellLeaf_164 S x1 x4 t1 Q B131) : bf_A X (bf_Zv X bW8 Q) 5 164 [some (.ref 0), some (.int x1), none, none, some (.int x4)] [.int t1, .ref 66] (bW8 S) := by
  unfold wp_X8_tellLeaf_164 at h
  refine bs_callV_v (ps := [66, 67]) (w := (bW8 S)) C hR (c_X5_put _ _ _ _ _ (b8g_text S) (t1) _ h) my_X5_put m_8_403 rfl cl_5 (ge_bW5_0 _) rfl (Nat.le_of_ble_eq_true rfl) (Nat.le_of_ble_eq_true rfl) (su_bW8_66_bW5 S) rfl (st := []) (Nat.le_of_ble_eq_true rfl) (bf_dk dd_X8_tellLeaf 77 rfl) rfl (fun _ => rfl) (w2 := fun u2 => bW8 (b8s_text S u2)) (pt_bW8_66_bW5 S) (fun u2 h => ?_)
  refine bs_nameS bW8 (fun S3 eS3 => ?_)
  replace h := h S3 eS3
  refine bs_iinc C (bf_dk dd_X8_tellLeaf 78 rfl) (x4 + (-1 : Int32)) rfl rfl (Nat.le_of_ble_eq_true rfl) (Nat.le_of_ble_eq_true rfl) (lv2 := [some (.ref 0), some (.int x1), none, none, some (.int (x4 + (-1 : Int32)))]) rfl ?_
  refine bs_goto C (bf_dk dd_X8_tellLeaf 79 rfl) (tgt := 131) rfl ?_
  exact bs_weak (bf_s1 (bf_s1 (bf_sn (bf_sn (bf_s1 bf_s0))))) (hB131 (x1) ((x4 + (-1 : Int32))) S3 h)
def wp_X8_tellLeaf_131b (S : bT8) (x1 : Int32) (x4 : Int32) (Q : (bT8) → Prop) (B131 : Int32 → Int32 → (bT8) → Prop) : Prop := ((x4 < 0 → (Q S)) ∧ (¬ x4 < 0 → (wp_X1_nextAt (b8g_leaves S) (x1) (fun r4 => ((¬ ((r4 >>> (x4 &&& 31)) &&& (1 : Int32)) = (1 : Int32) → (wp_X8_tellLeaf_164 S (x1) (x4) ((48 : Int32)) Q B131)) ∧ (((r4 >>> (x4 &&& 31)) &&& (1 : Int32)) = (1 : Int32) → (wp_X8_tellLeaf_164 S (x1) (x4) ((49 : Int32)) Q B131)))))))
set_option maxRecDepth 20000 in
theorem t_X8_tellLeaf_131b {X : bf_X} (C : bf_C X RX8 cX8_tellLeaf 5 none) (hR : bf_Rm X 3 63) (S : bT8) (x1 : Int32) (x4 : Int32) (Q : (bT8) → Prop) (B131 : Int32 → Int32 → (bT8) → Prop) (hB131 : ∀ (x1 : Int32) (x4 : Int32) (S : bT8), B131 x1 x4 S → bf_A X (bf_Zv X bW8 Q) 5 131 [some (.ref 0), some (.int x1), none, none, some (.int x4)] [] (bW8 S)) (h : wp_X8_tellLeaf_131b S x1 x4 Q B131) : bf_A X (bf_Zv X bW8 Q) 5 131 [some (.ref 0), some (.int x1), none, none, some (.int x4)] [] (bW8 S) := by
  unfold wp_X8_tellLeaf_131b at h
  refine bs_iload C (bf_dk dd_X8_tellLeaf 60 rfl) rfl ?_
  refine bs_if_lt C (bf_dk dd_X8_tellLeaf 61 rfl) (tgt := 173) rfl (fun c => ?_) (fun c => ?_)
  · replace h := h.1 c
    exact bs_vret (u := S) C (bf_dk dd_X8_tellLeaf 80 rfl) rfl h
  · replace h := h.2 c
    refine bs_aload_n C (bf_dk dd_X8_tellLeaf 62 rfl) rfl ?_
    refine bs_get C (bf_dk dd_X8_tellLeaf 63 rfl) cl_8 in_8 8 (Nat.le_of_ble_eq_true rfl) rfl f_8_61 (ge_bW8_0 S) rfl ?_
    refine bs_aload_n C (bf_dk dd_X8_tellLeaf 64 rfl) rfl ?_
    refine bs_get C (bf_dk dd_X8_tellLeaf 65 rfl) cl_8 in_8 3 (Nat.le_of_ble_eq_true rfl) rfl f_8_26 (ge_bW8_0 S) rfl ?_
    refine bs_iload_n C (bf_dk dd_X8_tellLeaf 66 rfl) rfl ?_
    refine bs_pureV_i (ps := [31, 32, 33, 34, 35, 36, 37, 38, 39, 40, 41, 42, 43, 44]) (w := (bW8 S)) C hR (c_X1_nextAt _ _ _ _ _ (b8g_leaves S) (x1) _ h) my_X1_nextAt m_8_207 rfl cl_1 (ge_bW1_0 _) rfl (Nat.le_of_ble_eq_true rfl) (Nat.le_of_ble_eq_true rfl) (su_bW8_31_bW1 S) bnd_31t44 (st := [.ref 66]) (Nat.le_of_ble_eq_true rfl) (bf_dk dd_X8_tellLeaf 67 rfl) rfl (fun _ => rfl) (fun r4 h => ?_)
    refine bs_iload C (bf_dk dd_X8_tellLeaf 68 rfl) rfl ?_
    refine bs_ishr C (bf_dk dd_X8_tellLeaf 69 rfl) ?_
    refine bs_iconst C (bf_dk dd_X8_tellLeaf 70 rfl) (1 : Int32) (by decide) ?_
    refine bs_iand C (bf_dk dd_X8_tellLeaf 71 rfl) ?_
    refine bs_iconst C (bf_dk dd_X8_tellLeaf 72 rfl) (1 : Int32) (by decide) ?_
    refine bs_icmp_ne C (bf_dk dd_X8_tellLeaf 73 rfl) (tgt := 162) rfl (fun c => ?_) (fun c => ?_)
    · replace h := h.1 c
      refine bs_bipush C (bf_dk dd_X8_tellLeaf 76 rfl) (48 : Int32) (by decide) ?_
      exact bs_weak (bf_s1 (bf_s1 (bf_sn (bf_sn (bf_s1 bf_s0))))) (t_X8_tellLeaf_164 C hR S (x1) (x4) ((48 : Int32)) Q B131 hB131 h)
    · replace h := h.2 c
      refine bs_bipush C (bf_dk dd_X8_tellLeaf 74 rfl) (49 : Int32) (by decide) ?_
      refine bs_goto C (bf_dk dd_X8_tellLeaf 75 rfl) (tgt := 164) rfl ?_
      exact bs_weak (bf_s1 (bf_s1 (bf_sn (bf_sn (bf_s1 bf_s0))))) (t_X8_tellLeaf_164 C hR S (x1) (x4) ((49 : Int32)) Q B131 hB131 h)
def wp_X8_tellLeaf_131 (S : bT8) (x1 : Int32) (x4 : Int32) (Q : (bT8) → Prop) : Prop := ∃ I : Nat → Int32 → Int32 → (bT8) → Prop, (∃ n : Nat, I n x1 x4 S) ∧ ∀ (n : Nat) (x1 : Int32) (x4 : Int32) (S : bT8), I n x1 x4 S → wp_X8_tellLeaf_131b S x1 x4 Q (fun x1 x4 S => ∃ n2 : Nat, n2 < n ∧ I n2 x1 x4 S)
theorem t_X8_tellLeaf_131 {X : bf_X} (C : bf_C X RX8 cX8_tellLeaf 5 none) (hR : bf_Rm X 3 63) (S : bT8) (x1 : Int32) (x4 : Int32) (Q : (bT8) → Prop) (h : wp_X8_tellLeaf_131 S x1 x4 Q) : bf_A X (bf_Zv X bW8 Q) 5 131 [some (.ref 0), some (.int x1), none, none, some (.int x4)] [] (bW8 S) := by
  obtain ⟨I, ⟨n0, h0⟩, hI⟩ := h
  have key : ∀ (n : Nat) (x1 : Int32) (x4 : Int32) (S : bT8), I n x1 x4 S → bf_A X (bf_Zv X bW8 Q) 5 131 [some (.ref 0), some (.int x1), none, none, some (.int x4)] [] (bW8 S) := by
    intro n
    induction n using Nat.strongRecOn with
    | _ n ih =>
      intro x1 x4 S hi
      exact t_X8_tellLeaf_131b C hR S x1 x4 Q _ (fun x1 x4 S hb => by obtain ⟨n2, hn, hi2⟩ := hb; exact ih n2 hn x1 x4 S hi2) (hI n x1 x4 S hi)
  exact key n0 x1 x4 S h0
def wp_X8_tellLeaf_101 (S : bT8) (x1 : Int32) (Q : (bT8) → Prop) : Prop := (((b1g_realBits (b8g_leaves S)) = 0 → (Q S)) ∧ (¬ (b1g_realBits (b8g_leaves S)) = 0 → (wp_X5_put (b8g_text S) ((47 : Int32)) (fun u7 => (∀ S8 : bT8, S8 = (b8s_text S u7) → (wp_X8_tellLeaf_131 S8 (x1) (((b1g_realBits (b8g_leaves S8)) - (1 : Int32))) Q))))))
set_option maxRecDepth 20000 in
theorem t_X8_tellLeaf_101 {X : bf_X} (C : bf_C X RX8 cX8_tellLeaf 5 none) (hR : bf_Rm X 3 63) (S : bT8) (x1 : Int32) (Q : (bT8) → Prop) (h : wp_X8_tellLeaf_101 S x1 Q) : bf_A X (bf_Zv X bW8 Q) 5 101 [some (.ref 0), some (.int x1), none, none, none] [] (bW8 S) := by
  unfold wp_X8_tellLeaf_101 at h
  refine bs_aload_n C (bf_dk dd_X8_tellLeaf 46 rfl) rfl ?_
  refine bs_get C (bf_dk dd_X8_tellLeaf 47 rfl) cl_8 in_8 3 (Nat.le_of_ble_eq_true rfl) rfl f_8_26 (ge_bW8_0 S) rfl ?_
  refine bs_get C (bf_dk dd_X8_tellLeaf 48 rfl) cl_1 in_1 8 (Nat.le_of_ble_eq_true rfl) rfl f_8_387 (ge_bW8_31 S) rfl ?_
  refine bs_if_eq C (bf_dk dd_X8_tellLeaf 49 rfl) (tgt := 173) rfl (fun c => ?_) (fun c => ?_)
  · replace h := h.1 c
    exact bs_vret (u := S) C (bf_dk dd_X8_tellLeaf 80 rfl) rfl h
  · replace h := h.2 c
    refine bs_aload_n C (bf_dk dd_X8_tellLeaf 50 rfl) rfl ?_
    refine bs_get C (bf_dk dd_X8_tellLeaf 51 rfl) cl_8 in_8 8 (Nat.le_of_ble_eq_true rfl) rfl f_8_61 (ge_bW8_0 S) rfl ?_
    refine bs_bipush C (bf_dk dd_X8_tellLeaf 52 rfl) (47 : Int32) (by decide) ?_
    refine bs_callV_v (ps := [66, 67]) (w := (bW8 S)) C hR (c_X5_put _ _ _ _ _ (b8g_text S) ((47 : Int32)) _ h) my_X5_put m_8_403 rfl cl_5 (ge_bW5_0 _) rfl (Nat.le_of_ble_eq_true rfl) (Nat.le_of_ble_eq_true rfl) (su_bW8_66_bW5 S) rfl (st := []) (Nat.le_of_ble_eq_true rfl) (bf_dk dd_X8_tellLeaf 53 rfl) rfl (fun _ => rfl) (w2 := fun u7 => bW8 (b8s_text S u7)) (pt_bW8_66_bW5 S) (fun u7 h => ?_)
    refine bs_nameS bW8 (fun S8 eS8 => ?_)
    replace h := h S8 eS8
    refine bs_aload_n C (bf_dk dd_X8_tellLeaf 54 rfl) rfl ?_
    refine bs_get C (bf_dk dd_X8_tellLeaf 55 rfl) cl_8 in_8 3 (Nat.le_of_ble_eq_true rfl) rfl f_8_26 (ge_bW8_0 S8) rfl ?_
    refine bs_get C (bf_dk dd_X8_tellLeaf 56 rfl) cl_1 in_1 8 (Nat.le_of_ble_eq_true rfl) rfl f_8_387 (ge_bW8_31 S8) rfl ?_
    refine bs_iconst C (bf_dk dd_X8_tellLeaf 57 rfl) (1 : Int32) (by decide) ?_
    refine bs_isub C (bf_dk dd_X8_tellLeaf 58 rfl) ?_
    refine bs_istore C (bf_dk dd_X8_tellLeaf 59 rfl) (Nat.le_of_ble_eq_true rfl) (Nat.le_of_ble_eq_true rfl) (lv2 := [some (.ref 0), some (.int x1), none, none, some (.int ((b1g_realBits (b8g_leaves S8)) - (1 : Int32)))]) rfl ?_
    exact bs_weak (bf_s1 (bf_s1 (bf_sn (bf_sn (bf_s1 bf_s0))))) (t_X8_tellLeaf_131 C hR S8 (x1) (((b1g_realBits (b8g_leaves S8)) - (1 : Int32))) Q h)
def wp_X8_tellLeaf_67 (S : bT8) (x1 : Int32) (Q : (bT8) → Prop) : Prop := (((b1g_hashBits (b8g_leaves S)) = 0 → (wp_X8_tellLeaf_101 S (x1) Q)) ∧ (¬ (b1g_hashBits (b8g_leaves S)) = 0 → (wp_X5_put (b8g_text S) ((35 : Int32)) (fun u10 => (∀ S11 : bT8, S11 = (b8s_text S u10) → (wp_X1_hashAt (b8g_leaves S11) (x1) (fun r12 => (wp_X5_putNumber (b8g_text S11) (r12) (fun u15 => (∀ S16 : bT8, S16 = (b8s_text S11 u15) → (wp_X8_tellLeaf_101 S16 (x1) Q)))))))))))
set_option maxRecDepth 20000 in
theorem t_X8_tellLeaf_67 {X : bf_X} (C : bf_C X RX8 cX8_tellLeaf 5 none) (hR : bf_Rm X 3 63) (S : bT8) (x1 : Int32) (Q : (bT8) → Prop) (h : wp_X8_tellLeaf_67 S x1 Q) : bf_A X (bf_Zv X bW8 Q) 5 67 [some (.ref 0), some (.int x1), none, none, none] [] (bW8 S) := by
  unfold wp_X8_tellLeaf_67 at h
  refine bs_aload_n C (bf_dk dd_X8_tellLeaf 31 rfl) rfl ?_
  refine bs_get C (bf_dk dd_X8_tellLeaf 32 rfl) cl_8 in_8 3 (Nat.le_of_ble_eq_true rfl) rfl f_8_26 (ge_bW8_0 S) rfl ?_
  refine bs_get C (bf_dk dd_X8_tellLeaf 33 rfl) cl_1 in_1 7 (Nat.le_of_ble_eq_true rfl) rfl f_8_386 (ge_bW8_31 S) rfl ?_
  refine bs_if_eq C (bf_dk dd_X8_tellLeaf 34 rfl) (tgt := 101) rfl (fun c => ?_) (fun c => ?_)
  · replace h := h.1 c
    exact bs_weak (bf_s1 (bf_s1 (bf_sn (bf_sn (bf_sn bf_s0))))) (t_X8_tellLeaf_101 C hR S (x1) Q h)
  · replace h := h.2 c
    refine bs_aload_n C (bf_dk dd_X8_tellLeaf 35 rfl) rfl ?_
    refine bs_get C (bf_dk dd_X8_tellLeaf 36 rfl) cl_8 in_8 8 (Nat.le_of_ble_eq_true rfl) rfl f_8_61 (ge_bW8_0 S) rfl ?_
    refine bs_bipush C (bf_dk dd_X8_tellLeaf 37 rfl) (35 : Int32) (by decide) ?_
    refine bs_callV_v (ps := [66, 67]) (w := (bW8 S)) C hR (c_X5_put _ _ _ _ _ (b8g_text S) ((35 : Int32)) _ h) my_X5_put m_8_403 rfl cl_5 (ge_bW5_0 _) rfl (Nat.le_of_ble_eq_true rfl) (Nat.le_of_ble_eq_true rfl) (su_bW8_66_bW5 S) rfl (st := []) (Nat.le_of_ble_eq_true rfl) (bf_dk dd_X8_tellLeaf 38 rfl) rfl (fun _ => rfl) (w2 := fun u10 => bW8 (b8s_text S u10)) (pt_bW8_66_bW5 S) (fun u10 h => ?_)
    refine bs_nameS bW8 (fun S11 eS11 => ?_)
    replace h := h S11 eS11
    refine bs_aload_n C (bf_dk dd_X8_tellLeaf 39 rfl) rfl ?_
    refine bs_get C (bf_dk dd_X8_tellLeaf 40 rfl) cl_8 in_8 8 (Nat.le_of_ble_eq_true rfl) rfl f_8_61 (ge_bW8_0 S11) rfl ?_
    refine bs_aload_n C (bf_dk dd_X8_tellLeaf 41 rfl) rfl ?_
    refine bs_get C (bf_dk dd_X8_tellLeaf 42 rfl) cl_8 in_8 3 (Nat.le_of_ble_eq_true rfl) rfl f_8_26 (ge_bW8_0 S11) rfl ?_
    refine bs_iload_n C (bf_dk dd_X8_tellLeaf 43 rfl) rfl ?_
    refine bs_pureV_i (ps := [31, 32, 33, 34, 35, 36, 37, 38, 39, 40, 41, 42, 43, 44]) (w := (bW8 S11)) C hR (c_X1_hashAt _ _ _ _ _ (b8g_leaves S11) (x1) _ h) my_X1_hashAt m_8_204 rfl cl_1 (ge_bW1_0 _) rfl (Nat.le_of_ble_eq_true rfl) (Nat.le_of_ble_eq_true rfl) (su_bW8_31_bW1 S11) bnd_31t44 (st := [.ref 66]) (Nat.le_of_ble_eq_true rfl) (bf_dk dd_X8_tellLeaf 44 rfl) rfl (fun _ => rfl) (fun r12 h => ?_)
    refine bs_callV_v (ps := [66, 67]) (w := (bW8 S11)) C hR (c_X5_putNumber _ _ _ _ _ (b8g_text S11) (r12) _ h) my_X5_putNumber m_8_407 rfl cl_5 (ge_bW5_0 _) rfl (Nat.le_of_ble_eq_true rfl) (Nat.le_of_ble_eq_true rfl) (su_bW8_66_bW5 S11) rfl (st := []) (Nat.le_of_ble_eq_true rfl) (bf_dk dd_X8_tellLeaf 45 rfl) rfl (fun _ => rfl) (w2 := fun u15 => bW8 (b8s_text S11 u15)) (pt_bW8_66_bW5 S11) (fun u15 h => ?_)
    refine bs_nameS bW8 (fun S16 eS16 => ?_)
    replace h := h S16 eS16
    exact bs_weak (bf_s1 (bf_s1 (bf_sn (bf_sn (bf_sn bf_s0))))) (t_X8_tellLeaf_101 C hR S16 (x1) Q h)
def wp_X8_tellLeaf_15b (S : bT8) (x1 : Int32) (x2 : Int64) (x4 : Int32) (Q : (bT8) → Prop) (B15 : Int32 → Int64 → Int32 → (bT8) → Prop) : Prop := (wp_X1_lengthAt (b8g_leaves S) (x1) (fun r17 => ((r17 ≤ x4 → (wp_X1_isEnded (b8g_leaves S) (x1) (fun r19 => ((r19 = 0 → (wp_X8_tellLeaf_67 S (x1) Q)) ∧ (¬ r19 = 0 → (wp_X5_put (b8g_text S) ((36 : Int32)) (fun u22 => (∀ S23 : bT8, S23 = (b8s_text S u22) → (wp_X8_tellLeaf_67 S23 (x1) Q))))))))) ∧ (¬ r17 ≤ x4 → (wp_X8_octetAt (x2) (x4) (fun r24 => (wp_X5_putOctet (b8g_text S) (r24) (fun u27 => (∀ S28 : bT8, S28 = (b8s_text S u27) → (B15 (x1) (x2) ((x4 + (1 : Int32))) S28))))))))))
set_option maxRecDepth 20000 in
theorem t_X8_tellLeaf_15b {X : bf_X} (C : bf_C X RX8 cX8_tellLeaf 5 none) (hR : bf_Rm X 3 63) (S : bT8) (x1 : Int32) (x2 : Int64) (x4 : Int32) (Q : (bT8) → Prop) (B15 : Int32 → Int64 → Int32 → (bT8) → Prop) (hB15 : ∀ (x1 : Int32) (x2 : Int64) (x4 : Int32) (S : bT8), B15 x1 x2 x4 S → bf_A X (bf_Zv X bW8 Q) 5 15 [some (.ref 0), some (.int x1), some (.long x2), none, some (.int x4)] [] (bW8 S)) (h : wp_X8_tellLeaf_15b S x1 x2 x4 Q B15) : bf_A X (bf_Zv X bW8 Q) 5 15 [some (.ref 0), some (.int x1), some (.long x2), none, some (.int x4)] [] (bW8 S) := by
  unfold wp_X8_tellLeaf_15b at h
  refine bs_iload C (bf_dk dd_X8_tellLeaf 8 rfl) rfl ?_
  refine bs_aload_n C (bf_dk dd_X8_tellLeaf 9 rfl) rfl ?_
  refine bs_get C (bf_dk dd_X8_tellLeaf 10 rfl) cl_8 in_8 3 (Nat.le_of_ble_eq_true rfl) rfl f_8_26 (ge_bW8_0 S) rfl ?_
  refine bs_iload_n C (bf_dk dd_X8_tellLeaf 11 rfl) rfl ?_
  refine bs_pureV_i (ps := [31, 32, 33, 34, 35, 36, 37, 38, 39, 40, 41, 42, 43, 44]) (w := (bW8 S)) C hR (c_X1_lengthAt _ _ _ _ _ (b8g_leaves S) (x1) _ h) my_X1_lengthAt m_8_198 rfl cl_1 (ge_bW1_0 _) rfl (Nat.le_of_ble_eq_true rfl) (Nat.le_of_ble_eq_true rfl) (su_bW8_31_bW1 S) bnd_31t44 (st := [.int x4]) (Nat.le_of_ble_eq_true rfl) (bf_dk dd_X8_tellLeaf 12 rfl) rfl (fun _ => rfl) (fun r17 h => ?_)
  refine bs_icmp_ge C (bf_dk dd_X8_tellLeaf 13 rfl) (tgt := 47) rfl (fun c => ?_) (fun c => ?_)
  · replace h := h.1 c
    refine bs_aload_n C (bf_dk dd_X8_tellLeaf 22 rfl) rfl ?_
    refine bs_get C (bf_dk dd_X8_tellLeaf 23 rfl) cl_8 in_8 3 (Nat.le_of_ble_eq_true rfl) rfl f_8_26 (ge_bW8_0 S) rfl ?_
    refine bs_iload_n C (bf_dk dd_X8_tellLeaf 24 rfl) rfl ?_
    refine bs_pureV_i (ps := [31, 32, 33, 34, 35, 36, 37, 38, 39, 40, 41, 42, 43, 44]) (w := (bW8 S)) C hR (c_X1_isEnded _ _ _ _ _ (b8g_leaves S) (x1) _ h) my_X1_isEnded m_8_201 rfl cl_1 (ge_bW1_0 _) rfl (Nat.le_of_ble_eq_true rfl) (Nat.le_of_ble_eq_true rfl) (su_bW8_31_bW1 S) bnd_31t44 (st := []) (Nat.le_of_ble_eq_true rfl) (bf_dk dd_X8_tellLeaf 25 rfl) rfl (fun _ => rfl) (fun r19 h => ?_)
    refine bs_if_eq C (bf_dk dd_X8_tellLeaf 26 rfl) (tgt := 67) rfl (fun c => ?_) (fun c => ?_)
    · replace h := h.1 c
      exact bs_weak (bf_s1 (bf_s1 (bf_sn (bf_sn (bf_sn bf_s0))))) (t_X8_tellLeaf_67 C hR S (x1) Q h)
    · replace h := h.2 c
      refine bs_aload_n C (bf_dk dd_X8_tellLeaf 27 rfl) rfl ?_
      refine bs_get C (bf_dk dd_X8_tellLeaf 28 rfl) cl_8 in_8 8 (Nat.le_of_ble_eq_true rfl) rfl f_8_61 (ge_bW8_0 S) rfl ?_
      refine bs_bipush C (bf_dk dd_X8_tellLeaf 29 rfl) (36 : Int32) (by decide) ?_
      refine bs_callV_v (ps := [66, 67]) (w := (bW8 S)) C hR (c_X5_put _ _ _ _ _ (b8g_text S) ((36 : Int32)) _ h) my_X5_put m_8_403 rfl cl_5 (ge_bW5_0 _) rfl (Nat.le_of_ble_eq_true rfl) (Nat.le_of_ble_eq_true rfl) (su_bW8_66_bW5 S) rfl (st := []) (Nat.le_of_ble_eq_true rfl) (bf_dk dd_X8_tellLeaf 30 rfl) rfl (fun _ => rfl) (w2 := fun u22 => bW8 (b8s_text S u22)) (pt_bW8_66_bW5 S) (fun u22 h => ?_)
      refine bs_nameS bW8 (fun S23 eS23 => ?_)
      replace h := h S23 eS23
      exact bs_weak (bf_s1 (bf_s1 (bf_sn (bf_sn (bf_sn bf_s0))))) (t_X8_tellLeaf_67 C hR S23 (x1) Q h)
  · replace h := h.2 c
    refine bs_aload_n C (bf_dk dd_X8_tellLeaf 14 rfl) rfl ?_
    refine bs_get C (bf_dk dd_X8_tellLeaf 15 rfl) cl_8 in_8 8 (Nat.le_of_ble_eq_true rfl) rfl f_8_61 (ge_bW8_0 S) rfl ?_
    refine bs_lload_n C (bf_dk dd_X8_tellLeaf 16 rfl) rfl ?_
    refine bs_iload C (bf_dk dd_X8_tellLeaf 17 rfl) rfl ?_
    refine bs_pureS_i (ps := []) (w := (bW8 S)) C hR (c_X8_octetAt _ _ _ _ _ (x2) (x4) _ h) my_X8_octetAt m_8_222 rfl (Nat.le_of_ble_eq_true rfl) (Nat.le_of_ble_eq_true rfl) rfl rfl (st := [.ref 66]) (Nat.le_of_ble_eq_true rfl) (bf_dk dd_X8_tellLeaf 18 rfl) rfl (fun _ => rfl) (fun r24 h => ?_)
    refine bs_callV_v (ps := [66, 67]) (w := (bW8 S)) C hR (c_X5_putOctet _ _ _ _ _ (b8g_text S) (r24) _ h) my_X5_putOctet m_8_410 rfl cl_5 (ge_bW5_0 _) rfl (Nat.le_of_ble_eq_true rfl) (Nat.le_of_ble_eq_true rfl) (su_bW8_66_bW5 S) rfl (st := []) (Nat.le_of_ble_eq_true rfl) (bf_dk dd_X8_tellLeaf 19 rfl) rfl (fun _ => rfl) (w2 := fun u27 => bW8 (b8s_text S u27)) (pt_bW8_66_bW5 S) (fun u27 h => ?_)
    refine bs_nameS bW8 (fun S28 eS28 => ?_)
    replace h := h S28 eS28
    refine bs_iinc C (bf_dk dd_X8_tellLeaf 20 rfl) (x4 + (1 : Int32)) rfl rfl (Nat.le_of_ble_eq_true rfl) (Nat.le_of_ble_eq_true rfl) (lv2 := [some (.ref 0), some (.int x1), some (.long x2), none, some (.int (x4 + (1 : Int32)))]) rfl ?_
    refine bs_goto C (bf_dk dd_X8_tellLeaf 21 rfl) (tgt := 15) rfl ?_
    exact bs_weak (bf_s1 (bf_s1 (bf_s1 (bf_sn (bf_s1 bf_s0))))) (hB15 (x1) (x2) ((x4 + (1 : Int32))) S28 h)
def wp_X8_tellLeaf_15 (S : bT8) (x1 : Int32) (x2 : Int64) (x4 : Int32) (Q : (bT8) → Prop) : Prop := ∃ I : Nat → Int32 → Int64 → Int32 → (bT8) → Prop, (∃ n : Nat, I n x1 x2 x4 S) ∧ ∀ (n : Nat) (x1 : Int32) (x2 : Int64) (x4 : Int32) (S : bT8), I n x1 x2 x4 S → wp_X8_tellLeaf_15b S x1 x2 x4 Q (fun x1 x2 x4 S => ∃ n2 : Nat, n2 < n ∧ I n2 x1 x2 x4 S)
theorem t_X8_tellLeaf_15 {X : bf_X} (C : bf_C X RX8 cX8_tellLeaf 5 none) (hR : bf_Rm X 3 63) (S : bT8) (x1 : Int32) (x2 : Int64) (x4 : Int32) (Q : (bT8) → Prop) (h : wp_X8_tellLeaf_15 S x1 x2 x4 Q) : bf_A X (bf_Zv X bW8 Q) 5 15 [some (.ref 0), some (.int x1), some (.long x2), none, some (.int x4)] [] (bW8 S) := by
  obtain ⟨I, ⟨n0, h0⟩, hI⟩ := h
  have key : ∀ (n : Nat) (x1 : Int32) (x2 : Int64) (x4 : Int32) (S : bT8), I n x1 x2 x4 S → bf_A X (bf_Zv X bW8 Q) 5 15 [some (.ref 0), some (.int x1), some (.long x2), none, some (.int x4)] [] (bW8 S) := by
    intro n
    induction n using Nat.strongRecOn with
    | _ n ih =>
      intro x1 x2 x4 S hi
      exact t_X8_tellLeaf_15b C hR S x1 x2 x4 Q _ (fun x1 x2 x4 S hb => by obtain ⟨n2, hn, hi2⟩ := hb; exact ih n2 hn x1 x2 x4 S hi2) (hI n x1 x2 x4 S hi)
  exact key n0 x1 x2 x4 S h0
def wp_X8_tellLeaf (S : bT8) (a1 : Int32) (Q : (bT8) → Prop) : Prop := (wp_X0_bytesAt (b1g_owners (b8g_leaves S)) (a1) (fun r29 => (wp_X8_tellLeaf_15 S (a1) (r29) ((0 : Int32)) Q)))
set_option maxRecDepth 20000 in
theorem t_X8_tellLeaf {X : bf_X} (C : bf_C X RX8 cX8_tellLeaf 5 none) (hR : bf_Rm X 3 63) (S : bT8) (a1 : Int32) (Q : (bT8) → Prop) (h : wp_X8_tellLeaf S a1 Q) : bf_A X (bf_Zv X bW8 Q) 5 0 [some (.ref 0), some (.int a1), none, none, none] [] (bW8 S) := by
  unfold wp_X8_tellLeaf at h
  refine bs_aload_n C (bf_dk dd_X8_tellLeaf 0 rfl) rfl ?_
  refine bs_get C (bf_dk dd_X8_tellLeaf 1 rfl) cl_8 in_8 3 (Nat.le_of_ble_eq_true rfl) rfl f_8_26 (ge_bW8_0 S) rfl ?_
  refine bs_get C (bf_dk dd_X8_tellLeaf 2 rfl) cl_1 in_1 0 (Nat.le_of_ble_eq_true rfl) rfl f_8_163 (ge_bW8_31 S) rfl ?_
  refine bs_iload_n C (bf_dk dd_X8_tellLeaf 3 rfl) rfl ?_
  refine bs_pureV_l (ps := [32, 33, 34]) (w := (bW8 S)) C hR (c_X0_bytesAt _ _ _ _ _ (b1g_owners (b8g_leaves S)) (a1) _ h) my_X0_bytesAt m_8_219 rfl cl_0 (ge_bW0_0 _) rfl (Nat.le_of_ble_eq_true rfl) (Nat.le_of_ble_eq_true rfl) (su_bW8_32_bW0 S) rfl (st := []) (Nat.le_of_ble_eq_true rfl) (bf_dk dd_X8_tellLeaf 4 rfl) rfl (fun _ => rfl) (fun r29 h => ?_)
  refine bs_lstore_n C (bf_dk dd_X8_tellLeaf 5 rfl) rfl (Nat.le_of_ble_eq_true rfl) (Nat.le_of_ble_eq_true rfl) (lv2 := [some (.ref 0), some (.int a1), some (.long r29), none, none]) rfl ?_
  refine bs_iconst C (bf_dk dd_X8_tellLeaf 6 rfl) (0 : Int32) (by decide) ?_
  refine bs_istore C (bf_dk dd_X8_tellLeaf 7 rfl) (Nat.le_of_ble_eq_true rfl) (Nat.le_of_ble_eq_true rfl) (lv2 := [some (.ref 0), some (.int a1), some (.long r29), none, some (.int (0 : Int32))]) rfl ?_
  exact bs_weak (bf_s1 (bf_s1 (bf_s1 (bf_sn (bf_s1 bf_s0))))) (t_X8_tellLeaf_15 C hR S (a1) (r29) ((0 : Int32)) Q h)
theorem c_X8_tellLeaf (l : Launch) (dC : Nat → ClassId) (dI : Nat → Nat → Nat) (ac : Nat → ClassId) (al : Nat → Nat) (S : bT8) (a1 : Int32) (Q : (bT8) → Prop) (h : wp_X8_tellLeaf S a1 Q) : bf_M l yX8_tellLeaf cX8_tellLeaf 5 none 3 63 dC dI ac al [.ref 0, .int a1] (bW8 S) (bf_Kv dC dI ac al bW8 Q) := by
  refine bf_start [some (.ref 0), some (.int a1), none, none, none] (by decide) (Nat.le_of_ble_eq_true rfl) (bf_s1 (bf_s1 (bf_en 3))) ?_
  intro X hl C hR e1 e2 e3 e4
  subst e1; subst e2; subst e3; subst e4
  exact t_X8_tellLeaf C hR S a1 Q h
def wp_X8_report (S : bT8) (a1 : Int32) (Q : Int32 → (bT8) → Prop) : Prop := ((a1 < (-1 : Int32) → (Q (-1 : Int32) S)) ∧ (¬ a1 < (-1 : Int32) → (wp_X1_count (b8g_leaves S) (fun r1 => ((a1 < r1 → (∀ S3 : bT8, S3 = (b8s_text S (b5s_length (b8g_text S) (0 : Int32))) → ((¬ a1 = (-1 : Int32) → (wp_X8_tellLeaf S3 (a1) (fun u5 => (Q (b5g_length (b8g_text u5)) u5)))) ∧ (a1 = (-1 : Int32) → (wp_X8_tellFilter S3 (fun u7 => (Q (b5g_length (b8g_text u7)) u7))))))) ∧ (¬ a1 < r1 → (Q (-1 : Int32) S)))))))
set_option maxRecDepth 20000 in
theorem t_X8_report {X : bf_X} (C : bf_C X RX8 cX8_report 2 (some .int)) (hR : bf_Rm X 5 111) (S : bT8) (a1 : Int32) (Q : Int32 → (bT8) → Prop) (h : wp_X8_report S a1 Q) : bf_A X (bf_Zi X bW8 Q) 2 0 [some (.ref 0), some (.int a1)] [] (bW8 S) := by
  unfold wp_X8_report at h
  refine bs_iload_n C (bf_dk dd_X8_report 0 rfl) rfl ?_
  refine bs_iconst C (bf_dk dd_X8_report 1 rfl) (-1 : Int32) (by decide) ?_
  refine bs_icmp_lt C (bf_dk dd_X8_report 2 rfl) (tgt := 16) rfl (fun c => ?_) (fun c => ?_)
  · replace h := h.1 c
    refine bs_iconst C (bf_dk dd_X8_report 8 rfl) (-1 : Int32) (by decide) ?_
    exact bs_iret (u := S) C (bf_dk dd_X8_report 9 rfl) rfl h
  · replace h := h.2 c
    refine bs_iload_n C (bf_dk dd_X8_report 3 rfl) rfl ?_
    refine bs_aload_n C (bf_dk dd_X8_report 4 rfl) rfl ?_
    refine bs_get C (bf_dk dd_X8_report 5 rfl) cl_8 in_8 3 (Nat.le_of_ble_eq_true rfl) rfl f_8_26 (ge_bW8_0 S) rfl ?_
    refine bs_pureV_i (ps := [31, 32, 33, 34, 35, 36, 37, 38, 39, 40, 41, 42, 43, 44]) (w := (bW8 S)) C hR (c_X1_count _ _ _ _ _ (b8g_leaves S) _ h) my_X1_count m_8_160 rfl cl_1 (ge_bW1_0 _) rfl (Nat.le_of_ble_eq_true rfl) (Nat.le_of_ble_eq_true rfl) (su_bW8_31_bW1 S) bnd_31t44 (st := [.int a1]) (Nat.le_of_ble_eq_true rfl) (bf_dk dd_X8_report 6 rfl) rfl (fun _ => rfl) (fun r1 h => ?_)
    refine bs_icmp_lt C (bf_dk dd_X8_report 7 rfl) (tgt := 18) rfl (fun c => ?_) (fun c => ?_)
    · replace h := h.1 c
      refine bs_aload_n C (bf_dk dd_X8_report 10 rfl) rfl ?_
      refine bs_get C (bf_dk dd_X8_report 11 rfl) cl_8 in_8 8 (Nat.le_of_ble_eq_true rfl) rfl f_8_61 (ge_bW8_0 S) rfl ?_
      refine bs_iconst C (bf_dk dd_X8_report 12 rfl) (0 : Int32) (by decide) ?_
      refine bs_put C (bf_dk dd_X8_report 13 rfl) tyX5_ok nmX5 cl_5 in_5 1 (Nat.le_of_ble_eq_true rfl) rfl f_8_371 rfl (ge_bW8_66 S) (Nat.le_of_ble_eq_true rfl) rfl rfl (pu_bW8_66_1 S (0 : Int32)) ?_
      refine bs_nameS bW8 (fun S3 eS3 => ?_)
      replace h := h S3 eS3
      refine bs_iload_n C (bf_dk dd_X8_report 14 rfl) rfl ?_
      refine bs_iconst C (bf_dk dd_X8_report 15 rfl) (-1 : Int32) (by decide) ?_
      refine bs_icmp_ne C (bf_dk dd_X8_report 16 rfl) (tgt := 38) rfl (fun c => ?_) (fun c => ?_)
      · replace h := h.1 c
        refine bs_aload_n C (bf_dk dd_X8_report 20 rfl) rfl ?_
        refine bs_iload_n C (bf_dk dd_X8_report 21 rfl) rfl ?_
        refine bs_selfV_v C hR (c_X8_tellLeaf _ _ _ _ _ S3 (a1) _ h) my_X8_tellLeaf m_8_377 rfl cl_8 (ge_bW8_0 _) rfl (Nat.le_of_ble_eq_true rfl) (Nat.le_of_ble_eq_true rfl) (st := []) (Nat.le_of_ble_eq_true rfl) (bf_dk dd_X8_report 22 rfl) rfl (len := 68) (fun _ => rfl) (fun u5 h => ?_)
        refine bs_aload_n C (bf_dk dd_X8_report 23 rfl) rfl ?_
        refine bs_get C (bf_dk dd_X8_report 24 rfl) cl_8 in_8 8 (Nat.le_of_ble_eq_true rfl) rfl f_8_61 (ge_bW8_0 u5) rfl ?_
        refine bs_get C (bf_dk dd_X8_report 25 rfl) cl_5 in_5 1 (Nat.le_of_ble_eq_true rfl) rfl f_8_371 (ge_bW8_66 u5) rfl ?_
        exact bs_iret (u := u5) C (bf_dk dd_X8_report 26 rfl) rfl h
      · replace h := h.2 c
        refine bs_aload_n C (bf_dk dd_X8_report 17 rfl) rfl ?_
        refine bs_selfV_v C hR (c_X8_tellFilter _ _ _ _ _ S3 _ h) my_X8_tellFilter m_8_374 rfl cl_8 (ge_bW8_0 _) rfl (Nat.le_of_ble_eq_true rfl) (Nat.le_of_ble_eq_true rfl) (st := []) (Nat.le_of_ble_eq_true rfl) (bf_dk dd_X8_report 18 rfl) rfl (len := 68) (fun _ => rfl) (fun u7 h => ?_)
        refine bs_goto C (bf_dk dd_X8_report 19 rfl) (tgt := 43) rfl ?_
        refine bs_aload_n C (bf_dk dd_X8_report 23 rfl) rfl ?_
        refine bs_get C (bf_dk dd_X8_report 24 rfl) cl_8 in_8 8 (Nat.le_of_ble_eq_true rfl) rfl f_8_61 (ge_bW8_0 u7) rfl ?_
        refine bs_get C (bf_dk dd_X8_report 25 rfl) cl_5 in_5 1 (Nat.le_of_ble_eq_true rfl) rfl f_8_371 (ge_bW8_66 u7) rfl ?_
        exact bs_iret (u := u7) C (bf_dk dd_X8_report 26 rfl) rfl h
    · replace h := h.2 c
      refine bs_iconst C (bf_dk dd_X8_report 8 rfl) (-1 : Int32) (by decide) ?_
      exact bs_iret (u := S) C (bf_dk dd_X8_report 9 rfl) rfl h
theorem c_X8_report (l : Launch) (dC : Nat → ClassId) (dI : Nat → Nat → Nat) (ac : Nat → ClassId) (al : Nat → Nat) (S : bT8) (a1 : Int32) (Q : Int32 → (bT8) → Prop) (h : wp_X8_report S a1 Q) : bf_M l yX8_report cX8_report 2 (some .int) 5 111 dC dI ac al [.ref 0, .int a1] (bW8 S) (bf_Ki dC dI ac al bW8 Q) := by
  refine bf_start [some (.ref 0), some (.int a1)] (by decide) (Nat.le_of_ble_eq_true rfl) (bf_s1 (bf_s1 bf_s0)) ?_
  intro X hl C hR e1 e2 e3 e4
  subst e1; subst e2; subst e3; subst e4
  exact t_X8_report C hR S a1 Q h
def wp_X8_sign (S : bT8) (a1 : Int32) (Q : Int32 → Prop) : Prop := (wp_X5_signAt (b8g_text S) (a1) (fun r1 => (Q r1)))
set_option maxRecDepth 20000 in
theorem t_X8_sign {X : bf_X} (C : bf_C X RX8 cX8_sign 2 (some .int)) (hR : bf_Rm X 1 21) (S : bT8) (a1 : Int32) (Q : Int32 → Prop) (h : wp_X8_sign S a1 Q) : bf_A X (bf_Zi X bW8 (fun r u => u = S ∧ Q r)) 2 0 [some (.ref 0), some (.int a1)] [] (bW8 S) := by
  unfold wp_X8_sign at h
  refine bs_aload_n C (bf_dk dd_X8_sign 0 rfl) rfl ?_
  refine bs_get C (bf_dk dd_X8_sign 1 rfl) cl_8 in_8 8 (Nat.le_of_ble_eq_true rfl) rfl f_8_61 (ge_bW8_0 S) rfl ?_
  refine bs_iload_n C (bf_dk dd_X8_sign 2 rfl) rfl ?_
  refine bs_pureV_i (ps := [66, 67]) (w := (bW8 S)) C hR (c_X5_signAt _ _ _ _ _ (b8g_text S) (a1) _ h) my_X5_signAt m_8_380 rfl cl_5 (ge_bW5_0 _) rfl (Nat.le_of_ble_eq_true rfl) (Nat.le_of_ble_eq_true rfl) (su_bW8_66_bW5 S) rfl (st := []) (Nat.le_of_ble_eq_true rfl) (bf_dk dd_X8_sign 3 rfl) rfl (fun _ => rfl) (fun r1 h => ?_)
  exact bs_iret (u := S) C (bf_dk dd_X8_sign 4 rfl) rfl ⟨rfl, h⟩
theorem c_X8_sign (l : Launch) (dC : Nat → ClassId) (dI : Nat → Nat → Nat) (ac : Nat → ClassId) (al : Nat → Nat) (S : bT8) (a1 : Int32) (Q : Int32 → Prop) (h : wp_X8_sign S a1 Q) : bf_M l yX8_sign cX8_sign 2 (some .int) 1 21 dC dI ac al [.ref 0, .int a1] (bW8 S) (bf_Ki dC dI ac al bW8 (fun r u => u = S ∧ Q r)) := by
  refine bf_start [some (.ref 0), some (.int a1)] (by decide) (Nat.le_of_ble_eq_true rfl) (bf_s1 (bf_s1 bf_s0)) ?_
  intro X hl C hR e1 e2 e3 e4
  subst e1; subst e2; subst e3; subst e4
  exact t_X8_sign C hR S a1 Q h
def wp_X8_image (S : bT8) (a1 : Int32) (Q : Int32 → (bT8) → Prop) : Prop := ((a1 = 0 → (((b8g_isKept S) = 0 → (bf_bool (b8g_isKept S) ∧ Q (b8g_isKept S) S)) ∧ (¬ (b8g_isKept S) = 0 → (wp_X2_copyFrom ((b8g_now S), (b8g_kept S)) (fun u2 => (∀ S3 : bT8, S3 = (b8s_kept (b8s_now S u2.1) u2.2) → (wp_X8_rebuild S3 (fun u5 => (bf_bool (b8g_isKept u5) ∧ Q (b8g_isKept u5) u5))))))))) ∧ (¬ a1 = 0 → (wp_X2_copyFrom ((b8g_kept S), (b8g_now S)) (fun u7 => (∀ S8 : bT8, S8 = (b8s_now (b8s_kept S u7.1) u7.2) → (∀ S9 : bT8, S9 = (b8s_isKept S8 (1 : Int32)) → (bf_bool (b8g_isKept S9) ∧ Q (b8g_isKept S9) S9)))))))
set_option maxRecDepth 20000 in
theorem t_X8_image {X : bf_X} (C : bf_C X RX8 cX8_image 2 (some .boolean)) (hR : bf_Rm X 6 136) (S : bT8) (a1 : Int32) (Q : Int32 → (bT8) → Prop) (h : wp_X8_image S a1 Q) : bf_A X (bf_Zi X bW8 Q) 2 0 [some (.ref 0), some (.int a1)] [] (bW8 S) := by
  unfold wp_X8_image at h
  refine bs_iload_n C (bf_dk dd_X8_image 0 rfl) rfl ?_
  refine bs_if_eq C (bf_dk dd_X8_image 1 rfl) (tgt := 23) rfl (fun c => ?_) (fun c => ?_)
  · replace h := h.1 c
    refine bs_aload_n C (bf_dk dd_X8_image 11 rfl) rfl ?_
    refine bs_get C (bf_dk dd_X8_image 12 rfl) cl_8 in_8 2 (Nat.le_of_ble_eq_true rfl) rfl f_8_19 (ge_bW8_0 S) rfl ?_
    refine bs_if_eq C (bf_dk dd_X8_image 13 rfl) (tgt := 45) rfl (fun c => ?_) (fun c => ?_)
    · replace h := h.1 c
      refine bs_aload_n C (bf_dk dd_X8_image 21 rfl) rfl ?_
      refine bs_get C (bf_dk dd_X8_image 22 rfl) cl_8 in_8 2 (Nat.le_of_ble_eq_true rfl) rfl f_8_19 (ge_bW8_0 S) rfl ?_
      obtain ⟨hi, h⟩ := h
      exact bs_zret (u := S) C (bf_dk dd_X8_image 23 rfl) hi rfl h
    · replace h := h.2 c
      refine bs_aload_n C (bf_dk dd_X8_image 14 rfl) rfl ?_
      refine bs_get C (bf_dk dd_X8_image 15 rfl) cl_8 in_8 0 (Nat.le_of_ble_eq_true rfl) rfl f_8_12 (ge_bW8_0 S) rfl ?_
      refine bs_aload_n C (bf_dk dd_X8_image 16 rfl) rfl ?_
      refine bs_get C (bf_dk dd_X8_image 17 rfl) cl_8 in_8 1 (Nat.le_of_ble_eq_true rfl) rfl f_8_16 (ge_bW8_0 S) rfl ?_
      refine bs_callV_v (ps := [1, 2, 3, 4, 5, 6, 7, 8, 9, 10, 11, 12, 13, 14, 15, 16, 17, 18, 19, 20, 21, 22, 23, 24, 25, 26, 27, 28, 29, 30]) (w := (bW8 S)) C hR (c_X2_copyFrom _ _ _ _ _ ((b8g_now S), (b8g_kept S)) _ h) my_X2_copyFrom m_8_383 rfl cl_2 (ge_bW2_2_0 _) rfl (Nat.le_of_ble_eq_true rfl) (Nat.le_of_ble_eq_true rfl) (su_bW8_1_16_bW2_2 S) bnd_1t30 (st := []) (Nat.le_of_ble_eq_true rfl) (bf_dk dd_X8_image 18 rfl) rfl (fun _ => rfl) (w2 := fun u2 => bW8 (b8s_kept (b8s_now S u2.1) u2.2)) (pt_bW8_1_16_bW2_2 S) (fun u2 h => ?_)
      refine bs_nameS bW8 (fun S3 eS3 => ?_)
      replace h := h S3 eS3
      refine bs_aload_n C (bf_dk dd_X8_image 19 rfl) rfl ?_
      refine bs_selfV_v C hR (c_X8_rebuild _ _ _ _ _ S3 _ h) my_X8_rebuild m_8_69 rfl cl_8 (ge_bW8_0 _) rfl (Nat.le_of_ble_eq_true rfl) (Nat.le_of_ble_eq_true rfl) (st := []) (Nat.le_of_ble_eq_true rfl) (bf_dk dd_X8_image 20 rfl) rfl (len := 68) (fun _ => rfl) (fun u5 h => ?_)
      refine bs_aload_n C (bf_dk dd_X8_image 21 rfl) rfl ?_
      refine bs_get C (bf_dk dd_X8_image 22 rfl) cl_8 in_8 2 (Nat.le_of_ble_eq_true rfl) rfl f_8_19 (ge_bW8_0 u5) rfl ?_
      obtain ⟨hi, h⟩ := h
      exact bs_zret (u := u5) C (bf_dk dd_X8_image 23 rfl) hi rfl h
  · replace h := h.2 c
    refine bs_aload_n C (bf_dk dd_X8_image 2 rfl) rfl ?_
    refine bs_get C (bf_dk dd_X8_image 3 rfl) cl_8 in_8 1 (Nat.le_of_ble_eq_true rfl) rfl f_8_16 (ge_bW8_0 S) rfl ?_
    refine bs_aload_n C (bf_dk dd_X8_image 4 rfl) rfl ?_
    refine bs_get C (bf_dk dd_X8_image 5 rfl) cl_8 in_8 0 (Nat.le_of_ble_eq_true rfl) rfl f_8_12 (ge_bW8_0 S) rfl ?_
    refine bs_callV_v (ps := [16, 17, 18, 19, 20, 21, 22, 23, 24, 25, 26, 27, 28, 29, 30, 1, 2, 3, 4, 5, 6, 7, 8, 9, 10, 11, 12, 13, 14, 15]) (w := (bW8 S)) C hR (c_X2_copyFrom _ _ _ _ _ ((b8g_kept S), (b8g_now S)) _ h) my_X2_copyFrom m_8_383 rfl cl_2 (ge_bW2_2_0 _) rfl (Nat.le_of_ble_eq_true rfl) (Nat.le_of_ble_eq_true rfl) (su_bW8_16_1_bW2_2 S) bnd_16t30_1t15 (st := []) (Nat.le_of_ble_eq_true rfl) (bf_dk dd_X8_image 6 rfl) rfl (fun _ => rfl) (w2 := fun u7 => bW8 (b8s_now (b8s_kept S u7.1) u7.2)) (pt_bW8_16_1_bW2_2 S) (fun u7 h => ?_)
    refine bs_nameS bW8 (fun S8 eS8 => ?_)
    replace h := h S8 eS8
    refine bs_aload_n C (bf_dk dd_X8_image 7 rfl) rfl ?_
    refine bs_iconst C (bf_dk dd_X8_image 8 rfl) (1 : Int32) (by decide) ?_
    refine bs_put C (bf_dk dd_X8_image 9 rfl) tyX8_ok nmX8 cl_8 in_8 2 (Nat.le_of_ble_eq_true rfl) rfl f_8_19 rfl (ge_bW8_0 S8) (Nat.le_of_ble_eq_true rfl) rfl rfl (pu_bW8_0_2 S8 (1 : Int32)) ?_
    refine bs_nameS bW8 (fun S9 eS9 => ?_)
    replace h := h S9 eS9
    refine bs_goto C (bf_dk dd_X8_image 10 rfl) (tgt := 45) rfl ?_
    refine bs_aload_n C (bf_dk dd_X8_image 21 rfl) rfl ?_
    refine bs_get C (bf_dk dd_X8_image 22 rfl) cl_8 in_8 2 (Nat.le_of_ble_eq_true rfl) rfl f_8_19 (ge_bW8_0 S9) rfl ?_
    obtain ⟨hi, h⟩ := h
    exact bs_zret (u := S9) C (bf_dk dd_X8_image 23 rfl) hi rfl h
theorem c_X8_image (l : Launch) (dC : Nat → ClassId) (dI : Nat → Nat → Nat) (ac : Nat → ClassId) (al : Nat → Nat) (S : bT8) (a1 : Int32) (Q : Int32 → (bT8) → Prop) (h : wp_X8_image S a1 Q) : bf_M l yX8_image cX8_image 2 (some .boolean) 6 136 dC dI ac al [.ref 0, .int a1] (bW8 S) (bf_Ki dC dI ac al bW8 Q) := by
  refine bf_start [some (.ref 0), some (.int a1)] (by decide) (Nat.le_of_ble_eq_true rfl) (bf_s1 (bf_s1 bf_s0)) ?_
  intro X hl C hR e1 e2 e3 e4
  subst e1; subst e2; subst e3; subst e4
  exact t_X8_image C hR S a1 Q h
def wp_X8_look (S : bT8) (a1 : Int32) (Q : Int32 → Prop) : Prop := ((((a1).toInt < 6 ∨ 20 < (a1).toInt) → ((a1 < 0 → (Q (-100000000 : Int32))) ∧ (¬ a1 < 0 → (((6 : Int32) ≤ a1 → (Q (-100000000 : Int32))) ∧ (¬ (6 : Int32) ≤ a1 → (wp_X8_at 6 (b3g_values (b2g_told (b8g_now S))) (a1) (fun r1 => (Q r1)))))))) ∧ (a1 = (6 : Int32) → (Q (b3g_mode (b2g_told (b8g_now S))))) ∧ (a1 = (7 : Int32) → (Q (b2g_draws (b8g_now S)))) ∧ (a1 = (8 : Int32) → (Q (b0g_count (b3g_members (b2g_told (b8g_now S)))))) ∧ (a1 = (9 : Int32) → (wp_X1_count (b8g_leaves S) (fun r3 => (Q r3)))) ∧ (a1 = (10 : Int32) → (Q (b6g_nodes (b8g_tree S)))) ∧ (a1 = (11 : Int32) → (Q (b6g_levels (b8g_tree S)))) ∧ (a1 = (12 : Int32) → (Q (b6g_upper (b8g_tree S)))) ∧ (a1 = (13 : Int32) → (Q (b6g_upperNodes (b8g_tree S)))) ∧ (a1 = (14 : Int32) → (wp_X6_items (b8g_tree S) (fun r5 => (Q r5)))) ∧ (a1 = (15 : Int32) → (Q (b1g_hashBits (b8g_leaves S)))) ∧ (a1 = (16 : Int32) → (Q (b1g_realBits (b8g_leaves S)))) ∧ (a1 = (17 : Int32) → (Q (b0g_count (b2g_questions (b8g_now S))))) ∧ (a1 = (18 : Int32) → (Q (b4g_count (b8g_tape S)))) ∧ (a1 = (19 : Int32) → (wp_X1_allEnded (b8g_leaves S) (fun r7 => (Q r7)))) ∧ (a1 = (20 : Int32) → (wp_X1_allBytes (b8g_leaves S) (fun r9 => (Q r9)))))
set_option maxRecDepth 20000 in
theorem t_X8_look {X : bf_X} (C : bf_C X RX8 cX8_look 2 (some .int)) (hR : bf_Rm X 3 64) (S : bT8) (a1 : Int32) (Q : Int32 → Prop) (h : wp_X8_look S a1 Q) : bf_A X (bf_Zi X bW8 (fun r u => u = S ∧ Q r)) 2 0 [some (.ref 0), some (.int a1)] [] (bW8 S) := by
  unfold wp_X8_look at h
  refine bs_iload_n C (bf_dk dd_X8_look 0 rfl) rfl ?_
  refine bs_table C (tdef := 208) (fun k => List.getD [76, 87, 95, 109, 117, 125, 133, 141, 149, 157, 165, 173, 184, 192, 200] k 0) 15 (bf_dk dd_X8_look 1 rfl) rfl rfl (fun k hk => by rcases (show k = 0 ∨ k = 1 ∨ k = 2 ∨ k = 3 ∨ k = 4 ∨ k = 5 ∨ k = 6 ∨ k = 7 ∨ k = 8 ∨ k = 9 ∨ k = 10 ∨ k = 11 ∨ k = 12 ∨ k = 13 ∨ k = 14 by omega) with rfl | rfl | rfl | rfl | rfl | rfl | rfl | rfl | rfl | rfl | rfl | rfl | rfl | rfl | rfl <;> exact ⟨_, rfl, rfl⟩) (fun c => ?_) (fun k hk c => ?_)
  · replace h := h.1 c
    refine bs_iload_n C (bf_dk dd_X8_look 66 rfl) rfl ?_
    refine bs_if_lt C (bf_dk dd_X8_look 67 rfl) (tgt := 235) rfl (fun c => ?_) (fun c => ?_)
    · replace h := h.1 c
      refine bs_ldcw C (bf_dk dd_X8_look 78 rfl) k_8_392 ?_
      exact bs_iret (u := S) C (bf_dk dd_X8_look 79 rfl) rfl ⟨rfl, h⟩
    · replace h := h.2 c
      refine bs_iload_n C (bf_dk dd_X8_look 68 rfl) rfl ?_
      refine bs_bipush C (bf_dk dd_X8_look 69 rfl) (6 : Int32) (by decide) ?_
      refine bs_icmp_ge C (bf_dk dd_X8_look 70 rfl) (tgt := 235) rfl (fun c => ?_) (fun c => ?_)
      · replace h := h.1 c
        refine bs_ldcw C (bf_dk dd_X8_look 78 rfl) k_8_392 ?_
        exact bs_iret (u := S) C (bf_dk dd_X8_look 79 rfl) rfl ⟨rfl, h⟩
      · replace h := h.2 c
        refine bs_aload_n C (bf_dk dd_X8_look 71 rfl) rfl ?_
        refine bs_get C (bf_dk dd_X8_look 72 rfl) cl_8 in_8 0 (Nat.le_of_ble_eq_true rfl) rfl f_8_12 (ge_bW8_0 S) rfl ?_
        refine bs_get C (bf_dk dd_X8_look 73 rfl) cl_2 in_2 0 (Nat.le_of_ble_eq_true rfl) rfl f_8_87 (ge_bW8_1 S) rfl ?_
        refine bs_get C (bf_dk dd_X8_look 74 rfl) cl_3 in_3 1 (Nat.le_of_ble_eq_true rfl) rfl f_8_122 (ge_bW8_2 S) rfl ?_
        refine bs_iload_n C (bf_dk dd_X8_look 75 rfl) rfl ?_
        refine bs_pureS_i (ps := [6]) (w := (bW8 S)) C hR (c_X8_at _ _ _ _ _ 6 (b3g_values (b2g_told (b8g_now S))) (a1) _ h) my_X8_at m_8_115 rfl (Nat.le_of_ble_eq_true rfl) (Nat.le_of_ble_eq_true rfl) (su_bW8_6_bWan6 S) rfl (st := []) (Nat.le_of_ble_eq_true rfl) (bf_dk dd_X8_look 76 rfl) rfl (fun _ => rfl) (fun r1 h => ?_)
        refine bs_goto C (bf_dk dd_X8_look 77 rfl) (tgt := 238) rfl ?_
        exact bs_iret (u := S) C (bf_dk dd_X8_look 79 rfl) rfl ⟨rfl, h⟩
  · rcases (show k = 0 ∨ k = 1 ∨ k = 2 ∨ k = 3 ∨ k = 4 ∨ k = 5 ∨ k = 6 ∨ k = 7 ∨ k = 8 ∨ k = 9 ∨ k = 10 ∨ k = 11 ∨ k = 12 ∨ k = 13 ∨ k = 14 by omega) with rfl | rfl | rfl | rfl | rfl | rfl | rfl | rfl | rfl | rfl | rfl | rfl | rfl | rfl | rfl
    · replace h := h.2.1 (bf_i32 c (by decide))
      refine bs_aload_n C (bf_dk dd_X8_look 2 rfl) rfl ?_
      refine bs_get C (bf_dk dd_X8_look 3 rfl) cl_8 in_8 0 (Nat.le_of_ble_eq_true rfl) rfl f_8_12 (ge_bW8_0 S) rfl ?_
      refine bs_get C (bf_dk dd_X8_look 4 rfl) cl_2 in_2 0 (Nat.le_of_ble_eq_true rfl) rfl f_8_87 (ge_bW8_1 S) rfl ?_
      refine bs_get C (bf_dk dd_X8_look 5 rfl) cl_3 in_3 2 (Nat.le_of_ble_eq_true rfl) rfl f_8_91 (ge_bW8_2 S) rfl ?_
      exact bs_iret (u := S) C (bf_dk dd_X8_look 6 rfl) rfl ⟨rfl, h⟩
    · replace h := h.2.2.1 (bf_i32 c (by decide))
      refine bs_aload_n C (bf_dk dd_X8_look 7 rfl) rfl ?_
      refine bs_get C (bf_dk dd_X8_look 8 rfl) cl_8 in_8 0 (Nat.le_of_ble_eq_true rfl) rfl f_8_12 (ge_bW8_0 S) rfl ?_
      refine bs_get C (bf_dk dd_X8_look 9 rfl) cl_2 in_2 4 (Nat.le_of_ble_eq_true rfl) rfl f_8_125 (ge_bW8_1 S) rfl ?_
      exact bs_iret (u := S) C (bf_dk dd_X8_look 10 rfl) rfl ⟨rfl, h⟩
    · replace h := h.2.2.2.1 (bf_i32 c (by decide))
      refine bs_aload_n C (bf_dk dd_X8_look 11 rfl) rfl ?_
      refine bs_get C (bf_dk dd_X8_look 12 rfl) cl_8 in_8 0 (Nat.le_of_ble_eq_true rfl) rfl f_8_12 (ge_bW8_0 S) rfl ?_
      refine bs_get C (bf_dk dd_X8_look 13 rfl) cl_2 in_2 0 (Nat.le_of_ble_eq_true rfl) rfl f_8_87 (ge_bW8_1 S) rfl ?_
      refine bs_get C (bf_dk dd_X8_look 14 rfl) cl_3 in_3 0 (Nat.le_of_ble_eq_true rfl) rfl f_8_99 (ge_bW8_2 S) rfl ?_
      refine bs_get C (bf_dk dd_X8_look 15 rfl) cl_0 in_0 2 (Nat.le_of_ble_eq_true rfl) rfl f_8_110 (ge_bW8_3 S) rfl ?_
      exact bs_iret (u := S) C (bf_dk dd_X8_look 16 rfl) rfl ⟨rfl, h⟩
    · replace h := h.2.2.2.2.1 (bf_i32 c (by decide))
      refine bs_aload_n C (bf_dk dd_X8_look 17 rfl) rfl ?_
      refine bs_get C (bf_dk dd_X8_look 18 rfl) cl_8 in_8 3 (Nat.le_of_ble_eq_true rfl) rfl f_8_26 (ge_bW8_0 S) rfl ?_
      refine bs_pureV_i (ps := [31, 32, 33, 34, 35, 36, 37, 38, 39, 40, 41, 42, 43, 44]) (w := (bW8 S)) C hR (c_X1_count _ _ _ _ _ (b8g_leaves S) _ h) my_X1_count m_8_160 rfl cl_1 (ge_bW1_0 _) rfl (Nat.le_of_ble_eq_true rfl) (Nat.le_of_ble_eq_true rfl) (su_bW8_31_bW1 S) bnd_31t44 (st := []) (Nat.le_of_ble_eq_true rfl) (bf_dk dd_X8_look 19 rfl) rfl (fun _ => rfl) (fun r3 h => ?_)
      exact bs_iret (u := S) C (bf_dk dd_X8_look 20 rfl) rfl ⟨rfl, h⟩
    · replace h := h.2.2.2.2.2.1 (bf_i32 c (by decide))
      refine bs_aload_n C (bf_dk dd_X8_look 21 rfl) rfl ?_
      refine bs_get C (bf_dk dd_X8_look 22 rfl) cl_8 in_8 4 (Nat.le_of_ble_eq_true rfl) rfl f_8_33 (ge_bW8_0 S) rfl ?_
      refine bs_get C (bf_dk dd_X8_look 23 rfl) cl_6 in_6 12 (Nat.le_of_ble_eq_true rfl) rfl f_8_228 (ge_bW8_45 S) rfl ?_
      exact bs_iret (u := S) C (bf_dk dd_X8_look 24 rfl) rfl ⟨rfl, h⟩
    · replace h := h.2.2.2.2.2.2.1 (bf_i32 c (by decide))
      refine bs_aload_n C (bf_dk dd_X8_look 25 rfl) rfl ?_
      refine bs_get C (bf_dk dd_X8_look 26 rfl) cl_8 in_8 4 (Nat.le_of_ble_eq_true rfl) rfl f_8_33 (ge_bW8_0 S) rfl ?_
      refine bs_get C (bf_dk dd_X8_look 27 rfl) cl_6 in_6 15 (Nat.le_of_ble_eq_true rfl) rfl f_8_256 (ge_bW8_45 S) rfl ?_
      exact bs_iret (u := S) C (bf_dk dd_X8_look 28 rfl) rfl ⟨rfl, h⟩
    · replace h := h.2.2.2.2.2.2.2.1 (bf_i32 c (by decide))
      refine bs_aload_n C (bf_dk dd_X8_look 29 rfl) rfl ?_
      refine bs_get C (bf_dk dd_X8_look 30 rfl) cl_8 in_8 4 (Nat.le_of_ble_eq_true rfl) rfl f_8_33 (ge_bW8_0 S) rfl ?_
      refine bs_get C (bf_dk dd_X8_look 31 rfl) cl_6 in_6 16 (Nat.le_of_ble_eq_true rfl) rfl f_8_265 (ge_bW8_45 S) rfl ?_
      exact bs_iret (u := S) C (bf_dk dd_X8_look 32 rfl) rfl ⟨rfl, h⟩
    · replace h := h.2.2.2.2.2.2.2.2.1 (bf_i32 c (by decide))
      refine bs_aload_n C (bf_dk dd_X8_look 33 rfl) rfl ?_
      refine bs_get C (bf_dk dd_X8_look 34 rfl) cl_8 in_8 4 (Nat.le_of_ble_eq_true rfl) rfl f_8_33 (ge_bW8_0 S) rfl ?_
      refine bs_get C (bf_dk dd_X8_look 35 rfl) cl_6 in_6 17 (Nat.le_of_ble_eq_true rfl) rfl f_8_244 (ge_bW8_45 S) rfl ?_
      exact bs_iret (u := S) C (bf_dk dd_X8_look 36 rfl) rfl ⟨rfl, h⟩
    · replace h := h.2.2.2.2.2.2.2.2.2.1 (bf_i32 c (by decide))
      refine bs_aload_n C (bf_dk dd_X8_look 37 rfl) rfl ?_
      refine bs_get C (bf_dk dd_X8_look 38 rfl) cl_8 in_8 4 (Nat.le_of_ble_eq_true rfl) rfl f_8_33 (ge_bW8_0 S) rfl ?_
      refine bs_pureV_i (ps := [45, 46, 47, 48, 49, 50, 51, 52, 53, 54, 55, 56, 57]) (w := (bW8 S)) C hR (c_X6_items _ _ _ _ _ (b8g_tree S) _ h) my_X6_items m_8_271 rfl cl_6 (ge_bW6_0 _) rfl (Nat.le_of_ble_eq_true rfl) (Nat.le_of_ble_eq_true rfl) (su_bW8_45_bW6 S) bnd_45t57 (st := []) (Nat.le_of_ble_eq_true rfl) (bf_dk dd_X8_look 39 rfl) rfl (fun _ => rfl) (fun r5 h => ?_)
      exact bs_iret (u := S) C (bf_dk dd_X8_look 40 rfl) rfl ⟨rfl, h⟩
    · replace h := h.2.2.2.2.2.2.2.2.2.2.1 (bf_i32 c (by decide))
      refine bs_aload_n C (bf_dk dd_X8_look 41 rfl) rfl ?_
      refine bs_get C (bf_dk dd_X8_look 42 rfl) cl_8 in_8 3 (Nat.le_of_ble_eq_true rfl) rfl f_8_26 (ge_bW8_0 S) rfl ?_
      refine bs_get C (bf_dk dd_X8_look 43 rfl) cl_1 in_1 7 (Nat.le_of_ble_eq_true rfl) rfl f_8_386 (ge_bW8_31 S) rfl ?_
      exact bs_iret (u := S) C (bf_dk dd_X8_look 44 rfl) rfl ⟨rfl, h⟩
    · replace h := h.2.2.2.2.2.2.2.2.2.2.2.1 (bf_i32 c (by decide))
      refine bs_aload_n C (bf_dk dd_X8_look 45 rfl) rfl ?_
      refine bs_get C (bf_dk dd_X8_look 46 rfl) cl_8 in_8 3 (Nat.le_of_ble_eq_true rfl) rfl f_8_26 (ge_bW8_0 S) rfl ?_
      refine bs_get C (bf_dk dd_X8_look 47 rfl) cl_1 in_1 8 (Nat.le_of_ble_eq_true rfl) rfl f_8_387 (ge_bW8_31 S) rfl ?_
      exact bs_iret (u := S) C (bf_dk dd_X8_look 48 rfl) rfl ⟨rfl, h⟩
    · replace h := h.2.2.2.2.2.2.2.2.2.2.2.2.1 (bf_i32 c (by decide))
      refine bs_aload_n C (bf_dk dd_X8_look 49 rfl) rfl ?_
      refine bs_get C (bf_dk dd_X8_look 50 rfl) cl_8 in_8 0 (Nat.le_of_ble_eq_true rfl) rfl f_8_12 (ge_bW8_0 S) rfl ?_
      refine bs_get C (bf_dk dd_X8_look 51 rfl) cl_2 in_2 2 (Nat.le_of_ble_eq_true rfl) rfl f_8_333 (ge_bW8_1 S) rfl ?_
      refine bs_get C (bf_dk dd_X8_look 52 rfl) cl_0 in_0 2 (Nat.le_of_ble_eq_true rfl) rfl f_8_110 (ge_bW8_12 S) rfl ?_
      exact bs_iret (u := S) C (bf_dk dd_X8_look 53 rfl) rfl ⟨rfl, h⟩
    · replace h := h.2.2.2.2.2.2.2.2.2.2.2.2.2.1 (bf_i32 c (by decide))
      refine bs_aload_n C (bf_dk dd_X8_look 54 rfl) rfl ?_
      refine bs_get C (bf_dk dd_X8_look 55 rfl) cl_8 in_8 7 (Nat.le_of_ble_eq_true rfl) rfl f_8_54 (ge_bW8_0 S) rfl ?_
      refine bs_get C (bf_dk dd_X8_look 56 rfl) cl_4 in_4 1 (Nat.le_of_ble_eq_true rfl) rfl f_8_72 (ge_bW8_64 S) rfl ?_
      exact bs_iret (u := S) C (bf_dk dd_X8_look 57 rfl) rfl ⟨rfl, h⟩
    · replace h := h.2.2.2.2.2.2.2.2.2.2.2.2.2.2.1 (bf_i32 c (by decide))
      refine bs_aload_n C (bf_dk dd_X8_look 58 rfl) rfl ?_
      refine bs_get C (bf_dk dd_X8_look 59 rfl) cl_8 in_8 3 (Nat.le_of_ble_eq_true rfl) rfl f_8_26 (ge_bW8_0 S) rfl ?_
      refine bs_pureV_i (ps := [31, 32, 33, 34, 35, 36, 37, 38, 39, 40, 41, 42, 43, 44]) (w := (bW8 S)) C hR (c_X1_allEnded _ _ _ _ _ (b8g_leaves S) _ h) my_X1_allEnded m_8_388 rfl cl_1 (ge_bW1_0 _) rfl (Nat.le_of_ble_eq_true rfl) (Nat.le_of_ble_eq_true rfl) (su_bW8_31_bW1 S) bnd_31t44 (st := []) (Nat.le_of_ble_eq_true rfl) (bf_dk dd_X8_look 60 rfl) rfl (fun _ => rfl) (fun r7 h => ?_)
      exact bs_iret (u := S) C (bf_dk dd_X8_look 61 rfl) rfl ⟨rfl, h⟩
    · replace h := h.2.2.2.2.2.2.2.2.2.2.2.2.2.2.2 (bf_i32 c (by decide))
      refine bs_aload_n C (bf_dk dd_X8_look 62 rfl) rfl ?_
      refine bs_get C (bf_dk dd_X8_look 63 rfl) cl_8 in_8 3 (Nat.le_of_ble_eq_true rfl) rfl f_8_26 (ge_bW8_0 S) rfl ?_
      refine bs_pureV_i (ps := [31, 32, 33, 34, 35, 36, 37, 38, 39, 40, 41, 42, 43, 44]) (w := (bW8 S)) C hR (c_X1_allBytes _ _ _ _ _ (b8g_leaves S) _ h) my_X1_allBytes m_8_391 rfl cl_1 (ge_bW1_0 _) rfl (Nat.le_of_ble_eq_true rfl) (Nat.le_of_ble_eq_true rfl) (su_bW8_31_bW1 S) bnd_31t44 (st := []) (Nat.le_of_ble_eq_true rfl) (bf_dk dd_X8_look 64 rfl) rfl (fun _ => rfl) (fun r9 h => ?_)
      exact bs_iret (u := S) C (bf_dk dd_X8_look 65 rfl) rfl ⟨rfl, h⟩
theorem c_X8_look (l : Launch) (dC : Nat → ClassId) (dI : Nat → Nat → Nat) (ac : Nat → ClassId) (al : Nat → Nat) (S : bT8) (a1 : Int32) (Q : Int32 → Prop) (h : wp_X8_look S a1 Q) : bf_M l yX8_look cX8_look 2 (some .int) 3 64 dC dI ac al [.ref 0, .int a1] (bW8 S) (bf_Ki dC dI ac al bW8 (fun r u => u = S ∧ Q r)) := by
  refine bf_start [some (.ref 0), some (.int a1)] (by decide) (Nat.le_of_ble_eq_true rfl) (bf_s1 (bf_s1 bf_s0)) ?_
  intro X hl C hR e1 e2 e3 e4
  subst e1; subst e2; subst e3; subst e4
  exact t_X8_look C hR S a1 Q h
def wp_X9_isIn (S : bT9) (a1 : Int32) (a2 : Int32) (a3 : Int32) (Q : Int32 → Prop) : Prop := ((a1 < a2 → (bf_bool (0 : Int32) ∧ Q (0 : Int32))) ∧ (¬ a1 < a2 → ((a3 < a1 → (bf_bool (0 : Int32) ∧ Q (0 : Int32))) ∧ (¬ a3 < a1 → (bf_bool (1 : Int32) ∧ Q (1 : Int32))))))
set_option maxRecDepth 20000 in
theorem t_X9_isIn {X : bf_X} (C : bf_C X RX9 cX9_isIn 4 (some .boolean)) (hR : bf_Rm X 0 0) (S : bT9) (a1 : Int32) (a2 : Int32) (a3 : Int32) (Q : Int32 → Prop) (h : wp_X9_isIn S a1 a2 a3 Q) : bf_A X (bf_Zi X bW9 (fun r u => u = S ∧ Q r)) 4 0 [some (.ref 0), some (.int a1), some (.int a2), some (.int a3)] [] (bW9 S) := by
  unfold wp_X9_isIn at h
  refine bs_iload_n C (bf_dk dd_X9_isIn 0 rfl) rfl ?_
  refine bs_iload_n C (bf_dk dd_X9_isIn 1 rfl) rfl ?_
  refine bs_icmp_lt C (bf_dk dd_X9_isIn 2 rfl) (tgt := 14) rfl (fun c => ?_) (fun c => ?_)
  · replace h := h.1 c
    refine bs_iconst C (bf_dk dd_X9_isIn 8 rfl) (0 : Int32) (by decide) ?_
    obtain ⟨hi, h⟩ := h
    exact bs_zret (u := S) C (bf_dk dd_X9_isIn 9 rfl) hi rfl ⟨rfl, h⟩
  · replace h := h.2 c
    refine bs_iload_n C (bf_dk dd_X9_isIn 3 rfl) rfl ?_
    refine bs_iload_n C (bf_dk dd_X9_isIn 4 rfl) rfl ?_
    refine bs_icmp_gt C (bf_dk dd_X9_isIn 5 rfl) (tgt := 14) rfl (fun c => ?_) (fun c => ?_)
    · replace h := h.1 c
      refine bs_iconst C (bf_dk dd_X9_isIn 8 rfl) (0 : Int32) (by decide) ?_
      obtain ⟨hi, h⟩ := h
      exact bs_zret (u := S) C (bf_dk dd_X9_isIn 9 rfl) hi rfl ⟨rfl, h⟩
    · replace h := h.2 c
      refine bs_iconst C (bf_dk dd_X9_isIn 6 rfl) (1 : Int32) (by decide) ?_
      refine bs_goto C (bf_dk dd_X9_isIn 7 rfl) (tgt := 15) rfl ?_
      obtain ⟨hi, h⟩ := h
      exact bs_zret (u := S) C (bf_dk dd_X9_isIn 9 rfl) hi rfl ⟨rfl, h⟩
theorem c_X9_isIn (l : Launch) (dC : Nat → ClassId) (dI : Nat → Nat → Nat) (ac : Nat → ClassId) (al : Nat → Nat) (S : bT9) (a1 : Int32) (a2 : Int32) (a3 : Int32) (Q : Int32 → Prop) (h : wp_X9_isIn S a1 a2 a3 Q) : bf_M l yX9_isIn cX9_isIn 4 (some .boolean) 0 0 dC dI ac al [.ref 0, .int a1, .int a2, .int a3] (bW9 S) (bf_Ki dC dI ac al bW9 (fun r u => u = S ∧ Q r)) := by
  refine bf_start [some (.ref 0), some (.int a1), some (.int a2), some (.int a3)] (by decide) (Nat.le_of_ble_eq_true rfl) (bf_s1 (bf_s1 (bf_s1 (bf_s1 bf_s0)))) ?_
  intro X hl C hR e1 e2 e3 e4
  subst e1; subst e2; subst e3; subst e4
  exact t_X9_isIn C hR S a1 a2 a3 Q h
def wp_X9_firstOf (S : bT9) (a1 : Int32) (Q : Int32 → Prop) : Prop := ((a1 = 0 → (Q (4 : Int32))) ∧ (¬ a1 = 0 → ((a1 = (1 : Int32) → (Q (4 : Int32))) ∧ (¬ a1 = (1 : Int32) → ((¬ a1 = (4 : Int32) → ((¬ a1 = (2 : Int32) → ((¬ a1 = (3 : Int32) → (Q (0 : Int32))) ∧ (a1 = (3 : Int32) → (Q (16 : Int32))))) ∧ (a1 = (2 : Int32) → (Q (9 : Int32))))) ∧ (a1 = (4 : Int32) → (Q (4 : Int32))))))))
set_option maxRecDepth 20000 in
theorem t_X9_firstOf {X : bf_X} (C : bf_C X RX9 cX9_firstOf 2 (some .int)) (hR : bf_Rm X 0 0) (S : bT9) (a1 : Int32) (Q : Int32 → Prop) (h : wp_X9_firstOf S a1 Q) : bf_A X (bf_Zi X bW9 (fun r u => u = S ∧ Q r)) 2 0 [some (.ref 0), some (.int a1)] [] (bW9 S) := by
  unfold wp_X9_firstOf at h
  refine bs_iload_n C (bf_dk dd_X9_firstOf 0 rfl) rfl ?_
  refine bs_if_eq C (bf_dk dd_X9_firstOf 1 rfl) (tgt := 14) rfl (fun c => ?_) (fun c => ?_)
  · replace h := h.1 c
    refine bs_iconst C (bf_dk dd_X9_firstOf 8 rfl) (4 : Int32) (by decide) ?_
    exact bs_iret (u := S) C (bf_dk dd_X9_firstOf 9 rfl) rfl ⟨rfl, h⟩
  · replace h := h.2 c
    refine bs_iload_n C (bf_dk dd_X9_firstOf 2 rfl) rfl ?_
    refine bs_iconst C (bf_dk dd_X9_firstOf 3 rfl) (1 : Int32) (by decide) ?_
    refine bs_icmp_eq C (bf_dk dd_X9_firstOf 4 rfl) (tgt := 14) rfl (fun c => ?_) (fun c => ?_)
    · replace h := h.1 c
      refine bs_iconst C (bf_dk dd_X9_firstOf 8 rfl) (4 : Int32) (by decide) ?_
      exact bs_iret (u := S) C (bf_dk dd_X9_firstOf 9 rfl) rfl ⟨rfl, h⟩
    · replace h := h.2 c
      refine bs_iload_n C (bf_dk dd_X9_firstOf 5 rfl) rfl ?_
      refine bs_iconst C (bf_dk dd_X9_firstOf 6 rfl) (4 : Int32) (by decide) ?_
      refine bs_icmp_ne C (bf_dk dd_X9_firstOf 7 rfl) (tgt := 16) rfl (fun c => ?_) (fun c => ?_)
      · replace h := h.1 c
        refine bs_iload_n C (bf_dk dd_X9_firstOf 10 rfl) rfl ?_
        refine bs_iconst C (bf_dk dd_X9_firstOf 11 rfl) (2 : Int32) (by decide) ?_
        refine bs_icmp_ne C (bf_dk dd_X9_firstOf 12 rfl) (tgt := 26) rfl (fun c => ?_) (fun c => ?_)
        · replace h := h.1 c
          refine bs_iload_n C (bf_dk dd_X9_firstOf 15 rfl) rfl ?_
          refine bs_iconst C (bf_dk dd_X9_firstOf 16 rfl) (3 : Int32) (by decide) ?_
          refine bs_icmp_ne C (bf_dk dd_X9_firstOf 17 rfl) (tgt := 36) rfl (fun c => ?_) (fun c => ?_)
          · replace h := h.1 c
            refine bs_iconst C (bf_dk dd_X9_firstOf 20 rfl) (0 : Int32) (by decide) ?_
            exact bs_iret (u := S) C (bf_dk dd_X9_firstOf 21 rfl) rfl ⟨rfl, h⟩
          · replace h := h.2 c
            refine bs_bipush C (bf_dk dd_X9_firstOf 18 rfl) (16 : Int32) (by decide) ?_
            refine bs_goto C (bf_dk dd_X9_firstOf 19 rfl) (tgt := 37) rfl ?_
            exact bs_iret (u := S) C (bf_dk dd_X9_firstOf 21 rfl) rfl ⟨rfl, h⟩
        · replace h := h.2 c
          refine bs_bipush C (bf_dk dd_X9_firstOf 13 rfl) (9 : Int32) (by decide) ?_
          refine bs_goto C (bf_dk dd_X9_firstOf 14 rfl) (tgt := 37) rfl ?_
          exact bs_iret (u := S) C (bf_dk dd_X9_firstOf 21 rfl) rfl ⟨rfl, h⟩
      · replace h := h.2 c
        refine bs_iconst C (bf_dk dd_X9_firstOf 8 rfl) (4 : Int32) (by decide) ?_
        exact bs_iret (u := S) C (bf_dk dd_X9_firstOf 9 rfl) rfl ⟨rfl, h⟩
theorem c_X9_firstOf (l : Launch) (dC : Nat → ClassId) (dI : Nat → Nat → Nat) (ac : Nat → ClassId) (al : Nat → Nat) (S : bT9) (a1 : Int32) (Q : Int32 → Prop) (h : wp_X9_firstOf S a1 Q) : bf_M l yX9_firstOf cX9_firstOf 2 (some .int) 0 0 dC dI ac al [.ref 0, .int a1] (bW9 S) (bf_Ki dC dI ac al bW9 (fun r u => u = S ∧ Q r)) := by
  refine bf_start [some (.ref 0), some (.int a1)] (by decide) (Nat.le_of_ble_eq_true rfl) (bf_s1 (bf_s1 bf_s0)) ?_
  intro X hl C hR e1 e2 e3 e4
  subst e1; subst e2; subst e3; subst e4
  exact t_X9_firstOf C hR S a1 Q h
def wp_X9_settingOf (S : bT9) (a1 : Int32) (Q : Int32 → Prop) : Prop := (vp_in a1 23 ∧ (wp_X9_firstOf S (a1) (fun r1 => (Q (((b9g_now S) (a1).toNatClampNeg) + r1)))))
set_option maxRecDepth 20000 in
theorem t_X9_settingOf {X : bf_X} (C : bf_C X RX9 cX9_settingOf 2 (some .int)) (hR : bf_Rm X 1 21) (S : bT9) (a1 : Int32) (Q : Int32 → Prop) (h : wp_X9_settingOf S a1 Q) : bf_A X (bf_Zi X bW9 (fun r u => u = S ∧ Q r)) 2 0 [some (.ref 0), some (.int a1)] [] (bW9 S) := by
  unfold wp_X9_settingOf at h
  refine bs_aload_n C (bf_dk dd_X9_settingOf 0 rfl) rfl ?_
  refine bs_get C (bf_dk dd_X9_settingOf 1 rfl) cl_9 in_9 1 (Nat.le_of_ble_eq_true rfl) rfl f_9_7 (ge_bW9_0 S) rfl ?_
  refine bs_iload_n C (bf_dk dd_X9_settingOf 2 rfl) rfl ?_
  obtain ⟨hi, h⟩ := h
  refine bs_iald C (bf_dk dd_X9_settingOf 3 rfl) (ge_bW9_1 S) hi ?_
  refine bs_aload_n C (bf_dk dd_X9_settingOf 4 rfl) rfl ?_
  refine bs_iload_n C (bf_dk dd_X9_settingOf 5 rfl) rfl ?_
  refine bs_selfPV_i C hR (c_X9_firstOf _ _ _ _ _ S (a1) _ h) my_X9_firstOf m_9_78 rfl cl_9 (ge_bW9_0 _) rfl (Nat.le_of_ble_eq_true rfl) (Nat.le_of_ble_eq_true rfl) (st := [.int ((b9g_now S) (a1).toNatClampNeg)]) (Nat.le_of_ble_eq_true rfl) (bf_dk dd_X9_settingOf 6 rfl) rfl (fun r1 h => ?_)
  refine bs_iadd C (bf_dk dd_X9_settingOf 7 rfl) ?_
  exact bs_iret (u := S) C (bf_dk dd_X9_settingOf 8 rfl) rfl ⟨rfl, h⟩
theorem c_X9_settingOf (l : Launch) (dC : Nat → ClassId) (dI : Nat → Nat → Nat) (ac : Nat → ClassId) (al : Nat → Nat) (S : bT9) (a1 : Int32) (Q : Int32 → Prop) (h : wp_X9_settingOf S a1 Q) : bf_M l yX9_settingOf cX9_settingOf 2 (some .int) 1 21 dC dI ac al [.ref 0, .int a1] (bW9 S) (bf_Ki dC dI ac al bW9 (fun r u => u = S ∧ Q r)) := by
  refine bf_start [some (.ref 0), some (.int a1)] (by decide) (Nat.le_of_ble_eq_true rfl) (bf_s1 (bf_s1 bf_s0)) ?_
  intro X hl C hR e1 e2 e3 e4
  subst e1; subst e2; subst e3; subst e4
  exact t_X9_settingOf C hR S a1 Q h
def wp_X9_canSet_9 (S : bT9) (x2 : Int32) (Q : Int32 → Prop) : Prop := (wp_X9_isIn S (x2) ((0 : Int32)) ((8 : Int32)) (fun r1 => (bf_bool r1 ∧ Q r1)))
set_option maxRecDepth 20000 in
theorem t_X9_canSet_9 {X : bf_X} (C : bf_C X RX9 cX9_canSet 3 (some .boolean)) (hR : bf_Rm X 1 23) (S : bT9) (x2 : Int32) (Q : Int32 → Prop) (h : wp_X9_canSet_9 S x2 Q) : bf_A X (bf_Zi X bW9 (fun r u => u = S ∧ Q r)) 3 9 [some (.ref 0), none, some (.int x2)] [] (bW9 S) := by
  unfold wp_X9_canSet_9 at h
  refine bs_aload_n C (bf_dk dd_X9_canSet 5 rfl) rfl ?_
  refine bs_iload_n C (bf_dk dd_X9_canSet 6 rfl) rfl ?_
  refine bs_iconst C (bf_dk dd_X9_canSet 7 rfl) (0 : Int32) (by decide) ?_
  refine bs_bipush C (bf_dk dd_X9_canSet 8 rfl) (8 : Int32) (by decide) ?_
  refine bs_selfPV_i C hR (c_X9_isIn _ _ _ _ _ S (x2) ((0 : Int32)) ((8 : Int32)) _ h) my_X9_isIn m_9_82 rfl cl_9 (ge_bW9_0 _) rfl (Nat.le_of_ble_eq_true rfl) (Nat.le_of_ble_eq_true rfl) (st := []) (Nat.le_of_ble_eq_true rfl) (bf_dk dd_X9_canSet 9 rfl) rfl (fun r1 h => ?_)
  obtain ⟨hi, h⟩ := h
  exact bs_zret (u := S) C (bf_dk dd_X9_canSet 10 rfl) hi rfl ⟨rfl, h⟩
def wp_X9_canSet (S : bT9) (a1 : Int32) (a2 : Int32) (Q : Int32 → Prop) : Prop := ((a1 = 0 → (wp_X9_canSet_9 S (a2) Q)) ∧ (¬ a1 = 0 → ((¬ a1 = (1 : Int32) → ((¬ a1 = (2 : Int32) → ((¬ a1 = (3 : Int32) → ((¬ a1 = (4 : Int32) → ((¬ a1 = (5 : Int32) → (bf_bool (0 : Int32) ∧ Q (0 : Int32))) ∧ (a1 = (5 : Int32) → (bf_bool (1 : Int32) ∧ Q (1 : Int32))))) ∧ (a1 = (4 : Int32) → (wp_X9_isIn S (a2) ((1 : Int32)) ((256 : Int32)) (fun r3 => (bf_bool r3 ∧ Q r3)))))) ∧ (a1 = (3 : Int32) → (wp_X9_isIn S (a2) ((1 : Int32)) ((64 : Int32)) (fun r5 => (bf_bool r5 ∧ Q r5)))))) ∧ (a1 = (2 : Int32) → (wp_X9_isIn S (a2) ((0 : Int32)) ((9 : Int32)) (fun r7 => (bf_bool r7 ∧ Q r7)))))) ∧ (a1 = (1 : Int32) → (wp_X9_canSet_9 S (a2) Q)))))
set_option maxRecDepth 20000 in
theorem t_X9_canSet {X : bf_X} (C : bf_C X RX9 cX9_canSet 3 (some .boolean)) (hR : bf_Rm X 1 23) (S : bT9) (a1 : Int32) (a2 : Int32) (Q : Int32 → Prop) (h : wp_X9_canSet S a1 a2 Q) : bf_A X (bf_Zi X bW9 (fun r u => u = S ∧ Q r)) 3 0 [some (.ref 0), some (.int a1), some (.int a2)] [] (bW9 S) := by
  unfold wp_X9_canSet at h
  refine bs_iload_n C (bf_dk dd_X9_canSet 0 rfl) rfl ?_
  refine bs_if_eq C (bf_dk dd_X9_canSet 1 rfl) (tgt := 9) rfl (fun c => ?_) (fun c => ?_)
  · replace h := h.1 c
    exact bs_weak (bf_s1 (bf_sn (bf_s1 bf_s0))) (t_X9_canSet_9 C hR S (a2) Q h)
  · replace h := h.2 c
    refine bs_iload_n C (bf_dk dd_X9_canSet 2 rfl) rfl ?_
    refine bs_iconst C (bf_dk dd_X9_canSet 3 rfl) (1 : Int32) (by decide) ?_
    refine bs_icmp_ne C (bf_dk dd_X9_canSet 4 rfl) (tgt := 18) rfl (fun c => ?_) (fun c => ?_)
    · replace h := h.1 c
      refine bs_iload_n C (bf_dk dd_X9_canSet 11 rfl) rfl ?_
      refine bs_iconst C (bf_dk dd_X9_canSet 12 rfl) (2 : Int32) (by decide) ?_
      refine bs_icmp_ne C (bf_dk dd_X9_canSet 13 rfl) (tgt := 32) rfl (fun c => ?_) (fun c => ?_)
      · replace h := h.1 c
        refine bs_iload_n C (bf_dk dd_X9_canSet 20 rfl) rfl ?_
        refine bs_iconst C (bf_dk dd_X9_canSet 21 rfl) (3 : Int32) (by decide) ?_
        refine bs_icmp_ne C (bf_dk dd_X9_canSet 22 rfl) (tgt := 48) rfl (fun c => ?_) (fun c => ?_)
        · replace h := h.1 c
          refine bs_iload_n C (bf_dk dd_X9_canSet 29 rfl) rfl ?_
          refine bs_iconst C (bf_dk dd_X9_canSet 30 rfl) (4 : Int32) (by decide) ?_
          refine bs_icmp_ne C (bf_dk dd_X9_canSet 31 rfl) (tgt := 65) rfl (fun c => ?_) (fun c => ?_)
          · replace h := h.1 c
            refine bs_iload_n C (bf_dk dd_X9_canSet 38 rfl) rfl ?_
            refine bs_iconst C (bf_dk dd_X9_canSet 39 rfl) (5 : Int32) (by decide) ?_
            refine bs_icmp_ne C (bf_dk dd_X9_canSet 40 rfl) (tgt := 74) rfl (fun c => ?_) (fun c => ?_)
            · replace h := h.1 c
              refine bs_iconst C (bf_dk dd_X9_canSet 43 rfl) (0 : Int32) (by decide) ?_
              obtain ⟨hi, h⟩ := h
              exact bs_zret (u := S) C (bf_dk dd_X9_canSet 44 rfl) hi rfl ⟨rfl, h⟩
            · replace h := h.2 c
              refine bs_iconst C (bf_dk dd_X9_canSet 41 rfl) (1 : Int32) (by decide) ?_
              refine bs_goto C (bf_dk dd_X9_canSet 42 rfl) (tgt := 75) rfl ?_
              obtain ⟨hi, h⟩ := h
              exact bs_zret (u := S) C (bf_dk dd_X9_canSet 44 rfl) hi rfl ⟨rfl, h⟩
          · replace h := h.2 c
            refine bs_aload_n C (bf_dk dd_X9_canSet 32 rfl) rfl ?_
            refine bs_iload_n C (bf_dk dd_X9_canSet 33 rfl) rfl ?_
            refine bs_iconst C (bf_dk dd_X9_canSet 34 rfl) (1 : Int32) (by decide) ?_
            refine bs_sipush C (bf_dk dd_X9_canSet 35 rfl) (256 : Int32) (by decide) ?_
            refine bs_selfPV_i C hR (c_X9_isIn _ _ _ _ _ S (a2) ((1 : Int32)) ((256 : Int32)) _ h) my_X9_isIn m_9_82 rfl cl_9 (ge_bW9_0 _) rfl (Nat.le_of_ble_eq_true rfl) (Nat.le_of_ble_eq_true rfl) (st := []) (Nat.le_of_ble_eq_true rfl) (bf_dk dd_X9_canSet 36 rfl) rfl (fun r3 h => ?_)
            refine bs_goto C (bf_dk dd_X9_canSet 37 rfl) (tgt := 75) rfl ?_
            obtain ⟨hi, h⟩ := h
            exact bs_zret (u := S) C (bf_dk dd_X9_canSet 44 rfl) hi rfl ⟨rfl, h⟩
        · replace h := h.2 c
          refine bs_aload_n C (bf_dk dd_X9_canSet 23 rfl) rfl ?_
          refine bs_iload_n C (bf_dk dd_X9_canSet 24 rfl) rfl ?_
          refine bs_iconst C (bf_dk dd_X9_canSet 25 rfl) (1 : Int32) (by decide) ?_
          refine bs_bipush C (bf_dk dd_X9_canSet 26 rfl) (64 : Int32) (by decide) ?_
          refine bs_selfPV_i C hR (c_X9_isIn _ _ _ _ _ S (a2) ((1 : Int32)) ((64 : Int32)) _ h) my_X9_isIn m_9_82 rfl cl_9 (ge_bW9_0 _) rfl (Nat.le_of_ble_eq_true rfl) (Nat.le_of_ble_eq_true rfl) (st := []) (Nat.le_of_ble_eq_true rfl) (bf_dk dd_X9_canSet 27 rfl) rfl (fun r5 h => ?_)
          refine bs_goto C (bf_dk dd_X9_canSet 28 rfl) (tgt := 75) rfl ?_
          obtain ⟨hi, h⟩ := h
          exact bs_zret (u := S) C (bf_dk dd_X9_canSet 44 rfl) hi rfl ⟨rfl, h⟩
      · replace h := h.2 c
        refine bs_aload_n C (bf_dk dd_X9_canSet 14 rfl) rfl ?_
        refine bs_iload_n C (bf_dk dd_X9_canSet 15 rfl) rfl ?_
        refine bs_iconst C (bf_dk dd_X9_canSet 16 rfl) (0 : Int32) (by decide) ?_
        refine bs_bipush C (bf_dk dd_X9_canSet 17 rfl) (9 : Int32) (by decide) ?_
        refine bs_selfPV_i C hR (c_X9_isIn _ _ _ _ _ S (a2) ((0 : Int32)) ((9 : Int32)) _ h) my_X9_isIn m_9_82 rfl cl_9 (ge_bW9_0 _) rfl (Nat.le_of_ble_eq_true rfl) (Nat.le_of_ble_eq_true rfl) (st := []) (Nat.le_of_ble_eq_true rfl) (bf_dk dd_X9_canSet 18 rfl) rfl (fun r7 h => ?_)
        obtain ⟨hi, h⟩ := h
        exact bs_zret (u := S) C (bf_dk dd_X9_canSet 19 rfl) hi rfl ⟨rfl, h⟩
    · replace h := h.2 c
      exact bs_weak (bf_s1 (bf_sn (bf_s1 bf_s0))) (t_X9_canSet_9 C hR S (a2) Q h)
theorem c_X9_canSet (l : Launch) (dC : Nat → ClassId) (dI : Nat → Nat → Nat) (ac : Nat → ClassId) (al : Nat → Nat) (S : bT9) (a1 : Int32) (a2 : Int32) (Q : Int32 → Prop) (h : wp_X9_canSet S a1 a2 Q) : bf_M l yX9_canSet cX9_canSet 3 (some .boolean) 1 23 dC dI ac al [.ref 0, .int a1, .int a2] (bW9 S) (bf_Ki dC dI ac al bW9 (fun r u => u = S ∧ Q r)) := by
  refine bf_start [some (.ref 0), some (.int a1), some (.int a2)] (by decide) (Nat.le_of_ble_eq_true rfl) (bf_s1 (bf_s1 (bf_s1 bf_s0))) ?_
  intro X hl C hR e1 e2 e3 e4
  subst e1; subst e2; subst e3; subst e4
  exact t_X9_canSet C hR S a1 a2 Q h
def wp_X9_set (S : bT9) (a1 : Int32) (a2 : Int32) (Q : Int32 → (bT9) → Prop) : Prop := (∀ S1 : bT9, S1 = (b9s_told S (0 : Int32)) → (wp_X9_canSet S1 (a1) (a2) (fun r2 => ((¬ r2 = 0 → (wp_X9_firstOf S1 (a1) (fun r4 => (vp_in a1 23 ∧ (∀ S6 : bT9, S6 = (b9s_now S1 (upd (b9g_now S1) (a1).toNatClampNeg (a2 - r4))) → (bf_bool (1 : Int32) ∧ Q (1 : Int32) S6)))))) ∧ (r2 = 0 → (bf_bool (0 : Int32) ∧ Q (0 : Int32) S1))))))
set_option maxRecDepth 20000 in
theorem t_X9_set {X : bf_X} (C : bf_C X RX9 cX9_set 3 (some .boolean)) (hR : bf_Rm X 2 45) (S : bT9) (a1 : Int32) (a2 : Int32) (Q : Int32 → (bT9) → Prop) (h : wp_X9_set S a1 a2 Q) : bf_A X (bf_Zi X bW9 Q) 3 0 [some (.ref 0), some (.int a1), some (.int a2)] [] (bW9 S) := by
  unfold wp_X9_set at h
  refine bs_aload_n C (bf_dk dd_X9_set 0 rfl) rfl ?_
  refine bs_iconst C (bf_dk dd_X9_set 1 rfl) (0 : Int32) (by decide) ?_
  refine bs_put C (bf_dk dd_X9_set 2 rfl) tyX9_ok nmX9 cl_9 in_9 0 (Nat.le_of_ble_eq_true rfl) rfl f_9_75 rfl (ge_bW9_0 S) (Nat.le_of_ble_eq_true rfl) rfl rfl (pu_bW9_0_0 S (0 : Int32)) ?_
  refine bs_nameS bW9 (fun S1 eS1 => ?_)
  replace h := h S1 eS1
  refine bs_aload_n C (bf_dk dd_X9_set 3 rfl) rfl ?_
  refine bs_iload_n C (bf_dk dd_X9_set 4 rfl) rfl ?_
  refine bs_iload_n C (bf_dk dd_X9_set 5 rfl) rfl ?_
  refine bs_selfPV_i C hR (c_X9_canSet _ _ _ _ _ S1 (a1) (a2) _ h) my_X9_canSet m_9_86 rfl cl_9 (ge_bW9_0 _) rfl (Nat.le_of_ble_eq_true rfl) (Nat.le_of_ble_eq_true rfl) (st := []) (Nat.le_of_ble_eq_true rfl) (bf_dk dd_X9_set 6 rfl) rfl (fun r2 h => ?_)
  refine bs_if_ne C (bf_dk dd_X9_set 7 rfl) (tgt := 16) rfl (fun c => ?_) (fun c => ?_)
  · replace h := h.1 c
    refine bs_aload_n C (bf_dk dd_X9_set 10 rfl) rfl ?_
    refine bs_get C (bf_dk dd_X9_set 11 rfl) cl_9 in_9 1 (Nat.le_of_ble_eq_true rfl) rfl f_9_7 (ge_bW9_0 S1) rfl ?_
    refine bs_iload_n C (bf_dk dd_X9_set 12 rfl) rfl ?_
    refine bs_iload_n C (bf_dk dd_X9_set 13 rfl) rfl ?_
    refine bs_aload_n C (bf_dk dd_X9_set 14 rfl) rfl ?_
    refine bs_iload_n C (bf_dk dd_X9_set 15 rfl) rfl ?_
    refine bs_selfPV_i C hR (c_X9_firstOf _ _ _ _ _ S1 (a1) _ h) my_X9_firstOf m_9_78 rfl cl_9 (ge_bW9_0 _) rfl (Nat.le_of_ble_eq_true rfl) (Nat.le_of_ble_eq_true rfl) (st := [.int a2, .int a1, .ref 1]) (Nat.le_of_ble_eq_true rfl) (bf_dk dd_X9_set 16 rfl) rfl (fun r4 h => ?_)
    refine bs_isub C (bf_dk dd_X9_set 17 rfl) ?_
    obtain ⟨hi, h⟩ := h
    refine bs_iast C (bf_dk dd_X9_set 18 rfl) (ge_bW9_1 S1) hi (ar_bW9_1 S1 _) ?_
    refine bs_nameS bW9 (fun S6 eS6 => ?_)
    replace h := h S6 eS6
    refine bs_iconst C (bf_dk dd_X9_set 19 rfl) (1 : Int32) (by decide) ?_
    obtain ⟨hi, h⟩ := h
    exact bs_zret (u := S6) C (bf_dk dd_X9_set 20 rfl) hi rfl h
  · replace h := h.2 c
    refine bs_iconst C (bf_dk dd_X9_set 8 rfl) (0 : Int32) (by decide) ?_
    obtain ⟨hi, h⟩ := h
    exact bs_zret (u := S1) C (bf_dk dd_X9_set 9 rfl) hi rfl h
theorem c_X9_set (l : Launch) (dC : Nat → ClassId) (dI : Nat → Nat → Nat) (ac : Nat → ClassId) (al : Nat → Nat) (S : bT9) (a1 : Int32) (a2 : Int32) (Q : Int32 → (bT9) → Prop) (h : wp_X9_set S a1 a2 Q) : bf_M l yX9_set cX9_set 3 (some .boolean) 2 45 dC dI ac al [.ref 0, .int a1, .int a2] (bW9 S) (bf_Ki dC dI ac al bW9 Q) := by
  refine bf_start [some (.ref 0), some (.int a1), some (.int a2)] (by decide) (Nat.le_of_ble_eq_true rfl) (bf_s1 (bf_s1 (bf_s1 bf_s0))) ?_
  intro X hl C hR e1 e2 e3 e4
  subst e1; subst e2; subst e3; subst e4
  exact t_X9_set C hR S a1 a2 Q h
def wp_X9_state (S : bT9) (a1 : Int32) (Q : Int32 → (bT9) → Prop) : Prop := (∀ S1 : bT9, S1 = (b9s_told S (0 : Int32)) → (vp_in (7 : Int32) 23 ∧ (vp_in (7 : Int32) 23 ∧ (∀ S2 : bT9, S2 = (b9s_now S1 (upd (b9g_now S1) ((7 : Int32)).toNatClampNeg a1)) → (Q ((b9g_now S1) ((7 : Int32)).toNatClampNeg) S2)))))
set_option maxRecDepth 20000 in
theorem t_X9_state {X : bf_X} (C : bf_C X RX9 cX9_state 3 (some .int)) (hR : bf_Rm X 0 0) (S : bT9) (a1 : Int32) (Q : Int32 → (bT9) → Prop) (h : wp_X9_state S a1 Q) : bf_A X (bf_Zi X bW9 Q) 3 0 [some (.ref 0), some (.int a1), none] [] (bW9 S) := by
  unfold wp_X9_state at h
  refine bs_aload_n C (bf_dk dd_X9_state 0 rfl) rfl ?_
  refine bs_iconst C (bf_dk dd_X9_state 1 rfl) (0 : Int32) (by decide) ?_
  refine bs_put C (bf_dk dd_X9_state 2 rfl) tyX9_ok nmX9 cl_9 in_9 0 (Nat.le_of_ble_eq_true rfl) rfl f_9_75 rfl (ge_bW9_0 S) (Nat.le_of_ble_eq_true rfl) rfl rfl (pu_bW9_0_0 S (0 : Int32)) ?_
  refine bs_nameS bW9 (fun S1 eS1 => ?_)
  replace h := h S1 eS1
  refine bs_aload_n C (bf_dk dd_X9_state 3 rfl) rfl ?_
  refine bs_get C (bf_dk dd_X9_state 4 rfl) cl_9 in_9 1 (Nat.le_of_ble_eq_true rfl) rfl f_9_7 (ge_bW9_0 S1) rfl ?_
  refine bs_bipush C (bf_dk dd_X9_state 5 rfl) (7 : Int32) (by decide) ?_
  obtain ⟨hi, h⟩ := h
  refine bs_iald C (bf_dk dd_X9_state 6 rfl) (ge_bW9_1 S1) hi ?_
  refine bs_istore_n C (bf_dk dd_X9_state 7 rfl) rfl (Nat.le_of_ble_eq_true rfl) (Nat.le_of_ble_eq_true rfl) (lv2 := [some (.ref 0), some (.int a1), some (.int ((b9g_now S1) ((7 : Int32)).toNatClampNeg))]) rfl ?_
  refine bs_aload_n C (bf_dk dd_X9_state 8 rfl) rfl ?_
  refine bs_get C (bf_dk dd_X9_state 9 rfl) cl_9 in_9 1 (Nat.le_of_ble_eq_true rfl) rfl f_9_7 (ge_bW9_0 S1) rfl ?_
  refine bs_bipush C (bf_dk dd_X9_state 10 rfl) (7 : Int32) (by decide) ?_
  refine bs_iload_n C (bf_dk dd_X9_state 11 rfl) rfl ?_
  obtain ⟨hi, h⟩ := h
  refine bs_iast C (bf_dk dd_X9_state 12 rfl) (ge_bW9_1 S1) hi (ar_bW9_1 S1 _) ?_
  refine bs_nameS bW9 (fun S2 eS2 => ?_)
  replace h := h S2 eS2
  refine bs_iload_n C (bf_dk dd_X9_state 13 rfl) rfl ?_
  exact bs_iret (u := S2) C (bf_dk dd_X9_state 14 rfl) rfl h
theorem c_X9_state (l : Launch) (dC : Nat → ClassId) (dI : Nat → Nat → Nat) (ac : Nat → ClassId) (al : Nat → Nat) (S : bT9) (a1 : Int32) (Q : Int32 → (bT9) → Prop) (h : wp_X9_state S a1 Q) : bf_M l yX9_state cX9_state 3 (some .int) 0 0 dC dI ac al [.ref 0, .int a1] (bW9 S) (bf_Ki dC dI ac al bW9 Q) := by
  refine bf_start [some (.ref 0), some (.int a1), none] (by decide) (Nat.le_of_ble_eq_true rfl) (bf_s1 (bf_s1 (bf_en 1))) ?_
  intro X hl C hR e1 e2 e3 e4
  subst e1; subst e2; subst e3; subst e4
  exact t_X9_state C hR S a1 Q h
def wp_X9_draw (S : bT9) (a1 : Int32) (Q : Int32 → (bT9) → Prop) : Prop := (vp_in (7 : Int32) 23 ∧ (∀ v1 : Int32, v1 = (((1664525 : Int32) * ((b9g_now S) ((7 : Int32)).toNatClampNeg)) + (1013904223 : Int32)) → (vp_in (7 : Int32) 23 ∧ (∀ S2 : bT9, S2 = (b9s_now S (upd (b9g_now S) ((7 : Int32)).toNatClampNeg v1)) → (vp_in (7 : Int32) 23 ∧ (¬ a1 = 0 ∧ (Q ((((((b9g_now S2) ((7 : Int32)).toNatClampNeg)).toUInt32 >>> (((8 : Int32)).toUInt32 &&& Int32.toUInt32 31)).toInt32) - (((((b9g_now S2) ((7 : Int32)).toNatClampNeg)).toUInt32 >>> (((8 : Int32)).toUInt32 &&& Int32.toUInt32 31)).toInt32) / a1 * a1) S2)))))))
set_option maxRecDepth 20000 in
theorem t_X9_draw {X : bf_X} (C : bf_C X RX9 cX9_draw 2 (some .int)) (hR : bf_Rm X 0 0) (S : bT9) (a1 : Int32) (Q : Int32 → (bT9) → Prop) (h : wp_X9_draw S a1 Q) : bf_A X (bf_Zi X bW9 Q) 2 0 [some (.ref 0), some (.int a1)] [] (bW9 S) := by
  unfold wp_X9_draw at h
  refine bs_aload_n C (bf_dk dd_X9_draw 0 rfl) rfl ?_
  refine bs_get C (bf_dk dd_X9_draw 1 rfl) cl_9 in_9 1 (Nat.le_of_ble_eq_true rfl) rfl f_9_7 (ge_bW9_0 S) rfl ?_
  refine bs_bipush C (bf_dk dd_X9_draw 2 rfl) (7 : Int32) (by decide) ?_
  refine bs_ldc C (bf_dk dd_X9_draw 3 rfl) k_9_90 ?_
  refine bs_aload_n C (bf_dk dd_X9_draw 4 rfl) rfl ?_
  refine bs_get C (bf_dk dd_X9_draw 5 rfl) cl_9 in_9 1 (Nat.le_of_ble_eq_true rfl) rfl f_9_7 (ge_bW9_0 S) rfl ?_
  refine bs_bipush C (bf_dk dd_X9_draw 6 rfl) (7 : Int32) (by decide) ?_
  obtain ⟨hi, h⟩ := h
  refine bs_iald C (bf_dk dd_X9_draw 7 rfl) (ge_bW9_1 S) hi ?_
  refine bs_imul C (bf_dk dd_X9_draw 8 rfl) ?_
  refine bs_ldc C (bf_dk dd_X9_draw 9 rfl) k_9_91 ?_
  refine bs_iadd C (bf_dk dd_X9_draw 10 rfl) ?_
  refine bs_name (fun v1 ev1 => ?_)
  replace h := h v1 ev1
  obtain ⟨hi, h⟩ := h
  refine bs_iast C (bf_dk dd_X9_draw 11 rfl) (ge_bW9_1 S) hi (ar_bW9_1 S _) ?_
  refine bs_nameS bW9 (fun S2 eS2 => ?_)
  replace h := h S2 eS2
  refine bs_aload_n C (bf_dk dd_X9_draw 12 rfl) rfl ?_
  refine bs_get C (bf_dk dd_X9_draw 13 rfl) cl_9 in_9 1 (Nat.le_of_ble_eq_true rfl) rfl f_9_7 (ge_bW9_0 S2) rfl ?_
  refine bs_bipush C (bf_dk dd_X9_draw 14 rfl) (7 : Int32) (by decide) ?_
  obtain ⟨hi, h⟩ := h
  refine bs_iald C (bf_dk dd_X9_draw 15 rfl) (ge_bW9_1 S2) hi ?_
  refine bs_bipush C (bf_dk dd_X9_draw 16 rfl) (8 : Int32) (by decide) ?_
  refine bs_iushr C (bf_dk dd_X9_draw 17 rfl) ?_
  refine bs_iload_n C (bf_dk dd_X9_draw 18 rfl) rfl ?_
  obtain ⟨hi, h⟩ := h
  refine bs_irem C (bf_dk dd_X9_draw 19 rfl) hi ?_
  exact bs_iret (u := S2) C (bf_dk dd_X9_draw 20 rfl) rfl h
theorem c_X9_draw (l : Launch) (dC : Nat → ClassId) (dI : Nat → Nat → Nat) (ac : Nat → ClassId) (al : Nat → Nat) (S : bT9) (a1 : Int32) (Q : Int32 → (bT9) → Prop) (h : wp_X9_draw S a1 Q) : bf_M l yX9_draw cX9_draw 2 (some .int) 0 0 dC dI ac al [.ref 0, .int a1] (bW9 S) (bf_Ki dC dI ac al bW9 Q) := by
  refine bf_start [some (.ref 0), some (.int a1)] (by decide) (Nat.le_of_ble_eq_true rfl) (bf_s1 (bf_s1 bf_s0)) ?_
  intro X hl C hR e1 e2 e3 e4
  subst e1; subst e2; subst e3; subst e4
  exact t_X9_draw C hR S a1 Q h
def wp_X9_low (S : bT9) (a1 : Int32) (Q : Int64 → Prop) : Prop := (Q ((a1).toInt64 &&& (4294967295 : Int64)))
set_option maxRecDepth 20000 in
theorem t_X9_low {X : bf_X} (C : bf_C X RX9 cX9_low 2 (some .long)) (hR : bf_Rm X 0 0) (S : bT9) (a1 : Int32) (Q : Int64 → Prop) (h : wp_X9_low S a1 Q) : bf_A X (bf_Zl X bW9 (fun r u => u = S ∧ Q r)) 2 0 [some (.ref 0), some (.int a1)] [] (bW9 S) := by
  unfold wp_X9_low at h
  refine bs_iload_n C (bf_dk dd_X9_low 0 rfl) rfl ?_
  refine bs_i2l C (bf_dk dd_X9_low 1 rfl) ?_
  refine bs_ldc2 C (bf_dk dd_X9_low 2 rfl) k_9_92 ?_
  refine bs_land C (bf_dk dd_X9_low 3 rfl) ?_
  exact bs_lret (u := S) C (bf_dk dd_X9_low 4 rfl) rfl ⟨rfl, h⟩
theorem c_X9_low (l : Launch) (dC : Nat → ClassId) (dI : Nat → Nat → Nat) (ac : Nat → ClassId) (al : Nat → Nat) (S : bT9) (a1 : Int32) (Q : Int64 → Prop) (h : wp_X9_low S a1 Q) : bf_M l yX9_low cX9_low 2 (some .long) 0 0 dC dI ac al [.ref 0, .int a1] (bW9 S) (bf_Kl dC dI ac al bW9 (fun r u => u = S ∧ Q r)) := by
  refine bf_start [some (.ref 0), some (.int a1)] (by decide) (Nat.le_of_ble_eq_true rfl) (bf_s1 (bf_s1 bf_s0)) ?_
  intro X hl C hR e1 e2 e3 e4
  subst e1; subst e2; subst e3; subst e4
  exact t_X9_low C hR S a1 Q h
def wp_X9_cut (S : bT9) (a1 : Int64) (a3 : Int32) (Q : Int64 → Prop) : Prop := ((¬ a3 = 0 → (Q ((((a1).toUInt64 >>> ((((64 : Int32) - ((8 : Int32) * a3))).toInt64.toUInt64 &&& Int64.toUInt64 63)).toInt64) <<< ((((64 : Int32) - ((8 : Int32) * a3))).toInt64 &&& 63)))) ∧ (a3 = 0 → (Q (0 : Int64))))
set_option maxRecDepth 20000 in
theorem t_X9_cut {X : bf_X} (C : bf_C X RX9 cX9_cut 4 (some .long)) (hR : bf_Rm X 0 0) (S : bT9) (a1 : Int64) (a3 : Int32) (Q : Int64 → Prop) (h : wp_X9_cut S a1 a3 Q) : bf_A X (bf_Zl X bW9 (fun r u => u = S ∧ Q r)) 4 0 [some (.ref 0), some (.long a1), none, some (.int a3)] [] (bW9 S) := by
  unfold wp_X9_cut at h
  refine bs_iload_n C (bf_dk dd_X9_cut 0 rfl) rfl ?_
  refine bs_if_ne C (bf_dk dd_X9_cut 1 rfl) (tgt := 8) rfl (fun c => ?_) (fun c => ?_)
  · replace h := h.1 c
    refine bs_lload_n C (bf_dk dd_X9_cut 4 rfl) rfl ?_
    refine bs_bipush C (bf_dk dd_X9_cut 5 rfl) (64 : Int32) (by decide) ?_
    refine bs_bipush C (bf_dk dd_X9_cut 6 rfl) (8 : Int32) (by decide) ?_
    refine bs_iload_n C (bf_dk dd_X9_cut 7 rfl) rfl ?_
    refine bs_imul C (bf_dk dd_X9_cut 8 rfl) ?_
    refine bs_isub C (bf_dk dd_X9_cut 9 rfl) ?_
    refine bs_lushr C (bf_dk dd_X9_cut 10 rfl) ?_
    refine bs_bipush C (bf_dk dd_X9_cut 11 rfl) (64 : Int32) (by decide) ?_
    refine bs_bipush C (bf_dk dd_X9_cut 12 rfl) (8 : Int32) (by decide) ?_
    refine bs_iload_n C (bf_dk dd_X9_cut 13 rfl) rfl ?_
    refine bs_imul C (bf_dk dd_X9_cut 14 rfl) ?_
    refine bs_isub C (bf_dk dd_X9_cut 15 rfl) ?_
    refine bs_lshl C (bf_dk dd_X9_cut 16 rfl) ?_
    exact bs_lret (u := S) C (bf_dk dd_X9_cut 17 rfl) rfl ⟨rfl, h⟩
  · replace h := h.2 c
    refine bs_lconst C (bf_dk dd_X9_cut 2 rfl) (0 : Int64) (by decide) ?_
    refine bs_goto C (bf_dk dd_X9_cut 3 rfl) (tgt := 25) rfl ?_
    exact bs_lret (u := S) C (bf_dk dd_X9_cut 17 rfl) rfl ⟨rfl, h⟩
theorem c_X9_cut (l : Launch) (dC : Nat → ClassId) (dI : Nat → Nat → Nat) (ac : Nat → ClassId) (al : Nat → Nat) (S : bT9) (a1 : Int64) (a3 : Int32) (Q : Int64 → Prop) (h : wp_X9_cut S a1 a3 Q) : bf_M l yX9_cut cX9_cut 4 (some .long) 0 0 dC dI ac al [.ref 0, .long a1, .int a3] (bW9 S) (bf_Kl dC dI ac al bW9 (fun r u => u = S ∧ Q r)) := by
  refine bf_start [some (.ref 0), some (.long a1), none, some (.int a3)] (by decide) (Nat.le_of_ble_eq_true rfl) (bf_s1 (bf_s1 (bf_sn (bf_s1 bf_s0)))) ?_
  intro X hl C hR e1 e2 e3 e4
  subst e1; subst e2; subst e3; subst e4
  exact t_X9_cut C hR S a1 a3 Q h
def wp_X9_keyOf (S : bT9) (a1 : Int32) (a2 : Int32) (a3 : Int32) (Q : Int64 → Prop) : Prop := (wp_X9_low S (a1) (fun r1 => (wp_X9_low S (a2) (fun r3 => (wp_X9_cut S (((r1 <<< (((32 : Int32)).toInt64 &&& 63)) ||| r3)) (a3) (fun r5 => (Q r5)))))))
set_option maxRecDepth 20000 in
theorem t_X9_keyOf {X : bf_X} (C : bf_C X RX9 cX9_keyOf 4 (some .long)) (hR : bf_Rm X 1 23) (S : bT9) (a1 : Int32) (a2 : Int32) (a3 : Int32) (Q : Int64 → Prop) (h : wp_X9_keyOf S a1 a2 a3 Q) : bf_A X (bf_Zl X bW9 (fun r u => u = S ∧ Q r)) 4 0 [some (.ref 0), some (.int a1), some (.int a2), some (.int a3)] [] (bW9 S) := by
  unfold wp_X9_keyOf at h
  refine bs_aload_n C (bf_dk dd_X9_keyOf 0 rfl) rfl ?_
  refine bs_aload_n C (bf_dk dd_X9_keyOf 1 rfl) rfl ?_
  refine bs_iload_n C (bf_dk dd_X9_keyOf 2 rfl) rfl ?_
  refine bs_selfPV_l C hR (c_X9_low _ _ _ _ _ S (a1) _ h) my_X9_low m_9_94 rfl cl_9 (ge_bW9_0 _) rfl (Nat.le_of_ble_eq_true rfl) (Nat.le_of_ble_eq_true rfl) (st := [.ref 0]) (Nat.le_of_ble_eq_true rfl) (bf_dk dd_X9_keyOf 3 rfl) rfl (fun r1 h => ?_)
  refine bs_bipush C (bf_dk dd_X9_keyOf 4 rfl) (32 : Int32) (by decide) ?_
  refine bs_lshl C (bf_dk dd_X9_keyOf 5 rfl) ?_
  refine bs_aload_n C (bf_dk dd_X9_keyOf 6 rfl) rfl ?_
  refine bs_iload_n C (bf_dk dd_X9_keyOf 7 rfl) rfl ?_
  refine bs_selfPV_l C hR (c_X9_low _ _ _ _ _ S (a2) _ h) my_X9_low m_9_94 rfl cl_9 (ge_bW9_0 _) rfl (Nat.le_of_ble_eq_true rfl) (Nat.le_of_ble_eq_true rfl) (st := [.long (r1 <<< (((32 : Int32)).toInt64 &&& 63)), .ref 0]) (Nat.le_of_ble_eq_true rfl) (bf_dk dd_X9_keyOf 8 rfl) rfl (fun r3 h => ?_)
  refine bs_lor C (bf_dk dd_X9_keyOf 9 rfl) ?_
  refine bs_iload_n C (bf_dk dd_X9_keyOf 10 rfl) rfl ?_
  refine bs_selfPV_l C hR (c_X9_cut _ _ _ _ _ S (((r1 <<< (((32 : Int32)).toInt64 &&& 63)) ||| r3)) (a3) _ h) my_X9_cut m_9_98 rfl cl_9 (ge_bW9_0 _) rfl (Nat.le_of_ble_eq_true rfl) (Nat.le_of_ble_eq_true rfl) (st := []) (Nat.le_of_ble_eq_true rfl) (bf_dk dd_X9_keyOf 11 rfl) rfl (fun r5 h => ?_)
  exact bs_lret (u := S) C (bf_dk dd_X9_keyOf 12 rfl) rfl ⟨rfl, h⟩
theorem c_X9_keyOf (l : Launch) (dC : Nat → ClassId) (dI : Nat → Nat → Nat) (ac : Nat → ClassId) (al : Nat → Nat) (S : bT9) (a1 : Int32) (a2 : Int32) (a3 : Int32) (Q : Int64 → Prop) (h : wp_X9_keyOf S a1 a2 a3 Q) : bf_M l yX9_keyOf cX9_keyOf 4 (some .long) 1 23 dC dI ac al [.ref 0, .int a1, .int a2, .int a3] (bW9 S) (bf_Kl dC dI ac al bW9 (fun r u => u = S ∧ Q r)) := by
  refine bf_start [some (.ref 0), some (.int a1), some (.int a2), some (.int a3)] (by decide) (Nat.le_of_ble_eq_true rfl) (bf_s1 (bf_s1 (bf_s1 (bf_s1 bf_s0)))) ?_
  intro X hl C hR e1 e2 e3 e4
  subst e1; subst e2; subst e3; subst e4
  exact t_X9_keyOf C hR S a1 a2 a3 Q h
def wp_X9_isKey (S : bT9) (a1 : Int32) (Q : Int32 → Prop) : Prop := (wp_X9_isIn S (a1) ((1 : Int32)) ((8 : Int32)) (fun r1 => (bf_bool r1 ∧ Q r1)))
set_option maxRecDepth 20000 in
theorem t_X9_isKey {X : bf_X} (C : bf_C X RX9 cX9_isKey 2 (some .boolean)) (hR : bf_Rm X 1 23) (S : bT9) (a1 : Int32) (Q : Int32 → Prop) (h : wp_X9_isKey S a1 Q) : bf_A X (bf_Zi X bW9 (fun r u => u = S ∧ Q r)) 2 0 [some (.ref 0), some (.int a1)] [] (bW9 S) := by
  unfold wp_X9_isKey at h
  refine bs_aload_n C (bf_dk dd_X9_isKey 0 rfl) rfl ?_
  refine bs_iload_n C (bf_dk dd_X9_isKey 1 rfl) rfl ?_
  refine bs_iconst C (bf_dk dd_X9_isKey 2 rfl) (1 : Int32) (by decide) ?_
  refine bs_bipush C (bf_dk dd_X9_isKey 3 rfl) (8 : Int32) (by decide) ?_
  refine bs_selfPV_i C hR (c_X9_isIn _ _ _ _ _ S (a1) ((1 : Int32)) ((8 : Int32)) _ h) my_X9_isIn m_9_82 rfl cl_9 (ge_bW9_0 _) rfl (Nat.le_of_ble_eq_true rfl) (Nat.le_of_ble_eq_true rfl) (st := []) (Nat.le_of_ble_eq_true rfl) (bf_dk dd_X9_isKey 4 rfl) rfl (fun r1 h => ?_)
  obtain ⟨hi, h⟩ := h
  exact bs_zret (u := S) C (bf_dk dd_X9_isKey 5 rfl) hi rfl ⟨rfl, h⟩
theorem c_X9_isKey (l : Launch) (dC : Nat → ClassId) (dI : Nat → Nat → Nat) (ac : Nat → ClassId) (al : Nat → Nat) (S : bT9) (a1 : Int32) (Q : Int32 → Prop) (h : wp_X9_isKey S a1 Q) : bf_M l yX9_isKey cX9_isKey 2 (some .boolean) 1 23 dC dI ac al [.ref 0, .int a1] (bW9 S) (bf_Ki dC dI ac al bW9 (fun r u => u = S ∧ Q r)) := by
  refine bf_start [some (.ref 0), some (.int a1)] (by decide) (Nat.le_of_ble_eq_true rfl) (bf_s1 (bf_s1 bf_s0)) ?_
  intro X hl C hR e1 e2 e3 e4
  subst e1; subst e2; subst e3; subst e4
  exact t_X9_isKey C hR S a1 Q h
def wp_X9_byteOf (S : bT9) (a1 : Int64) (a3 : Int32) (Q : Int32 → Prop) : Prop := (Q (((((a1).toUInt64 >>> ((((56 : Int32) - ((8 : Int32) * a3))).toInt64.toUInt64 &&& Int64.toUInt64 63)).toInt64)).toInt32 &&& (255 : Int32)))
set_option maxRecDepth 20000 in
theorem t_X9_byteOf {X : bf_X} (C : bf_C X RX9 cX9_byteOf 4 (some .int)) (hR : bf_Rm X 0 0) (S : bT9) (a1 : Int64) (a3 : Int32) (Q : Int32 → Prop) (h : wp_X9_byteOf S a1 a3 Q) : bf_A X (bf_Zi X bW9 (fun r u => u = S ∧ Q r)) 4 0 [some (.ref 0), some (.long a1), none, some (.int a3)] [] (bW9 S) := by
  unfold wp_X9_byteOf at h
  refine bs_lload_n C (bf_dk dd_X9_byteOf 0 rfl) rfl ?_
  refine bs_bipush C (bf_dk dd_X9_byteOf 1 rfl) (56 : Int32) (by decide) ?_
  refine bs_bipush C (bf_dk dd_X9_byteOf 2 rfl) (8 : Int32) (by decide) ?_
  refine bs_iload_n C (bf_dk dd_X9_byteOf 3 rfl) rfl ?_
  refine bs_imul C (bf_dk dd_X9_byteOf 4 rfl) ?_
  refine bs_isub C (bf_dk dd_X9_byteOf 5 rfl) ?_
  refine bs_lushr C (bf_dk dd_X9_byteOf 6 rfl) ?_
  refine bs_l2i C (bf_dk dd_X9_byteOf 7 rfl) ?_
  refine bs_sipush C (bf_dk dd_X9_byteOf 8 rfl) (255 : Int32) (by decide) ?_
  refine bs_iand C (bf_dk dd_X9_byteOf 9 rfl) ?_
  exact bs_iret (u := S) C (bf_dk dd_X9_byteOf 10 rfl) rfl ⟨rfl, h⟩
theorem c_X9_byteOf (l : Launch) (dC : Nat → ClassId) (dI : Nat → Nat → Nat) (ac : Nat → ClassId) (al : Nat → Nat) (S : bT9) (a1 : Int64) (a3 : Int32) (Q : Int32 → Prop) (h : wp_X9_byteOf S a1 a3 Q) : bf_M l yX9_byteOf cX9_byteOf 4 (some .int) 0 0 dC dI ac al [.ref 0, .long a1, .int a3] (bW9 S) (bf_Ki dC dI ac al bW9 (fun r u => u = S ∧ Q r)) := by
  refine bf_start [some (.ref 0), some (.long a1), none, some (.int a3)] (by decide) (Nat.le_of_ble_eq_true rfl) (bf_s1 (bf_s1 (bf_sn (bf_s1 bf_s0)))) ?_
  intro X hl C hR e1 e2 e3 e4
  subst e1; subst e2; subst e3; subst e4
  exact t_X9_byteOf C hR S a1 a3 Q h
def wp_X9_isLess (S : bT9) (a1 : Int64) (a3 : Int32) (a4 : Int64) (a6 : Int32) (Q : Int32 → Prop) : Prop := ((¬ (lg_cmp a1 a4) = 0 → ((0 ≤ (lg_cmp (a1 + (-9223372036854775808 : Int64)) (a4 + (-9223372036854775808 : Int64))) → (bf_bool (0 : Int32) ∧ Q (0 : Int32))) ∧ (¬ 0 ≤ (lg_cmp (a1 + (-9223372036854775808 : Int64)) (a4 + (-9223372036854775808 : Int64))) → (bf_bool (1 : Int32) ∧ Q (1 : Int32))))) ∧ ((lg_cmp a1 a4) = 0 → ((a6 ≤ a3 → (bf_bool (0 : Int32) ∧ Q (0 : Int32))) ∧ (¬ a6 ≤ a3 → (bf_bool (1 : Int32) ∧ Q (1 : Int32))))))
set_option maxRecDepth 20000 in
theorem t_X9_isLess {X : bf_X} (C : bf_C X RX9 cX9_isLess 7 (some .boolean)) (hR : bf_Rm X 0 0) (S : bT9) (a1 : Int64) (a3 : Int32) (a4 : Int64) (a6 : Int32) (Q : Int32 → Prop) (h : wp_X9_isLess S a1 a3 a4 a6 Q) : bf_A X (bf_Zi X bW9 (fun r u => u = S ∧ Q r)) 7 0 [some (.ref 0), some (.long a1), none, some (.int a3), some (.long a4), none, some (.int a6)] [] (bW9 S) := by
  unfold wp_X9_isLess at h
  refine bs_lload_n C (bf_dk dd_X9_isLess 0 rfl) rfl ?_
  refine bs_lload C (bf_dk dd_X9_isLess 1 rfl) rfl ?_
  refine bs_lcmp C (bf_dk dd_X9_isLess 2 rfl) ?_
  refine bs_if_ne C (bf_dk dd_X9_isLess 3 rfl) (tgt := 21) rfl (fun c => ?_) (fun c => ?_)
  · replace h := h.1 c
    refine bs_lload_n C (bf_dk dd_X9_isLess 11 rfl) rfl ?_
    refine bs_ldc2 C (bf_dk dd_X9_isLess 12 rfl) k_9_104 ?_
    refine bs_ladd C (bf_dk dd_X9_isLess 13 rfl) ?_
    refine bs_lload C (bf_dk dd_X9_isLess 14 rfl) rfl ?_
    refine bs_ldc2 C (bf_dk dd_X9_isLess 15 rfl) k_9_104 ?_
    refine bs_ladd C (bf_dk dd_X9_isLess 16 rfl) ?_
    refine bs_lcmp C (bf_dk dd_X9_isLess 17 rfl) ?_
    refine bs_if_ge C (bf_dk dd_X9_isLess 18 rfl) (tgt := 40) rfl (fun c => ?_) (fun c => ?_)
    · replace h := h.1 c
      refine bs_iconst C (bf_dk dd_X9_isLess 21 rfl) (0 : Int32) (by decide) ?_
      obtain ⟨hi, h⟩ := h
      exact bs_zret (u := S) C (bf_dk dd_X9_isLess 22 rfl) hi rfl ⟨rfl, h⟩
    · replace h := h.2 c
      refine bs_iconst C (bf_dk dd_X9_isLess 19 rfl) (1 : Int32) (by decide) ?_
      refine bs_goto C (bf_dk dd_X9_isLess 20 rfl) (tgt := 41) rfl ?_
      obtain ⟨hi, h⟩ := h
      exact bs_zret (u := S) C (bf_dk dd_X9_isLess 22 rfl) hi rfl ⟨rfl, h⟩
  · replace h := h.2 c
    refine bs_iload_n C (bf_dk dd_X9_isLess 4 rfl) rfl ?_
    refine bs_iload C (bf_dk dd_X9_isLess 5 rfl) rfl ?_
    refine bs_icmp_ge C (bf_dk dd_X9_isLess 6 rfl) (tgt := 17) rfl (fun c => ?_) (fun c => ?_)
    · replace h := h.1 c
      refine bs_iconst C (bf_dk dd_X9_isLess 9 rfl) (0 : Int32) (by decide) ?_
      refine bs_goto C (bf_dk dd_X9_isLess 10 rfl) (tgt := 41) rfl ?_
      obtain ⟨hi, h⟩ := h
      exact bs_zret (u := S) C (bf_dk dd_X9_isLess 22 rfl) hi rfl ⟨rfl, h⟩
    · replace h := h.2 c
      refine bs_iconst C (bf_dk dd_X9_isLess 7 rfl) (1 : Int32) (by decide) ?_
      refine bs_goto C (bf_dk dd_X9_isLess 8 rfl) (tgt := 41) rfl ?_
      obtain ⟨hi, h⟩ := h
      exact bs_zret (u := S) C (bf_dk dd_X9_isLess 22 rfl) hi rfl ⟨rfl, h⟩
theorem c_X9_isLess (l : Launch) (dC : Nat → ClassId) (dI : Nat → Nat → Nat) (ac : Nat → ClassId) (al : Nat → Nat) (S : bT9) (a1 : Int64) (a3 : Int32) (a4 : Int64) (a6 : Int32) (Q : Int32 → Prop) (h : wp_X9_isLess S a1 a3 a4 a6 Q) : bf_M l yX9_isLess cX9_isLess 7 (some .boolean) 0 0 dC dI ac al [.ref 0, .long a1, .int a3, .long a4, .int a6] (bW9 S) (bf_Ki dC dI ac al bW9 (fun r u => u = S ∧ Q r)) := by
  refine bf_start [some (.ref 0), some (.long a1), none, some (.int a3), some (.long a4), none, some (.int a6)] (by decide) (Nat.le_of_ble_eq_true rfl) (bf_s1 (bf_s1 (bf_sn (bf_s1 (bf_s1 (bf_sn (bf_s1 bf_s0))))))) ?_
  intro X hl C hR e1 e2 e3 e4
  subst e1; subst e2; subst e3; subst e4
  exact t_X9_isLess C hR S a1 a3 a4 a6 Q h
def wp_X9_lessMany_3b (S : bT9) (x1 : Int32) (x2 : Int32) (x3 : Int64) (x5 : Int32) (x6 : Int32) (Q : Int32 → Prop) (B3 : Int32 → Int32 → Int64 → Int32 → Int32 → Prop) : Prop := ((x2 ≤ x6 → (Q x6)) ∧ (¬ x2 ≤ x6 → (vp_in (x1 + x6) 144 ∧ (vp_in (x1 + x6) 144 ∧ (wp_X9_isLess S (((b9g_keys S) ((x1 + x6)).toNatClampNeg)) (((b9g_lengths S) ((x1 + x6)).toNatClampNeg)) (x3) (x5) (fun r1 => ((r1 = 0 → (Q x6)) ∧ (¬ r1 = 0 → (B3 (x1) (x2) (x3) (x5) ((x6 + (1 : Int32))))))))))))
set_option maxRecDepth 20000 in
theorem t_X9_lessMany_3b {X : bf_X} (C : bf_C X RX9 cX9_lessMany 7 (some .int)) (hR : bf_Rm X 1 26) (S : bT9) (x1 : Int32) (x2 : Int32) (x3 : Int64) (x5 : Int32) (x6 : Int32) (Q : Int32 → Prop) (B3 : Int32 → Int32 → Int64 → Int32 → Int32 → Prop) (hB3 : ∀ (x1 : Int32) (x2 : Int32) (x3 : Int64) (x5 : Int32) (x6 : Int32), B3 x1 x2 x3 x5 x6 → bf_A X (bf_Zi X bW9 (fun r u => u = S ∧ Q r)) 7 3 [some (.ref 0), some (.int x1), some (.int x2), some (.long x3), none, some (.int x5), some (.int x6)] [] (bW9 S)) (h : wp_X9_lessMany_3b S x1 x2 x3 x5 x6 Q B3) : bf_A X (bf_Zi X bW9 (fun r u => u = S ∧ Q r)) 7 3 [some (.ref 0), some (.int x1), some (.int x2), some (.long x3), none, some (.int x5), some (.int x6)] [] (bW9 S) := by
  unfold wp_X9_lessMany_3b at h
  refine bs_iload C (bf_dk dd_X9_lessMany 2 rfl) rfl ?_
  refine bs_iload_n C (bf_dk dd_X9_lessMany 3 rfl) rfl ?_
  refine bs_icmp_ge C (bf_dk dd_X9_lessMany 4 rfl) (tgt := 46) rfl (fun c => ?_) (fun c => ?_)
  · replace h := h.1 c
    refine bs_iload C (bf_dk dd_X9_lessMany 27 rfl) rfl ?_
    exact bs_iret (u := S) C (bf_dk dd_X9_lessMany 28 rfl) rfl ⟨rfl, h⟩
  · replace h := h.2 c
    refine bs_aload_n C (bf_dk dd_X9_lessMany 5 rfl) rfl ?_
    refine bs_aload_n C (bf_dk dd_X9_lessMany 6 rfl) rfl ?_
    refine bs_get C (bf_dk dd_X9_lessMany 7 rfl) cl_9 in_9 2 (Nat.le_of_ble_eq_true rfl) rfl f_9_13 (ge_bW9_0 S) rfl ?_
    refine bs_iload_n C (bf_dk dd_X9_lessMany 8 rfl) rfl ?_
    refine bs_iload C (bf_dk dd_X9_lessMany 9 rfl) rfl ?_
    refine bs_iadd C (bf_dk dd_X9_lessMany 10 rfl) ?_
    obtain ⟨hi, h⟩ := h
    refine bs_lald C (bf_dk dd_X9_lessMany 11 rfl) (ge_bW9_2 S) hi ?_
    refine bs_aload_n C (bf_dk dd_X9_lessMany 12 rfl) rfl ?_
    refine bs_get C (bf_dk dd_X9_lessMany 13 rfl) cl_9 in_9 3 (Nat.le_of_ble_eq_true rfl) rfl f_9_17 (ge_bW9_0 S) rfl ?_
    refine bs_iload_n C (bf_dk dd_X9_lessMany 14 rfl) rfl ?_
    refine bs_iload C (bf_dk dd_X9_lessMany 15 rfl) rfl ?_
    refine bs_iadd C (bf_dk dd_X9_lessMany 16 rfl) ?_
    obtain ⟨hi, h⟩ := h
    refine bs_iald C (bf_dk dd_X9_lessMany 17 rfl) (ge_bW9_3 S) hi ?_
    refine bs_lload_n C (bf_dk dd_X9_lessMany 18 rfl) rfl ?_
    refine bs_iload C (bf_dk dd_X9_lessMany 19 rfl) rfl ?_
    refine bs_selfPV_i C hR (c_X9_isLess _ _ _ _ _ S (((b9g_keys S) ((x1 + x6)).toNatClampNeg)) (((b9g_lengths S) ((x1 + x6)).toNatClampNeg)) (x3) (x5) _ h) my_X9_isLess m_9_106 rfl cl_9 (ge_bW9_0 _) rfl (Nat.le_of_ble_eq_true rfl) (Nat.le_of_ble_eq_true rfl) (st := []) (Nat.le_of_ble_eq_true rfl) (bf_dk dd_X9_lessMany 20 rfl) rfl (fun r1 h => ?_)
    refine bs_if_eq C (bf_dk dd_X9_lessMany 21 rfl) (tgt := 46) rfl (fun c => ?_) (fun c => ?_)
    · replace h := h.1 c
      refine bs_iload C (bf_dk dd_X9_lessMany 27 rfl) rfl ?_
      exact bs_iret (u := S) C (bf_dk dd_X9_lessMany 28 rfl) rfl ⟨rfl, h⟩
    · replace h := h.2 c
      refine bs_iload C (bf_dk dd_X9_lessMany 22 rfl) rfl ?_
      refine bs_iconst C (bf_dk dd_X9_lessMany 23 rfl) (1 : Int32) (by decide) ?_
      refine bs_iadd C (bf_dk dd_X9_lessMany 24 rfl) ?_
      refine bs_istore C (bf_dk dd_X9_lessMany 25 rfl) (Nat.le_of_ble_eq_true rfl) (Nat.le_of_ble_eq_true rfl) (lv2 := [some (.ref 0), some (.int x1), some (.int x2), some (.long x3), none, some (.int x5), some (.int (x6 + (1 : Int32)))]) rfl ?_
      refine bs_goto C (bf_dk dd_X9_lessMany 26 rfl) (tgt := 3) rfl ?_
      exact bs_weak (bf_s1 (bf_s1 (bf_s1 (bf_s1 (bf_sn (bf_s1 (bf_s1 bf_s0))))))) (hB3 (x1) (x2) (x3) (x5) ((x6 + (1 : Int32))) h)
def wp_X9_lessMany_3 (S : bT9) (x1 : Int32) (x2 : Int32) (x3 : Int64) (x5 : Int32) (x6 : Int32) (Q : Int32 → Prop) : Prop := ∃ I : Nat → Int32 → Int32 → Int64 → Int32 → Int32 → Prop, (∃ n : Nat, I n x1 x2 x3 x5 x6) ∧ ∀ (n : Nat) (x1 : Int32) (x2 : Int32) (x3 : Int64) (x5 : Int32) (x6 : Int32), I n x1 x2 x3 x5 x6 → wp_X9_lessMany_3b S x1 x2 x3 x5 x6 Q (fun x1 x2 x3 x5 x6 => ∃ n2 : Nat, n2 < n ∧ I n2 x1 x2 x3 x5 x6)
theorem t_X9_lessMany_3 {X : bf_X} (C : bf_C X RX9 cX9_lessMany 7 (some .int)) (hR : bf_Rm X 1 26) (S : bT9) (x1 : Int32) (x2 : Int32) (x3 : Int64) (x5 : Int32) (x6 : Int32) (Q : Int32 → Prop) (h : wp_X9_lessMany_3 S x1 x2 x3 x5 x6 Q) : bf_A X (bf_Zi X bW9 (fun r u => u = S ∧ Q r)) 7 3 [some (.ref 0), some (.int x1), some (.int x2), some (.long x3), none, some (.int x5), some (.int x6)] [] (bW9 S) := by
  obtain ⟨I, ⟨n0, h0⟩, hI⟩ := h
  have key : ∀ (n : Nat) (x1 : Int32) (x2 : Int32) (x3 : Int64) (x5 : Int32) (x6 : Int32), I n x1 x2 x3 x5 x6 → bf_A X (bf_Zi X bW9 (fun r u => u = S ∧ Q r)) 7 3 [some (.ref 0), some (.int x1), some (.int x2), some (.long x3), none, some (.int x5), some (.int x6)] [] (bW9 S) := by
    intro n
    induction n using Nat.strongRecOn with
    | _ n ih =>
      intro x1 x2 x3 x5 x6 hi
      exact t_X9_lessMany_3b C hR S x1 x2 x3 x5 x6 Q _ (fun x1 x2 x3 x5 x6 hb => by obtain ⟨n2, hn, hi2⟩ := hb; exact ih n2 hn x1 x2 x3 x5 x6 hi2) (hI n x1 x2 x3 x5 x6 hi)
  exact key n0 x1 x2 x3 x5 x6 h0
def wp_X9_lessMany (S : bT9) (a1 : Int32) (a2 : Int32) (a3 : Int64) (a5 : Int32) (Q : Int32 → Prop) : Prop := (wp_X9_lessMany_3 S (a1) (a2) (a3) (a5) ((0 : Int32)) Q)
set_option maxRecDepth 20000 in
theorem t_X9_lessMany {X : bf_X} (C : bf_C X RX9 cX9_lessMany 7 (some .int)) (hR : bf_Rm X 1 26) (S : bT9) (a1 : Int32) (a2 : Int32) (a3 : Int64) (a5 : Int32) (Q : Int32 → Prop) (h : wp_X9_lessMany S a1 a2 a3 a5 Q) : bf_A X (bf_Zi X bW9 (fun r u => u = S ∧ Q r)) 7 0 [some (.ref 0), some (.int a1), some (.int a2), some (.long a3), none, some (.int a5), none] [] (bW9 S) := by
  unfold wp_X9_lessMany at h
  refine bs_iconst C (bf_dk dd_X9_lessMany 0 rfl) (0 : Int32) (by decide) ?_
  refine bs_istore C (bf_dk dd_X9_lessMany 1 rfl) (Nat.le_of_ble_eq_true rfl) (Nat.le_of_ble_eq_true rfl) (lv2 := [some (.ref 0), some (.int a1), some (.int a2), some (.long a3), none, some (.int a5), some (.int (0 : Int32))]) rfl ?_
  exact bs_weak (bf_s1 (bf_s1 (bf_s1 (bf_s1 (bf_sn (bf_s1 (bf_s1 bf_s0))))))) (t_X9_lessMany_3 C hR S (a1) (a2) (a3) (a5) ((0 : Int32)) Q h)
theorem c_X9_lessMany (l : Launch) (dC : Nat → ClassId) (dI : Nat → Nat → Nat) (ac : Nat → ClassId) (al : Nat → Nat) (S : bT9) (a1 : Int32) (a2 : Int32) (a3 : Int64) (a5 : Int32) (Q : Int32 → Prop) (h : wp_X9_lessMany S a1 a2 a3 a5 Q) : bf_M l yX9_lessMany cX9_lessMany 7 (some .int) 1 26 dC dI ac al [.ref 0, .int a1, .int a2, .long a3, .int a5] (bW9 S) (bf_Ki dC dI ac al bW9 (fun r u => u = S ∧ Q r)) := by
  refine bf_start [some (.ref 0), some (.int a1), some (.int a2), some (.long a3), none, some (.int a5), none] (by decide) (Nat.le_of_ble_eq_true rfl) (bf_s1 (bf_s1 (bf_s1 (bf_s1 (bf_sn (bf_s1 (bf_en 1))))))) ?_
  intro X hl C hR e1 e2 e3 e4
  subst e1; subst e2; subst e3; subst e4
  exact t_X9_lessMany C hR S a1 a2 a3 a5 Q h
def wp_X9_find (S : bT9) (a1 : Int32) (a2 : Int32) (a3 : Int64) (a5 : Int32) (Q : Int32 → Prop) : Prop := (wp_X9_lessMany S (a1) (a2) (a3) (a5) (fun r1 => ((a2 ≤ r1 → (Q (-1 : Int32))) ∧ (¬ a2 ≤ r1 → (vp_in (a1 + r1) 144 ∧ ((¬ (lg_cmp ((b9g_keys S) ((a1 + r1)).toNatClampNeg) a3) = 0 → (Q (-1 : Int32))) ∧ ((lg_cmp ((b9g_keys S) ((a1 + r1)).toNatClampNeg) a3) = 0 → (vp_in (a1 + r1) 144 ∧ ((¬ ((b9g_lengths S) ((a1 + r1)).toNatClampNeg) = a5 → (Q (-1 : Int32))) ∧ (((b9g_lengths S) ((a1 + r1)).toNatClampNeg) = a5 → (Q r1)))))))))))
set_option maxRecDepth 20000 in
theorem t_X9_find {X : bf_X} (C : bf_C X RX9 cX9_find 7 (some .int)) (hR : bf_Rm X 2 52) (S : bT9) (a1 : Int32) (a2 : Int32) (a3 : Int64) (a5 : Int32) (Q : Int32 → Prop) (h : wp_X9_find S a1 a2 a3 a5 Q) : bf_A X (bf_Zi X bW9 (fun r u => u = S ∧ Q r)) 7 0 [some (.ref 0), some (.int a1), some (.int a2), some (.long a3), none, some (.int a5), none] [] (bW9 S) := by
  unfold wp_X9_find at h
  refine bs_aload_n C (bf_dk dd_X9_find 0 rfl) rfl ?_
  refine bs_iload_n C (bf_dk dd_X9_find 1 rfl) rfl ?_
  refine bs_iload_n C (bf_dk dd_X9_find 2 rfl) rfl ?_
  refine bs_lload_n C (bf_dk dd_X9_find 3 rfl) rfl ?_
  refine bs_iload C (bf_dk dd_X9_find 4 rfl) rfl ?_
  refine bs_selfPV_i C hR (c_X9_lessMany _ _ _ _ _ S (a1) (a2) (a3) (a5) _ h) my_X9_lessMany m_9_110 rfl cl_9 (ge_bW9_0 _) rfl (Nat.le_of_ble_eq_true rfl) (Nat.le_of_ble_eq_true rfl) (st := []) (Nat.le_of_ble_eq_true rfl) (bf_dk dd_X9_find 5 rfl) rfl (fun r1 h => ?_)
  refine bs_istore C (bf_dk dd_X9_find 6 rfl) (Nat.le_of_ble_eq_true rfl) (Nat.le_of_ble_eq_true rfl) (lv2 := [some (.ref 0), some (.int a1), some (.int a2), some (.long a3), none, some (.int a5), some (.int r1)]) rfl ?_
  refine bs_iload C (bf_dk dd_X9_find 7 rfl) rfl ?_
  refine bs_iload_n C (bf_dk dd_X9_find 8 rfl) rfl ?_
  refine bs_icmp_ge C (bf_dk dd_X9_find 9 rfl) (tgt := 50) rfl (fun c => ?_) (fun c => ?_)
  · replace h := h.1 c
    refine bs_iconst C (bf_dk dd_X9_find 29 rfl) (-1 : Int32) (by decide) ?_
    exact bs_iret (u := S) C (bf_dk dd_X9_find 30 rfl) rfl ⟨rfl, h⟩
  · replace h := h.2 c
    refine bs_aload_n C (bf_dk dd_X9_find 10 rfl) rfl ?_
    refine bs_get C (bf_dk dd_X9_find 11 rfl) cl_9 in_9 2 (Nat.le_of_ble_eq_true rfl) rfl f_9_13 (ge_bW9_0 S) rfl ?_
    refine bs_iload_n C (bf_dk dd_X9_find 12 rfl) rfl ?_
    refine bs_iload C (bf_dk dd_X9_find 13 rfl) rfl ?_
    refine bs_iadd C (bf_dk dd_X9_find 14 rfl) ?_
    obtain ⟨hi, h⟩ := h
    refine bs_lald C (bf_dk dd_X9_find 15 rfl) (ge_bW9_2 S) hi ?_
    refine bs_lload_n C (bf_dk dd_X9_find 16 rfl) rfl ?_
    refine bs_lcmp C (bf_dk dd_X9_find 17 rfl) ?_
    refine bs_if_ne C (bf_dk dd_X9_find 18 rfl) (tgt := 50) rfl (fun c => ?_) (fun c => ?_)
    · replace h := h.1 c
      refine bs_iconst C (bf_dk dd_X9_find 29 rfl) (-1 : Int32) (by decide) ?_
      exact bs_iret (u := S) C (bf_dk dd_X9_find 30 rfl) rfl ⟨rfl, h⟩
    · replace h := h.2 c
      refine bs_aload_n C (bf_dk dd_X9_find 19 rfl) rfl ?_
      refine bs_get C (bf_dk dd_X9_find 20 rfl) cl_9 in_9 3 (Nat.le_of_ble_eq_true rfl) rfl f_9_17 (ge_bW9_0 S) rfl ?_
      refine bs_iload_n C (bf_dk dd_X9_find 21 rfl) rfl ?_
      refine bs_iload C (bf_dk dd_X9_find 22 rfl) rfl ?_
      refine bs_iadd C (bf_dk dd_X9_find 23 rfl) ?_
      obtain ⟨hi, h⟩ := h
      refine bs_iald C (bf_dk dd_X9_find 24 rfl) (ge_bW9_3 S) hi ?_
      refine bs_iload C (bf_dk dd_X9_find 25 rfl) rfl ?_
      refine bs_icmp_ne C (bf_dk dd_X9_find 26 rfl) (tgt := 50) rfl (fun c => ?_) (fun c => ?_)
      · replace h := h.1 c
        refine bs_iconst C (bf_dk dd_X9_find 29 rfl) (-1 : Int32) (by decide) ?_
        exact bs_iret (u := S) C (bf_dk dd_X9_find 30 rfl) rfl ⟨rfl, h⟩
      · replace h := h.2 c
        refine bs_iload C (bf_dk dd_X9_find 27 rfl) rfl ?_
        refine bs_goto C (bf_dk dd_X9_find 28 rfl) (tgt := 51) rfl ?_
        exact bs_iret (u := S) C (bf_dk dd_X9_find 30 rfl) rfl ⟨rfl, h⟩
theorem c_X9_find (l : Launch) (dC : Nat → ClassId) (dI : Nat → Nat → Nat) (ac : Nat → ClassId) (al : Nat → Nat) (S : bT9) (a1 : Int32) (a2 : Int32) (a3 : Int64) (a5 : Int32) (Q : Int32 → Prop) (h : wp_X9_find S a1 a2 a3 a5 Q) : bf_M l yX9_find cX9_find 7 (some .int) 2 52 dC dI ac al [.ref 0, .int a1, .int a2, .long a3, .int a5] (bW9 S) (bf_Ki dC dI ac al bW9 (fun r u => u = S ∧ Q r)) := by
  refine bf_start [some (.ref 0), some (.int a1), some (.int a2), some (.long a3), none, some (.int a5), none] (by decide) (Nat.le_of_ble_eq_true rfl) (bf_s1 (bf_s1 (bf_s1 (bf_s1 (bf_sn (bf_s1 (bf_en 1))))))) ?_
  intro X hl C hR e1 e2 e3 e4
  subst e1; subst e2; subst e3; subst e4
  exact t_X9_find C hR S a1 a2 a3 a5 Q h
def wp_X9_comes_57b (S : bT9) (x1 : Int64) (x3 : Int32) (x4 : Int32) (x5 : Int32) (Q : Int32 → (bT9) → Prop) (B57 : Int64 → Int32 → Int32 → Int32 → (bT9) → Prop) : Prop := ((x5 ≤ x4 → (vp_in x4 144 ∧ (∀ S1 : bT9, S1 = (b9s_keys S (vp_updL (b9g_keys S) (x4).toNatClampNeg x1)) → (vp_in x4 144 ∧ (∀ S2 : bT9, S2 = (b9s_lengths S1 (upd (b9g_lengths S1) (x4).toNatClampNeg x3)) → (vp_in (8 : Int32) 23 ∧ (vp_in (8 : Int32) 23 ∧ (∀ S3 : bT9, S3 = (b9s_now S2 (upd (b9g_now S2) ((8 : Int32)).toNatClampNeg (((b9g_now S2) ((8 : Int32)).toNatClampNeg) + (1 : Int32)))) → (Q x4 S3))))))))) ∧ (¬ x5 ≤ x4 → (vp_in (x5 - (1 : Int32)) 144 ∧ (vp_in x5 144 ∧ (∀ S4 : bT9, S4 = (b9s_keys S (vp_updL (b9g_keys S) (x5).toNatClampNeg ((b9g_keys S) ((x5 - (1 : Int32))).toNatClampNeg))) → (vp_in (x5 - (1 : Int32)) 144 ∧ (vp_in x5 144 ∧ (∀ S5 : bT9, S5 = (b9s_lengths S4 (upd (b9g_lengths S4) (x5).toNatClampNeg ((b9g_lengths S4) ((x5 - (1 : Int32))).toNatClampNeg))) → (B57 (x1) (x3) (x4) ((x5 + (-1 : Int32))) S5)))))))))
set_option maxRecDepth 20000 in
theorem t_X9_comes_57b {X : bf_X} (C : bf_C X RX9 cX9_comes 6 (some .int)) (hR : bf_Rm X 3 78) (S : bT9) (x1 : Int64) (x3 : Int32) (x4 : Int32) (x5 : Int32) (Q : Int32 → (bT9) → Prop) (B57 : Int64 → Int32 → Int32 → Int32 → (bT9) → Prop) (hB57 : ∀ (x1 : Int64) (x3 : Int32) (x4 : Int32) (x5 : Int32) (S : bT9), B57 x1 x3 x4 x5 S → bf_A X (bf_Zi X bW9 Q) 6 57 [some (.ref 0), some (.long x1), none, some (.int x3), some (.int x4), some (.int x5)] [] (bW9 S)) (h : wp_X9_comes_57b S x1 x3 x4 x5 Q B57) : bf_A X (bf_Zi X bW9 Q) 6 57 [some (.ref 0), some (.long x1), none, some (.int x3), some (.int x4), some (.int x5)] [] (bW9 S) := by
  unfold wp_X9_comes_57b at h
  refine bs_iload C (bf_dk dd_X9_comes 34 rfl) rfl ?_
  refine bs_iload C (bf_dk dd_X9_comes 35 rfl) rfl ?_
  refine bs_icmp_le C (bf_dk dd_X9_comes 36 rfl) (tgt := 102) rfl (fun c => ?_) (fun c => ?_)
  · replace h := h.1 c
    refine bs_aload_n C (bf_dk dd_X9_comes 59 rfl) rfl ?_
    refine bs_get C (bf_dk dd_X9_comes 60 rfl) cl_9 in_9 2 (Nat.le_of_ble_eq_true rfl) rfl f_9_13 (ge_bW9_0 S) rfl ?_
    refine bs_iload C (bf_dk dd_X9_comes 61 rfl) rfl ?_
    refine bs_lload_n C (bf_dk dd_X9_comes 62 rfl) rfl ?_
    obtain ⟨hi, h⟩ := h
    refine bs_last C (bf_dk dd_X9_comes 63 rfl) (ge_bW9_2 S) hi (ar_bW9_2 S _) ?_
    refine bs_nameS bW9 (fun S1 eS1 => ?_)
    replace h := h S1 eS1
    refine bs_aload_n C (bf_dk dd_X9_comes 64 rfl) rfl ?_
    refine bs_get C (bf_dk dd_X9_comes 65 rfl) cl_9 in_9 3 (Nat.le_of_ble_eq_true rfl) rfl f_9_17 (ge_bW9_0 S1) rfl ?_
    refine bs_iload C (bf_dk dd_X9_comes 66 rfl) rfl ?_
    refine bs_iload_n C (bf_dk dd_X9_comes 67 rfl) rfl ?_
    obtain ⟨hi, h⟩ := h
    refine bs_iast C (bf_dk dd_X9_comes 68 rfl) (ge_bW9_3 S1) hi (ar_bW9_3 S1 _) ?_
    refine bs_nameS bW9 (fun S2 eS2 => ?_)
    replace h := h S2 eS2
    refine bs_aload_n C (bf_dk dd_X9_comes 69 rfl) rfl ?_
    refine bs_get C (bf_dk dd_X9_comes 70 rfl) cl_9 in_9 1 (Nat.le_of_ble_eq_true rfl) rfl f_9_7 (ge_bW9_0 S2) rfl ?_
    refine bs_bipush C (bf_dk dd_X9_comes 71 rfl) (8 : Int32) (by decide) ?_
    refine bs_aload_n C (bf_dk dd_X9_comes 72 rfl) rfl ?_
    refine bs_get C (bf_dk dd_X9_comes 73 rfl) cl_9 in_9 1 (Nat.le_of_ble_eq_true rfl) rfl f_9_7 (ge_bW9_0 S2) rfl ?_
    refine bs_bipush C (bf_dk dd_X9_comes 74 rfl) (8 : Int32) (by decide) ?_
    obtain ⟨hi, h⟩ := h
    refine bs_iald C (bf_dk dd_X9_comes 75 rfl) (ge_bW9_1 S2) hi ?_
    refine bs_iconst C (bf_dk dd_X9_comes 76 rfl) (1 : Int32) (by decide) ?_
    refine bs_iadd C (bf_dk dd_X9_comes 77 rfl) ?_
    obtain ⟨hi, h⟩ := h
    refine bs_iast C (bf_dk dd_X9_comes 78 rfl) (ge_bW9_1 S2) hi (ar_bW9_1 S2 _) ?_
    refine bs_nameS bW9 (fun S3 eS3 => ?_)
    replace h := h S3 eS3
    refine bs_iload C (bf_dk dd_X9_comes 79 rfl) rfl ?_
    exact bs_iret (u := S3) C (bf_dk dd_X9_comes 80 rfl) rfl h
  · replace h := h.2 c
    refine bs_aload_n C (bf_dk dd_X9_comes 37 rfl) rfl ?_
    refine bs_get C (bf_dk dd_X9_comes 38 rfl) cl_9 in_9 2 (Nat.le_of_ble_eq_true rfl) rfl f_9_13 (ge_bW9_0 S) rfl ?_
    refine bs_iload C (bf_dk dd_X9_comes 39 rfl) rfl ?_
    refine bs_aload_n C (bf_dk dd_X9_comes 40 rfl) rfl ?_
    refine bs_get C (bf_dk dd_X9_comes 41 rfl) cl_9 in_9 2 (Nat.le_of_ble_eq_true rfl) rfl f_9_13 (ge_bW9_0 S) rfl ?_
    refine bs_iload C (bf_dk dd_X9_comes 42 rfl) rfl ?_
    refine bs_iconst C (bf_dk dd_X9_comes 43 rfl) (1 : Int32) (by decide) ?_
    refine bs_isub C (bf_dk dd_X9_comes 44 rfl) ?_
    obtain ⟨hi, h⟩ := h
    refine bs_lald C (bf_dk dd_X9_comes 45 rfl) (ge_bW9_2 S) hi ?_
    obtain ⟨hi, h⟩ := h
    refine bs_last C (bf_dk dd_X9_comes 46 rfl) (ge_bW9_2 S) hi (ar_bW9_2 S _) ?_
    refine bs_nameS bW9 (fun S4 eS4 => ?_)
    replace h := h S4 eS4
    refine bs_aload_n C (bf_dk dd_X9_comes 47 rfl) rfl ?_
    refine bs_get C (bf_dk dd_X9_comes 48 rfl) cl_9 in_9 3 (Nat.le_of_ble_eq_true rfl) rfl f_9_17 (ge_bW9_0 S4) rfl ?_
    refine bs_iload C (bf_dk dd_X9_comes 49 rfl) rfl ?_
    refine bs_aload_n C (bf_dk dd_X9_comes 50 rfl) rfl ?_
    refine bs_get C (bf_dk dd_X9_comes 51 rfl) cl_9 in_9 3 (Nat.le_of_ble_eq_true rfl) rfl f_9_17 (ge_bW9_0 S4) rfl ?_
    refine bs_iload C (bf_dk dd_X9_comes 52 rfl) rfl ?_
    refine bs_iconst C (bf_dk dd_X9_comes 53 rfl) (1 : Int32) (by decide) ?_
    refine bs_isub C (bf_dk dd_X9_comes 54 rfl) ?_
    obtain ⟨hi, h⟩ := h
    refine bs_iald C (bf_dk dd_X9_comes 55 rfl) (ge_bW9_3 S4) hi ?_
    obtain ⟨hi, h⟩ := h
    refine bs_iast C (bf_dk dd_X9_comes 56 rfl) (ge_bW9_3 S4) hi (ar_bW9_3 S4 _) ?_
    refine bs_nameS bW9 (fun S5 eS5 => ?_)
    replace h := h S5 eS5
    refine bs_iinc C (bf_dk dd_X9_comes 57 rfl) (x5 + (-1 : Int32)) rfl rfl (Nat.le_of_ble_eq_true rfl) (Nat.le_of_ble_eq_true rfl) (lv2 := [some (.ref 0), some (.long x1), none, some (.int x3), some (.int x4), some (.int (x5 + (-1 : Int32)))]) rfl ?_
    refine bs_goto C (bf_dk dd_X9_comes 58 rfl) (tgt := 57) rfl ?_
    exact bs_weak (bf_s1 (bf_s1 (bf_sn (bf_s1 (bf_s1 (bf_s1 bf_s0)))))) (hB57 (x1) (x3) (x4) ((x5 + (-1 : Int32))) S5 h)
def wp_X9_comes_57 (S : bT9) (x1 : Int64) (x3 : Int32) (x4 : Int32) (x5 : Int32) (Q : Int32 → (bT9) → Prop) : Prop := ∃ I : Nat → Int64 → Int32 → Int32 → Int32 → (bT9) → Prop, (∃ n : Nat, I n x1 x3 x4 x5 S) ∧ ∀ (n : Nat) (x1 : Int64) (x3 : Int32) (x4 : Int32) (x5 : Int32) (S : bT9), I n x1 x3 x4 x5 S → wp_X9_comes_57b S x1 x3 x4 x5 Q (fun x1 x3 x4 x5 S => ∃ n2 : Nat, n2 < n ∧ I n2 x1 x3 x4 x5 S)
theorem t_X9_comes_57 {X : bf_X} (C : bf_C X RX9 cX9_comes 6 (some .int)) (hR : bf_Rm X 3 78) (S : bT9) (x1 : Int64) (x3 : Int32) (x4 : Int32) (x5 : Int32) (Q : Int32 → (bT9) → Prop) (h : wp_X9_comes_57 S x1 x3 x4 x5 Q) : bf_A X (bf_Zi X bW9 Q) 6 57 [some (.ref 0), some (.long x1), none, some (.int x3), some (.int x4), some (.int x5)] [] (bW9 S) := by
  obtain ⟨I, ⟨n0, h0⟩, hI⟩ := h
  have key : ∀ (n : Nat) (x1 : Int64) (x3 : Int32) (x4 : Int32) (x5 : Int32) (S : bT9), I n x1 x3 x4 x5 S → bf_A X (bf_Zi X bW9 Q) 6 57 [some (.ref 0), some (.long x1), none, some (.int x3), some (.int x4), some (.int x5)] [] (bW9 S) := by
    intro n
    induction n using Nat.strongRecOn with
    | _ n ih =>
      intro x1 x3 x4 x5 S hi
      exact t_X9_comes_57b C hR S x1 x3 x4 x5 Q _ (fun x1 x3 x4 x5 S hb => by obtain ⟨n2, hn, hi2⟩ := hb; exact ih n2 hn x1 x3 x4 x5 S hi2) (hI n x1 x3 x4 x5 S hi)
  exact key n0 x1 x3 x4 x5 S h0
def wp_X9_comes (S : bT9) (a1 : Int64) (a3 : Int32) (Q : Int32 → (bT9) → Prop) : Prop := (vp_in (8 : Int32) 23 ∧ ((((b9g_now S) ((8 : Int32)).toNatClampNeg) = (64 : Int32) → (Q (-1 : Int32) S)) ∧ (¬ ((b9g_now S) ((8 : Int32)).toNatClampNeg) = (64 : Int32) → (vp_in (8 : Int32) 23 ∧ (wp_X9_find S ((0 : Int32)) (((b9g_now S) ((8 : Int32)).toNatClampNeg)) (a1) (a3) (fun r6 => ((r6 = (-1 : Int32) → (vp_in (8 : Int32) 23 ∧ (wp_X9_lessMany S ((0 : Int32)) (((b9g_now S) ((8 : Int32)).toNatClampNeg)) (a1) (a3) (fun r8 => (vp_in (8 : Int32) 23 ∧ (wp_X9_comes_57 S (a1) (a3) (r8) (((b9g_now S) ((8 : Int32)).toNatClampNeg)) Q)))))) ∧ (¬ r6 = (-1 : Int32) → (Q (-1 : Int32) S)))))))))
set_option maxRecDepth 20000 in
theorem t_X9_comes {X : bf_X} (C : bf_C X RX9 cX9_comes 6 (some .int)) (hR : bf_Rm X 3 78) (S : bT9) (a1 : Int64) (a3 : Int32) (Q : Int32 → (bT9) → Prop) (h : wp_X9_comes S a1 a3 Q) : bf_A X (bf_Zi X bW9 Q) 6 0 [some (.ref 0), some (.long a1), none, some (.int a3), none, none] [] (bW9 S) := by
  unfold wp_X9_comes at h
  refine bs_aload_n C (bf_dk dd_X9_comes 0 rfl) rfl ?_
  refine bs_get C (bf_dk dd_X9_comes 1 rfl) cl_9 in_9 1 (Nat.le_of_ble_eq_true rfl) rfl f_9_7 (ge_bW9_0 S) rfl ?_
  refine bs_bipush C (bf_dk dd_X9_comes 2 rfl) (8 : Int32) (by decide) ?_
  obtain ⟨hi, h⟩ := h
  refine bs_iald C (bf_dk dd_X9_comes 3 rfl) (ge_bW9_1 S) hi ?_
  refine bs_bipush C (bf_dk dd_X9_comes 4 rfl) (64 : Int32) (by decide) ?_
  refine bs_icmp_eq C (bf_dk dd_X9_comes 5 rfl) (tgt := 30) rfl (fun c => ?_) (fun c => ?_)
  · replace h := h.1 c
    refine bs_iconst C (bf_dk dd_X9_comes 17 rfl) (-1 : Int32) (by decide) ?_
    exact bs_iret (u := S) C (bf_dk dd_X9_comes 18 rfl) rfl h
  · replace h := h.2 c
    refine bs_aload_n C (bf_dk dd_X9_comes 6 rfl) rfl ?_
    refine bs_iconst C (bf_dk dd_X9_comes 7 rfl) (0 : Int32) (by decide) ?_
    refine bs_aload_n C (bf_dk dd_X9_comes 8 rfl) rfl ?_
    refine bs_get C (bf_dk dd_X9_comes 9 rfl) cl_9 in_9 1 (Nat.le_of_ble_eq_true rfl) rfl f_9_7 (ge_bW9_0 S) rfl ?_
    refine bs_bipush C (bf_dk dd_X9_comes 10 rfl) (8 : Int32) (by decide) ?_
    obtain ⟨hi, h⟩ := h
    refine bs_iald C (bf_dk dd_X9_comes 11 rfl) (ge_bW9_1 S) hi ?_
    refine bs_lload_n C (bf_dk dd_X9_comes 12 rfl) rfl ?_
    refine bs_iload_n C (bf_dk dd_X9_comes 13 rfl) rfl ?_
    refine bs_selfPV_i C hR (c_X9_find _ _ _ _ _ S ((0 : Int32)) (((b9g_now S) ((8 : Int32)).toNatClampNeg)) (a1) (a3) _ h) my_X9_find m_9_114 rfl cl_9 (ge_bW9_0 _) rfl (Nat.le_of_ble_eq_true rfl) (Nat.le_of_ble_eq_true rfl) (st := []) (Nat.le_of_ble_eq_true rfl) (bf_dk dd_X9_comes 14 rfl) rfl (fun r6 h => ?_)
    refine bs_iconst C (bf_dk dd_X9_comes 15 rfl) (-1 : Int32) (by decide) ?_
    refine bs_icmp_eq C (bf_dk dd_X9_comes 16 rfl) (tgt := 32) rfl (fun c => ?_) (fun c => ?_)
    · replace h := h.1 c
      refine bs_aload_n C (bf_dk dd_X9_comes 19 rfl) rfl ?_
      refine bs_iconst C (bf_dk dd_X9_comes 20 rfl) (0 : Int32) (by decide) ?_
      refine bs_aload_n C (bf_dk dd_X9_comes 21 rfl) rfl ?_
      refine bs_get C (bf_dk dd_X9_comes 22 rfl) cl_9 in_9 1 (Nat.le_of_ble_eq_true rfl) rfl f_9_7 (ge_bW9_0 S) rfl ?_
      refine bs_bipush C (bf_dk dd_X9_comes 23 rfl) (8 : Int32) (by decide) ?_
      obtain ⟨hi, h⟩ := h
      refine bs_iald C (bf_dk dd_X9_comes 24 rfl) (ge_bW9_1 S) hi ?_
      refine bs_lload_n C (bf_dk dd_X9_comes 25 rfl) rfl ?_
      refine bs_iload_n C (bf_dk dd_X9_comes 26 rfl) rfl ?_
      refine bs_selfPV_i C hR (c_X9_lessMany _ _ _ _ _ S ((0 : Int32)) (((b9g_now S) ((8 : Int32)).toNatClampNeg)) (a1) (a3) _ h) my_X9_lessMany m_9_110 rfl cl_9 (ge_bW9_0 _) rfl (Nat.le_of_ble_eq_true rfl) (Nat.le_of_ble_eq_true rfl) (st := []) (Nat.le_of_ble_eq_true rfl) (bf_dk dd_X9_comes 27 rfl) rfl (fun r8 h => ?_)
      refine bs_istore C (bf_dk dd_X9_comes 28 rfl) (Nat.le_of_ble_eq_true rfl) (Nat.le_of_ble_eq_true rfl) (lv2 := [some (.ref 0), some (.long a1), none, some (.int a3), some (.int r8), none]) rfl ?_
      refine bs_aload_n C (bf_dk dd_X9_comes 29 rfl) rfl ?_
      refine bs_get C (bf_dk dd_X9_comes 30 rfl) cl_9 in_9 1 (Nat.le_of_ble_eq_true rfl) rfl f_9_7 (ge_bW9_0 S) rfl ?_
      refine bs_bipush C (bf_dk dd_X9_comes 31 rfl) (8 : Int32) (by decide) ?_
      obtain ⟨hi, h⟩ := h
      refine bs_iald C (bf_dk dd_X9_comes 32 rfl) (ge_bW9_1 S) hi ?_
      refine bs_istore C (bf_dk dd_X9_comes 33 rfl) (Nat.le_of_ble_eq_true rfl) (Nat.le_of_ble_eq_true rfl) (lv2 := [some (.ref 0), some (.long a1), none, some (.int a3), some (.int r8), some (.int ((b9g_now S) ((8 : Int32)).toNatClampNeg))]) rfl ?_
      exact bs_weak (bf_s1 (bf_s1 (bf_sn (bf_s1 (bf_s1 (bf_s1 bf_s0)))))) (t_X9_comes_57 C hR S (a1) (a3) (r8) (((b9g_now S) ((8 : Int32)).toNatClampNeg)) Q h)
    · replace h := h.2 c
      refine bs_iconst C (bf_dk dd_X9_comes 17 rfl) (-1 : Int32) (by decide) ?_
      exact bs_iret (u := S) C (bf_dk dd_X9_comes 18 rfl) rfl h
theorem c_X9_comes (l : Launch) (dC : Nat → ClassId) (dI : Nat → Nat → Nat) (ac : Nat → ClassId) (al : Nat → Nat) (S : bT9) (a1 : Int64) (a3 : Int32) (Q : Int32 → (bT9) → Prop) (h : wp_X9_comes S a1 a3 Q) : bf_M l yX9_comes cX9_comes 6 (some .int) 3 78 dC dI ac al [.ref 0, .long a1, .int a3] (bW9 S) (bf_Ki dC dI ac al bW9 Q) := by
  refine bf_start [some (.ref 0), some (.long a1), none, some (.int a3), none, none] (by decide) (Nat.le_of_ble_eq_true rfl) (bf_s1 (bf_s1 (bf_sn (bf_s1 (bf_en 2))))) ?_
  intro X hl C hR e1 e2 e3 e4
  subst e1; subst e2; subst e3; subst e4
  exact t_X9_comes C hR S a1 a3 Q h
def wp_X9_add (S : bT9) (a1 : Int32) (a2 : Int32) (a3 : Int32) (Q : Int32 → (bT9) → Prop) : Prop := (∀ S1 : bT9, S1 = (b9s_told S (0 : Int32)) → (wp_X9_isKey S1 (a3) (fun r2 => ((r2 = 0 → (Q (-1 : Int32) S1)) ∧ (¬ r2 = 0 → (wp_X9_keyOf S1 (a1) (a2) (a3) (fun r4 => (wp_X9_comes S1 (r4) (a3) (fun r6 u7 => (Q r6 u7))))))))))
set_option maxRecDepth 20000 in
theorem t_X9_add {X : bf_X} (C : bf_C X RX9 cX9_add 4 (some .int)) (hR : bf_Rm X 4 103) (S : bT9) (a1 : Int32) (a2 : Int32) (a3 : Int32) (Q : Int32 → (bT9) → Prop) (h : wp_X9_add S a1 a2 a3 Q) : bf_A X (bf_Zi X bW9 Q) 4 0 [some (.ref 0), some (.int a1), some (.int a2), some (.int a3)] [] (bW9 S) := by
  unfold wp_X9_add at h
  refine bs_aload_n C (bf_dk dd_X9_add 0 rfl) rfl ?_
  refine bs_iconst C (bf_dk dd_X9_add 1 rfl) (0 : Int32) (by decide) ?_
  refine bs_put C (bf_dk dd_X9_add 2 rfl) tyX9_ok nmX9 cl_9 in_9 0 (Nat.le_of_ble_eq_true rfl) rfl f_9_75 rfl (ge_bW9_0 S) (Nat.le_of_ble_eq_true rfl) rfl rfl (pu_bW9_0_0 S (0 : Int32)) ?_
  refine bs_nameS bW9 (fun S1 eS1 => ?_)
  replace h := h S1 eS1
  refine bs_aload_n C (bf_dk dd_X9_add 3 rfl) rfl ?_
  refine bs_iload_n C (bf_dk dd_X9_add 4 rfl) rfl ?_
  refine bs_selfPV_i C hR (c_X9_isKey _ _ _ _ _ S1 (a3) _ h) my_X9_isKey m_9_117 rfl cl_9 (ge_bW9_0 _) rfl (Nat.le_of_ble_eq_true rfl) (Nat.le_of_ble_eq_true rfl) (st := []) (Nat.le_of_ble_eq_true rfl) (bf_dk dd_X9_add 5 rfl) rfl (fun r2 h => ?_)
  refine bs_if_eq C (bf_dk dd_X9_add 6 rfl) (tgt := 28) rfl (fun c => ?_) (fun c => ?_)
  · replace h := h.1 c
    refine bs_iconst C (bf_dk dd_X9_add 16 rfl) (-1 : Int32) (by decide) ?_
    exact bs_iret (u := S1) C (bf_dk dd_X9_add 17 rfl) rfl h
  · replace h := h.2 c
    refine bs_aload_n C (bf_dk dd_X9_add 7 rfl) rfl ?_
    refine bs_aload_n C (bf_dk dd_X9_add 8 rfl) rfl ?_
    refine bs_iload_n C (bf_dk dd_X9_add 9 rfl) rfl ?_
    refine bs_iload_n C (bf_dk dd_X9_add 10 rfl) rfl ?_
    refine bs_iload_n C (bf_dk dd_X9_add 11 rfl) rfl ?_
    refine bs_selfPV_l C hR (c_X9_keyOf _ _ _ _ _ S1 (a1) (a2) (a3) _ h) my_X9_keyOf m_9_121 rfl cl_9 (ge_bW9_0 _) rfl (Nat.le_of_ble_eq_true rfl) (Nat.le_of_ble_eq_true rfl) (st := [.ref 0]) (Nat.le_of_ble_eq_true rfl) (bf_dk dd_X9_add 12 rfl) rfl (fun r4 h => ?_)
    refine bs_iload_n C (bf_dk dd_X9_add 13 rfl) rfl ?_
    refine bs_selfV_i C hR (c_X9_comes _ _ _ _ _ S1 (r4) (a3) _ h) my_X9_comes m_9_125 rfl cl_9 (ge_bW9_0 _) rfl (Nat.le_of_ble_eq_true rfl) (Nat.le_of_ble_eq_true rfl) (st := []) (Nat.le_of_ble_eq_true rfl) (bf_dk dd_X9_add 14 rfl) rfl (len := 21) (fun _ => rfl) (fun r6 u7 h => ?_)
    refine bs_goto C (bf_dk dd_X9_add 15 rfl) (tgt := 29) rfl ?_
    exact bs_iret (u := u7) C (bf_dk dd_X9_add 17 rfl) rfl h
theorem c_X9_add (l : Launch) (dC : Nat → ClassId) (dI : Nat → Nat → Nat) (ac : Nat → ClassId) (al : Nat → Nat) (S : bT9) (a1 : Int32) (a2 : Int32) (a3 : Int32) (Q : Int32 → (bT9) → Prop) (h : wp_X9_add S a1 a2 a3 Q) : bf_M l yX9_add cX9_add 4 (some .int) 4 103 dC dI ac al [.ref 0, .int a1, .int a2, .int a3] (bW9 S) (bf_Ki dC dI ac al bW9 Q) := by
  refine bf_start [some (.ref 0), some (.int a1), some (.int a2), some (.int a3)] (by decide) (Nat.le_of_ble_eq_true rfl) (bf_s1 (bf_s1 (bf_s1 (bf_s1 bf_s0)))) ?_
  intro X hl C hR e1 e2 e3 e4
  subst e1; subst e2; subst e3; subst e4
  exact t_X9_add C hR S a1 a2 a3 Q h
def wp_X9_remove_67b (S : bT9) (x4 : Int32) (x5 : Int32) (Q : Int32 → (bT9) → Prop) (B67 : Int32 → Int32 → (bT9) → Prop) : Prop := (vp_in (8 : Int32) 23 ∧ ((((b9g_now S) ((8 : Int32)).toNatClampNeg) ≤ x5 → (Q x4 S)) ∧ (¬ ((b9g_now S) ((8 : Int32)).toNatClampNeg) ≤ x5 → (vp_in (x5 + (1 : Int32)) 144 ∧ (vp_in x5 144 ∧ (∀ S1 : bT9, S1 = (b9s_keys S (vp_updL (b9g_keys S) (x5).toNatClampNeg ((b9g_keys S) ((x5 + (1 : Int32))).toNatClampNeg))) → (vp_in (x5 + (1 : Int32)) 144 ∧ (vp_in x5 144 ∧ (∀ S2 : bT9, S2 = (b9s_lengths S1 (upd (b9g_lengths S1) (x5).toNatClampNeg ((b9g_lengths S1) ((x5 + (1 : Int32))).toNatClampNeg))) → (B67 (x4) ((x5 + (1 : Int32))) S2))))))))))
set_option maxRecDepth 20000 in
theorem t_X9_remove_67b {X : bf_X} (C : bf_C X RX9 cX9_remove 6 (some .int)) (hR : bf_Rm X 3 78) (S : bT9) (x4 : Int32) (x5 : Int32) (Q : Int32 → (bT9) → Prop) (B67 : Int32 → Int32 → (bT9) → Prop) (hB67 : ∀ (x4 : Int32) (x5 : Int32) (S : bT9), B67 x4 x5 S → bf_A X (bf_Zi X bW9 Q) 6 67 [some (.ref 0), none, none, none, some (.int x4), some (.int x5)] [] (bW9 S)) (h : wp_X9_remove_67b S x4 x5 Q B67) : bf_A X (bf_Zi X bW9 Q) 6 67 [some (.ref 0), none, none, none, some (.int x4), some (.int x5)] [] (bW9 S) := by
  unfold wp_X9_remove_67b at h
  refine bs_iload C (bf_dk dd_X9_remove 40 rfl) rfl ?_
  refine bs_aload_n C (bf_dk dd_X9_remove 41 rfl) rfl ?_
  refine bs_get C (bf_dk dd_X9_remove 42 rfl) cl_9 in_9 1 (Nat.le_of_ble_eq_true rfl) rfl f_9_7 (ge_bW9_0 S) rfl ?_
  refine bs_bipush C (bf_dk dd_X9_remove 43 rfl) (8 : Int32) (by decide) ?_
  obtain ⟨hi, h⟩ := h
  refine bs_iald C (bf_dk dd_X9_remove 44 rfl) (ge_bW9_1 S) hi ?_
  refine bs_icmp_ge C (bf_dk dd_X9_remove 45 rfl) (tgt := 117) rfl (fun c => ?_) (fun c => ?_)
  · replace h := h.1 c
    refine bs_iload C (bf_dk dd_X9_remove 68 rfl) rfl ?_
    exact bs_iret (u := S) C (bf_dk dd_X9_remove 69 rfl) rfl h
  · replace h := h.2 c
    refine bs_aload_n C (bf_dk dd_X9_remove 46 rfl) rfl ?_
    refine bs_get C (bf_dk dd_X9_remove 47 rfl) cl_9 in_9 2 (Nat.le_of_ble_eq_true rfl) rfl f_9_13 (ge_bW9_0 S) rfl ?_
    refine bs_iload C (bf_dk dd_X9_remove 48 rfl) rfl ?_
    refine bs_aload_n C (bf_dk dd_X9_remove 49 rfl) rfl ?_
    refine bs_get C (bf_dk dd_X9_remove 50 rfl) cl_9 in_9 2 (Nat.le_of_ble_eq_true rfl) rfl f_9_13 (ge_bW9_0 S) rfl ?_
    refine bs_iload C (bf_dk dd_X9_remove 51 rfl) rfl ?_
    refine bs_iconst C (bf_dk dd_X9_remove 52 rfl) (1 : Int32) (by decide) ?_
    refine bs_iadd C (bf_dk dd_X9_remove 53 rfl) ?_
    obtain ⟨hi, h⟩ := h
    refine bs_lald C (bf_dk dd_X9_remove 54 rfl) (ge_bW9_2 S) hi ?_
    obtain ⟨hi, h⟩ := h
    refine bs_last C (bf_dk dd_X9_remove 55 rfl) (ge_bW9_2 S) hi (ar_bW9_2 S _) ?_
    refine bs_nameS bW9 (fun S1 eS1 => ?_)
    replace h := h S1 eS1
    refine bs_aload_n C (bf_dk dd_X9_remove 56 rfl) rfl ?_
    refine bs_get C (bf_dk dd_X9_remove 57 rfl) cl_9 in_9 3 (Nat.le_of_ble_eq_true rfl) rfl f_9_17 (ge_bW9_0 S1) rfl ?_
    refine bs_iload C (bf_dk dd_X9_remove 58 rfl) rfl ?_
    refine bs_aload_n C (bf_dk dd_X9_remove 59 rfl) rfl ?_
    refine bs_get C (bf_dk dd_X9_remove 60 rfl) cl_9 in_9 3 (Nat.le_of_ble_eq_true rfl) rfl f_9_17 (ge_bW9_0 S1) rfl ?_
    refine bs_iload C (bf_dk dd_X9_remove 61 rfl) rfl ?_
    refine bs_iconst C (bf_dk dd_X9_remove 62 rfl) (1 : Int32) (by decide) ?_
    refine bs_iadd C (bf_dk dd_X9_remove 63 rfl) ?_
    obtain ⟨hi, h⟩ := h
    refine bs_iald C (bf_dk dd_X9_remove 64 rfl) (ge_bW9_3 S1) hi ?_
    obtain ⟨hi, h⟩ := h
    refine bs_iast C (bf_dk dd_X9_remove 65 rfl) (ge_bW9_3 S1) hi (ar_bW9_3 S1 _) ?_
    refine bs_nameS bW9 (fun S2 eS2 => ?_)
    replace h := h S2 eS2
    refine bs_iinc C (bf_dk dd_X9_remove 66 rfl) (x5 + (1 : Int32)) rfl rfl (Nat.le_of_ble_eq_true rfl) (Nat.le_of_ble_eq_true rfl) (lv2 := [some (.ref 0), none, none, none, some (.int x4), some (.int (x5 + (1 : Int32)))]) rfl ?_
    refine bs_goto C (bf_dk dd_X9_remove 67 rfl) (tgt := 67) rfl ?_
    exact bs_weak (bf_s1 (bf_sn (bf_sn (bf_sn (bf_s1 (bf_s1 bf_s0)))))) (hB67 (x4) ((x5 + (1 : Int32))) S2 h)
def wp_X9_remove_67 (S : bT9) (x4 : Int32) (x5 : Int32) (Q : Int32 → (bT9) → Prop) : Prop := ∃ I : Nat → Int32 → Int32 → (bT9) → Prop, (∃ n : Nat, I n x4 x5 S) ∧ ∀ (n : Nat) (x4 : Int32) (x5 : Int32) (S : bT9), I n x4 x5 S → wp_X9_remove_67b S x4 x5 Q (fun x4 x5 S => ∃ n2 : Nat, n2 < n ∧ I n2 x4 x5 S)
theorem t_X9_remove_67 {X : bf_X} (C : bf_C X RX9 cX9_remove 6 (some .int)) (hR : bf_Rm X 3 78) (S : bT9) (x4 : Int32) (x5 : Int32) (Q : Int32 → (bT9) → Prop) (h : wp_X9_remove_67 S x4 x5 Q) : bf_A X (bf_Zi X bW9 Q) 6 67 [some (.ref 0), none, none, none, some (.int x4), some (.int x5)] [] (bW9 S) := by
  obtain ⟨I, ⟨n0, h0⟩, hI⟩ := h
  have key : ∀ (n : Nat) (x4 : Int32) (x5 : Int32) (S : bT9), I n x4 x5 S → bf_A X (bf_Zi X bW9 Q) 6 67 [some (.ref 0), none, none, none, some (.int x4), some (.int x5)] [] (bW9 S) := by
    intro n
    induction n using Nat.strongRecOn with
    | _ n ih =>
      intro x4 x5 S hi
      exact t_X9_remove_67b C hR S x4 x5 Q _ (fun x4 x5 S hb => by obtain ⟨n2, hn, hi2⟩ := hb; exact ih n2 hn x4 x5 S hi2) (hI n x4 x5 S hi)
  exact key n0 x4 x5 S h0
def wp_X9_remove_37 (S : bT9) (t0 : Int32) (Q : Int32 → (bT9) → Prop) : Prop := ((¬ t0 = (-1 : Int32) → (vp_in (8 : Int32) 23 ∧ (vp_in (8 : Int32) 23 ∧ (∀ S3 : bT9, S3 = (b9s_now S (upd (b9g_now S) ((8 : Int32)).toNatClampNeg (((b9g_now S) ((8 : Int32)).toNatClampNeg) - (1 : Int32)))) → (wp_X9_remove_67 S3 (t0) (t0) Q))))) ∧ (t0 = (-1 : Int32) → (Q (-1 : Int32) S)))
set_option maxRecDepth 20000 in
theorem t_X9_remove_37 {X : bf_X} (C : bf_C X RX9 cX9_remove 6 (some .int)) (hR : bf_Rm X 3 78) (S : bT9) (t0 : Int32) (Q : Int32 → (bT9) → Prop) (h : wp_X9_remove_37 S t0 Q) : bf_A X (bf_Zi X bW9 Q) 6 37 [some (.ref 0), none, none, none, none, none] [.int t0] (bW9 S) := by
  unfold wp_X9_remove_37 at h
  refine bs_istore C (bf_dk dd_X9_remove 22 rfl) (Nat.le_of_ble_eq_true rfl) (Nat.le_of_ble_eq_true rfl) (lv2 := [some (.ref 0), none, none, none, some (.int t0), none]) rfl ?_
  refine bs_iload C (bf_dk dd_X9_remove 23 rfl) rfl ?_
  refine bs_iconst C (bf_dk dd_X9_remove 24 rfl) (-1 : Int32) (by decide) ?_
  refine bs_icmp_ne C (bf_dk dd_X9_remove 25 rfl) (tgt := 47) rfl (fun c => ?_) (fun c => ?_)
  · replace h := h.1 c
    refine bs_aload_n C (bf_dk dd_X9_remove 28 rfl) rfl ?_
    refine bs_get C (bf_dk dd_X9_remove 29 rfl) cl_9 in_9 1 (Nat.le_of_ble_eq_true rfl) rfl f_9_7 (ge_bW9_0 S) rfl ?_
    refine bs_bipush C (bf_dk dd_X9_remove 30 rfl) (8 : Int32) (by decide) ?_
    refine bs_aload_n C (bf_dk dd_X9_remove 31 rfl) rfl ?_
    refine bs_get C (bf_dk dd_X9_remove 32 rfl) cl_9 in_9 1 (Nat.le_of_ble_eq_true rfl) rfl f_9_7 (ge_bW9_0 S) rfl ?_
    refine bs_bipush C (bf_dk dd_X9_remove 33 rfl) (8 : Int32) (by decide) ?_
    obtain ⟨hi, h⟩ := h
    refine bs_iald C (bf_dk dd_X9_remove 34 rfl) (ge_bW9_1 S) hi ?_
    refine bs_iconst C (bf_dk dd_X9_remove 35 rfl) (1 : Int32) (by decide) ?_
    refine bs_isub C (bf_dk dd_X9_remove 36 rfl) ?_
    obtain ⟨hi, h⟩ := h
    refine bs_iast C (bf_dk dd_X9_remove 37 rfl) (ge_bW9_1 S) hi (ar_bW9_1 S _) ?_
    refine bs_nameS bW9 (fun S3 eS3 => ?_)
    replace h := h S3 eS3
    refine bs_iload C (bf_dk dd_X9_remove 38 rfl) rfl ?_
    refine bs_istore C (bf_dk dd_X9_remove 39 rfl) (Nat.le_of_ble_eq_true rfl) (Nat.le_of_ble_eq_true rfl) (lv2 := [some (.ref 0), none, none, none, some (.int t0), some (.int t0)]) rfl ?_
    exact bs_weak (bf_s1 (bf_sn (bf_sn (bf_sn (bf_s1 (bf_s1 bf_s0)))))) (t_X9_remove_67 C hR S3 (t0) (t0) Q h)
  · replace h := h.2 c
    refine bs_iconst C (bf_dk dd_X9_remove 26 rfl) (-1 : Int32) (by decide) ?_
    exact bs_iret (u := S) C (bf_dk dd_X9_remove 27 rfl) rfl h
def wp_X9_remove (S : bT9) (a1 : Int32) (a2 : Int32) (a3 : Int32) (Q : Int32 → (bT9) → Prop) : Prop := (∀ S4 : bT9, S4 = (b9s_told S (0 : Int32)) → (wp_X9_isKey S4 (a3) (fun r5 => ((r5 = 0 → (wp_X9_remove_37 S4 ((-1 : Int32)) Q)) ∧ (¬ r5 = 0 → (vp_in (8 : Int32) 23 ∧ (wp_X9_keyOf S4 (a1) (a2) (a3) (fun r7 => (wp_X9_find S4 ((0 : Int32)) (((b9g_now S4) ((8 : Int32)).toNatClampNeg)) (r7) (a3) (fun r9 => (wp_X9_remove_37 S4 (r9) Q)))))))))))
set_option maxRecDepth 20000 in
theorem t_X9_remove {X : bf_X} (C : bf_C X RX9 cX9_remove 6 (some .int)) (hR : bf_Rm X 3 78) (S : bT9) (a1 : Int32) (a2 : Int32) (a3 : Int32) (Q : Int32 → (bT9) → Prop) (h : wp_X9_remove S a1 a2 a3 Q) : bf_A X (bf_Zi X bW9 Q) 6 0 [some (.ref 0), some (.int a1), some (.int a2), some (.int a3), none, none] [] (bW9 S) := by
  unfold wp_X9_remove at h
  refine bs_aload_n C (bf_dk dd_X9_remove 0 rfl) rfl ?_
  refine bs_iconst C (bf_dk dd_X9_remove 1 rfl) (0 : Int32) (by decide) ?_
  refine bs_put C (bf_dk dd_X9_remove 2 rfl) tyX9_ok nmX9 cl_9 in_9 0 (Nat.le_of_ble_eq_true rfl) rfl f_9_75 rfl (ge_bW9_0 S) (Nat.le_of_ble_eq_true rfl) rfl rfl (pu_bW9_0_0 S (0 : Int32)) ?_
  refine bs_nameS bW9 (fun S4 eS4 => ?_)
  replace h := h S4 eS4
  refine bs_aload_n C (bf_dk dd_X9_remove 3 rfl) rfl ?_
  refine bs_iload_n C (bf_dk dd_X9_remove 4 rfl) rfl ?_
  refine bs_selfPV_i C hR (c_X9_isKey _ _ _ _ _ S4 (a3) _ h) my_X9_isKey m_9_117 rfl cl_9 (ge_bW9_0 _) rfl (Nat.le_of_ble_eq_true rfl) (Nat.le_of_ble_eq_true rfl) (st := []) (Nat.le_of_ble_eq_true rfl) (bf_dk dd_X9_remove 5 rfl) rfl (fun r5 h => ?_)
  refine bs_if_eq C (bf_dk dd_X9_remove 6 rfl) (tgt := 36) rfl (fun c => ?_) (fun c => ?_)
  · replace h := h.1 c
    refine bs_iconst C (bf_dk dd_X9_remove 21 rfl) (-1 : Int32) (by decide) ?_
    exact bs_weak (bf_s1 (bf_sn (bf_sn (bf_sn (bf_sn (bf_sn bf_s0)))))) (t_X9_remove_37 C hR S4 ((-1 : Int32)) Q h)
  · replace h := h.2 c
    refine bs_aload_n C (bf_dk dd_X9_remove 7 rfl) rfl ?_
    refine bs_iconst C (bf_dk dd_X9_remove 8 rfl) (0 : Int32) (by decide) ?_
    refine bs_aload_n C (bf_dk dd_X9_remove 9 rfl) rfl ?_
    refine bs_get C (bf_dk dd_X9_remove 10 rfl) cl_9 in_9 1 (Nat.le_of_ble_eq_true rfl) rfl f_9_7 (ge_bW9_0 S4) rfl ?_
    refine bs_bipush C (bf_dk dd_X9_remove 11 rfl) (8 : Int32) (by decide) ?_
    obtain ⟨hi, h⟩ := h
    refine bs_iald C (bf_dk dd_X9_remove 12 rfl) (ge_bW9_1 S4) hi ?_
    refine bs_aload_n C (bf_dk dd_X9_remove 13 rfl) rfl ?_
    refine bs_iload_n C (bf_dk dd_X9_remove 14 rfl) rfl ?_
    refine bs_iload_n C (bf_dk dd_X9_remove 15 rfl) rfl ?_
    refine bs_iload_n C (bf_dk dd_X9_remove 16 rfl) rfl ?_
    refine bs_selfPV_l C hR (c_X9_keyOf _ _ _ _ _ S4 (a1) (a2) (a3) _ h) my_X9_keyOf m_9_121 rfl cl_9 (ge_bW9_0 _) rfl (Nat.le_of_ble_eq_true rfl) (Nat.le_of_ble_eq_true rfl) (st := [.int ((b9g_now S4) ((8 : Int32)).toNatClampNeg), .int (0 : Int32), .ref 0]) (Nat.le_of_ble_eq_true rfl) (bf_dk dd_X9_remove 17 rfl) rfl (fun r7 h => ?_)
    refine bs_iload_n C (bf_dk dd_X9_remove 18 rfl) rfl ?_
    refine bs_selfPV_i C hR (c_X9_find _ _ _ _ _ S4 ((0 : Int32)) (((b9g_now S4) ((8 : Int32)).toNatClampNeg)) (r7) (a3) _ h) my_X9_find m_9_114 rfl cl_9 (ge_bW9_0 _) rfl (Nat.le_of_ble_eq_true rfl) (Nat.le_of_ble_eq_true rfl) (st := []) (Nat.le_of_ble_eq_true rfl) (bf_dk dd_X9_remove 19 rfl) rfl (fun r9 h => ?_)
    refine bs_goto C (bf_dk dd_X9_remove 20 rfl) (tgt := 37) rfl ?_
    exact bs_weak (bf_s1 (bf_sn (bf_sn (bf_sn (bf_sn (bf_sn bf_s0)))))) (t_X9_remove_37 C hR S4 (r9) Q h)
theorem c_X9_remove (l : Launch) (dC : Nat → ClassId) (dI : Nat → Nat → Nat) (ac : Nat → ClassId) (al : Nat → Nat) (S : bT9) (a1 : Int32) (a2 : Int32) (a3 : Int32) (Q : Int32 → (bT9) → Prop) (h : wp_X9_remove S a1 a2 a3 Q) : bf_M l yX9_remove cX9_remove 6 (some .int) 3 78 dC dI ac al [.ref 0, .int a1, .int a2, .int a3] (bW9 S) (bf_Ki dC dI ac al bW9 Q) := by
  refine bf_start [some (.ref 0), some (.int a1), some (.int a2), some (.int a3), none, none] (by decide) (Nat.le_of_ble_eq_true rfl) (bf_s1 (bf_s1 (bf_s1 (bf_s1 (bf_en 2))))) ?_
  intro X hl C hR e1 e2 e3 e4
  subst e1; subst e2; subst e3; subst e4
  exact t_X9_remove C hR S a1 a2 a3 Q h
