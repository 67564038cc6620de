def wp_X8_tellFilter_74 (S : bT8) (x1 : Int32) (x2 : Int32) (x3 : Int32) (t1 : Int32) (Q : (bT8) → Prop) (B2 : Int32 → (bT8) → Prop) : Prop := (wp_X5_put (b8g_text S) (t1) (fun u2 => (∀ S3 : bT8, S3 = (b8s_text S u2) → (wp_X5_putNumber (b8g_text S3) ((x3 - x2)) (fun u5 => (∀ S6 : bT8, S6 = (b8s_text S3 u5) → (wp_X5_put (b8g_text S6) ((58 : Int32)) (fun u8 => (∀ S9 : bT8, S9 = (b8s_text S6 u8) → (wp_X6_branches (b8g_tree S9) (x2) (x3) (fun r10 => (wp_X5_putNumber (b8g_text S9) (r10) (fun u13 => (∀ S14 : bT8, S14 = (b8s_text S9 u13) → (B2 ((x1 + (1 : Int32))) S14)))))))))))))))
set_option maxRecDepth 20000 in
theorem t_X8_tellFilter_74 {X : bf_X} (C : bf_C X RX8 cX8_tellFilter 4 none) (hR : bf_Rm X 4 88) (S : bT8) (x1 : Int32) (x2 : Int32) (x3 : Int32) (t1 : Int32) (Q : (bT8) → Prop) (B2 : Int32 → (bT8) → Prop) (hB2 : ∀ (x1 : Int32) (S : bT8), B2 x1 S → bf_A X (bf_Zv X bW8 Q) 4 2 [some (.ref 0), some (.int x1), none, none] [] (bW8 S)) (h : wp_X8_tellFilter_74 S x1 x2 x3 t1 Q B2) : bf_A X (bf_Zv X bW8 Q) 4 74 [some (.ref 0), some (.int x1), some (.int x2), some (.int x3)] [.int t1, .ref 66] (bW8 S) := by
  unfold wp_X8_tellFilter_74 at h
  refine bs_callV_v (ps := [66, 67]) (w := (bW8 S)) C hR (c_X5_put _ _ _ _ _ (b8g_text S) (t1) _ h) my_X5_put m_8_403 rfl cl_5 (ge_bW5_0 _) rfl (Nat.le_of_ble_eq_true rfl) (Nat.le_of_ble_eq_true rfl) (su_bW8_66_bW5 S) rfl (st := []) (Nat.le_of_ble_eq_true rfl) (bf_dk dd_X8_tellFilter 37 rfl) rfl (fun _ => rfl) (w2 := fun u2 => bW8 (b8s_text S u2)) (pt_bW8_66_bW5 S) (fun u2 h => ?_)
  refine bs_nameS bW8 (fun S3 eS3 => ?_)
  replace h := h S3 eS3
  refine bs_aload_n C (bf_dk dd_X8_tellFilter 38 rfl) rfl ?_
  refine bs_get C (bf_dk dd_X8_tellFilter 39 rfl) cl_8 in_8 8 (Nat.le_of_ble_eq_true rfl) rfl f_8_61 (ge_bW8_0 S3) rfl ?_
  refine bs_iload_n C (bf_dk dd_X8_tellFilter 40 rfl) rfl ?_
  refine bs_iload_n C (bf_dk dd_X8_tellFilter 41 rfl) rfl ?_
  refine bs_isub C (bf_dk dd_X8_tellFilter 42 rfl) ?_
  refine bs_callV_v (ps := [66, 67]) (w := (bW8 S3)) C hR (c_X5_putNumber _ _ _ _ _ (b8g_text S3) ((x3 - x2)) _ h) my_X5_putNumber m_8_407 rfl cl_5 (ge_bW5_0 _) rfl (Nat.le_of_ble_eq_true rfl) (Nat.le_of_ble_eq_true rfl) (su_bW8_66_bW5 S3) rfl (st := []) (Nat.le_of_ble_eq_true rfl) (bf_dk dd_X8_tellFilter 43 rfl) rfl (fun _ => rfl) (w2 := fun u5 => bW8 (b8s_text S3 u5)) (pt_bW8_66_bW5 S3) (fun u5 h => ?_)
  refine bs_nameS bW8 (fun S6 eS6 => ?_)
  replace h := h S6 eS6
  refine bs_aload_n C (bf_dk dd_X8_tellFilter 44 rfl) rfl ?_
  refine bs_get C (bf_dk dd_X8_tellFilter 45 rfl) cl_8 in_8 8 (Nat.le_of_ble_eq_true rfl) rfl f_8_61 (ge_bW8_0 S6) rfl ?_
  refine bs_bipush C (bf_dk dd_X8_tellFilter 46 rfl) (58 : Int32) (by decide) ?_
  refine bs_callV_v (ps := [66, 67]) (w := (bW8 S6)) C hR (c_X5_put _ _ _ _ _ (b8g_text S6) ((58 : Int32)) _ h) my_X5_put m_8_403 rfl cl_5 (ge_bW5_0 _) rfl (Nat.le_of_ble_eq_true rfl) (Nat.le_of_ble_eq_true rfl) (su_bW8_66_bW5 S6) rfl (st := []) (Nat.le_of_ble_eq_true rfl) (bf_dk dd_X8_tellFilter 47 rfl) rfl (fun _ => rfl) (w2 := fun u8 => bW8 (b8s_text S6 u8)) (pt_bW8_66_bW5 S6) (fun u8 h => ?_)
  refine bs_nameS bW8 (fun S9 eS9 => ?_)
  replace h := h S9 eS9
  refine bs_aload_n C (bf_dk dd_X8_tellFilter 48 rfl) rfl ?_
  refine bs_get C (bf_dk dd_X8_tellFilter 49 rfl) cl_8 in_8 8 (Nat.le_of_ble_eq_true rfl) rfl f_8_61 (ge_bW8_0 S9) rfl ?_
  refine bs_aload_n C (bf_dk dd_X8_tellFilter 50 rfl) rfl ?_
  refine bs_get C (bf_dk dd_X8_tellFilter 51 rfl) cl_8 in_8 4 (Nat.le_of_ble_eq_true rfl) rfl f_8_33 (ge_bW8_0 S9) rfl ?_
  refine bs_iload_n C (bf_dk dd_X8_tellFilter 52 rfl) rfl ?_
  refine bs_iload_n C (bf_dk dd_X8_tellFilter 53 rfl) rfl ?_
  refine bs_pureV_i (ps := [45, 46, 47, 48, 49, 50, 51, 52, 53, 54, 55, 56, 57]) (w := (bW8 S9)) C hR (c_X6_branches _ _ _ _ _ (b8g_tree S9) (x2) (x3) _ h) my_X6_branches m_8_234 rfl cl_6 (ge_bW6_0 _) rfl (Nat.le_of_ble_eq_true rfl) (Nat.le_of_ble_eq_true rfl) (su_bW8_45_bW6 S9) bnd_45t57 (st := [.ref 66]) (Nat.le_of_ble_eq_true rfl) (bf_dk dd_X8_tellFilter 54 rfl) rfl (fun _ => rfl) (fun r10 h => ?_)
  refine bs_callV_v (ps := [66, 67]) (w := (bW8 S9)) C hR (c_X5_putNumber _ _ _ _ _ (b8g_text S9) (r10) _ h) my_X5_putNumber m_8_407 rfl cl_5 (ge_bW5_0 _) rfl (Nat.le_of_ble_eq_true rfl) (Nat.le_of_ble_eq_true rfl) (su_bW8_66_bW5 S9) rfl (st := []) (Nat.le_of_ble_eq_true rfl) (bf_dk dd_X8_tellFilter 55 rfl) rfl (fun _ => rfl) (w2 := fun u13 => bW8 (b8s_text S9 u13)) (pt_bW8_66_bW5 S9) (fun u13 h => ?_)
  refine bs_nameS bW8 (fun S14 eS14 => ?_)
  replace h := h S14 eS14
  refine bs_iinc C (bf_dk dd_X8_tellFilter 56 rfl) (x1 + (1 : Int32)) rfl rfl (Nat.le_of_ble_eq_true rfl) (Nat.le_of_ble_eq_true rfl) (lv2 := [some (.ref 0), some (.int (x1 + (1 : Int32))), some (.int x2), some (.int x3)]) rfl ?_
  refine bs_goto C (bf_dk dd_X8_tellFilter 57 rfl) (tgt := 2) rfl ?_
  exact bs_weak (bf_s1 (bf_s1 (bf_sn (bf_sn bf_s0)))) (hB2 ((x1 + (1 : Int32))) S14 h)
def wp_X8_tellFilter_26 (S : bT8) (x1 : Int32) (Q : (bT8) → Prop) (B2 : Int32 → (bT8) → Prop) : Prop := (wp_X8_at 9 (b6g_levelStarts (b8g_tree S)) (x1) (fun r15 => (wp_X8_at 9 (b6g_levelStarts (b8g_tree S)) ((x1 + (1 : Int32))) (fun r17 => (((b6g_upper (b8g_tree S)) ≤ x1 → (wp_X8_tellFilter_74 S (x1) (r15) (r17) ((115 : Int32)) Q B2)) ∧ (¬ (b6g_upper (b8g_tree S)) ≤ x1 → (wp_X8_tellFilter_74 S (x1) (r15) (r17) ((100 : Int32)) Q B2)))))))
set_option maxRecDepth 20000 in
theorem t_X8_tellFilter_26 {X : bf_X} (C : bf_C X RX8 cX8_tellFilter 4 none) (hR : bf_Rm X 4 88) (S : bT8) (x1 : Int32) (Q : (bT8) → Prop) (B2 : Int32 → (bT8) → Prop) (hB2 : ∀ (x1 : Int32) (S : bT8), B2 x1 S → bf_A X (bf_Zv X bW8 Q) 4 2 [some (.ref 0), some (.int x1), none, none] [] (bW8 S)) (h : wp_X8_tellFilter_26 S x1 Q B2) : bf_A X (bf_Zv X bW8 Q) 4 26 [some (.ref 0), some (.int x1), none, none] [] (bW8 S) := by
  unfold wp_X8_tellFilter_26 at h
  refine bs_aload_n C (bf_dk dd_X8_tellFilter 13 rfl) rfl ?_
  refine bs_get C (bf_dk dd_X8_tellFilter 14 rfl) cl_8 in_8 4 (Nat.le_of_ble_eq_true rfl) rfl f_8_33 (ge_bW8_0 S) rfl ?_
  refine bs_get C (bf_dk dd_X8_tellFilter 15 rfl) cl_6 in_6 8 (Nat.le_of_ble_eq_true rfl) rfl f_8_259 (ge_bW8_45 S) rfl ?_
  refine bs_iload_n C (bf_dk dd_X8_tellFilter 16 rfl) rfl ?_
  refine bs_pureS_i (ps := [54]) (w := (bW8 S)) C hR (c_X8_at _ _ _ _ _ 9 (b6g_levelStarts (b8g_tree S)) (x1) _ h) my_X8_at m_8_115 rfl (Nat.le_of_ble_eq_true rfl) (Nat.le_of_ble_eq_true rfl) (su_bW8_54_bWan9 S) rfl (st := []) (Nat.le_of_ble_eq_true rfl) (bf_dk dd_X8_tellFilter 17 rfl) rfl (fun _ => rfl) (fun r15 h => ?_)
  refine bs_istore_n C (bf_dk dd_X8_tellFilter 18 rfl) rfl (Nat.le_of_ble_eq_true rfl) (Nat.le_of_ble_eq_true rfl) (lv2 := [some (.ref 0), some (.int x1), some (.int r15), none]) rfl ?_
  refine bs_aload_n C (bf_dk dd_X8_tellFilter 19 rfl) rfl ?_
  refine bs_get C (bf_dk dd_X8_tellFilter 20 rfl) cl_8 in_8 4 (Nat.le_of_ble_eq_true rfl) rfl f_8_33 (ge_bW8_0 S) rfl ?_
  refine bs_get C (bf_dk dd_X8_tellFilter 21 rfl) cl_6 in_6 8 (Nat.le_of_ble_eq_true rfl) rfl f_8_259 (ge_bW8_45 S) rfl ?_
  refine bs_iload_n C (bf_dk dd_X8_tellFilter 22 rfl) rfl ?_
  refine bs_iconst C (bf_dk dd_X8_tellFilter 23 rfl) (1 : Int32) (by decide) ?_
  refine bs_iadd C (bf_dk dd_X8_tellFilter 24 rfl) ?_
  refine bs_pureS_i (ps := [54]) (w := (bW8 S)) C hR (c_X8_at _ _ _ _ _ 9 (b6g_levelStarts (b8g_tree S)) ((x1 + (1 : Int32))) _ h) my_X8_at m_8_115 rfl (Nat.le_of_ble_eq_true rfl) (Nat.le_of_ble_eq_true rfl) (su_bW8_54_bWan9 S) rfl (st := []) (Nat.le_of_ble_eq_true rfl) (bf_dk dd_X8_tellFilter 25 rfl) rfl (fun _ => rfl) (fun r17 h => ?_)
  refine bs_istore_n C (bf_dk dd_X8_tellFilter 26 rfl) rfl (Nat.le_of_ble_eq_true rfl) (Nat.le_of_ble_eq_true rfl) (lv2 := [some (.ref 0), some (.int x1), some (.int r15), some (.int r17)]) rfl ?_
  refine bs_aload_n C (bf_dk dd_X8_tellFilter 27 rfl) rfl ?_
  refine bs_get C (bf_dk dd_X8_tellFilter 28 rfl) cl_8 in_8 8 (Nat.le_of_ble_eq_true rfl) rfl f_8_61 (ge_bW8_0 S) rfl ?_
  refine bs_iload_n C (bf_dk dd_X8_tellFilter 29 rfl) rfl ?_
  refine bs_aload_n C (bf_dk dd_X8_tellFilter 30 rfl) rfl ?_
  refine bs_get C (bf_dk dd_X8_tellFilter 31 rfl) cl_8 in_8 4 (Nat.le_of_ble_eq_true rfl) rfl f_8_33 (ge_bW8_0 S) rfl ?_
  refine bs_get C (bf_dk dd_X8_tellFilter 32 rfl) cl_6 in_6 16 (Nat.le_of_ble_eq_true rfl) rfl f_8_265 (ge_bW8_45 S) rfl ?_
  refine bs_icmp_ge C (bf_dk dd_X8_tellFilter 33 rfl) (tgt := 72) rfl (fun c => ?_) (fun c => ?_)
  · replace h := h.1 c
    refine bs_bipush C (bf_dk dd_X8_tellFilter 36 rfl) (115 : Int32) (by decide) ?_
    exact bs_weak (bf_s1 (bf_s1 (bf_s1 (bf_s1 bf_s0)))) (t_X8_tellFilter_74 C hR S (x1) (r15) (r17) ((115 : Int32)) Q B2 hB2 h)
  · replace h := h.2 c
    refine bs_bipush C (bf_dk dd_X8_tellFilter 34 rfl) (100 : Int32) (by decide) ?_
    refine bs_goto C (bf_dk dd_X8_tellFilter 35 rfl) (tgt := 74) rfl ?_
    exact bs_weak (bf_s1 (bf_s1 (bf_s1 (bf_s1 bf_s0)))) (t_X8_tellFilter_74 C hR S (x1) (r15) (r17) ((100 : Int32)) Q B2 hB2 h)
def wp_X8_tellFilter_2b (S : bT8) (x1 : Int32) (Q : (bT8) → Prop) (B2 : Int32 → (bT8) → Prop) : Prop := (((b6g_levels (b8g_tree S)) ≤ x1 → (wp_X5_put (b8g_text S) ((46 : Int32)) (fun u20 => (∀ S21 : bT8, S21 = (b8s_text S u20) → (Q S21))))) ∧ (¬ (b6g_levels (b8g_tree S)) ≤ x1 → ((x1 ≤ 0 → (wp_X8_tellFilter_26 S (x1) Q B2)) ∧ (¬ x1 ≤ 0 → (wp_X5_put (b8g_text S) ((44 : Int32)) (fun u23 => (∀ S24 : bT8, S24 = (b8s_text S u23) → (wp_X8_tellFilter_26 S24 (x1) Q B2))))))))
set_option maxRecDepth 20000 in
theorem t_X8_tellFilter_2b {X : bf_X} (C : bf_C X RX8 cX8_tellFilter 4 none) (hR : bf_Rm X 4 88) (S : bT8) (x1 : Int32) (Q : (bT8) → Prop) (B2 : Int32 → (bT8) → Prop) (hB2 : ∀ (x1 : Int32) (S : bT8), B2 x1 S → bf_A X (bf_Zv X bW8 Q) 4 2 [some (.ref 0), some (.int x1), none, none] [] (bW8 S)) (h : wp_X8_tellFilter_2b S x1 Q B2) : bf_A X (bf_Zv X bW8 Q) 4 2 [some (.ref 0), some (.int x1), none, none] [] (bW8 S) := by
  unfold wp_X8_tellFilter_2b at h
  refine bs_iload_n C (bf_dk dd_X8_tellFilter 2 rfl) rfl ?_
  refine bs_aload_n C (bf_dk dd_X8_tellFilter 3 rfl) rfl ?_
  refine bs_get C (bf_dk dd_X8_tellFilter 4 rfl) cl_8 in_8 4 (Nat.le_of_ble_eq_true rfl) rfl f_8_33 (ge_bW8_0 S) rfl ?_
  refine bs_get C (bf_dk dd_X8_tellFilter 5 rfl) cl_6 in_6 15 (Nat.le_of_ble_eq_true rfl) rfl f_8_256 (ge_bW8_45 S) rfl ?_
  refine bs_icmp_ge C (bf_dk dd_X8_tellFilter 6 rfl) (tgt := 118) rfl (fun c => ?_) (fun c => ?_)
  · replace h := h.1 c
    refine bs_aload_n C (bf_dk dd_X8_tellFilter 58 rfl) rfl ?_
    refine bs_get C (bf_dk dd_X8_tellFilter 59 rfl) cl_8 in_8 8 (Nat.le_of_ble_eq_true rfl) rfl f_8_61 (ge_bW8_0 S) rfl ?_
    refine bs_bipush C (bf_dk dd_X8_tellFilter 60 rfl) (46 : Int32) (by decide) ?_
    refine bs_callV_v (ps := [66, 67]) (w := (bW8 S)) C hR (c_X5_put _ _ _ _ _ (b8g_text S) ((46 : Int32)) _ h) my_X5_put m_8_403 rfl cl_5 (ge_bW5_0 _) rfl (Nat.le_of_ble_eq_true rfl) (Nat.le_of_ble_eq_true rfl) (su_bW8_66_bW5 S) rfl (st := []) (Nat.le_of_ble_eq_true rfl) (bf_dk dd_X8_tellFilter 61 rfl) rfl (fun _ => rfl) (w2 := fun u20 => bW8 (b8s_text S u20)) (pt_bW8_66_bW5 S) (fun u20 h => ?_)
    refine bs_nameS bW8 (fun S21 eS21 => ?_)
    replace h := h S21 eS21
    exact bs_vret (u := S21) C (bf_dk dd_X8_tellFilter 62 rfl) rfl h
  · replace h := h.2 c
    refine bs_iload_n C (bf_dk dd_X8_tellFilter 7 rfl) rfl ?_
    refine bs_if_le C (bf_dk dd_X8_tellFilter 8 rfl) (tgt := 26) rfl (fun c => ?_) (fun c => ?_)
    · replace h := h.1 c
      exact bs_weak (bf_s1 (bf_s1 (bf_sn (bf_sn bf_s0)))) (t_X8_tellFilter_26 C hR S (x1) Q B2 hB2 h)
    · replace h := h.2 c
      refine bs_aload_n C (bf_dk dd_X8_tellFilter 9 rfl) rfl ?_
      refine bs_get C (bf_dk dd_X8_tellFilter 10 rfl) cl_8 in_8 8 (Nat.le_of_ble_eq_true rfl) rfl f_8_61 (ge_bW8_0 S) rfl ?_
      refine bs_bipush C (bf_dk dd_X8_tellFilter 11 rfl) (44 : Int32) (by decide) ?_
      refine bs_callV_v (ps := [66, 67]) (w := (bW8 S)) C hR (c_X5_put _ _ _ _ _ (b8g_text S) ((44 : Int32)) _ h) my_X5_put m_8_403 rfl cl_5 (ge_bW5_0 _) rfl (Nat.le_of_ble_eq_true rfl) (Nat.le_of_ble_eq_true rfl) (su_bW8_66_bW5 S) rfl (st := []) (Nat.le_of_ble_eq_true rfl) (bf_dk dd_X8_tellFilter 12 rfl) rfl (fun _ => rfl) (w2 := fun u23 => bW8 (b8s_text S u23)) (pt_bW8_66_bW5 S) (fun u23 h => ?_)
      refine bs_nameS bW8 (fun S24 eS24 => ?_)
      replace h := h S24 eS24
      exact bs_weak (bf_s1 (bf_s1 (bf_sn (bf_sn bf_s0)))) (t_X8_tellFilter_26 C hR S24 (x1) Q B2 hB2 h)
def wp_X8_tellFilter_2 (S : bT8) (x1 : Int32) (Q : (bT8) → Prop) : Prop := ∃ I : Nat → Int32 → (bT8) → Prop, (∃ n : Nat, I n x1 S) ∧ ∀ (n : Nat) (x1 : Int32) (S : bT8), I n x1 S → wp_X8_tellFilter_2b S x1 Q (fun x1 S => ∃ n2 : Nat, n2 < n ∧ I n2 x1 S)
theorem t_X8_tellFilter_2 {X : bf_X} (C : bf_C X RX8 cX8_tellFilter 4 none) (hR : bf_Rm X 4 88) (S : bT8) (x1 : Int32) (Q : (bT8) → Prop) (h : wp_X8_tellFilter_2 S x1 Q) : bf_A X (bf_Zv X bW8 Q) 4 2 [some (.ref 0), some (.int x1), none, none] [] (bW8 S) := by
  obtain ⟨I, ⟨n0, h0⟩, hI⟩ := h
  have key : ∀ (n : Nat) (x1 : Int32) (S : bT8), I n x1 S → bf_A X (bf_Zv X bW8 Q) 4 2 [some (.ref 0), some (.int x1), none, none] [] (bW8 S) := by
    intro n
    induction n using Nat.strongRecOn with
    | _ n ih =>
      intro x1 S hi
      exact t_X8_tellFilter_2b C hR S x1 Q _ (fun x1 S hb => by obtain ⟨n2, hn, hi2⟩ := hb; exact ih n2 hn x1 S hi2) (hI n x1 S hi)
  exact key n0 x1 S h0
def wp_X8_tellFilter (S : bT8) (Q : (bT8) → Prop) : Prop := (wp_X8_tellFilter_2 S ((0 : Int32)) Q)
set_option maxRecDepth 20000 in
theorem t_X8_tellFilter {X : bf_X} (C : bf_C X RX8 cX8_tellFilter 4 none) (hR : bf_Rm X 4 88) (S : bT8) (Q : (bT8) → Prop) (h : wp_X8_tellFilter S Q) : bf_A X (bf_Zv X bW8 Q) 4 0 [some (.ref 0), none, none, none] [] (bW8 S) := by
  unfold wp_X8_tellFilter at h
  refine bs_iconst C (bf_dk dd_X8_tellFilter 0 rfl) (0 : Int32) (by decide) ?_
  refine bs_istore_n C (bf_dk dd_X8_tellFilter 1 rfl) rfl (Nat.le_of_ble_eq_true rfl) (Nat.le_of_ble_eq_true rfl) (lv2 := [some (.ref 0), some (.int (0 : Int32)), none, none]) rfl ?_
  exact bs_weak (bf_s1 (bf_s1 (bf_sn (bf_sn bf_s0)))) (t_X8_tellFilter_2 C hR S ((0 : Int32)) Q h)
theorem c_X8_tellFilter (l : Launch) (dC : Nat → ClassId) (dI : Nat → Nat → Nat) (ac : Nat → ClassId) (al : Nat → Nat) (S : bT8) (Q : (bT8) → Prop) (h : wp_X8_tellFilter S Q) : bf_M l yX8_tellFilter cX8_tellFilter 4 none 4 88 dC dI ac al [.ref 0] (bW8 S) (bf_Kv dC dI ac al bW8 Q) := by
  refine bf_start [some (.ref 0), none, none, none] (by decide) (Nat.le_of_ble_eq_true rfl) (bf_s1 (bf_en 3)) ?_
  intro X hl C hR e1 e2 e3 e4
  subst e1; subst e2; subst e3; subst e4
  exact t_X8_tellFilter C hR S Q h
def wp_X8_tellLeaf_164 (S : bT8) (x1 : Int32) (x4 : Int32) (t1 : Int32) (Q : (bT8) → Prop) (B131 : Int32 → Int32 → (bT8) → Prop) : Prop := (wp_X5_put (b8g_text S) (t1) (fun u2 => (∀ S3 : bT8, S3 = (b8s_text S u2) → (B131 (x1) ((x4 + (-1 : Int32))) S3))))
set_option maxRecDepth 20000 in
theorem t_X8_tellLeaf_164 {X : bf_X} (C : bf_C X RX8 cX8_tellLeaf 5 none) (hR : bf_Rm X 3 63) (S : bT8) (x1 : Int32) (x4 : Int32) (t1 : Int32) (Q : (bT8) → Prop) (B131 : Int32 → Int32 → (bT8) → Prop) (hB131 : ∀ (x1 : Int32) (x4 : Int32) (S : bT8), B131 x1 x4 S → bf_A X (bf_Zv X bW8 Q) 5 131 [some (.ref 0), some (.int x1), none, none, some (.int x4)] [] (bW8 S)) (h : wp_X8_tellLeaf_164 S x1 x4 t1 Q B131) : bf_A X (bf_Zv X bW8 Q) 5 164 [some (.ref 0), some (.int x1), none, none, some (.int x4)] [.int t1, .ref 66] (bW8 S) := by
  unfold wp_X8_tellLeaf_164 at h
  refine bs_callV_v (ps := [66, 67]) (w := (bW8 S)) C hR (c_X5_put _ _ _ _ _ (b8g_text S) (t1) _ h) my_X5_put m_8_403 rfl cl_5 (ge_bW5_0 _) rfl (Nat.le_of_ble_eq_true rfl) (Nat.le_of_ble_eq_true rfl) (su_bW8_66_bW5 S) rfl (st := []) (Nat.le_of_ble_eq_true rfl) (bf_dk dd_X8_tellLeaf 77 rfl) rfl (fun _ => rfl) (w2 := fun u2 => bW8 (b8s_text S u2)) (pt_bW8_66_bW5 S) (fun u2 h => ?_)
  refine bs_nameS bW8 (fun S3 eS3 => ?_)
  replace h := h S3 eS3
  refine bs_iinc C (bf_dk dd_X8_tellLeaf 78 rfl) (x4 + (-1 : Int32)) rfl rfl (Nat.le_of_ble_eq_true rfl) (Nat.le_of_ble_eq_true rfl) (lv2 := [some (.ref 0), some (.int x1), none, none, some (.int (x4 + (-1 : Int32)))]) rfl ?_
  refine bs_goto C (bf_dk dd_X8_tellLeaf 79 rfl) (tgt := 131) rfl ?_
  exact bs_weak (bf_s1 (bf_s1 (bf_sn (bf_sn (bf_s1 bf_s0))))) (hB131 (x1) ((x4 + (-1 : Int32))) S3 h)
def wp_X8_tellLeaf_131b (S : bT8) (x1 : Int32) (x4 : Int32) (Q : (bT8) → Prop) (B131 : Int32 → Int32 → (bT8) → Prop) : Prop := ((x4 < 0 → (Q S)) ∧ (¬ x4 < 0 → (wp_X1_nextAt (b8g_leaves S) (x1) (fun r4 => ((¬ ((r4 >>> (x4 &&& 31)) &&& (1 : Int32)) = (1 : Int32) → (wp_X8_tellLeaf_164 S (x1) (x4) ((48 : Int32)) Q B131)) ∧ (((r4 >>> (x4 &&& 31)) &&& (1 : Int32)) = (1 : Int32) → (wp_X8_tellLeaf_164 S (x1) (x4) ((49 : Int32)) Q B131)))))))
set_option maxRecDepth 20000 in
theorem t_X8_tellLeaf_131b {X : bf_X} (C : bf_C X RX8 cX8_tellLeaf 5 none) (hR : bf_Rm X 3 63) (S : bT8) (x1 : Int32) (x4 : Int32) (Q : (bT8) → Prop) (B131 : Int32 → Int32 → (bT8) → Prop) (hB131 : ∀ (x1 : Int32) (x4 : Int32) (S : bT8), B131 x1 x4 S → bf_A X (bf_Zv X bW8 Q) 5 131 [some (.ref 0), some (.int x1), none, none, some (.int x4)] [] (bW8 S)) (h : wp_X8_tellLeaf_131b S x1 x4 Q B131) : bf_A X (bf_Zv X bW8 Q) 5 131 [some (.ref 0), some (.int x1), none, none, some (.int x4)] [] (bW8 S) := by
  unfold wp_X8_tellLeaf_131b at h
  refine bs_iload C (bf_dk dd_X8_tellLeaf 60 rfl) rfl ?_
  refine bs_if_lt C (bf_dk dd_X8_tellLeaf 61 rfl) (tgt := 173) rfl (fun c => ?_) (fun c => ?_)
  · replace h := h.1 c
    exact bs_vret (u := S) C (bf_dk dd_X8_tellLeaf 80 rfl) rfl h
  · replace h := h.2 c
    refine bs_aload_n C (bf_dk dd_X8_tellLeaf 62 rfl) rfl ?_
    refine bs_get C (bf_dk dd_X8_tellLeaf 63 rfl) cl_8 in_8 8 (Nat.le_of_ble_eq_true rfl) rfl f_8_61 (ge_bW8_0 S) rfl ?_
    refine bs_aload_n C (bf_dk dd_X8_tellLeaf 64 rfl) rfl ?_
    refine bs_get C (bf_dk dd_X8_tellLeaf 65 rfl) cl_8 in_8 3 (Nat.le_of_ble_eq_true rfl) rfl f_8_26 (ge_bW8_0 S) rfl ?_
    refine bs_iload_n C (bf_dk dd_X8_tellLeaf 66 rfl) rfl ?_
    refine bs_pureV_i (ps := [31, 32, 33, 34, 35, 36, 37, 38, 39, 40, 41, 42, 43, 44]) (w := (bW8 S)) C hR (c_X1_nextAt _ _ _ _ _ (b8g_leaves S) (x1) _ h) my_X1_nextAt m_8_207 rfl cl_1 (ge_bW1_0 _) rfl (Nat.le_of_ble_eq_true rfl) (Nat.le_of_ble_eq_true rfl) (su_bW8_31_bW1 S) bnd_31t44 (st := [.ref 66]) (Nat.le_of_ble_eq_true rfl) (bf_dk dd_X8_tellLeaf 67 rfl) rfl (fun _ => rfl) (fun r4 h => ?_)
    refine bs_iload C (bf_dk dd_X8_tellLeaf 68 rfl) rfl ?_
    refine bs_ishr C (bf_dk dd_X8_tellLeaf 69 rfl) ?_
    refine bs_iconst C (bf_dk dd_X8_tellLeaf 70 rfl) (1 : Int32) (by decide) ?_
    refine bs_iand C (bf_dk dd_X8_tellLeaf 71 rfl) ?_
    refine bs_iconst C (bf_dk dd_X8_tellLeaf 72 rfl) (1 : Int32) (by decide) ?_
    refine bs_icmp_ne C (bf_dk dd_X8_tellLeaf 73 rfl) (tgt := 162) rfl (fun c => ?_) (fun c => ?_)
    · replace h := h.1 c
      refine bs_bipush C (bf_dk dd_X8_tellLeaf 76 rfl) (48 : Int32) (by decide) ?_
      exact bs_weak (bf_s1 (bf_s1 (bf_sn (bf_sn (bf_s1 bf_s0))))) (t_X8_tellLeaf_164 C hR S (x1) (x4) ((48 : Int32)) Q B131 hB131 h)
    · replace h := h.2 c
      refine bs_bipush C (bf_dk dd_X8_tellLeaf 74 rfl) (49 : Int32) (by decide) ?_
      refine bs_goto C (bf_dk dd_X8_tellLeaf 75 rfl) (tgt := 164) rfl ?_
      exact bs_weak (bf_s1 (bf_s1 (bf_sn (bf_sn (bf_s1 bf_s0))))) (t_X8_tellLeaf_164 C hR S (x1) (x4) ((49 : Int32)) Q B131 hB131 h)
def wp_X8_tellLeaf_131 (S : bT8) (x1 : Int32) (x4 : Int32) (Q : (bT8) → Prop) : Prop := ∃ I : Nat → Int32 → Int32 → (bT8) → Prop, (∃ n : Nat, I n x1 x4 S) ∧ ∀ (n : Nat) (x1 : Int32) (x4 : Int32) (S : bT8), I n x1 x4 S → wp_X8_tellLeaf_131b S x1 x4 Q (fun x1 x4 S => ∃ n2 : Nat, n2 < n ∧ I n2 x1 x4 S)
theorem t_X8_tellLeaf_131 {X : bf_X} (C : bf_C X RX8 cX8_tellLeaf 5 none) (hR : bf_Rm X 3 63) (S : bT8) (x1 : Int32) (x4 : Int32) (Q : (bT8) → Prop) (h : wp_X8_tellLeaf_131 S x1 x4 Q) : bf_A X (bf_Zv X bW8 Q) 5 131 [some (.ref 0), some (.int x1), none, none, some (.int x4)] [] (bW8 S) := by
  obtain ⟨I, ⟨n0, h0⟩, hI⟩ := h
  have key : ∀ (n : Nat) (x1 : Int32) (x4 : Int32) (S : bT8), I n x1 x4 S → bf_A X (bf_Zv X bW8 Q) 5 131 [some (.ref 0), some (.int x1), none, none, some (.int x4)] [] (bW8 S) := by
    intro n
    induction n using Nat.strongRecOn with
    | _ n ih =>
      intro x1 x4 S hi
      exact t_X8_tellLeaf_131b C hR S x1 x4 Q _ (fun x1 x4 S hb => by obtain ⟨n2, hn, hi2⟩ := hb; exact ih n2 hn x1 x4 S hi2) (hI n x1 x4 S hi)
  exact key n0 x1 x4 S h0
def wp_X8_tellLeaf_101 (S : bT8) (x1 : Int32) (Q : (bT8) → Prop) : Prop := (((b1g_realBits (b8g_leaves S)) = 0 → (Q S)) ∧ (¬ (b1g_realBits (b8g_leaves S)) = 0 → (wp_X5_put (b8g_text S) ((47 : Int32)) (fun u7 => (∀ S8 : bT8, S8 = (b8s_text S u7) → (wp_X8_tellLeaf_131 S8 (x1) (((b1g_realBits (b8g_leaves S8)) - (1 : Int32))) Q))))))
set_option maxRecDepth 20000 in
theorem t_X8_tellLeaf_101 {X : bf_X} (C : bf_C X RX8 cX8_tellLeaf 5 none) (hR : bf_Rm X 3 63) (S : bT8) (x1 : Int32) (Q : (bT8) → Prop) (h : wp_X8_tellLeaf_101 S x1 Q) : bf_A X (bf_Zv X bW8 Q) 5 101 [some (.ref 0), some (.int x1), none, none, none] [] (bW8 S) := by
  unfold wp_X8_tellLeaf_101 at h
  refine bs_aload_n C (bf_dk dd_X8_tellLeaf 46 rfl) rfl ?_
  refine bs_get C (bf_dk dd_X8_tellLeaf 47 rfl) cl_8 in_8 3 (Nat.le_of_ble_eq_true rfl) rfl f_8_26 (ge_bW8_0 S) rfl ?_
  refine bs_get C (bf_dk dd_X8_tellLeaf 48 rfl) cl_1 in_1 8 (Nat.le_of_ble_eq_true rfl) rfl f_8_387 (ge_bW8_31 S) rfl ?_
  refine bs_if_eq C (bf_dk dd_X8_tellLeaf 49 rfl) (tgt := 173) rfl (fun c => ?_) (fun c => ?_)
  · replace h := h.1 c
    exact bs_vret (u := S) C (bf_dk dd_X8_tellLeaf 80 rfl) rfl h
  · replace h := h.2 c
    refine bs_aload_n C (bf_dk dd_X8_tellLeaf 50 rfl) rfl ?_
    refine bs_get C (bf_dk dd_X8_tellLeaf 51 rfl) cl_8 in_8 8 (Nat.le_of_ble_eq_true rfl) rfl f_8_61 (ge_bW8_0 S) rfl ?_
    refine bs_bipush C (bf_dk dd_X8_tellLeaf 52 rfl) (47 : Int32) (by decide) ?_
    refine bs_callV_v (ps := [66, 67]) (w := (bW8 S)) C hR (c_X5_put _ _ _ _ _ (b8g_text S) ((47 : Int32)) _ h) my_X5_put m_8_403 rfl cl_5 (ge_bW5_0 _) rfl (Nat.le_of_ble_eq_true rfl) (Nat.le_of_ble_eq_true rfl) (su_bW8_66_bW5 S) rfl (st := []) (Nat.le_of_ble_eq_true rfl) (bf_dk dd_X8_tellLeaf 53 rfl) rfl (fun _ => rfl) (w2 := fun u7 => bW8 (b8s_text S u7)) (pt_bW8_66_bW5 S) (fun u7 h => ?_)
    refine bs_nameS bW8 (fun S8 eS8 => ?_)
    replace h := h S8 eS8
    refine bs_aload_n C (bf_dk dd_X8_tellLeaf 54 rfl) rfl ?_
    refine bs_get C (bf_dk dd_X8_tellLeaf 55 rfl) cl_8 in_8 3 (Nat.le_of_ble_eq_true rfl) rfl f_8_26 (ge_bW8_0 S8) rfl ?_
    refine bs_get C (bf_dk dd_X8_tellLeaf 56 rfl) cl_1 in_1 8 (Nat.le_of_ble_eq_true rfl) rfl f_8_387 (ge_bW8_31 S8) rfl ?_
    refine bs_iconst C (bf_dk dd_X8_tellLeaf 57 rfl) (1 : Int32) (by decide) ?_
    refine bs_isub C (bf_dk dd_X8_tellLeaf 58 rfl) ?_
    refine bs_istore C (bf_dk dd_X8_tellLeaf 59 rfl) (Nat.le_of_ble_eq_true rfl) (Nat.le_of_ble_eq_true rfl) (lv2 := [some (.ref 0), some (.int x1), none, none, some (.int ((b1g_realBits (b8g_leaves S8)) - (1 : Int32)))]) rfl ?_
    exact bs_weak (bf_s1 (bf_s1 (bf_sn (bf_sn (bf_s1 bf_s0))))) (t_X8_tellLeaf_131 C hR S8 (x1) (((b1g_realBits (b8g_leaves S8)) - (1 : Int32))) Q h)
def wp_X8_tellLeaf_67 (S : bT8) (x1 : Int32) (Q : (bT8) → Prop) : Prop := (((b1g_hashBits (b8g_leaves S)) = 0 → (wp_X8_tellLeaf_101 S (x1) Q)) ∧ (¬ (b1g_hashBits (b8g_leaves S)) = 0 → (wp_X5_put (b8g_text S) ((35 : Int32)) (fun u10 => (∀ S11 : bT8, S11 = (b8s_text S u10) → (wp_X1_hashAt (b8g_leaves S11) (x1) (fun r12 => (wp_X5_putNumber (b8g_text S11) (r12) (fun u15 => (∀ S16 : bT8, S16 = (b8s_text S11 u15) → (wp_X8_tellLeaf_101 S16 (x1) Q)))))))))))
set_option maxRecDepth 20000 in
theorem t_X8_tellLeaf_67 {X : bf_X} (C : bf_C X RX8 cX8_tellLeaf 5 none) (hR : bf_Rm X 3 63) (S : bT8) (x1 : Int32) (Q : (bT8) → Prop) (h : wp_X8_tellLeaf_67 S x1 Q) : bf_A X (bf_Zv X bW8 Q) 5 67 [some (.ref 0), some (.int x1), none, none, none] [] (bW8 S) := by
  unfold wp_X8_tellLeaf_67 at h
  refine bs_aload_n C (bf_dk dd_X8_tellLeaf 31 rfl) rfl ?_
  refine bs_get C (bf_dk dd_X8_tellLeaf 32 rfl) cl_8 in_8 3 (Nat.le_of_ble_eq_true rfl) rfl f_8_26 (ge_bW8_0 S) rfl ?_
  refine bs_get C (bf_dk dd_X8_tellLeaf 33 rfl) cl_1 in_1 7 (Nat.le_of_ble_eq_true rfl) rfl f_8_386 (ge_bW8_31 S) rfl ?_
  refine bs_if_eq C (bf_dk dd_X8_tellLeaf 34 rfl) (tgt := 101) rfl (fun c => ?_) (fun c => ?_)
  · replace h := h.1 c
    exact bs_weak (bf_s1 (bf_s1 (bf_sn (bf_sn (bf_sn bf_s0))))) (t_X8_tellLeaf_101 C hR S (x1) Q h)
  · replace h := h.2 c
    refine bs_aload_n C (bf_dk dd_X8_tellLeaf 35 rfl) rfl ?_
    refine bs_get C (bf_dk dd_X8_tellLeaf 36 rfl) cl_8 in_8 8 (Nat.le_of_ble_eq_true rfl) rfl f_8_61 (ge_bW8_0 S) rfl ?_
    refine bs_bipush C (bf_dk dd_X8_tellLeaf 37 rfl) (35 : Int32) (by decide) ?_
    refine bs_callV_v (ps := [66, 67]) (w := (bW8 S)) C hR (c_X5_put _ _ _ _ _ (b8g_text S) ((35 : Int32)) _ h) my_X5_put m_8_403 rfl cl_5 (ge_bW5_0 _) rfl (Nat.le_of_ble_eq_true rfl) (Nat.le_of_ble_eq_true rfl) (su_bW8_66_bW5 S) rfl (st := []) (Nat.le_of_ble_eq_true rfl) (bf_dk dd_X8_tellLeaf 38 rfl) rfl (fun _ => rfl) (w2 := fun u10 => bW8 (b8s_text S u10)) (pt_bW8_66_bW5 S) (fun u10 h => ?_)
    refine bs_nameS bW8 (fun S11 eS11 => ?_)
    replace h := h S11 eS11
    refine bs_aload_n C (bf_dk dd_X8_tellLeaf 39 rfl) rfl ?_
    refine bs_get C (bf_dk dd_X8_tellLeaf 40 rfl) cl_8 in_8 8 (Nat.le_of_ble_eq_true rfl) rfl f_8_61 (ge_bW8_0 S11) rfl ?_
    refine bs_aload_n C (bf_dk dd_X8_tellLeaf 41 rfl) rfl ?_
    refine bs_get C (bf_dk dd_X8_tellLeaf 42 rfl) cl_8 in_8 3 (Nat.le_of_ble_eq_true rfl) rfl f_8_26 (ge_bW8_0 S11) rfl ?_
    refine bs_iload_n C (bf_dk dd_X8_tellLeaf 43 rfl) rfl ?_
    refine bs_pureV_i (ps := [31, 32, 33, 34, 35, 36, 37, 38, 39, 40, 41, 42, 43, 44]) (w := (bW8 S11)) C hR (c_X1_hashAt _ _ _ _ _ (b8g_leaves S11) (x1) _ h) my_X1_hashAt m_8_204 rfl cl_1 (ge_bW1_0 _) rfl (Nat.le_of_ble_eq_true rfl) (Nat.le_of_ble_eq_true rfl) (su_bW8_31_bW1 S11) bnd_31t44 (st := [.ref 66]) (Nat.le_of_ble_eq_true rfl) (bf_dk dd_X8_tellLeaf 44 rfl) rfl (fun _ => rfl) (fun r12 h => ?_)
    refine bs_callV_v (ps := [66, 67]) (w := (bW8 S11)) C hR (c_X5_putNumber _ _ _ _ _ (b8g_text S11) (r12) _ h) my_X5_putNumber m_8_407 rfl cl_5 (ge_bW5_0 _) rfl (Nat.le_of_ble_eq_true rfl) (Nat.le_of_ble_eq_true rfl) (su_bW8_66_bW5 S11) rfl (st := []) (Nat.le_of_ble_eq_true rfl) (bf_dk dd_X8_tellLeaf 45 rfl) rfl (fun _ => rfl) (w2 := fun u15 => bW8 (b8s_text S11 u15)) (pt_bW8_66_bW5 S11) (fun u15 h => ?_)
    refine bs_nameS bW8 (fun S16 eS16 => ?_)
    replace h := h S16 eS16
    exact bs_weak (bf_s1 (bf_s1 (bf_sn (bf_sn (bf_sn bf_s0))))) (t_X8_tellLeaf_101 C hR S16 (x1) Q h)
def wp_X8_tellLeaf_15b (S : bT8) (x1 : Int32) (x2 : Int64) (x4 : Int32) (Q : (bT8) → Prop) (B15 : Int32 → Int64 → Int32 → (bT8) → Prop) : Prop := (wp_X1_lengthAt (b8g_leaves S) (x1) (fun r17 => ((r17 ≤ x4 → (wp_X1_isEnded (b8g_leaves S) (x1) (fun r19 => ((r19 = 0 → (wp_X8_tellLeaf_67 S (x1) Q)) ∧ (¬ r19 = 0 → (wp_X5_put (b8g_text S) ((36 : Int32)) (fun u22 => (∀ S23 : bT8, S23 = (b8s_text S u22) → (wp_X8_tellLeaf_67 S23 (x1) Q))))))))) ∧ (¬ r17 ≤ x4 → (wp_X8_octetAt (x2) (x4) (fun r24 => (wp_X5_putOctet (b8g_text S) (r24) (fun u27 => (∀ S28 : bT8, S28 = (b8s_text S u27) → (B15 (x1) (x2) ((x4 + (1 : Int32))) S28))))))))))
set_option maxRecDepth 20000 in
theorem t_X8_tellLeaf_15b {X : bf_X} (C : bf_C X RX8 cX8_tellLeaf 5 none) (hR : bf_Rm X 3 63) (S : bT8) (x1 : Int32) (x2 : Int64) (x4 : Int32) (Q : (bT8) → Prop) (B15 : Int32 → Int64 → Int32 → (bT8) → Prop) (hB15 : ∀ (x1 : Int32) (x2 : Int64) (x4 : Int32) (S : bT8), B15 x1 x2 x4 S → bf_A X (bf_Zv X bW8 Q) 5 15 [some (.ref 0), some (.int x1), some (.long x2), none, some (.int x4)] [] (bW8 S)) (h : wp_X8_tellLeaf_15b S x1 x2 x4 Q B15) : bf_A X (bf_Zv X bW8 Q) 5 15 [some (.ref 0), some (.int x1), some (.long x2), none, some (.int x4)] [] (bW8 S) := by
  unfold wp_X8_tellLeaf_15b at h
  refine bs_iload C (bf_dk dd_X8_tellLeaf 8 rfl) rfl ?_
  refine bs_aload_n C (bf_dk dd_X8_tellLeaf 9 rfl) rfl ?_
  refine bs_get C (bf_dk dd_X8_tellLeaf 10 rfl) cl_8 in_8 3 (Nat.le_of_ble_eq_true rfl) rfl f_8_26 (ge_bW8_0 S) rfl ?_
  refine bs_iload_n C (bf_dk dd_X8_tellLeaf 11 rfl) rfl ?_
  refine bs_pureV_i (ps := [31, 32, 33, 34, 35, 36, 37, 38, 39, 40, 41, 42, 43, 44]) (w := (bW8 S)) C hR (c_X1_lengthAt _ _ _ _ _ (b8g_leaves S) (x1) _ h) my_X1_lengthAt m_8_198 rfl cl_1 (ge_bW1_0 _) rfl (Nat.le_of_ble_eq_true rfl) (Nat.le_of_ble_eq_true rfl) (su_bW8_31_bW1 S) bnd_31t44 (st := [.int x4]) (Nat.le_of_ble_eq_true rfl) (bf_dk dd_X8_tellLeaf 12 rfl) rfl (fun _ => rfl) (fun r17 h => ?_)
  refine bs_icmp_ge C (bf_dk dd_X8_tellLeaf 13 rfl) (tgt := 47) rfl (fun c => ?_) (fun c => ?_)
  · replace h := h.1 c
    refine bs_aload_n C (bf_dk dd_X8_tellLeaf 22 rfl) rfl ?_
    refine bs_get C (bf_dk dd_X8_tellLeaf 23 rfl) cl_8 in_8 3 (Nat.le_of_ble_eq_true rfl) rfl f_8_26 (ge_bW8_0 S) rfl ?_
    refine bs_iload_n C (bf_dk dd_X8_tellLeaf 24 rfl) rfl ?_
    refine bs_pureV_i (ps := [31, 32, 33, 34, 35, 36, 37, 38, 39, 40, 41, 42, 43, 44]) (w := (bW8 S)) C hR (c_X1_isEnded _ _ _ _ _ (b8g_leaves S) (x1) _ h) my_X1_isEnded m_8_201 rfl cl_1 (ge_bW1_0 _) rfl (Nat.le_of_ble_eq_true rfl) (Nat.le_of_ble_eq_true rfl) (su_bW8_31_bW1 S) bnd_31t44 (st := []) (Nat.le_of_ble_eq_true rfl) (bf_dk dd_X8_tellLeaf 25 rfl) rfl (fun _ => rfl) (fun r19 h => ?_)
    refine bs_if_eq C (bf_dk dd_X8_tellLeaf 26 rfl) (tgt := 67) rfl (fun c => ?_) (fun c => ?_)
    · replace h := h.1 c
      exact bs_weak (bf_s1 (bf_s1 (bf_sn (bf_sn (bf_sn bf_s0))))) (t_X8_tellLeaf_67 C hR S (x1) Q h)
    · replace h := h.2 c
      refine bs_aload_n C (bf_dk dd_X8_tellLeaf 27 rfl) rfl ?_
      refine bs_get C (bf_dk dd_X8_tellLeaf 28 rfl) cl_8 in_8 8 (Nat.le_of_ble_eq_true rfl) rfl f_8_61 (ge_bW8_0 S) rfl ?_
      refine bs_bipush C (bf_dk dd_X8_tellLeaf 29 rfl) (36 : Int32) (by decide) ?_
      refine bs_callV_v (ps := [66, 67]) (w := (bW8 S)) C hR (c_X5_put _ _ _ _ _ (b8g_text S) ((36 : Int32)) _ h) my_X5_put m_8_403 rfl cl_5 (ge_bW5_0 _) rfl (Nat.le_of_ble_eq_true rfl) (Nat.le_of_ble_eq_true rfl) (su_bW8_66_bW5 S) rfl (st := []) (Nat.le_of_ble_eq_true rfl) (bf_dk dd_X8_tellLeaf 30 rfl) rfl (fun _ => rfl) (w2 := fun u22 => bW8 (b8s_text S u22)) (pt_bW8_66_bW5 S) (fun u22 h => ?_)
      refine bs_nameS bW8 (fun S23 eS23 => ?_)
      replace h := h S23 eS23
      exact bs_weak (bf_s1 (bf_s1 (bf_sn (bf_sn (bf_sn bf_s0))))) (t_X8_tellLeaf_67 C hR S23 (x1) Q h)
  · replace h := h.2 c
    refine bs_aload_n C (bf_dk dd_X8_tellLeaf 14 rfl) rfl ?_
    refine bs_get C (bf_dk dd_X8_tellLeaf 15 rfl) cl_8 in_8 8 (Nat.le_of_ble_eq_true rfl) rfl f_8_61 (ge_bW8_0 S) rfl ?_
    refine bs_lload_n C (bf_dk dd_X8_tellLeaf 16 rfl) rfl ?_
    refine bs_iload C (bf_dk dd_X8_tellLeaf 17 rfl) rfl ?_
    refine bs_pureS_i (ps := []) (w := (bW8 S)) C hR (c_X8_octetAt _ _ _ _ _ (x2) (x4) _ h) my_X8_octetAt m_8_222 rfl (Nat.le_of_ble_eq_true rfl) (Nat.le_of_ble_eq_true rfl) rfl rfl (st := [.ref 66]) (Nat.le_of_ble_eq_true rfl) (bf_dk dd_X8_tellLeaf 18 rfl) rfl (fun _ => rfl) (fun r24 h => ?_)
    refine bs_callV_v (ps := [66, 67]) (w := (bW8 S)) C hR (c_X5_putOctet _ _ _ _ _ (b8g_text S) (r24) _ h) my_X5_putOctet m_8_410 rfl cl_5 (ge_bW5_0 _) rfl (Nat.le_of_ble_eq_true rfl) (Nat.le_of_ble_eq_true rfl) (su_bW8_66_bW5 S) rfl (st := []) (Nat.le_of_ble_eq_true rfl) (bf_dk dd_X8_tellLeaf 19 rfl) rfl (fun _ => rfl) (w2 := fun u27 => bW8 (b8s_text S u27)) (pt_bW8_66_bW5 S) (fun u27 h => ?_)
    refine bs_nameS bW8 (fun S28 eS28 => ?_)
    replace h := h S28 eS28
    refine bs_iinc C (bf_dk dd_X8_tellLeaf 20 rfl) (x4 + (1 : Int32)) rfl rfl (Nat.le_of_ble_eq_true rfl) (Nat.le_of_ble_eq_true rfl) (lv2 := [some (.ref 0), some (.int x1), some (.long x2), none, some (.int (x4 + (1 : Int32)))]) rfl ?_
    refine bs_goto C (bf_dk dd_X8_tellLeaf 21 rfl) (tgt := 15) rfl ?_
    exact bs_weak (bf_s1 (bf_s1 (bf_s1 (bf_sn (bf_s1 bf_s0))))) (hB15 (x1) (x2) ((x4 + (1 : Int32))) S28 h)
def wp_X8_tellLeaf_15 (S : bT8) (x1 : Int32) (x2 : Int64) (x4 : Int32) (Q : (bT8) → Prop) : Prop := ∃ I : Nat → Int32 → Int64 → Int32 → (bT8) → Prop, (∃ n : Nat, I n x1 x2 x4 S) ∧ ∀ (n : Nat) (x1 : Int32) (x2 : Int64) (x4 : Int32) (S : bT8), I n x1 x2 x4 S → wp_X8_tellLeaf_15b S x1 x2 x4 Q (fun x1 x2 x4 S => ∃ n2 : Nat, n2 < n ∧ I n2 x1 x2 x4 S)
theorem t_X8_tellLeaf_15 {X : bf_X} (C : bf_C X RX8 cX8_tellLeaf 5 none) (hR : bf_Rm X 3 63) (S : bT8) (x1 : Int32) (x2 : Int64) (x4 : Int32) (Q : (bT8) → Prop) (h : wp_X8_tellLeaf_15 S x1 x2 x4 Q) : bf_A X (bf_Zv X bW8 Q) 5 15 [some (.ref 0), some (.int x1), some (.long x2), none, some (.int x4)] [] (bW8 S) := by
  obtain ⟨I, ⟨n0, h0⟩, hI⟩ := h
  have key : ∀ (n : Nat) (x1 : Int32) (x2 : Int64) (x4 : Int32) (S : bT8), I n x1 x2 x4 S → bf_A X (bf_Zv X bW8 Q) 5 15 [some (.ref 0), some (.int x1), some (.long x2), none, some (.int x4)] [] (bW8 S) := by
    intro n
    induction n using Nat.strongRecOn with
    | _ n ih =>
      intro x1 x2 x4 S hi
      exact t_X8_tellLeaf_15b C hR S x1 x2 x4 Q _ (fun x1 x2 x4 S hb => by obtain ⟨n2, hn, hi2⟩ := hb; exact ih n2 hn x1 x2 x4 S hi2) (hI n x1 x2 x4 S hi)
  exact key n0 x1 x2 x4 S h0
def wp_X8_tellLeaf (S : bT8) (a1 : Int32) (Q : (bT8) → Prop) : Prop := (wp_X0_bytesAt (b1g_owners (b8g_leaves S)) (a1) (fun r29 => (wp_X8_tellLeaf_15 S (a1) (r29) ((0 : Int32)) Q)))
set_option maxRecDepth 20000 in
theorem t_X8_tellLeaf {X : bf_X} (C : bf_C X RX8 cX8_tellLeaf 5 none) (hR : bf_Rm X 3 63) (S : bT8) (a1 : Int32) (Q : (bT8) → Prop) (h : wp_X8_tellLeaf S a1 Q) : bf_A X (bf_Zv X bW8 Q) 5 0 [some (.ref 0), some (.int a1), none, none, none] [] (bW8 S) := by
  unfold wp_X8_tellLeaf at h
  refine bs_aload_n C (bf_dk dd_X8_tellLeaf 0 rfl) rfl ?_
  refine bs_get C (bf_dk dd_X8_tellLeaf 1 rfl) cl_8 in_8 3 (Nat.le_of_ble_eq_true rfl) rfl f_8_26 (ge_bW8_0 S) rfl ?_
  refine bs_get C (bf_dk dd_X8_tellLeaf 2 rfl) cl_1 in_1 0 (Nat.le_of_ble_eq_true rfl) rfl f_8_163 (ge_bW8_31 S) rfl ?_
  refine bs_iload_n C (bf_dk dd_X8_tellLeaf 3 rfl) rfl ?_
  refine bs_pureV_l (ps := [32, 33, 34]) (w := (bW8 S)) C hR (c_X0_bytesAt _ _ _ _ _ (b1g_owners (b8g_leaves S)) (a1) _ h) my_X0_bytesAt m_8_219 rfl cl_0 (ge_bW0_0 _) rfl (Nat.le_of_ble_eq_true rfl) (Nat.le_of_ble_eq_true rfl) (su_bW8_32_bW0 S) rfl (st := []) (Nat.le_of_ble_eq_true rfl) (bf_dk dd_X8_tellLeaf 4 rfl) rfl (fun _ => rfl) (fun r29 h => ?_)
  refine bs_lstore_n C (bf_dk dd_X8_tellLeaf 5 rfl) rfl (Nat.le_of_ble_eq_true rfl) (Nat.le_of_ble_eq_true rfl) (lv2 := [some (.ref 0), some (.int a1), some (.long r29), none, none]) rfl ?_
  refine bs_iconst C (bf_dk dd_X8_tellLeaf 6 rfl) (0 : Int32) (by decide) ?_
  refine bs_istore C (bf_dk dd_X8_tellLeaf 7 rfl) (Nat.le_of_ble_eq_true rfl) (Nat.le_of_ble_eq_true rfl) (lv2 := [some (.ref 0), some (.int a1), some (.long r29), none, some (.int (0 : Int32))]) rfl ?_
  exact bs_weak (bf_s1 (bf_s1 (bf_s1 (bf_sn (bf_s1 bf_s0))))) (t_X8_tellLeaf_15 C hR S (a1) (r29) ((0 : Int32)) Q h)
theorem c_X8_tellLeaf (l : Launch) (dC : Nat → ClassId) (dI : Nat → Nat → Nat) (ac : Nat → ClassId) (al : Nat → Nat) (S : bT8) (a1 : Int32) (Q : (bT8) → Prop) (h : wp_X8_tellLeaf S a1 Q) : bf_M l yX8_tellLeaf cX8_tellLeaf 5 none 3 63 dC dI ac al [.ref 0, .int a1] (bW8 S) (bf_Kv dC dI ac al bW8 Q) := by
  refine bf_start [some (.ref 0), some (.int a1), none, none, none] (by decide) (Nat.le_of_ble_eq_true rfl) (bf_s1 (bf_s1 (bf_en 3))) ?_
  intro X hl C hR e1 e2 e3 e4
  subst e1; subst e2; subst e3; subst e4
  exact t_X8_tellLeaf C hR S a1 Q h
def wp_X8_report (S : bT8) (a1 : Int32) (Q : Int32 → (bT8) → Prop) : Prop := ((a1 < (-1 : Int32) → (Q (-1 : Int32) S)) ∧ (¬ a1 < (-1 : Int32) → (wp_X1_count (b8g_leaves S) (fun r1 => ((a1 < r1 → (∀ S3 : bT8, S3 = (b8s_text S (b5s_length (b8g_text S) (0 : Int32))) → ((¬ a1 = (-1 : Int32) → (wp_X8_tellLeaf S3 (a1) (fun u5 => (Q (b5g_length (b8g_text u5)) u5)))) ∧ (a1 = (-1 : Int32) → (wp_X8_tellFilter S3 (fun u7 => (Q (b5g_length (b8g_text u7)) u7))))))) ∧ (¬ a1 < r1 → (Q (-1 : Int32) S)))))))
set_option maxRecDepth 20000 in
theorem t_X8_report {X : bf_X} (C : bf_C X RX8 cX8_report 2 (some .int)) (hR : bf_Rm X 5 111) (S : bT8) (a1 : Int32) (Q : Int32 → (bT8) → Prop) (h : wp_X8_report S a1 Q) : bf_A X (bf_Zi X bW8 Q) 2 0 [some (.ref 0), some (.int a1)] [] (bW8 S) := by
  unfold wp_X8_report at h
  refine bs_iload_n C (bf_dk dd_X8_report 0 rfl) rfl ?_
  refine bs_iconst C (bf_dk dd_X8_report 1 rfl) (-1 : Int32) (by decide) ?_
  refine bs_icmp_lt C (bf_dk dd_X8_report 2 rfl) (tgt := 16) rfl (fun c => ?_) (fun c => ?_)
  · replace h := h.1 c
    refine bs_iconst C (bf_dk dd_X8_report 8 rfl) (-1 : Int32) (by decide) ?_
    exact bs_iret (u := S) C (bf_dk dd_X8_report 9 rfl) rfl h
  · replace h := h.2 c
    refine bs_iload_n C (bf_dk dd_X8_report 3 rfl) rfl ?_
    refine bs_aload_n C (bf_dk dd_X8_report 4 rfl) rfl ?_
    refine bs_get C (bf_dk dd_X8_report 5 rfl) cl_8 in_8 3 (Nat.le_of_ble_eq_true rfl) rfl f_8_26 (ge_bW8_0 S) rfl ?_
    refine bs_pureV_i (ps := [31, 32, 33, 34, 35, 36, 37, 38, 39, 40, 41, 42, 43, 44]) (w := (bW8 S)) C hR (c_X1_count _ _ _ _ _ (b8g_leaves S) _ h) my_X1_count m_8_160 rfl cl_1 (ge_bW1_0 _) rfl (Nat.le_of_ble_eq_true rfl) (Nat.le_of_ble_eq_true rfl) (su_bW8_31_bW1 S) bnd_31t44 (st := [.int a1]) (Nat.le_of_ble_eq_true rfl) (bf_dk dd_X8_report 6 rfl) rfl (fun _ => rfl) (fun r1 h => ?_)
    refine bs_icmp_lt C (bf_dk dd_X8_report 7 rfl) (tgt := 18) rfl (fun c => ?_) (fun c => ?_)
    · replace h := h.1 c
      refine bs_aload_n C (bf_dk dd_X8_report 10 rfl) rfl ?_
      refine bs_get C (bf_dk dd_X8_report 11 rfl) cl_8 in_8 8 (Nat.le_of_ble_eq_true rfl) rfl f_8_61 (ge_bW8_0 S) rfl ?_
      refine bs_iconst C (bf_dk dd_X8_report 12 rfl) (0 : Int32) (by decide) ?_
      refine bs_put C (bf_dk dd_X8_report 13 rfl) tyX5_ok nmX5 cl_5 in_5 1 (Nat.le_of_ble_eq_true rfl) rfl f_8_371 rfl (ge_bW8_66 S) (Nat.le_of_ble_eq_true rfl) rfl rfl (pu_bW8_66_1 S (0 : Int32)) ?_
      refine bs_nameS bW8 (fun S3 eS3 => ?_)
      replace h := h S3 eS3
      refine bs_iload_n C (bf_dk dd_X8_report 14 rfl) rfl ?_
      refine bs_iconst C (bf_dk dd_X8_report 15 rfl) (-1 : Int32) (by decide) ?_
      refine bs_icmp_ne C (bf_dk dd_X8_report 16 rfl) (tgt := 38) rfl (fun c => ?_) (fun c => ?_)
      · replace h := h.1 c
        refine bs_aload_n C (bf_dk dd_X8_report 20 rfl) rfl ?_
        refine bs_iload_n C (bf_dk dd_X8_report 21 rfl) rfl ?_
        refine bs_selfV_v C hR (c_X8_tellLeaf _ _ _ _ _ S3 (a1) _ h) my_X8_tellLeaf m_8_377 rfl cl_8 (ge_bW8_0 _) rfl (Nat.le_of_ble_eq_true rfl) (Nat.le_of_ble_eq_true rfl) (st := []) (Nat.le_of_ble_eq_true rfl) (bf_dk dd_X8_report 22 rfl) rfl (len := 68) (fun _ => rfl) (fun u5 h => ?_)
        refine bs_aload_n C (bf_dk dd_X8_report 23 rfl) rfl ?_
        refine bs_get C (bf_dk dd_X8_report 24 rfl) cl_8 in_8 8 (Nat.le_of_ble_eq_true rfl) rfl f_8_61 (ge_bW8_0 u5) rfl ?_
        refine bs_get C (bf_dk dd_X8_report 25 rfl) cl_5 in_5 1 (Nat.le_of_ble_eq_true rfl) rfl f_8_371 (ge_bW8_66 u5) rfl ?_
        exact bs_iret (u := u5) C (bf_dk dd_X8_report 26 rfl) rfl h
      · replace h := h.2 c
        refine bs_aload_n C (bf_dk dd_X8_report 17 rfl) rfl ?_
        refine bs_selfV_v C hR (c_X8_tellFilter _ _ _ _ _ S3 _ h) my_X8_tellFilter m_8_374 rfl cl_8 (ge_bW8_0 _) rfl (Nat.le_of_ble_eq_true rfl) (Nat.le_of_ble_eq_true rfl) (st := []) (Nat.le_of_ble_eq_true rfl) (bf_dk dd_X8_report 18 rfl) rfl (len := 68) (fun _ => rfl) (fun u7 h => ?_)
        refine bs_goto C (bf_dk dd_X8_report 19 rfl) (tgt := 43) rfl ?_
        refine bs_aload_n C (bf_dk dd_X8_report 23 rfl) rfl ?_
        refine bs_get C (bf_dk dd_X8_report 24 rfl) cl_8 in_8 8 (Nat.le_of_ble_eq_true rfl) rfl f_8_61 (ge_bW8_0 u7) rfl ?_
        refine bs_get C (bf_dk dd_X8_report 25 rfl) cl_5 in_5 1 (Nat.le_of_ble_eq_true rfl) rfl f_8_371 (ge_bW8_66 u7) rfl ?_
        exact bs_iret (u := u7) C (bf_dk dd_X8_report 26 rfl) rfl h
    · replace h := h.2 c
      refine bs_iconst C (bf_dk dd_X8_report 8 rfl) (-1 : Int32) (by decide) ?_
      exact bs_iret (u := S) C (bf_dk dd_X8_report 9 rfl) rfl h
theorem c_X8_report (l : Launch) (dC : Nat → ClassId) (dI : Nat → Nat → Nat) (ac : Nat → ClassId) (al : Nat → Nat) (S : bT8) (a1 : Int32) (Q : Int32 → (bT8) → Prop) (h : wp_X8_report S a1 Q) : bf_M l yX8_report cX8_report 2 (some .int) 5 111 dC dI ac al [.ref 0, .int a1] (bW8 S) (bf_Ki dC dI ac al bW8 Q) := by
  refine bf_start [some (.ref 0), some (.int a1)] (by decide) (Nat.le_of_ble_eq_true rfl) (bf_s1 (bf_s1 bf_s0)) ?_
  intro X hl C hR e1 e2 e3 e4
  subst e1; subst e2; subst e3; subst e4
  exact t_X8_report C hR S a1 Q h
def wp_X8_sign (S : bT8) (a1 : Int32) (Q : Int32 → Prop) : Prop := (wp_X5_signAt (b8g_text S) (a1) (fun r1 => (Q r1)))
set_option maxRecDepth 20000 in
theorem t_X8_sign {X : bf_X} (C : bf_C X RX8 cX8_sign 2 (some .int)) (hR : bf_Rm X 1 21) (S : bT8) (a1 : Int32) (Q : Int32 → Prop) (h : wp_X8_sign S a1 Q) : bf_A X (bf_Zi X bW8 (fun r u => u = S ∧ Q r)) 2 0 [some (.ref 0), some (.int a1)] [] (bW8 S) := by
  unfold wp_X8_sign at h
  refine bs_aload_n C (bf_dk dd_X8_sign 0 rfl) rfl ?_
  refine bs_get C (bf_dk dd_X8_sign 1 rfl) cl_8 in_8 8 (Nat.le_of_ble_eq_true rfl) rfl f_8_61 (ge_bW8_0 S) rfl ?_
  refine bs_iload_n C (bf_dk dd_X8_sign 2 rfl) rfl ?_
  refine bs_pureV_i (ps := [66, 67]) (w := (bW8 S)) C hR (c_X5_signAt _ _ _ _ _ (b8g_text S) (a1) _ h) my_X5_signAt m_8_380 rfl cl_5 (ge_bW5_0 _) rfl (Nat.le_of_ble_eq_true rfl) (Nat.le_of_ble_eq_true rfl) (su_bW8_66_bW5 S) rfl (st := []) (Nat.le_of_ble_eq_true rfl) (bf_dk dd_X8_sign 3 rfl) rfl (fun _ => rfl) (fun r1 h => ?_)
  exact bs_iret (u := S) C (bf_dk dd_X8_sign 4 rfl) rfl ⟨rfl, h⟩
theorem c_X8_sign (l : Launch) (dC : Nat → ClassId) (dI : Nat → Nat → Nat) (ac : Nat → ClassId) (al : Nat → Nat) (S : bT8) (a1 : Int32) (Q : Int32 → Prop) (h : wp_X8_sign S a1 Q) : bf_M l yX8_sign cX8_sign 2 (some .int) 1 21 dC dI ac al [.ref 0, .int a1] (bW8 S) (bf_Ki dC dI ac al bW8 (fun r u => u = S ∧ Q r)) := by
  refine bf_start [some (.ref 0), some (.int a1)] (by decide) (Nat.le_of_ble_eq_true rfl) (bf_s1 (bf_s1 bf_s0)) ?_
  intro X hl C hR e1 e2 e3 e4
  subst e1; subst e2; subst e3; subst e4
  exact t_X8_sign C hR S a1 Q h
def wp_X8_image (S : bT8) (a1 : Int32) (Q : Int32 → (bT8) → Prop) : Prop := ((a1 = 0 → (((b8g_isKept S) = 0 → (bf_bool (b8g_isKept S) ∧ Q (b8g_isKept S) S)) ∧ (¬ (b8g_isKept S) = 0 → (wp_X2_copyFrom ((b8g_now S), (b8g_kept S)) (fun u2 => (∀ S3 : bT8, S3 = (b8s_kept (b8s_now S u2.1) u2.2) → (wp_X8_rebuild S3 (fun u5 => (bf_bool (b8g_isKept u5) ∧ Q (b8g_isKept u5) u5))))))))) ∧ (¬ a1 = 0 → (wp_X2_copyFrom ((b8g_kept S), (b8g_now S)) (fun u7 => (∀ S8 : bT8, S8 = (b8s_now (b8s_kept S u7.1) u7.2) → (∀ S9 : bT8, S9 = (b8s_isKept S8 (1 : Int32)) → (bf_bool (b8g_isKept S9) ∧ Q (b8g_isKept S9) S9)))))))
set_option maxRecDepth 20000 in
theorem t_X8_image {X : bf_X} (C : bf_C X RX8 cX8_image 2 (some .boolean)) (hR : bf_Rm X 6 136) (S : bT8) (a1 : Int32) (Q : Int32 → (bT8) → Prop) (h : wp_X8_image S a1 Q) : bf_A X (bf_Zi X bW8 Q) 2 0 [some (.ref 0), some (.int a1)] [] (bW8 S) := by
  unfold wp_X8_image at h
  refine bs_iload_n C (bf_dk dd_X8_image 0 rfl) rfl ?_
  refine bs_if_eq C (bf_dk dd_X8_image 1 rfl) (tgt := 23) rfl (fun c => ?_) (fun c => ?_)
  · replace h := h.1 c
    refine bs_aload_n C (bf_dk dd_X8_image 11 rfl) rfl ?_
    refine bs_get C (bf_dk dd_X8_image 12 rfl) cl_8 in_8 2 (Nat.le_of_ble_eq_true rfl) rfl f_8_19 (ge_bW8_0 S) rfl ?_
    refine bs_if_eq C (bf_dk dd_X8_image 13 rfl) (tgt := 45) rfl (fun c => ?_) (fun c => ?_)
    · replace h := h.1 c
      refine bs_aload_n C (bf_dk dd_X8_image 21 rfl) rfl ?_
      refine bs_get C (bf_dk dd_X8_image 22 rfl) cl_8 in_8 2 (Nat.le_of_ble_eq_true rfl) rfl f_8_19 (ge_bW8_0 S) rfl ?_
      obtain ⟨hi, h⟩ := h
      exact bs_zret (u := S) C (bf_dk dd_X8_image 23 rfl) hi rfl h
    · replace h := h.2 c
      refine bs_aload_n C (bf_dk dd_X8_image 14 rfl) rfl ?_
      refine bs_get C (bf_dk dd_X8_image 15 rfl) cl_8 in_8 0 (Nat.le_of_ble_eq_true rfl) rfl f_8_12 (ge_bW8_0 S) rfl ?_
      refine bs_aload_n C (bf_dk dd_X8_image 16 rfl) rfl ?_
      refine bs_get C (bf_dk dd_X8_image 17 rfl) cl_8 in_8 1 (Nat.le_of_ble_eq_true rfl) rfl f_8_16 (ge_bW8_0 S) rfl ?_
      refine bs_callV_v (ps := [1, 2, 3, 4, 5, 6, 7, 8, 9, 10, 11, 12, 13, 14, 15, 16, 17, 18, 19, 20, 21, 22, 23, 24, 25, 26, 27, 28, 29, 30]) (w := (bW8 S)) C hR (c_X2_copyFrom _ _ _ _ _ ((b8g_now S), (b8g_kept S)) _ h) my_X2_copyFrom m_8_383 rfl cl_2 (ge_bW2_2_0 _) rfl (Nat.le_of_ble_eq_true rfl) (Nat.le_of_ble_eq_true rfl) (su_bW8_1_16_bW2_2 S) bnd_1t30 (st := []) (Nat.le_of_ble_eq_true rfl) (bf_dk dd_X8_image 18 rfl) rfl (fun _ => rfl) (w2 := fun u2 => bW8 (b8s_kept (b8s_now S u2.1) u2.2)) (pt_bW8_1_16_bW2_2 S) (fun u2 h => ?_)
      refine bs_nameS bW8 (fun S3 eS3 => ?_)
      replace h := h S3 eS3
      refine bs_aload_n C (bf_dk dd_X8_image 19 rfl) rfl ?_
      refine bs_selfV_v C hR (c_X8_rebuild _ _ _ _ _ S3 _ h) my_X8_rebuild m_8_69 rfl cl_8 (ge_bW8_0 _) rfl (Nat.le_of_ble_eq_true rfl) (Nat.le_of_ble_eq_true rfl) (st := []) (Nat.le_of_ble_eq_true rfl) (bf_dk dd_X8_image 20 rfl) rfl (len := 68) (fun _ => rfl) (fun u5 h => ?_)
      refine bs_aload_n C (bf_dk dd_X8_image 21 rfl) rfl ?_
      refine bs_get C (bf_dk dd_X8_image 22 rfl) cl_8 in_8 2 (Nat.le_of_ble_eq_true rfl) rfl f_8_19 (ge_bW8_0 u5) rfl ?_
      obtain ⟨hi, h⟩ := h
      exact bs_zret (u := u5) C (bf_dk dd_X8_image 23 rfl) hi rfl h
  · replace h := h.2 c
    refine bs_aload_n C (bf_dk dd_X8_image 2 rfl) rfl ?_
    refine bs_get C (bf_dk dd_X8_image 3 rfl) cl_8 in_8 1 (Nat.le_of_ble_eq_true rfl) rfl f_8_16 (ge_bW8_0 S) rfl ?_
    refine bs_aload_n C (bf_dk dd_X8_image 4 rfl) rfl ?_
    refine bs_get C (bf_dk dd_X8_image 5 rfl) cl_8 in_8 0 (Nat.le_of_ble_eq_true rfl) rfl f_8_12 (ge_bW8_0 S) rfl ?_
    refine bs_callV_v (ps := [16, 17, 18, 19, 20, 21, 22, 23, 24, 25, 26, 27, 28, 29, 30, 1, 2, 3, 4, 5, 6, 7, 8, 9, 10, 11, 12, 13, 14, 15]) (w := (bW8 S)) C hR (c_X2_copyFrom _ _ _ _ _ ((b8g_kept S), (b8g_now S)) _ h) my_X2_copyFrom m_8_383 rfl cl_2 (ge_bW2_2_0 _) rfl (Nat.le_of_ble_eq_true rfl) (Nat.le_of_ble_eq_true rfl) (su_bW8_16_1_bW2_2 S) bnd_16t30_1t15 (st := []) (Nat.le_of_ble_eq_true rfl) (bf_dk dd_X8_image 6 rfl) rfl (fun _ => rfl) (w2 := fun u7 => bW8 (b8s_now (b8s_kept S u7.1) u7.2)) (pt_bW8_16_1_bW2_2 S) (fun u7 h => ?_)
    refine bs_nameS bW8 (fun S8 eS8 => ?_)
    replace h := h S8 eS8
    refine bs_aload_n C (bf_dk dd_X8_image 7 rfl) rfl ?_
    refine bs_iconst C (bf_dk dd_X8_image 8 rfl) (1 : Int32) (by decide) ?_
    refine bs_put C (bf_dk dd_X8_image 9 rfl) tyX8_ok nmX8 cl_8 in_8 2 (Nat.le_of_ble_eq_true rfl) rfl f_8_19 rfl (ge_bW8_0 S8) (Nat.le_of_ble_eq_true rfl) rfl rfl (pu_bW8_0_2 S8 (1 : Int32)) ?_
    refine bs_nameS bW8 (fun S9 eS9 => ?_)
    replace h := h S9 eS9
    refine bs_goto C (bf_dk dd_X8_image 10 rfl) (tgt := 45) rfl ?_
    refine bs_aload_n C (bf_dk dd_X8_image 21 rfl) rfl ?_
    refine bs_get C (bf_dk dd_X8_image 22 rfl) cl_8 in_8 2 (Nat.le_of_ble_eq_true rfl) rfl f_8_19 (ge_bW8_0 S9) rfl ?_
    obtain ⟨hi, h⟩ := h
    exact bs_zret (u := S9) C (bf_dk dd_X8_image 23 rfl) hi rfl h
theorem c_X8_image (l : Launch) (dC : Nat → ClassId) (dI : Nat → Nat → Nat) (ac : Nat → ClassId) (al : Nat → Nat) (S : bT8) (a1 : Int32) (Q : Int32 → (bT8) → Prop) (h : wp_X8_image S a1 Q) : bf_M l yX8_image cX8_image 2 (some .boolean) 6 136 dC dI ac al [.ref 0, .int a1] (bW8 S) (bf_Ki dC dI ac al bW8 Q) := by
  refine bf_start [some (.ref 0), some (.int a1)] (by decide) (Nat.le_of_ble_eq_true rfl) (bf_s1 (bf_s1 bf_s0)) ?_
  intro X hl C hR e1 e2 e3 e4
  subst e1; subst e2; subst e3; subst e4
  exact t_X8_image C hR S a1 Q h
def wp_X8_look (S : bT8) (a1 : Int32) (Q : Int32 → Prop) : Prop := ((((a1).toInt < 6 ∨ 20 < (a1).toInt) → ((a1 < 0 → (Q (-100000000 : Int32))) ∧ (¬ a1 < 0 → (((6 : Int32) ≤ a1 → (Q (-100000000 : Int32))) ∧ (¬ (6 : Int32) ≤ a1 → (wp_X8_at 6 (b3g_values (b2g_told (b8g_now S))) (a1) (fun r1 => (Q r1)))))))) ∧ (a1 = (6 : Int32) → (Q (b3g_mode (b2g_told (b8g_now S))))) ∧ (a1 = (7 : Int32) → (Q (b2g_draws (b8g_now S)))) ∧ (a1 = (8 : Int32) → (Q (b0g_count (b3g_members (b2g_told (b8g_now S)))))) ∧ (a1 = (9 : Int32) → (wp_X1_count (b8g_leaves S) (fun r3 => (Q r3)))) ∧ (a1 = (10 : Int32) → (Q (b6g_nodes (b8g_tree S)))) ∧ (a1 = (11 : Int32) → (Q (b6g_levels (b8g_tree S)))) ∧ (a1 = (12 : Int32) → (Q (b6g_upper (b8g_tree S)))) ∧ (a1 = (13 : Int32) → (Q (b6g_upperNodes (b8g_tree S)))) ∧ (a1 = (14 : Int32) → (wp_X6_items (b8g_tree S) (fun r5 => (Q r5)))) ∧ (a1 = (15 : Int32) → (Q (b1g_hashBits (b8g_leaves S)))) ∧ (a1 = (16 : Int32) → (Q (b1g_realBits (b8g_leaves S)))) ∧ (a1 = (17 : Int32) → (Q (b0g_count (b2g_questions (b8g_now S))))) ∧ (a1 = (18 : Int32) → (Q (b4g_count (b8g_tape S)))) ∧ (a1 = (19 : Int32) → (wp_X1_allEnded (b8g_leaves S) (fun r7 => (Q r7)))) ∧ (a1 = (20 : Int32) → (wp_X1_allBytes (b8g_leaves S) (fun r9 => (Q r9)))))
set_option maxRecDepth 20000 in
theorem t_X8_look {X : bf_X} (C : bf_C X RX8 cX8_look 2 (some .int)) (hR : bf_Rm X 3 64) (S : bT8) (a1 : Int32) (Q : Int32 → Prop) (h : wp_X8_look S a1 Q) : bf_A X (bf_Zi X bW8 (fun r u => u = S ∧ Q r)) 2 0 [some (.ref 0), some (.int a1)] [] (bW8 S) := by
  unfold wp_X8_look at h
  refine bs_iload_n C (bf_dk dd_X8_look 0 rfl) rfl ?_
  refine bs_table C (tdef := 208) (fun k => List.getD [76, 87, 95, 109, 117, 125, 133, 141, 149, 157, 165, 173, 184, 192, 200] k 0) 15 (bf_dk dd_X8_look 1 rfl) rfl rfl (fun k hk => by rcases (show k = 0 ∨ k = 1 ∨ k = 2 ∨ k = 3 ∨ k = 4 ∨ k = 5 ∨ k = 6 ∨ k = 7 ∨ k = 8 ∨ k = 9 ∨ k = 10 ∨ k = 11 ∨ k = 12 ∨ k = 13 ∨ k = 14 by omega) with rfl | rfl | rfl | rfl | rfl | rfl | rfl | rfl | rfl | rfl | rfl | rfl | rfl | rfl | rfl <;> exact ⟨_, rfl, rfl⟩) (fun c => ?_) (fun k hk c => ?_)
  · replace h := h.1 c
    refine bs_iload_n C (bf_dk dd_X8_look 66 rfl) rfl ?_
    refine bs_if_lt C (bf_dk dd_X8_look 67 rfl) (tgt := 235) rfl (fun c => ?_) (fun c => ?_)
    · replace h := h.1 c
      refine bs_ldcw C (bf_dk dd_X8_look 78 rfl) k_8_392 ?_
      exact bs_iret (u := S) C (bf_dk dd_X8_look 79 rfl) rfl ⟨rfl, h⟩
    · replace h := h.2 c
      refine bs_iload_n C (bf_dk dd_X8_look 68 rfl) rfl ?_
      refine bs_bipush C (bf_dk dd_X8_look 69 rfl) (6 : Int32) (by decide) ?_
      refine bs_icmp_ge C (bf_dk dd_X8_look 70 rfl) (tgt := 235) rfl (fun c => ?_) (fun c => ?_)
      · replace h := h.1 c
        refine bs_ldcw C (bf_dk dd_X8_look 78 rfl) k_8_392 ?_
        exact bs_iret (u := S) C (bf_dk dd_X8_look 79 rfl) rfl ⟨rfl, h⟩
      · replace h := h.2 c
        refine bs_aload_n C (bf_dk dd_X8_look 71 rfl) rfl ?_
        refine bs_get C (bf_dk dd_X8_look 72 rfl) cl_8 in_8 0 (Nat.le_of_ble_eq_true rfl) rfl f_8_12 (ge_bW8_0 S) rfl ?_
        refine bs_get C (bf_dk dd_X8_look 73 rfl) cl_2 in_2 0 (Nat.le_of_ble_eq_true rfl) rfl f_8_87 (ge_bW8_1 S) rfl ?_
        refine bs_get C (bf_dk dd_X8_look 74 rfl) cl_3 in_3 1 (Nat.le_of_ble_eq_true rfl) rfl f_8_122 (ge_bW8_2 S) rfl ?_
        refine bs_iload_n C (bf_dk dd_X8_look 75 rfl) rfl ?_
        refine bs_pureS_i (ps := [6]) (w := (bW8 S)) C hR (c_X8_at _ _ _ _ _ 6 (b3g_values (b2g_told (b8g_now S))) (a1) _ h) my_X8_at m_8_115 rfl (Nat.le_of_ble_eq_true rfl) (Nat.le_of_ble_eq_true rfl) (su_bW8_6_bWan6 S) rfl (st := []) (Nat.le_of_ble_eq_true rfl) (bf_dk dd_X8_look 76 rfl) rfl (fun _ => rfl) (fun r1 h => ?_)
        refine bs_goto C (bf_dk dd_X8_look 77 rfl) (tgt := 238) rfl ?_
        exact bs_iret (u := S) C (bf_dk dd_X8_look 79 rfl) rfl ⟨rfl, h⟩
  · rcases (show k = 0 ∨ k = 1 ∨ k = 2 ∨ k = 3 ∨ k = 4 ∨ k = 5 ∨ k = 6 ∨ k = 7 ∨ k = 8 ∨ k = 9 ∨ k = 10 ∨ k = 11 ∨ k = 12 ∨ k = 13 ∨ k = 14 by omega) with rfl | rfl | rfl | rfl | rfl | rfl | rfl | rfl | rfl | rfl | rfl | rfl | rfl | rfl | rfl
    · replace h := h.2.1 (bf_i32 c (by decide))
      refine bs_aload_n C (bf_dk dd_X8_look 2 rfl) rfl ?_
      refine bs_get C (bf_dk dd_X8_look 3 rfl) cl_8 in_8 0 (Nat.le_of_ble_eq_true rfl) rfl f_8_12 (ge_bW8_0 S) rfl ?_
      refine bs_get C (bf_dk dd_X8_look 4 rfl) cl_2 in_2 0 (Nat.le_of_ble_eq_true rfl) rfl f_8_87 (ge_bW8_1 S) rfl ?_
      refine bs_get C (bf_dk dd_X8_look 5 rfl) cl_3 in_3 2 (Nat.le_of_ble_eq_true rfl) rfl f_8_91 (ge_bW8_2 S) rfl ?_
      exact bs_iret (u := S) C (bf_dk dd_X8_look 6 rfl) rfl ⟨rfl, h⟩
    · replace h := h.2.2.1 (bf_i32 c (by decide))
      refine bs_aload_n C (bf_dk dd_X8_look 7 rfl) rfl ?_
      refine bs_get C (bf_dk dd_X8_look 8 rfl) cl_8 in_8 0 (Nat.le_of_ble_eq_true rfl) rfl f_8_12 (ge_bW8_0 S) rfl ?_
      refine bs_get C (bf_dk dd_X8_look 9 rfl) cl_2 in_2 4 (Nat.le_of_ble_eq_true rfl) rfl f_8_125 (ge_bW8_1 S) rfl ?_
      exact bs_iret (u := S) C (bf_dk dd_X8_look 10 rfl) rfl ⟨rfl, h⟩
    · replace h := h.2.2.2.1 (bf_i32 c (by decide))
      refine bs_aload_n C (bf_dk dd_X8_look 11 rfl) rfl ?_
      refine bs_get C (bf_dk dd_X8_look 12 rfl) cl_8 in_8 0 (Nat.le_of_ble_eq_true rfl) rfl f_8_12 (ge_bW8_0 S) rfl ?_
      refine bs_get C (bf_dk dd_X8_look 13 rfl) cl_2 in_2 0 (Nat.le_of_ble_eq_true rfl) rfl f_8_87 (ge_bW8_1 S) rfl ?_
      refine bs_get C (bf_dk dd_X8_look 14 rfl) cl_3 in_3 0 (Nat.le_of_ble_eq_true rfl) rfl f_8_99 (ge_bW8_2 S) rfl ?_
      refine bs_get C (bf_dk dd_X8_look 15 rfl) cl_0 in_0 2 (Nat.le_of_ble_eq_true rfl) rfl f_8_110 (ge_bW8_3 S) rfl ?_
      exact bs_iret (u := S) C (bf_dk dd_X8_look 16 rfl) rfl ⟨rfl, h⟩
    · replace h := h.2.2.2.2.1 (bf_i32 c (by decide))
      refine bs_aload_n C (bf_dk dd_X8_look 17 rfl) rfl ?_
      refine bs_get C (bf_dk dd_X8_look 18 rfl) cl_8 in_8 3 (Nat.le_of_ble_eq_true rfl) rfl f_8_26 (ge_bW8_0 S) rfl ?_
      refine bs_pureV_i (ps := [31, 32, 33, 34, 35, 36, 37, 38, 39, 40, 41, 42, 43, 44]) (w := (bW8 S)) C hR (c_X1_count _ _ _ _ _ (b8g_leaves S) _ h) my_X1_count m_8_160 rfl cl_1 (ge_bW1_0 _) rfl (Nat.le_of_ble_eq_true rfl) (Nat.le_of_ble_eq_true rfl) (su_bW8_31_bW1 S) bnd_31t44 (st := []) (Nat.le_of_ble_eq_true rfl) (bf_dk dd_X8_look 19 rfl) rfl (fun _ => rfl) (fun r3 h => ?_)
      exact bs_iret (u := S) C (bf_dk dd_X8_look 20 rfl) rfl ⟨rfl, h⟩
    · replace h := h.2.2.2.2.2.1 (bf_i32 c (by decide))
      refine bs_aload_n C (bf_dk dd_X8_look 21 rfl) rfl ?_
      refine bs_get C (bf_dk dd_X8_look 22 rfl) cl_8 in_8 4 (Nat.le_of_ble_eq_true rfl) rfl f_8_33 (ge_bW8_0 S) rfl ?_
      refine bs_get C (bf_dk dd_X8_look 23 rfl) cl_6 in_6 12 (Nat.le_of_ble_eq_true rfl) rfl f_8_228 (ge_bW8_45 S) rfl ?_
      exact bs_iret (u := S) C (bf_dk dd_X8_look 24 rfl) rfl ⟨rfl, h⟩
    · replace h := h.2.2.2.2.2.2.1 (bf_i32 c (by decide))
      refine bs_aload_n C (bf_dk dd_X8_look 25 rfl) rfl ?_
      refine bs_get C (bf_dk dd_X8_look 26 rfl) cl_8 in_8 4 (Nat.le_of_ble_eq_true rfl) rfl f_8_33 (ge_bW8_0 S) rfl ?_
      refine bs_get C (bf_dk dd_X8_look 27 rfl) cl_6 in_6 15 (Nat.le_of_ble_eq_true rfl) rfl f_8_256 (ge_bW8_45 S) rfl ?_
      exact bs_iret (u := S) C (bf_dk dd_X8_look 28 rfl) rfl ⟨rfl, h⟩
    · replace h := h.2.2.2.2.2.2.2.1 (bf_i32 c (by decide))
      refine bs_aload_n C (bf_dk dd_X8_look 29 rfl) rfl ?_
      refine bs_get C (bf_dk dd_X8_look 30 rfl) cl_8 in_8 4 (Nat.le_of_ble_eq_true rfl) rfl f_8_33 (ge_bW8_0 S) rfl ?_
      refine bs_get C (bf_dk dd_X8_look 31 rfl) cl_6 in_6 16 (Nat.le_of_ble_eq_true rfl) rfl f_8_265 (ge_bW8_45 S) rfl ?_
      exact bs_iret (u := S) C (bf_dk dd_X8_look 32 rfl) rfl ⟨rfl, h⟩
    · replace h := h.2.2.2.2.2.2.2.2.1 (bf_i32 c (by decide))
      refine bs_aload_n C (bf_dk dd_X8_look 33 rfl) rfl ?_
      refine bs_get C (bf_dk dd_X8_look 34 rfl) cl_8 in_8 4 (Nat.le_of_ble_eq_true rfl) rfl f_8_33 (ge_bW8_0 S) rfl ?_
      refine bs_get C (bf_dk dd_X8_look 35 rfl) cl_6 in_6 17 (Nat.le_of_ble_eq_true rfl) rfl f_8_244 (ge_bW8_45 S) rfl ?_
      exact bs_iret (u := S) C (bf_dk dd_X8_look 36 rfl) rfl ⟨rfl, h⟩
    · replace h := h.2.2.2.2.2.2.2.2.2.1 (bf_i32 c (by decide))
      refine bs_aload_n C (bf_dk dd_X8_look 37 rfl) rfl ?_
      refine bs_get C (bf_dk dd_X8_look 38 rfl) cl_8 in_8 4 (Nat.le_of_ble_eq_true rfl) rfl f_8_33 (ge_bW8_0 S) rfl ?_
      refine bs_pureV_i (ps := [45, 46, 47, 48, 49, 50, 51, 52, 53, 54, 55, 56, 57]) (w := (bW8 S)) C hR (c_X6_items _ _ _ _ _ (b8g_tree S) _ h) my_X6_items m_8_271 rfl cl_6 (ge_bW6_0 _) rfl (Nat.le_of_ble_eq_true rfl) (Nat.le_of_ble_eq_true rfl) (su_bW8_45_bW6 S) bnd_45t57 (st := []) (Nat.le_of_ble_eq_true rfl) (bf_dk dd_X8_look 39 rfl) rfl (fun _ => rfl) (fun r5 h => ?_)
      exact bs_iret (u := S) C (bf_dk dd_X8_look 40 rfl) rfl ⟨rfl, h⟩
    · replace h := h.2.2.2.2.2.2.2.2.2.2.1 (bf_i32 c (by decide))
      refine bs_aload_n C (bf_dk dd_X8_look 41 rfl) rfl ?_
      refine bs_get C (bf_dk dd_X8_look 42 rfl) cl_8 in_8 3 (Nat.le_of_ble_eq_true rfl) rfl f_8_26 (ge_bW8_0 S) rfl ?_
      refine bs_get C (bf_dk dd_X8_look 43 rfl) cl_1 in_1 7 (Nat.le_of_ble_eq_true rfl) rfl f_8_386 (ge_bW8_31 S) rfl ?_
      exact bs_iret (u := S) C (bf_dk dd_X8_look 44 rfl) rfl ⟨rfl, h⟩
    · replace h := h.2.2.2.2.2.2.2.2.2.2.2.1 (bf_i32 c (by decide))
      refine bs_aload_n C (bf_dk dd_X8_look 45 rfl) rfl ?_
      refine bs_get C (bf_dk dd_X8_look 46 rfl) cl_8 in_8 3 (Nat.le_of_ble_eq_true rfl) rfl f_8_26 (ge_bW8_0 S) rfl ?_
      refine bs_get C (bf_dk dd_X8_look 47 rfl) cl_1 in_1 8 (Nat.le_of_ble_eq_true rfl) rfl f_8_387 (ge_bW8_31 S) rfl ?_
      exact bs_iret (u := S) C (bf_dk dd_X8_look 48 rfl) rfl ⟨rfl, h⟩
    · replace h := h.2.2.2.2.2.2.2.2.2.2.2.2.1 (bf_i32 c (by decide))
      refine bs_aload_n C (bf_dk dd_X8_look 49 rfl) rfl ?_
      refine bs_get C (bf_dk dd_X8_look 50 rfl) cl_8 in_8 0 (Nat.le_of_ble_eq_true rfl) rfl f_8_12 (ge_bW8_0 S) rfl ?_
      refine bs_get C (bf_dk dd_X8_look 51 rfl) cl_2 in_2 2 (Nat.le_of_ble_eq_true rfl) rfl f_8_333 (ge_bW8_1 S) rfl ?_
      refine bs_get C (bf_dk dd_X8_look 52 rfl) cl_0 in_0 2 (Nat.le_of_ble_eq_true rfl) rfl f_8_110 (ge_bW8_12 S) rfl ?_
      exact bs_iret (u := S) C (bf_dk dd_X8_look 53 rfl) rfl ⟨rfl, h⟩
    · replace h := h.2.2.2.2.2.2.2.2.2.2.2.2.2.1 (bf_i32 c (by decide))
      refine bs_aload_n C (bf_dk dd_X8_look 54 rfl) rfl ?_
      refine bs_get C (bf_dk dd_X8_look 55 rfl) cl_8 in_8 7 (Nat.le_of_ble_eq_true rfl) rfl f_8_54 (ge_bW8_0 S) rfl ?_
      refine bs_get C (bf_dk dd_X8_look 56 rfl) cl_4 in_4 1 (Nat.le_of_ble_eq_true rfl) rfl f_8_72 (ge_bW8_64 S) rfl ?_
      exact bs_iret (u := S) C (bf_dk dd_X8_look 57 rfl) rfl ⟨rfl, h⟩
    · replace h := h.2.2.2.2.2.2.2.2.2.2.2.2.2.2.1 (bf_i32 c (by decide))
      refine bs_aload_n C (bf_dk dd_X8_look 58 rfl) rfl ?_
      refine bs_get C (bf_dk dd_X8_look 59 rfl) cl_8 in_8 3 (Nat.le_of_ble_eq_true rfl) rfl f_8_26 (ge_bW8_0 S) rfl ?_
      refine bs_pureV_i (ps := [31, 32, 33, 34, 35, 36, 37, 38, 39, 40, 41, 42, 43, 44]) (w := (bW8 S)) C hR (c_X1_allEnded _ _ _ _ _ (b8g_leaves S) _ h) my_X1_allEnded m_8_388 rfl cl_1 (ge_bW1_0 _) rfl (Nat.le_of_ble_eq_true rfl) (Nat.le_of_ble_eq_true rfl) (su_bW8_31_bW1 S) bnd_31t44 (st := []) (Nat.le_of_ble_eq_true rfl) (bf_dk dd_X8_look 60 rfl) rfl (fun _ => rfl) (fun r7 h => ?_)
      exact bs_iret (u := S) C (bf_dk dd_X8_look 61 rfl) rfl ⟨rfl, h⟩
    · replace h := h.2.2.2.2.2.2.2.2.2.2.2.2.2.2.2 (bf_i32 c (by decide))
      refine bs_aload_n C (bf_dk dd_X8_look 62 rfl) rfl ?_
      refine bs_get C (bf_dk dd_X8_look 63 rfl) cl_8 in_8 3 (Nat.le_of_ble_eq_true rfl) rfl f_8_26 (ge_bW8_0 S) rfl ?_
      refine bs_pureV_i (ps := [31, 32, 33, 34, 35, 36, 37, 38, 39, 40, 41, 42, 43, 44]) (w := (bW8 S)) C hR (c_X1_allBytes _ _ _ _ _ (b8g_leaves S) _ h) my_X1_allBytes m_8_391 rfl cl_1 (ge_bW1_0 _) rfl (Nat.le_of_ble_eq_true rfl) (Nat.le_of_ble_eq_true rfl) (su_bW8_31_bW1 S) bnd_31t44 (st := []) (Nat.le_of_ble_eq_true rfl) (bf_dk dd_X8_look 64 rfl) rfl (fun _ => rfl) (fun r9 h => ?_)
      exact bs_iret (u := S) C (bf_dk dd_X8_look 65 rfl) rfl ⟨rfl, h⟩
theorem c_X8_look (l : Launch) (dC : Nat → ClassId) (dI : Nat → Nat → Nat) (ac : Nat → ClassId) (al : Nat → Nat) (S : bT8) (a1 : Int32) (Q : Int32 → Prop) (h : wp_X8_look S a1 Q) : bf_M l yX8_look cX8_look 2 (some .int) 3 64 dC dI ac al [.ref 0, .int a1] (bW8 S) (bf_Ki dC dI ac al bW8 (fun r u => u = S ∧ Q r)) := by
  refine bf_start [some (.ref 0), some (.int a1)] (by decide) (Nat.le_of_ble_eq_true rfl) (bf_s1 (bf_s1 bf_s0)) ?_
  intro X hl C hR e1 e2 e3 e4
  subst e1; subst e2; subst e3; subst e4
  exact t_X8_look C hR S a1 Q h
def wp_X9_isIn (S : bT9) (a1 : Int32) (a2 : Int32) (a3 : Int32) (Q : Int32 → Prop) : Prop := ((a1 < a2 → (bf_bool (0 : Int32) ∧ Q (0 : Int32))) ∧ (¬ a1 < a2 → ((a3 < a1 → (bf_bool (0 : Int32) ∧ Q (0 : Int32))) ∧ (¬ a3 < a1 → (bf_bool (1 : Int32) ∧ Q (1 : Int32))))))
set_option maxRecDepth 20000 in
theorem t_X9_isIn {X : bf_X} (C : bf_C X RX9 cX9_isIn 4 (some .boolean)) (hR : bf_Rm X 0 0) (S : bT9) (a1 : Int32) (a2 : Int32) (a3 : Int32) (Q : Int32 → Prop) (h : wp_X9_isIn S a1 a2 a3 Q) : bf_A X (bf_Zi X bW9 (fun r u => u = S ∧ Q r)) 4 0 [some (.ref 0), some (.int a1), some (.int a2), some (.int a3)] [] (bW9 S) := by
  unfold wp_X9_isIn at h
  refine bs_iload_n C (bf_dk dd_X9_isIn 0 rfl) rfl ?_
  refine bs_iload_n C (bf_dk dd_X9_isIn 1 rfl) rfl ?_
  refine bs_icmp_lt C (bf_dk dd_X9_isIn 2 rfl) (tgt := 14) rfl (fun c => ?_) (fun c => ?_)
  · replace h := h.1 c
    refine bs_iconst C (bf_dk dd_X9_isIn 8 rfl) (0 : Int32) (by decide) ?_
    obtain ⟨hi, h⟩ := h
    exact bs_zret (u := S) C (bf_dk dd_X9_isIn 9 rfl) hi rfl ⟨rfl, h⟩
  · replace h := h.2 c
    refine bs_iload_n C (bf_dk dd_X9_isIn 3 rfl) rfl ?_
    refine bs_iload_n C (bf_dk dd_X9_isIn 4 rfl) rfl ?_
    refine bs_icmp_gt C (bf_dk dd_X9_isIn 5 rfl) (tgt := 14) rfl (fun c => ?_) (fun c => ?_)
    · replace h := h.1 c
      refine bs_iconst C (bf_dk dd_X9_isIn 8 rfl) (0 : Int32) (by decide) ?_
      obtain ⟨hi, h⟩ := h
      exact bs_zret (u := S) C (bf_dk dd_X9_isIn 9 rfl) hi rfl ⟨rfl, h⟩
    · replace h := h.2 c
      refine bs_iconst C (bf_dk dd_X9_isIn 6 rfl) (1 : Int32) (by decide) ?_
      refine bs_goto C (bf_dk dd_X9_isIn 7 rfl) (tgt := 15) rfl ?_
      obtain ⟨hi, h⟩ := h
      exact bs_zret (u := S) C (bf_dk dd_X9_isIn 9 rfl) hi rfl ⟨rfl, h⟩
theorem c_X9_isIn (l : Launch) (dC : Nat → ClassId) (dI : Nat → Nat → Nat) (ac : Nat → ClassId) (al : Nat → Nat) (S : bT9) (a1 : Int32) (a2 : Int32) (a3 : Int32) (Q : Int32 → Prop) (h : wp_X9_isIn S a1 a2 a3 Q) : bf_M l yX9_isIn cX9_isIn 4 (some .boolean) 0 0 dC dI ac al [.ref 0, .int a1, .int a2, .int a3] (bW9 S) (bf_Ki dC dI ac al bW9 (fun r u => u = S ∧ Q r)) := by
  refine bf_start [some (.ref 0), some (.int a1), some (.int a2), some (.int a3)] (by decide) (Nat.le_of_ble_eq_true rfl) (bf_s1 (bf_s1 (bf_s1 (bf_s1 bf_s0)))) ?_
  intro X hl C hR e1 e2 e3 e4
  subst e1; subst e2; subst e3; subst e4
  exact t_X9_isIn C hR S a1 a2 a3 Q h
def wp_X9_firstOf (S : bT9) (a1 : Int32) (Q : Int32 → Prop) : Prop := ((a1 = 0 → (Q (4 : Int32))) ∧ (¬ a1 = 0 → ((a1 = (1 : Int32) → (Q (4 : Int32))) ∧ (¬ a1 = (1 : Int32) → ((¬ a1 = (4 : Int32) → ((¬ a1 = (2 : Int32) → ((¬ a1 = (3 : Int32) → (Q (0 : Int32))) ∧ (a1 = (3 : Int32) → (Q (16 : Int32))))) ∧ (a1 = (2 : Int32) → (Q (9 : Int32))))) ∧ (a1 = (4 : Int32) → (Q (4 : Int32))))))))
set_option maxRecDepth 20000 in
theorem t_X9_firstOf {X : bf_X} (C : bf_C X RX9 cX9_firstOf 2 (some .int)) (hR : bf_Rm X 0 0) (S : bT9) (a1 : Int32) (Q : Int32 → Prop) (h : wp_X9_firstOf S a1 Q) : bf_A X (bf_Zi X bW9 (fun r u => u = S ∧ Q r)) 2 0 [some (.ref 0), some (.int a1)] [] (bW9 S) := by
  unfold wp_X9_firstOf at h
  refine bs_iload_n C (bf_dk dd_X9_firstOf 0 rfl) rfl ?_
  refine bs_if_eq C (bf_dk dd_X9_firstOf 1 rfl) (tgt := 14) rfl (fun c => ?_) (fun c => ?_)
  · replace h := h.1 c
    refine bs_iconst C (bf_dk dd_X9_firstOf 8 rfl) (4 : Int32) (by decide) ?_
    exact bs_iret (u := S) C (bf_dk dd_X9_firstOf 9 rfl) rfl ⟨rfl, h⟩
  · replace h := h.2 c
    refine bs_iload_n C (bf_dk dd_X9_firstOf 2 rfl) rfl ?_
    refine bs_iconst C (bf_dk dd_X9_firstOf 3 rfl) (1 : Int32) (by decide) ?_
    refine bs_icmp_eq C (bf_dk dd_X9_firstOf 4 rfl) (tgt := 14) rfl (fun c => ?_) (fun c => ?_)
    · replace h := h.1 c
      refine bs_iconst C (bf_dk dd_X9_firstOf 8 rfl) (4 : Int32) (by decide) ?_
      exact bs_iret (u := S) C (bf_dk dd_X9_firstOf 9 rfl) rfl ⟨rfl, h⟩
    · replace h := h.2 c
      refine bs_iload_n C (bf_dk dd_X9_firstOf 5 rfl) rfl ?_
      refine bs_iconst C (bf_dk dd_X9_firstOf 6 rfl) (4 : Int32) (by decide) ?_
      refine bs_icmp_ne C (bf_dk dd_X9_firstOf 7 rfl) (tgt := 16) rfl (fun c => ?_) (fun c => ?_)
      · replace h := h.1 c
        refine bs_iload_n C (bf_dk dd_X9_firstOf 10 rfl) rfl ?_
        refine bs_iconst C (bf_dk dd_X9_firstOf 11 rfl) (2 : Int32) (by decide) ?_
        refine bs_icmp_ne C (bf_dk dd_X9_firstOf 12 rfl) (tgt := 26) rfl (fun c => ?_) (fun c => ?_)
        · replace h := h.1 c
          refine bs_iload_n C (bf_dk dd_X9_firstOf 15 rfl) rfl ?_
          refine bs_iconst C (bf_dk dd_X9_firstOf 16 rfl) (3 : Int32) (by decide) ?_
          refine bs_icmp_ne C (bf_dk dd_X9_firstOf 17 rfl) (tgt := 36) rfl (fun c => ?_) (fun c => ?_)
          · replace h := h.1 c
            refine bs_iconst C (bf_dk dd_X9_firstOf 20 rfl) (0 : Int32) (by decide) ?_
            exact bs_iret (u := S) C (bf_dk dd_X9_firstOf 21 rfl) rfl ⟨rfl, h⟩
          · replace h := h.2 c
            refine bs_bipush C (bf_dk dd_X9_firstOf 18 rfl) (16 : Int32) (by decide) ?_
            refine bs_goto C (bf_dk dd_X9_firstOf 19 rfl) (tgt := 37) rfl ?_
            exact bs_iret (u := S) C (bf_dk dd_X9_firstOf 21 rfl) rfl ⟨rfl, h⟩
        · replace h := h.2 c
          refine bs_bipush C (bf_dk dd_X9_firstOf 13 rfl) (9 : Int32) (by decide) ?_
          refine bs_goto C (bf_dk dd_X9_firstOf 14 rfl) (tgt := 37) rfl ?_
          exact bs_iret (u := S) C (bf_dk dd_X9_firstOf 21 rfl) rfl ⟨rfl, h⟩
      · replace h := h.2 c
        refine bs_iconst C (bf_dk dd_X9_firstOf 8 rfl) (4 : Int32) (by decide) ?_
        exact bs_iret (u := S) C (bf_dk dd_X9_firstOf 9 rfl) rfl ⟨rfl, h⟩
theorem c_X9_firstOf (l : Launch) (dC : Nat → ClassId) (dI : Nat → Nat → Nat) (ac : Nat → ClassId) (al : Nat → Nat) (S : bT9) (a1 : Int32) (Q : Int32 → Prop) (h : wp_X9_firstOf S a1 Q) : bf_M l yX9_firstOf cX9_firstOf 2 (some .int) 0 0 dC dI ac al [.ref 0, .int a1] (bW9 S) (bf_Ki dC dI ac al bW9 (fun r u => u = S ∧ Q r)) := by
  refine bf_start [some (.ref 0), some (.int a1)] (by decide) (Nat.le_of_ble_eq_true rfl) (bf_s1 (bf_s1 bf_s0)) ?_
  intro X hl C hR e1 e2 e3 e4
  subst e1; subst e2; subst e3; subst e4
  exact t_X9_firstOf C hR S a1 Q h
def wp_X9_settingOf (S : bT9) (a1 : Int32) (Q : Int32 → Prop) : Prop := (vp_in a1 23 ∧ (wp_X9_firstOf S (a1) (fun r1 => (Q (((b9g_now S) (a1).toNatClampNeg) + r1)))))
set_option maxRecDepth 20000 in
theorem t_X9_settingOf {X : bf_X} (C : bf_C X RX9 cX9_settingOf 2 (some .int)) (hR : bf_Rm X 1 21) (S : bT9) (a1 : Int32) (Q : Int32 → Prop) (h : wp_X9_settingOf S a1 Q) : bf_A X (bf_Zi X bW9 (fun r u => u = S ∧ Q r)) 2 0 [some (.ref 0), some (.int a1)] [] (bW9 S) := by
  unfold wp_X9_settingOf at h
  refine bs_aload_n C (bf_dk dd_X9_settingOf 0 rfl) rfl ?_
  refine bs_get C (bf_dk dd_X9_settingOf 1 rfl) cl_9 in_9 1 (Nat.le_of_ble_eq_true rfl) rfl f_9_7 (ge_bW9_0 S) rfl ?_
  refine bs_iload_n C (bf_dk dd_X9_settingOf 2 rfl) rfl ?_
  obtain ⟨hi, h⟩ := h
  refine bs_iald C (bf_dk dd_X9_settingOf 3 rfl) (ge_bW9_1 S) hi ?_
  refine bs_aload_n C (bf_dk dd_X9_settingOf 4 rfl) rfl ?_
  refine bs_iload_n C (bf_dk dd_X9_settingOf 5 rfl) rfl ?_
  refine bs_selfPV_i C hR (c_X9_firstOf _ _ _ _ _ S (a1) _ h) my_X9_firstOf m_9_78 rfl cl_9 (ge_bW9_0 _) rfl (Nat.le_of_ble_eq_true rfl) (Nat.le_of_ble_eq_true rfl) (st := [.int ((b9g_now S) (a1).toNatClampNeg)]) (Nat.le_of_ble_eq_true rfl) (bf_dk dd_X9_settingOf 6 rfl) rfl (fun r1 h => ?_)
  refine bs_iadd C (bf_dk dd_X9_settingOf 7 rfl) ?_
  exact bs_iret (u := S) C (bf_dk dd_X9_settingOf 8 rfl) rfl ⟨rfl, h⟩
theorem c_X9_settingOf (l : Launch) (dC : Nat → ClassId) (dI : Nat → Nat → Nat) (ac : Nat → ClassId) (al : Nat → Nat) (S : bT9) (a1 : Int32) (Q : Int32 → Prop) (h : wp_X9_settingOf S a1 Q) : bf_M l yX9_settingOf cX9_settingOf 2 (some .int) 1 21 dC dI ac al [.ref 0, .int a1] (bW9 S) (bf_Ki dC dI ac al bW9 (fun r u => u = S ∧ Q r)) := by
  refine bf_start [some (.ref 0), some (.int a1)] (by decide) (Nat.le_of_ble_eq_true rfl) (bf_s1 (bf_s1 bf_s0)) ?_
  intro X hl C hR e1 e2 e3 e4
  subst e1; subst e2; subst e3; subst e4
  exact t_X9_settingOf C hR S a1 Q h
def wp_X9_canSet_9 (S : bT9) (x2 : Int32) (Q : Int32 → Prop) : Prop := (wp_X9_isIn S (x2) ((0 : Int32)) ((8 : Int32)) (fun r1 => (bf_bool r1 ∧ Q r1)))
set_option maxRecDepth 20000 in
theorem t_X9_canSet_9 {X : bf_X} (C : bf_C X RX9 cX9_canSet 3 (some .boolean)) (hR : bf_Rm X 1 23) (S : bT9) (x2 : Int32) (Q : Int32 → Prop) (h : wp_X9_canSet_9 S x2 Q) : bf_A X (bf_Zi X bW9 (fun r u => u = S ∧ Q r)) 3 9 [some (.ref 0), none, some (.int x2)] [] (bW9 S) := by
  unfold wp_X9_canSet_9 at h
  refine bs_aload_n C (bf_dk dd_X9_canSet 5 rfl) rfl ?_
  refine bs_iload_n C (bf_dk dd_X9_canSet 6 rfl) rfl ?_
  refine bs_iconst C (bf_dk dd_X9_canSet 7 rfl) (0 : Int32) (by decide) ?_
  refine bs_bipush C (bf_dk dd_X9_canSet 8 rfl) (8 : Int32) (by decide) ?_
  refine bs_selfPV_i C hR (c_X9_isIn _ _ _ _ _ S (x2) ((0 : Int32)) ((8 : Int32)) _ h) my_X9_isIn m_9_82 rfl cl_9 (ge_bW9_0 _) rfl (Nat.le_of_ble_eq_true rfl) (Nat.le_of_ble_eq_true rfl) (st := []) (Nat.le_of_ble_eq_true rfl) (bf_dk dd_X9_canSet 9 rfl) rfl (fun r1 h => ?_)
  obtain ⟨hi, h⟩ := h
  exact bs_zret (u := S) C (bf_dk dd_X9_canSet 10 rfl) hi rfl ⟨rfl, h⟩
def wp_X9_canSet (S : bT9) (a1 : Int32) (a2 : Int32) (Q : Int32 → Prop) : Prop := ((a1 = 0 → (wp_X9_canSet_9 S (a2) Q)) ∧ (¬ a1 = 0 → ((¬ a1 = (1 : Int32) → ((¬ a1 = (2 : Int32) → ((¬ a1 = (3 : Int32) → ((¬ a1 = (4 : Int32) → ((¬ a1 = (5 : Int32) → (bf_bool (0 : Int32) ∧ Q (0 : Int32))) ∧ (a1 = (5 : Int32) → (bf_bool (1 : Int32) ∧ Q (1 : Int32))))) ∧ (a1 = (4 : Int32) → (wp_X9_isIn S (a2) ((1 : Int32)) ((256 : Int32)) (fun r3 => (bf_bool r3 ∧ Q r3)))))) ∧ (a1 = (3 : Int32) → (wp_X9_isIn S (a2) ((1 : Int32)) ((64 : Int32)) (fun r5 => (bf_bool r5 ∧ Q r5)))))) ∧ (a1 = (2 : Int32) → (wp_X9_isIn S (a2) ((0 : Int32)) ((9 : Int32)) (fun r7 => (bf_bool r7 ∧ Q r7)))))) ∧ (a1 = (1 : Int32) → (wp_X9_canSet_9 S (a2) Q)))))
set_option maxRecDepth 20000 in
theorem t_X9_canSet {X : bf_X} (C : bf_C X RX9 cX9_canSet 3 (some .boolean)) (hR : bf_Rm X 1 23) (S : bT9) (a1 : Int32) (a2 : Int32) (Q : Int32 → Prop) (h : wp_X9_canSet S a1 a2 Q) : bf_A X (bf_Zi X bW9 (fun r u => u = S ∧ Q r)) 3 0 [some (.ref 0), some (.int a1), some (.int a2)] [] (bW9 S) := by
  unfold wp_X9_canSet at h
  refine bs_iload_n C (bf_dk dd_X9_canSet 0 rfl) rfl ?_
  refine bs_if_eq C (bf_dk dd_X9_canSet 1 rfl) (tgt := 9) rfl (fun c => ?_) (fun c => ?_)
  · replace h := h.1 c
    exact bs_weak (bf_s1 (bf_sn (bf_s1 bf_s0))) (t_X9_canSet_9 C hR S (a2) Q h)
  · replace h := h.2 c
    refine bs_iload_n C (bf_dk dd_X9_canSet 2 rfl) rfl ?_
    refine bs_iconst C (bf_dk dd_X9_canSet 3 rfl) (1 : Int32) (by decide) ?_
    refine bs_icmp_ne C (bf_dk dd_X9_canSet 4 rfl) (tgt := 18) rfl (fun c => ?_) (fun c => ?_)
    · replace h := h.1 c
      refine bs_iload_n C (bf_dk dd_X9_canSet 11 rfl) rfl ?_
      refine bs_iconst C (bf_dk dd_X9_canSet 12 rfl) (2 : Int32) (by decide) ?_
      refine bs_icmp_ne C (bf_dk dd_X9_canSet 13 rfl) (tgt := 32) rfl (fun c => ?_) (fun c => ?_)
      · replace h := h.1 c
        refine bs_iload_n C (bf_dk dd_X9_canSet 20 rfl) rfl ?_
        refine bs_iconst C (bf_dk dd_X9_canSet 21 rfl) (3 : Int32) (by decide) ?_
        refine bs_icmp_ne C (bf_dk dd_X9_canSet 22 rfl) (tgt := 48) rfl (fun c => ?_) (fun c => ?_)
        · replace h := h.1 c
          refine bs_iload_n C (bf_dk dd_X9_canSet 29 rfl) rfl ?_
          refine bs_iconst C (bf_dk dd_X9_canSet 30 rfl) (4 : Int32) (by decide) ?_
          refine bs_icmp_ne C (bf_dk dd_X9_canSet 31 rfl) (tgt := 65) rfl (fun c => ?_) (fun c => ?_)
          · replace h := h.1 c
            refine bs_iload_n C (bf_dk dd_X9_canSet 38 rfl) rfl ?_
            refine bs_iconst C (bf_dk dd_X9_canSet 39 rfl) (5 : Int32) (by decide) ?_
            refine bs_icmp_ne C (bf_dk dd_X9_canSet 40 rfl) (tgt := 74) rfl (fun c => ?_) (fun c => ?_)
            · replace h := h.1 c
              refine bs_iconst C (bf_dk dd_X9_canSet 43 rfl) (0 : Int32) (by decide) ?_
              obtain ⟨hi, h⟩ := h
              exact bs_zret (u := S) C (bf_dk dd_X9_canSet 44 rfl) hi rfl ⟨rfl, h⟩
            · replace h := h.2 c
              refine bs_iconst C (bf_dk dd_X9_canSet 41 rfl) (1 : Int32) (by decide) ?_
              refine bs_goto C (bf_dk dd_X9_canSet 42 rfl) (tgt := 75) rfl ?_
              obtain ⟨hi, h⟩ := h
              exact bs_zret (u := S) C (bf_dk dd_X9_canSet 44 rfl) hi rfl ⟨rfl, h⟩
          · replace h := h.2 c
            refine bs_aload_n C (bf_dk dd_X9_canSet 32 rfl) rfl ?_
            refine bs_iload_n C (bf_dk dd_X9_canSet 33 rfl) rfl ?_
            refine bs_iconst C (bf_dk dd_X9_canSet 34 rfl) (1 : Int32) (by decide) ?_
            refine bs_sipush C (bf_dk dd_X9_canSet 35 rfl) (256 : Int32) (by decide) ?_
            refine bs_selfPV_i C hR (c_X9_isIn _ _ _ _ _ S (a2) ((1 : Int32)) ((256 : Int32)) _ h) my_X9_isIn m_9_82 rfl cl_9 (ge_bW9_0 _) rfl (Nat.le_of_ble_eq_true rfl) (Nat.le_of_ble_eq_true rfl) (st := []) (Nat.le_of_ble_eq_true rfl) (bf_dk dd_X9_canSet 36 rfl) rfl (fun r3 h => ?_)
            refine bs_goto C (bf_dk dd_X9_canSet 37 rfl) (tgt := 75) rfl ?_
            obtain ⟨hi, h⟩ := h
            exact bs_zret (u := S) C (bf_dk dd_X9_canSet 44 rfl) hi rfl ⟨rfl, h⟩
        · replace h := h.2 c
          refine bs_aload_n C (bf_dk dd_X9_canSet 23 rfl) rfl ?_
          refine bs_iload_n C (bf_dk dd_X9_canSet 24 rfl) rfl ?_
          refine bs_iconst C (bf_dk dd_X9_canSet 25 rfl) (1 : Int32) (by decide) ?_
          refine bs_bipush C (bf_dk dd_X9_canSet 26 rfl) (64 : Int32) (by decide) ?_
          refine bs_selfPV_i C hR (c_X9_isIn _ _ _ _ _ S (a2) ((1 : Int32)) ((64 : Int32)) _ h) my_X9_isIn m_9_82 rfl cl_9 (ge_bW9_0 _) rfl (Nat.le_of_ble_eq_true rfl) (Nat.le_of_ble_eq_true rfl) (st := []) (Nat.le_of_ble_eq_true rfl) (bf_dk dd_X9_canSet 27 rfl) rfl (fun r5 h => ?_)
          refine bs_goto C (bf_dk dd_X9_canSet 28 rfl) (tgt := 75) rfl ?_
          obtain ⟨hi, h⟩ := h
          exact bs_zret (u := S) C (bf_dk dd_X9_canSet 44 rfl) hi rfl ⟨rfl, h⟩
      · replace h := h.2 c
        refine bs_aload_n C (bf_dk dd_X9_canSet 14 rfl) rfl ?_
        refine bs_iload_n C (bf_dk dd_X9_canSet 15 rfl) rfl ?_
        refine bs_iconst C (bf_dk dd_X9_canSet 16 rfl) (0 : Int32) (by decide) ?_
        refine bs_bipush C (bf_dk dd_X9_canSet 17 rfl) (9 : Int32) (by decide) ?_
        refine bs_selfPV_i C hR (c_X9_isIn _ _ _ _ _ S (a2) ((0 : Int32)) ((9 : Int32)) _ h) my_X9_isIn m_9_82 rfl cl_9 (ge_bW9_0 _) rfl (Nat.le_of_ble_eq_true rfl) (Nat.le_of_ble_eq_true rfl) (st := []) (Nat.le_of_ble_eq_true rfl) (bf_dk dd_X9_canSet 18 rfl) rfl (fun r7 h => ?_)
        obtain ⟨hi, h⟩ := h
        exact bs_zret (u := S) C (bf_dk dd_X9_canSet 19 rfl) hi rfl ⟨rfl, h⟩
    · replace h := h.2 c
      exact bs_weak (bf_s1 (bf_sn (bf_s1 bf_s0))) (t_X9_canSet_9 C hR S (a2) Q h)
theorem c_X9_canSet (l : Launch) (dC : Nat → ClassId) (dI : Nat → Nat → Nat) (ac : Nat → ClassId) (al : Nat → Nat) (S : bT9) (a1 : Int32) (a2 : Int32) (Q : Int32 → Prop) (h : wp_X9_canSet S a1 a2 Q) : bf_M l yX9_canSet cX9_canSet 3 (some .boolean) 1 23 dC dI ac al [.ref 0, .int a1, .int a2] (bW9 S) (bf_Ki dC dI ac al bW9 (fun r u => u = S ∧ Q r)) := by
  refine bf_start [some (.ref 0), some (.int a1), some (.int a2)] (by decide) (Nat.le_of_ble_eq_true rfl) (bf_s1 (bf_s1 (bf_s1 bf_s0))) ?_
  intro X hl C hR e1 e2 e3 e4
  subst e1; subst e2; subst e3; subst e4
  exact t_X9_canSet C hR S a1 a2 Q h
def wp_X9_set (S : bT9) (a1 : Int32) (a2 : Int32) (Q : Int32 → (bT9) → Prop) : Prop := (∀ S1 : bT9, S1 = (b9s_told S (0 : Int32)) → (wp_X9_canSet S1 (a1) (a2) (fun r2 => ((¬ r2 = 0 → (wp_X9_firstOf S1 (a1) (fun r4 => (vp_in a1 23 ∧ (∀ S6 : bT9, S6 = (b9s_now S1 (upd (b9g_now S1) (a1).toNatClampNeg (a2 - r4))) → (bf_bool (1 : Int32) ∧ Q (1 : Int32) S6)))))) ∧ (r2 = 0 → (bf_bool (0 : Int32) ∧ Q (0 : Int32) S1))))))
set_option maxRecDepth 20000 in
theorem t_X9_set {X : bf_X} (C : bf_C X RX9 cX9_set 3 (some .boolean)) (hR : bf_Rm X 2 45) (S : bT9) (a1 : Int32) (a2 : Int32) (Q : Int32 → (bT9) → Prop) (h : wp_X9_set S a1 a2 Q) : bf_A X (bf_Zi X bW9 Q) 3 0 [some (.ref 0), some (.int a1), some (.int a2)] [] (bW9 S) := by
  unfold wp_X9_set at h
  refine bs_aload_n C (bf_dk dd_X9_set 0 rfl) rfl ?_
  refine bs_iconst C (bf_dk dd_X9_set 1 rfl) (0 : Int32) (by decide) ?_
  refine bs_put C (bf_dk dd_X9_set 2 rfl) tyX9_ok nmX9 cl_9 in_9 0 (Nat.le_of_ble_eq_true rfl) rfl f_9_75 rfl (ge_bW9_0 S) (Nat.le_of_ble_eq_true rfl) rfl rfl (pu_bW9_0_0 S (0 : Int32)) ?_
  refine bs_nameS bW9 (fun S1 eS1 => ?_)
  replace h := h S1 eS1
  refine bs_aload_n C (bf_dk dd_X9_set 3 rfl) rfl ?_
  refine bs_iload_n C (bf_dk dd_X9_set 4 rfl) rfl ?_
  refine bs_iload_n C (bf_dk dd_X9_set 5 rfl) rfl ?_
  refine bs_selfPV_i C hR (c_X9_canSet _ _ _ _ _ S1 (a1) (a2) _ h) my_X9_canSet m_9_86 rfl cl_9 (ge_bW9_0 _) rfl (Nat.le_of_ble_eq_true rfl) (Nat.le_of_ble_eq_true rfl) (st := []) (Nat.le_of_ble_eq_true rfl) (bf_dk dd_X9_set 6 rfl) rfl (fun r2 h => ?_)
  refine bs_if_ne C (bf_dk dd_X9_set 7 rfl) (tgt := 16) rfl (fun c => ?_) (fun c => ?_)
  · replace h := h.1 c
    refine bs_aload_n C (bf_dk dd_X9_set 10 rfl) rfl ?_
    refine bs_get C (bf_dk dd_X9_set 11 rfl) cl_9 in_9 1 (Nat.le_of_ble_eq_true rfl) rfl f_9_7 (ge_bW9_0 S1) rfl ?_
    refine bs_iload_n C (bf_dk dd_X9_set 12 rfl) rfl ?_
    refine bs_iload_n C (bf_dk dd_X9_set 13 rfl) rfl ?_
    refine bs_aload_n C (bf_dk dd_X9_set 14 rfl) rfl ?_
    refine bs_iload_n C (bf_dk dd_X9_set 15 rfl) rfl ?_
    refine bs_selfPV_i C hR (c_X9_firstOf _ _ _ _ _ S1 (a1) _ h) my_X9_firstOf m_9_78 rfl cl_9 (ge_bW9_0 _) rfl (Nat.le_of_ble_eq_true rfl) (Nat.le_of_ble_eq_true rfl) (st := [.int a2, .int a1, .ref 1]) (Nat.le_of_ble_eq_true rfl) (bf_dk dd_X9_set 16 rfl) rfl (fun r4 h => ?_)
    refine bs_isub C (bf_dk dd_X9_set 17 rfl) ?_
    obtain ⟨hi, h⟩ := h
    refine bs_iast C (bf_dk dd_X9_set 18 rfl) (ge_bW9_1 S1) hi (ar_bW9_1 S1 _) ?_
    refine bs_nameS bW9 (fun S6 eS6 => ?_)
    replace h := h S6 eS6
    refine bs_iconst C (bf_dk dd_X9_set 19 rfl) (1 : Int32) (by decide) ?_
    obtain ⟨hi, h⟩ := h
    exact bs_zret (u := S6) C (bf_dk dd_X9_set 20 rfl) hi rfl h
  · replace h := h.2 c
    refine bs_iconst C (bf_dk dd_X9_set 8 rfl) (0 : Int32) (by decide) ?_
    obtain ⟨hi, h⟩ := h
    exact bs_zret (u := S1) C (bf_dk dd_X9_set 9 rfl) hi rfl h
theorem c_X9_set (l : Launch) (dC : Nat → ClassId) (dI : Nat → Nat → Nat) (ac : Nat → ClassId) (al : Nat → Nat) (S : bT9) (a1 : Int32) (a2 : Int32) (Q : Int32 → (bT9) → Prop) (h : wp_X9_set S a1 a2 Q) : bf_M l yX9_set cX9_set 3 (some .boolean) 2 45 dC dI ac al [.ref 0, .int a1, .int a2] (bW9 S) (bf_Ki dC dI ac al bW9 Q) := by
  refine bf_start [some (.ref 0), some (.int a1), some (.int a2)] (by decide) (Nat.le_of_ble_eq_true rfl) (bf_s1 (bf_s1 (bf_s1 bf_s0))) ?_
  intro X hl C hR e1 e2 e3 e4
  subst e1; subst e2; subst e3; subst e4
  exact t_X9_set C hR S a1 a2 Q h
def wp_X9_state (S : bT9) (a1 : Int32) (Q : Int32 → (bT9) → Prop) : Prop := (∀ S1 : bT9, S1 = (b9s_told S (0 : Int32)) → (vp_in (7 : Int32) 23 ∧ (vp_in (7 : Int32) 23 ∧ (∀ S2 : bT9, S2 = (b9s_now S1 (upd (b9g_now S1) ((7 : Int32)).toNatClampNeg a1)) → (Q ((b9g_now S1) ((7 : Int32)).toNatClampNeg) S2)))))
set_option maxRecDepth 20000 in
theorem t_X9_state {X : bf_X} (C : bf_C X RX9 cX9_state 3 (some .int)) (hR : bf_Rm X 0 0) (S : bT9) (a1 : Int32) (Q : Int32 → (bT9) → Prop) (h : wp_X9_state S a1 Q) : bf_A X (bf_Zi X bW9 Q) 3 0 [some (.ref 0), some (.int a1), none] [] (bW9 S) := by
  unfold wp_X9_state at h
  refine bs_aload_n C (bf_dk dd_X9_state 0 rfl) rfl ?_
  refine bs_iconst C (bf_dk dd_X9_state 1 rfl) (0 : Int32) (by decide) ?_
  refine bs_put C (bf_dk dd_X9_state 2 rfl) tyX9_ok nmX9 cl_9 in_9 0 (Nat.le_of_ble_eq_true rfl) rfl f_9_75 rfl (ge_bW9_0 S) (Nat.le_of_ble_eq_true rfl) rfl rfl (pu_bW9_0_0 S (0 : Int32)) ?_
  refine bs_nameS bW9 (fun S1 eS1 => ?_)
  replace h := h S1 eS1
  refine bs_aload_n C (bf_dk dd_X9_state 3 rfl) rfl ?_
  refine bs_get C (bf_dk dd_X9_state 4 rfl) cl_9 in_9 1 (Nat.le_of_ble_eq_true rfl) rfl f_9_7 (ge_bW9_0 S1) rfl ?_
  refine bs_bipush C (bf_dk dd_X9_state 5 rfl) (7 : Int32) (by decide) ?_
  obtain ⟨hi, h⟩ := h
  refine bs_iald C (bf_dk dd_X9_state 6 rfl) (ge_bW9_1 S1) hi ?_
  refine bs_istore_n C (bf_dk dd_X9_state 7 rfl) rfl (Nat.le_of_ble_eq_true rfl) (Nat.le_of_ble_eq_true rfl) (lv2 := [some (.ref 0), some (.int a1), some (.int ((b9g_now S1) ((7 : Int32)).toNatClampNeg))]) rfl ?_
  refine bs_aload_n C (bf_dk dd_X9_state 8 rfl) rfl ?_
  refine bs_get C (bf_dk dd_X9_state 9 rfl) cl_9 in_9 1 (Nat.le_of_ble_eq_true rfl) rfl f_9_7 (ge_bW9_0 S1) rfl ?_
  refine bs_bipush C (bf_dk dd_X9_state 10 rfl) (7 : Int32) (by decide) ?_
  refine bs_iload_n C (bf_dk dd_X9_state 11 rfl) rfl ?_
  obtain ⟨hi, h⟩ := h
  refine bs_iast C (bf_dk dd_X9_state 12 rfl) (ge_bW9_1 S1) hi (ar_bW9_1 S1 _) ?_
  refine bs_nameS bW9 (fun S2 eS2 => ?_)
  replace h := h S2 eS2
  refine bs_iload_n C (bf_dk dd_X9_state 13 rfl) rfl ?_
  exact bs_iret (u := S2) C (bf_dk dd_X9_state 14 rfl) rfl h
theorem c_X9_state (l : Launch) (dC : Nat → ClassId) (dI : Nat → Nat → Nat) (ac : Nat → ClassId) (al : Nat → Nat) (S : bT9) (a1 : Int32) (Q : Int32 → (bT9) → Prop) (h : wp_X9_state S a1 Q) : bf_M l yX9_state cX9_state 3 (some .int) 0 0 dC dI ac al [.ref 0, .int a1] (bW9 S) (bf_Ki dC dI ac al bW9 Q) := by
  refine bf_start [some (.ref 0), some (.int a1), none] (by decide) (Nat.le_of_ble_eq_true rfl) (bf_s1 (bf_s1 (bf_en 1))) ?_
  intro X hl C hR e1 e2 e3 e4
  subst e1; subst e2; subst e3; subst e4
  exact t_X9_state C hR S a1 Q h
def wp_X9_draw (S : bT9) (a1 : Int32) (Q : Int32 → (bT9) → Prop) : Prop := (vp_in (7 : Int32) 23 ∧ (∀ v1 : Int32, v1 = (((1664525 : Int32) * ((b9g_now S) ((7 : Int32)).toNatClampNeg)) + (1013904223 : Int32)) → (vp_in (7 : Int32) 23 ∧ (∀ S2 : bT9, S2 = (b9s_now S (upd (b9g_now S) ((7 : Int32)).toNatClampNeg v1)) → (vp_in (7 : Int32) 23 ∧ (¬ a1 = 0 ∧ (Q ((((((b9g_now S2) ((7 : Int32)).toNatClampNeg)).toUInt32 >>> (((8 : Int32)).toUInt32 &&& Int32.toUInt32 31)).toInt32) - (((((b9g_now S2) ((7 : Int32)).toNatClampNeg)).toUInt32 >>> (((8 : Int32)).toUInt32 &&& Int32.toUInt32 31)).toInt32) / a1 * a1) S2)))))))
set_option maxRecDepth 20000 in
theorem t_X9_draw {X : bf_X} (C : bf_C X RX9 cX9_draw 2 (some .int)) (hR : bf_Rm X 0 0) (S : bT9) (a1 : Int32) (Q : Int32 → (bT9) → Prop) (h : wp_X9_draw S a1 Q) : bf_A X (bf_Zi X bW9 Q) 2 0 [some (.ref 0), some (.int a1)] [] (bW9 S) := by
  unfold wp_X9_draw at h
  refine bs_aload_n C (bf_dk dd_X9_draw 0 rfl) rfl ?_
  refine bs_get C (bf_dk dd_X9_draw 1 rfl) cl_9 in_9 1 (Nat.le_of_ble_eq_true rfl) rfl f_9_7 (ge_bW9_0 S) rfl ?_
  refine bs_bipush C (bf_dk dd_X9_draw 2 rfl) (7 : Int32) (by decide) ?_
  refine bs_ldc C (bf_dk dd_X9_draw 3 rfl) k_9_90 ?_
  refine bs_aload_n C (bf_dk dd_X9_draw 4 rfl) rfl ?_
  refine bs_get C (bf_dk dd_X9_draw 5 rfl) cl_9 in_9 1 (Nat.le_of_ble_eq_true rfl) rfl f_9_7 (ge_bW9_0 S) rfl ?_
  refine bs_bipush C (bf_dk dd_X9_draw 6 rfl) (7 : Int32) (by decide) ?_
  obtain ⟨hi, h⟩ := h
  refine bs_iald C (bf_dk dd_X9_draw 7 rfl) (ge_bW9_1 S) hi ?_
  refine bs_imul C (bf_dk dd_X9_draw 8 rfl) ?_
  refine bs_ldc C (bf_dk dd_X9_draw 9 rfl) k_9_91 ?_
  refine bs_iadd C (bf_dk dd_X9_draw 10 rfl) ?_
  refine bs_name (fun v1 ev1 => ?_)
  replace h := h v1 ev1
  obtain ⟨hi, h⟩ := h
  refine bs_iast C (bf_dk dd_X9_draw 11 rfl) (ge_bW9_1 S) hi (ar_bW9_1 S _) ?_
  refine bs_nameS bW9 (fun S2 eS2 => ?_)
  replace h := h S2 eS2
  refine bs_aload_n C (bf_dk dd_X9_draw 12 rfl) rfl ?_
  refine bs_get C (bf_dk dd_X9_draw 13 rfl) cl_9 in_9 1 (Nat.le_of_ble_eq_true rfl) rfl f_9_7 (ge_bW9_0 S2) rfl ?_
  refine bs_bipush C (bf_dk dd_X9_draw 14 rfl) (7 : Int32) (by decide) ?_
  obtain ⟨hi, h⟩ := h
  refine bs_iald C (bf_dk dd_X9_draw 15 rfl) (ge_bW9_1 S2) hi ?_
  refine bs_bipush C (bf_dk dd_X9_draw 16 rfl) (8 : Int32) (by decide) ?_
  refine bs_iushr C (bf_dk dd_X9_draw 17 rfl) ?_
  refine bs_iload_n C (bf_dk dd_X9_draw 18 rfl) rfl ?_
  obtain ⟨hi, h⟩ := h
  refine bs_irem C (bf_dk dd_X9_draw 19 rfl) hi ?_
  exact bs_iret (u := S2) C (bf_dk dd_X9_draw 20 rfl) rfl h
theorem c_X9_draw (l : Launch) (dC : Nat → ClassId) (dI : Nat → Nat → Nat) (ac : Nat → ClassId) (al : Nat → Nat) (S : bT9) (a1 : Int32) (Q : Int32 → (bT9) → Prop) (h : wp_X9_draw S a1 Q) : bf_M l yX9_draw cX9_draw 2 (some .int) 0 0 dC dI ac al [.ref 0, .int a1] (bW9 S) (bf_Ki dC dI ac al bW9 Q) := by
  refine bf_start [some (.ref 0), some (.int a1)] (by decide) (Nat.le_of_ble_eq_true rfl) (bf_s1 (bf_s1 bf_s0)) ?_
  intro X hl C hR e1 e2 e3 e4
  subst e1; subst e2; subst e3; subst e4
  exact t_X9_draw C hR S a1 Q h
def wp_X9_low (S : bT9) (a1 : Int32) (Q : Int64 → Prop) : Prop := (Q ((a1).toInt64 &&& (4294967295 : Int64)))
set_option maxRecDepth 20000 in
theorem t_X9_low {X : bf_X} (C : bf_C X RX9 cX9_low 2 (some .long)) (hR : bf_Rm X 0 0) (S : bT9) (a1 : Int32) (Q : Int64 → Prop) (h : wp_X9_low S a1 Q) : bf_A X (bf_Zl X bW9 (fun r u => u = S ∧ Q r)) 2 0 [some (.ref 0), some (.int a1)] [] (bW9 S) := by
  unfold wp_X9_low at h
  refine bs_iload_n C (bf_dk dd_X9_low 0 rfl) rfl ?_
  refine bs_i2l C (bf_dk dd_X9_low 1 rfl) ?_
  refine bs_ldc2 C (bf_dk dd_X9_low 2 rfl) k_9_92 ?_
  refine bs_land C (bf_dk dd_X9_low 3 rfl) ?_
  exact bs_lret (u := S) C (bf_dk dd_X9_low 4 rfl) rfl ⟨rfl, h⟩
theorem c_X9_low (l : Launch) (dC : Nat → ClassId) (dI : Nat → Nat → Nat) (ac : Nat → ClassId) (al : Nat → Nat) (S : bT9) (a1 : Int32) (Q : Int64 → Prop) (h : wp_X9_low S a1 Q) : bf_M l yX9_low cX9_low 2 (some .long) 0 0 dC dI ac al [.ref 0, .int a1] (bW9 S) (bf_Kl dC dI ac al bW9 (fun r u => u = S ∧ Q r)) := by
  refine bf_start [some (.ref 0), some (.int a1)] (by decide) (Nat.le_of_ble_eq_true rfl) (bf_s1 (bf_s1 bf_s0)) ?_
  intro X hl C hR e1 e2 e3 e4
  subst e1; subst e2; subst e3; subst e4
  exact t_X9_low C hR S a1 Q h
def wp_X9_cut (S : bT9) (a1 : Int64) (a3 : Int32) (Q : Int64 → Prop) : Prop := ((¬ a3 = 0 → (Q ((((a1).toUInt64 >>> ((((64 : Int32) - ((8 : Int32) * a3))).toInt64.toUInt64 &&& Int64.toUInt64 63)).toInt64) <<< ((((64 : Int32) - ((8 : Int32) * a3))).toInt64 &&& 63)))) ∧ (a3 = 0 → (Q (0 : Int64))))
set_option maxRecDepth 20000 in
theorem t_X9_cut {X : bf_X} (C : bf_C X RX9 cX9_cut 4 (some .long)) (hR : bf_Rm X 0 0) (S : bT9) (a1 : Int64) (a3 : Int32) (Q : Int64 → Prop) (h : wp_X9_cut S a1 a3 Q) : bf_A X (bf_Zl X bW9 (fun r u => u = S ∧ Q r)) 4 0 [some (.ref 0), some (.long a1), none, some (.int a3)] [] (bW9 S) := by
  unfold wp_X9_cut at h
  refine bs_iload_n C (bf_dk dd_X9_cut 0 rfl) rfl ?_
  refine bs_if_ne C (bf_dk dd_X9_cut 1 rfl) (tgt := 8) rfl (fun c => ?_) (fun c => ?_)
  · replace h := h.1 c
    refine bs_lload_n C (bf_dk dd_X9_cut 4 rfl) rfl ?_
    refine bs_bipush C (bf_dk dd_X9_cut 5 rfl) (64 : Int32) (by decide) ?_
    refine bs_bipush C (bf_dk dd_X9_cut 6 rfl) (8 : Int32) (by decide) ?_
    refine bs_iload_n C (bf_dk dd_X9_cut 7 rfl) rfl ?_
    refine bs_imul C (bf_dk dd_X9_cut 8 rfl) ?_
    refine bs_isub C (bf_dk dd_X9_cut 9 rfl) ?_
    refine bs_lushr C (bf_dk dd_X9_cut 10 rfl) ?_
    refine bs_bipush C (bf_dk dd_X9_cut 11 rfl) (64 : Int32) (by decide) ?_
    refine bs_bipush C (bf_dk dd_X9_cut 12 rfl) (8 : Int32) (by decide) ?_
    refine bs_iload_n C (bf_dk dd_X9_cut 13 rfl) rfl ?_
    refine bs_imul C (bf_dk dd_X9_cut 14 rfl) ?_
    refine bs_isub C (bf_dk dd_X9_cut 15 rfl) ?_
    refine bs_lshl C (bf_dk dd_X9_cut 16 rfl) ?_
    exact bs_lret (u := S) C (bf_dk dd_X9_cut 17 rfl) rfl ⟨rfl, h⟩
  · replace h := h.2 c
    refine bs_lconst C (bf_dk dd_X9_cut 2 rfl) (0 : Int64) (by decide) ?_
    refine bs_goto C (bf_dk dd_X9_cut 3 rfl) (tgt := 25) rfl ?_
    exact bs_lret (u := S) C (bf_dk dd_X9_cut 17 rfl) rfl ⟨rfl, h⟩
theorem c_X9_cut (l : Launch) (dC : Nat → ClassId) (dI : Nat → Nat → Nat) (ac : Nat → ClassId) (al : Nat → Nat) (S : bT9) (a1 : Int64) (a3 : Int32) (Q : Int64 → Prop) (h : wp_X9_cut S a1 a3 Q) : bf_M l yX9_cut cX9_cut 4 (some .long) 0 0 dC dI ac al [.ref 0, .long a1, .int a3] (bW9 S) (bf_Kl dC dI ac al bW9 (fun r u => u = S ∧ Q r)) := by
  refine bf_start [some (.ref 0), some (.long a1), none, some (.int a3)] (by decide) (Nat.le_of_ble_eq_true rfl) (bf_s1 (bf_s1 (bf_sn (bf_s1 bf_s0)))) ?_
  intro X hl C hR e1 e2 e3 e4
  subst e1; subst e2; subst e3; subst e4
  exact t_X9_cut C hR S a1 a3 Q h
def wp_X9_keyOf (S : bT9) (a1 : Int32) (a2 : Int32) (a3 : Int32) (Q : Int64 → Prop) : Prop := (wp_X9_low S (a1) (fun r1 => (wp_X9_low S (a2) (fun r3 => (wp_X9_cut S (((r1 <<< (((32 : Int32)).toInt64 &&& 63)) ||| r3)) (a3) (fun r5 => (Q r5)))))))
set_option maxRecDepth 20000 in
theorem t_X9_keyOf {X : bf_X} (C : bf_C X RX9 cX9_keyOf 4 (some .long)) (hR : bf_Rm X 1 23) (S : bT9) (a1 : Int32) (a2 : Int32) (a3 : Int32) (Q : Int64 → Prop) (h : wp_X9_keyOf S a1 a2 a3 Q) : bf_A X (bf_Zl X bW9 (fun r u => u = S ∧ Q r)) 4 0 [some (.ref 0), some (.int a1), some (.int a2), some (.int a3)] [] (bW9 S) := by
  unfold wp_X9_keyOf at h
  refine bs_aload_n C (bf_dk dd_X9_keyOf 0 rfl) rfl ?_
  refine bs_aload_n C (bf_dk dd_X9_keyOf 1 rfl) rfl ?_
  refine bs_iload_n C (bf_dk dd_X9_keyOf 2 rfl) rfl ?_
  refine bs_selfPV_l C hR (c_X9_low _ _ _ _ _ S (a1) _ h) my_X9_low m_9_94 rfl cl_9 (ge_bW9_0 _) rfl (Nat.le_of_ble_eq_true rfl) (Nat.le_of_ble_eq_true rfl) (st := [.ref 0]) (Nat.le_of_ble_eq_true rfl) (bf_dk dd_X9_keyOf 3 rfl) rfl (fun r1 h => ?_)
  refine bs_bipush C (bf_dk dd_X9_keyOf 4 rfl) (32 : Int32) (by decide) ?_
  refine bs_lshl C (bf_dk dd_X9_keyOf 5 rfl) ?_
  refine bs_aload_n C (bf_dk dd_X9_keyOf 6 rfl) rfl ?_
  refine bs_iload_n C (bf_dk dd_X9_keyOf 7 rfl) rfl ?_
  refine bs_selfPV_l C hR (c_X9_low _ _ _ _ _ S (a2) _ h) my_X9_low m_9_94 rfl cl_9 (ge_bW9_0 _) rfl (Nat.le_of_ble_eq_true rfl) (Nat.le_of_ble_eq_true rfl) (st := [.long (r1 <<< (((32 : Int32)).toInt64 &&& 63)), .ref 0]) (Nat.le_of_ble_eq_true rfl) (bf_dk dd_X9_keyOf 8 rfl) rfl (fun r3 h => ?_)
  refine bs_lor C (bf_dk dd_X9_keyOf 9 rfl) ?_
  refine bs_iload_n C (bf_dk dd_X9_keyOf 10 rfl) rfl ?_
  refine bs_selfPV_l C hR (c_X9_cut _ _ _ _ _ S (((r1 <<< (((32 : Int32)).toInt64 &&& 63)) ||| r3)) (a3) _ h) my_X9_cut m_9_98 rfl cl_9 (ge_bW9_0 _) rfl (Nat.le_of_ble_eq_true rfl) (Nat.le_of_ble_eq_true rfl) (st := []) (Nat.le_of_ble_eq_true rfl) (bf_dk dd_X9_keyOf 11 rfl) rfl (fun r5 h => ?_)
  exact bs_lret (u := S) C (bf_dk dd_X9_keyOf 12 rfl) rfl ⟨rfl, h⟩
theorem c_X9_keyOf (l : Launch) (dC : Nat → ClassId) (dI : Nat → Nat → Nat) (ac : Nat → ClassId) (al : Nat → Nat) (S : bT9) (a1 : Int32) (a2 : Int32) (a3 : Int32) (Q : Int64 → Prop) (h : wp_X9_keyOf S a1 a2 a3 Q) : bf_M l yX9_keyOf cX9_keyOf 4 (some .long) 1 23 dC dI ac al [.ref 0, .int a1, .int a2, .int a3] (bW9 S) (bf_Kl dC dI ac al bW9 (fun r u => u = S ∧ Q r)) := by
  refine bf_start [some (.ref 0), some (.int a1), some (.int a2), some (.int a3)] (by decide) (Nat.le_of_ble_eq_true rfl) (bf_s1 (bf_s1 (bf_s1 (bf_s1 bf_s0)))) ?_
  intro X hl C hR e1 e2 e3 e4
  subst e1; subst e2; subst e3; subst e4
  exact t_X9_keyOf C hR S a1 a2 a3 Q h
def wp_X9_isKey (S : bT9) (a1 : Int32) (Q : Int32 → Prop) : Prop := (wp_X9_isIn S (a1) ((1 : Int32)) ((8 : Int32)) (fun r1 => (bf_bool r1 ∧ Q r1)))
set_option maxRecDepth 20000 in
theorem t_X9_isKey {X : bf_X} (C : bf_C X RX9 cX9_isKey 2 (some .boolean)) (hR : bf_Rm X 1 23) (S : bT9) (a1 : Int32) (Q : Int32 → Prop) (h : wp_X9_isKey S a1 Q) : bf_A X (bf_Zi X bW9 (fun r u => u = S ∧ Q r)) 2 0 [some (.ref 0), some (.int a1)] [] (bW9 S) := by
  unfold wp_X9_isKey at h
  refine bs_aload_n C (bf_dk dd_X9_isKey 0 rfl) rfl ?_
  refine bs_iload_n C (bf_dk dd_X9_isKey 1 rfl) rfl ?_
  refine bs_iconst C (bf_dk dd_X9_isKey 2 rfl) (1 : Int32) (by decide) ?_
  refine bs_bipush C (bf_dk dd_X9_isKey 3 rfl) (8 : Int32) (by decide) ?_
  refine bs_selfPV_i C hR (c_X9_isIn _ _ _ _ _ S (a1) ((1 : Int32)) ((8 : Int32)) _ h) my_X9_isIn m_9_82 rfl cl_9 (ge_bW9_0 _) rfl (Nat.le_of_ble_eq_true rfl) (Nat.le_of_ble_eq_true rfl) (st := []) (Nat.le_of_ble_eq_true rfl) (bf_dk dd_X9_isKey 4 rfl) rfl (fun r1 h => ?_)
  obtain ⟨hi, h⟩ := h
  exact bs_zret (u := S) C (bf_dk dd_X9_isKey 5 rfl) hi rfl ⟨rfl, h⟩
theorem c_X9_isKey (l : Launch) (dC : Nat → ClassId) (dI : Nat → Nat → Nat) (ac : Nat → ClassId) (al : Nat → Nat) (S : bT9) (a1 : Int32) (Q : Int32 → Prop) (h : wp_X9_isKey S a1 Q) : bf_M l yX9_isKey cX9_isKey 2 (some .boolean) 1 23 dC dI ac al [.ref 0, .int a1] (bW9 S) (bf_Ki dC dI ac al bW9 (fun r u => u = S ∧ Q r)) := by
  refine bf_start [some (.ref 0), some (.int a1)] (by decide) (Nat.le_of_ble_eq_true rfl) (bf_s1 (bf_s1 bf_s0)) ?_
  intro X hl C hR e1 e2 e3 e4
  subst e1; subst e2; subst e3; subst e4
  exact t_X9_isKey C hR S a1 Q h
def wp_X9_byteOf (S : bT9) (a1 : Int64) (a3 : Int32) (Q : Int32 → Prop) : Prop := (Q (((((a1).toUInt64 >>> ((((56 : Int32) - ((8 : Int32) * a3))).toInt64.toUInt64 &&& Int64.toUInt64 63)).toInt64)).toInt32 &&& (255 : Int32)))
set_option maxRecDepth 20000 in
theorem t_X9_byteOf {X : bf_X} (C : bf_C X RX9 cX9_byteOf 4 (some .int)) (hR : bf_Rm X 0 0) (S : bT9) (a1 : Int64) (a3 : Int32) (Q : Int32 → Prop) (h : wp_X9_byteOf S a1 a3 Q) : bf_A X (bf_Zi X bW9 (fun r u => u = S ∧ Q r)) 4 0 [some (.ref 0), some (.long a1), none, some (.int a3)] [] (bW9 S) := by
  unfold wp_X9_byteOf at h
  refine bs_lload_n C (bf_dk dd_X9_byteOf 0 rfl) rfl ?_
  refine bs_bipush C (bf_dk dd_X9_byteOf 1 rfl) (56 : Int32) (by decide) ?_
  refine bs_bipush C (bf_dk dd_X9_byteOf 2 rfl) (8 : Int32) (by decide) ?_
  refine bs_iload_n C (bf_dk dd_X9_byteOf 3 rfl) rfl ?_
  refine bs_imul C (bf_dk dd_X9_byteOf 4 rfl) ?_
  refine bs_isub C (bf_dk dd_X9_byteOf 5 rfl) ?_
  refine bs_lushr C (bf_dk dd_X9_byteOf 6 rfl) ?_
  refine bs_l2i C (bf_dk dd_X9_byteOf 7 rfl) ?_
  refine bs_sipush C (bf_dk dd_X9_byteOf 8 rfl) (255 : Int32) (by decide) ?_
  refine bs_iand C (bf_dk dd_X9_byteOf 9 rfl) ?_
  exact bs_iret (u := S) C (bf_dk dd_X9_byteOf 10 rfl) rfl ⟨rfl, h⟩
theorem c_X9_byteOf (l : Launch) (dC : Nat → ClassId) (dI : Nat → Nat → Nat) (ac : Nat → ClassId) (al : Nat → Nat) (S : bT9) (a1 : Int64) (a3 : Int32) (Q : Int32 → Prop) (h : wp_X9_byteOf S a1 a3 Q) : bf_M l yX9_byteOf cX9_byteOf 4 (some .int) 0 0 dC dI ac al [.ref 0, .long a1, .int a3] (bW9 S) (bf_Ki dC dI ac al bW9 (fun r u => u = S ∧ Q r)) := by
  refine bf_start [some (.ref 0), some (.long a1), none, some (.int a3)] (by decide) (Nat.le_of_ble_eq_true rfl) (bf_s1 (bf_s1 (bf_sn (bf_s1 bf_s0)))) ?_
  intro X hl C hR e1 e2 e3 e4
  subst e1; subst e2; subst e3; subst e4
  exact t_X9_byteOf C hR S a1 a3 Q h
def wp_X9_isLess (S : bT9) (a1 : Int64) (a3 : Int32) (a4 : Int64) (a6 : Int32) (Q : Int32 → Prop) : Prop := ((¬ (lg_cmp a1 a4) = 0 → ((0 ≤ (lg_cmp (a1 + (-9223372036854775808 : Int64)) (a4 + (-9223372036854775808 : Int64))) → (bf_bool (0 : Int32) ∧ Q (0 : Int32))) ∧ (¬ 0 ≤ (lg_cmp (a1 + (-9223372036854775808 : Int64)) (a4 + (-9223372036854775808 : Int64))) → (bf_bool (1 : Int32) ∧ Q (1 : Int32))))) ∧ ((lg_cmp a1 a4) = 0 → ((a6 ≤ a3 → (bf_bool (0 : Int32) ∧ Q (0 : Int32))) ∧ (¬ a6 ≤ a3 → (bf_bool (1 : Int32) ∧ Q (1 : Int32))))))
set_option maxRecDepth 20000 in
theorem t_X9_isLess {X : bf_X} (C : bf_C X RX9 cX9_isLess 7 (some .boolean)) (hR : bf_Rm X 0 0) (S : bT9) (a1 : Int64) (a3 : Int32) (a4 : Int64) (a6 : Int32) (Q : Int32 → Prop) (h : wp_X9_isLess S a1 a3 a4 a6 Q) : bf_A X (bf_Zi X bW9 (fun r u => u = S ∧ Q r)) 7 0 [some (.ref 0), some (.long a1), none, some (.int a3), some (.long a4), none, some (.int a6)] [] (bW9 S) := by
  unfold wp_X9_isLess at h
  refine bs_lload_n C (bf_dk dd_X9_isLess 0 rfl) rfl ?_
  refine bs_lload C (bf_dk dd_X9_isLess 1 rfl) rfl ?_
  refine bs_lcmp C (bf_dk dd_X9_isLess 2 rfl) ?_
  refine bs_if_ne C (bf_dk dd_X9_isLess 3 rfl) (tgt := 21) rfl (fun c => ?_) (fun c => ?_)
  · replace h := h.1 c
    refine bs_lload_n C (bf_dk dd_X9_isLess 11 rfl) rfl ?_
    refine bs_ldc2 C (bf_dk dd_X9_isLess 12 rfl) k_9_104 ?_
    refine bs_ladd C (bf_dk dd_X9_isLess 13 rfl) ?_
    refine bs_lload C (bf_dk dd_X9_isLess 14 rfl) rfl ?_
    refine bs_ldc2 C (bf_dk dd_X9_isLess 15 rfl) k_9_104 ?_
    refine bs_ladd C (bf_dk dd_X9_isLess 16 rfl) ?_
    refine bs_lcmp C (bf_dk dd_X9_isLess 17 rfl) ?_
    refine bs_if_ge C (bf_dk dd_X9_isLess 18 rfl) (tgt := 40) rfl (fun c => ?_) (fun c => ?_)
    · replace h := h.1 c
      refine bs_iconst C (bf_dk dd_X9_isLess 21 rfl) (0 : Int32) (by decide) ?_
      obtain ⟨hi, h⟩ := h
      exact bs_zret (u := S) C (bf_dk dd_X9_isLess 22 rfl) hi rfl ⟨rfl, h⟩
    · replace h := h.2 c
      refine bs_iconst C (bf_dk dd_X9_isLess 19 rfl) (1 : Int32) (by decide) ?_
      refine bs_goto C (bf_dk dd_X9_isLess 20 rfl) (tgt := 41) rfl ?_
      obtain ⟨hi, h⟩ := h
      exact bs_zret (u := S) C (bf_dk dd_X9_isLess 22 rfl) hi rfl ⟨rfl, h⟩
  · replace h := h.2 c
    refine bs_iload_n C (bf_dk dd_X9_isLess 4 rfl) rfl ?_
    refine bs_iload C (bf_dk dd_X9_isLess 5 rfl) rfl ?_
    refine bs_icmp_ge C (bf_dk dd_X9_isLess 6 rfl) (tgt := 17) rfl (fun c => ?_) (fun c => ?_)
    · replace h := h.1 c
      refine bs_iconst C (bf_dk dd_X9_isLess 9 rfl) (0 : Int32) (by decide) ?_
      refine bs_goto C (bf_dk dd_X9_isLess 10 rfl) (tgt := 41) rfl ?_
      obtain ⟨hi, h⟩ := h
      exact bs_zret (u := S) C (bf_dk dd_X9_isLess 22 rfl) hi rfl ⟨rfl, h⟩
    · replace h := h.2 c
      refine bs_iconst C (bf_dk dd_X9_isLess 7 rfl) (1 : Int32) (by decide) ?_
      refine bs_goto C (bf_dk dd_X9_isLess 8 rfl) (tgt := 41) rfl ?_
      obtain ⟨hi, h⟩ := h
      exact bs_zret (u := S) C (bf_dk dd_X9_isLess 22 rfl) hi rfl ⟨rfl, h⟩
theorem c_X9_isLess (l : Launch) (dC : Nat → ClassId) (dI : Nat → Nat → Nat) (ac : Nat → ClassId) (al : Nat → Nat) (S : bT9) (a1 : Int64) (a3 : Int32) (a4 : Int64) (a6 : Int32) (Q : Int32 → Prop) (h : wp_X9_isLess S a1 a3 a4 a6 Q) : bf_M l yX9_isLess cX9_isLess 7 (some .boolean) 0 0 dC dI ac al [.ref 0, .long a1, .int a3, .long a4, .int a6] (bW9 S) (bf_Ki dC dI ac al bW9 (fun r u => u = S ∧ Q r)) := by
  refine bf_start [some (.ref 0), some (.long a1), none, some (.int a3), some (.long a4), none, some (.int a6)] (by decide) (Nat.le_of_ble_eq_true rfl) (bf_s1 (bf_s1 (bf_sn (bf_s1 (bf_s1 (bf_sn (bf_s1 bf_s0))))))) ?_
  intro X hl C hR e1 e2 e3 e4
  subst e1; subst e2; subst e3; subst e4
  exact t_X9_isLess C hR S a1 a3 a4 a6 Q h
def wp_X9_lessMany_3b (S : bT9) (x1 : Int32) (x2 : Int32) (x3 : Int64) (x5 : Int32) (x6 : Int32) (Q : Int32 → Prop) (B3 : Int32 → Int32 → Int64 → Int32 → Int32 → Prop) : Prop := ((x2 ≤ x6 → (Q x6)) ∧ (¬ x2 ≤ x6 → (vp_in (x1 + x6) 144 ∧ (vp_in (x1 + x6) 144 ∧ (wp_X9_isLess S (((b9g_keys S) ((x1 + x6)).toNatClampNeg)) (((b9g_lengths S) ((x1 + x6)).toNatClampNeg)) (x3) (x5) (fun r1 => ((r1 = 0 → (Q x6)) ∧ (¬ r1 = 0 → (B3 (x1) (x2) (x3) (x5) ((x6 + (1 : Int32))))))))))))
set_option maxRecDepth 20000 in
theorem t_X9_lessMany_3b {X : bf_X} (C : bf_C X RX9 cX9_lessMany 7 (some .int)) (hR : bf_Rm X 1 26) (S : bT9) (x1 : Int32) (x2 : Int32) (x3 : Int64) (x5 : Int32) (x6 : Int32) (Q : Int32 → Prop) (B3 : Int32 → Int32 → Int64 → Int32 → Int32 → Prop) (hB3 : ∀ (x1 : Int32) (x2 : Int32) (x3 : Int64) (x5 : Int32) (x6 : Int32), B3 x1 x2 x3 x5 x6 → bf_A X (bf_Zi X bW9 (fun r u => u = S ∧ Q r)) 7 3 [some (.ref 0), some (.int x1), some (.int x2), some (.long x3), none, some (.int x5), some (.int x6)] [] (bW9 S)) (h : wp_X9_lessMany_3b S x1 x2 x3 x5 x6 Q B3) : bf_A X (bf_Zi X bW9 (fun r u => u = S ∧ Q r)) 7 3 [some (.ref 0), some (.int x1), some (.int x2), some (.long x3), none, some (.int x5), some (.int x6)] [] (bW9 S) := by
  unfold wp_X9_lessMany_3b at h
  refine bs_iload C (bf_dk dd_X9_lessMany 2 rfl) rfl ?_
  refine bs_iload_n C (bf_dk dd_X9_lessMany 3 rfl) rfl ?_
  refine bs_icmp_ge C (bf_dk dd_X9_lessMany 4 rfl) (tgt := 46) rfl (fun c => ?_) (fun c => ?_)
  · replace h := h.1 c
    refine bs_iload C (bf_dk dd_X9_lessMany 27 rfl) rfl ?_
    exact bs_iret (u := S) C (bf_dk dd_X9_lessMany 28 rfl) rfl ⟨rfl, h⟩
  · replace h := h.2 c
    refine bs_aload_n C (bf_dk dd_X9_lessMany 5 rfl) rfl ?_
    refine bs_aload_n C (bf_dk dd_X9_lessMany 6 rfl) rfl ?_
    refine bs_get C (bf_dk dd_X9_lessMany 7 rfl) cl_9 in_9 2 (Nat.le_of_ble_eq_true rfl) rfl f_9_13 (ge_bW9_0 S) rfl ?_
    refine bs_iload_n C (bf_dk dd_X9_lessMany 8 rfl) rfl ?_
    refine bs_iload C (bf_dk dd_X9_lessMany 9 rfl) rfl ?_
    refine bs_iadd C (bf_dk dd_X9_lessMany 10 rfl) ?_
    obtain ⟨hi, h⟩ := h
    refine bs_lald C (bf_dk dd_X9_lessMany 11 rfl) (ge_bW9_2 S) hi ?_
    refine bs_aload_n C (bf_dk dd_X9_lessMany 12 rfl) rfl ?_
    refine bs_get C (bf_dk dd_X9_lessMany 13 rfl) cl_9 in_9 3 (Nat.le_of_ble_eq_true rfl) rfl f_9_17 (ge_bW9_0 S) rfl ?_
    refine bs_iload_n C (bf_dk dd_X9_lessMany 14 rfl) rfl ?_
    refine bs_iload C (bf_dk dd_X9_lessMany 15 rfl) rfl ?_
    refine bs_iadd C (bf_dk dd_X9_lessMany 16 rfl) ?_
    obtain ⟨hi, h⟩ := h
    refine bs_iald C (bf_dk dd_X9_lessMany 17 rfl) (ge_bW9_3 S) hi ?_
    refine bs_lload_n C (bf_dk dd_X9_lessMany 18 rfl) rfl ?_
    refine bs_iload C (bf_dk dd_X9_lessMany 19 rfl) rfl ?_
    refine bs_selfPV_i C hR (c_X9_isLess _ _ _ _ _ S (((b9g_keys S) ((x1 + x6)).toNatClampNeg)) (((b9g_lengths S) ((x1 + x6)).toNatClampNeg)) (x3) (x5) _ h) my_X9_isLess m_9_106 rfl cl_9 (ge_bW9_0 _) rfl (Nat.le_of_ble_eq_true rfl) (Nat.le_of_ble_eq_true rfl) (st := []) (Nat.le_of_ble_eq_true rfl) (bf_dk dd_X9_lessMany 20 rfl) rfl (fun r1 h => ?_)
    refine bs_if_eq C (bf_dk dd_X9_lessMany 21 rfl) (tgt := 46) rfl (fun c => ?_) (fun c => ?_)
    · replace h := h.1 c
      refine bs_iload C (bf_dk dd_X9_lessMany 27 rfl) rfl ?_
      exact bs_iret (u := S) C (bf_dk dd_X9_lessMany 28 rfl) rfl ⟨rfl, h⟩
    · replace h := h.2 c
      refine bs_iload C (bf_dk dd_X9_lessMany 22 rfl) rfl ?_
      refine bs_iconst C (bf_dk dd_X9_lessMany 23 rfl) (1 : Int32) (by decide) ?_
      refine bs_iadd C (bf_dk dd_X9_lessMany 24 rfl) ?_
      refine bs_istore C (bf_dk dd_X9_lessMany 25 rfl) (Nat.le_of_ble_eq_true rfl) (Nat.le_of_ble_eq_true rfl) (lv2 := [some (.ref 0), some (.int x1), some (.int x2), some (.long x3), none, some (.int x5), some (.int (x6 + (1 : Int32)))]) rfl ?_
      refine bs_goto C (bf_dk dd_X9_lessMany 26 rfl) (tgt := 3) rfl ?_
      exact bs_weak (bf_s1 (bf_s1 (bf_s1 (bf_s1 (bf_sn (bf_s1 (bf_s1 bf_s0))))))) (hB3 (x1) (x2) (x3) (x5) ((x6 + (1 : Int32))) h)
def wp_X9_lessMany_3 (S : bT9) (x1 : Int32) (x2 : Int32) (x3 : Int64) (x5 : Int32) (x6 : Int32) (Q : Int32 → Prop) : Prop := ∃ I : Nat → Int32 → Int32 → Int64 → Int32 → Int32 → Prop, (∃ n : Nat, I n x1 x2 x3 x5 x6) ∧ ∀ (n : Nat) (x1 : Int32) (x2 : Int32) (x3 : Int64) (x5 : Int32) (x6 : Int32), I n x1 x2 x3 x5 x6 → wp_X9_lessMany_3b S x1 x2 x3 x5 x6 Q (fun x1 x2 x3 x5 x6 => ∃ n2 : Nat, n2 < n ∧ I n2 x1 x2 x3 x5 x6)
theorem t_X9_lessMany_3 {X : bf_X} (C : bf_C X RX9 cX9_lessMany 7 (some .int)) (hR : bf_Rm X 1 26) (S : bT9) (x1 : Int32) (x2 : Int32) (x3 : Int64) (x5 : Int32) (x6 : Int32) (Q : Int32 → Prop) (h : wp_X9_lessMany_3 S x1 x2 x3 x5 x6 Q) : bf_A X (bf_Zi X bW9 (fun r u => u = S ∧ Q r)) 7 3 [some (.ref 0), some (.int x1), some (.int x2), some (.long x3), none, some (.int x5), some (.int x6)] [] (bW9 S) := by
  obtain ⟨I, ⟨n0, h0⟩, hI⟩ := h
  have key : ∀ (n : Nat) (x1 : Int32) (x2 : Int32) (x3 : Int64) (x5 : Int32) (x6 : Int32), I n x1 x2 x3 x5 x6 → bf_A X (bf_Zi X bW9 (fun r u => u = S ∧ Q r)) 7 3 [some (.ref 0), some (.int x1), some (.int x2), some (.long x3), none, some (.int x5), some (.int x6)] [] (bW9 S) := by
    intro n
    induction n using Nat.strongRecOn with
    | _ n ih =>
      intro x1 x2 x3 x5 x6 hi
      exact t_X9_lessMany_3b C hR S x1 x2 x3 x5 x6 Q _ (fun x1 x2 x3 x5 x6 hb => by obtain ⟨n2, hn, hi2⟩ := hb; exact ih n2 hn x1 x2 x3 x5 x6 hi2) (hI n x1 x2 x3 x5 x6 hi)
  exact key n0 x1 x2 x3 x5 x6 h0
def wp_X9_lessMany (S : bT9) (a1 : Int32) (a2 : Int32) (a3 : Int64) (a5 : Int32) (Q : Int32 → Prop) : Prop := (wp_X9_lessMany_3 S (a1) (a2) (a3) (a5) ((0 : Int32)) Q)
set_option maxRecDepth 20000 in
theorem t_X9_lessMany {X : bf_X} (C : bf_C X RX9 cX9_lessMany 7 (some .int)) (hR : bf_Rm X 1 26) (S : bT9) (a1 : Int32) (a2 : Int32) (a3 : Int64) (a5 : Int32) (Q : Int32 → Prop) (h : wp_X9_lessMany S a1 a2 a3 a5 Q) : bf_A X (bf_Zi X bW9 (fun r u => u = S ∧ Q r)) 7 0 [some (.ref 0), some (.int a1), some (.int a2), some (.long a3), none, some (.int a5), none] [] (bW9 S) := by
  unfold wp_X9_lessMany at h
  refine bs_iconst C (bf_dk dd_X9_lessMany 0 rfl) (0 : Int32) (by decide) ?_
  refine bs_istore C (bf_dk dd_X9_lessMany 1 rfl) (Nat.le_of_ble_eq_true rfl) (Nat.le_of_ble_eq_true rfl) (lv2 := [some (.ref 0), some (.int a1), some (.int a2), some (.long a3), none, some (.int a5), some (.int (0 : Int32))]) rfl ?_
  exact bs_weak (bf_s1 (bf_s1 (bf_s1 (bf_s1 (bf_sn (bf_s1 (bf_s1 bf_s0))))))) (t_X9_lessMany_3 C hR S (a1) (a2) (a3) (a5) ((0 : Int32)) Q h)
theorem c_X9_lessMany (l : Launch) (dC : Nat → ClassId) (dI : Nat → Nat → Nat) (ac : Nat → ClassId) (al : Nat → Nat) (S : bT9) (a1 : Int32) (a2 : Int32) (a3 : Int64) (a5 : Int32) (Q : Int32 → Prop) (h : wp_X9_lessMany S a1 a2 a3 a5 Q) : bf_M l yX9_lessMany cX9_lessMany 7 (some .int) 1 26 dC dI ac al [.ref 0, .int a1, .int a2, .long a3, .int a5] (bW9 S) (bf_Ki dC dI ac al bW9 (fun r u => u = S ∧ Q r)) := by
  refine bf_start [some (.ref 0), some (.int a1), some (.int a2), some (.long a3), none, some (.int a5), none] (by decide) (Nat.le_of_ble_eq_true rfl) (bf_s1 (bf_s1 (bf_s1 (bf_s1 (bf_sn (bf_s1 (bf_en 1))))))) ?_
  intro X hl C hR e1 e2 e3 e4
  subst e1; subst e2; subst e3; subst e4
  exact t_X9_lessMany C hR S a1 a2 a3 a5 Q h
def wp_X9_find (S : bT9) (a1 : Int32) (a2 : Int32) (a3 : Int64) (a5 : Int32) (Q : Int32 → Prop) : Prop := (wp_X9_lessMany S (a1) (a2) (a3) (a5) (fun r1 => ((a2 ≤ r1 → (Q (-1 : Int32))) ∧ (¬ a2 ≤ r1 → (vp_in (a1 + r1) 144 ∧ ((¬ (lg_cmp ((b9g_keys S) ((a1 + r1)).toNatClampNeg) a3) = 0 → (Q (-1 : Int32))) ∧ ((lg_cmp ((b9g_keys S) ((a1 + r1)).toNatClampNeg) a3) = 0 → (vp_in (a1 + r1) 144 ∧ ((¬ ((b9g_lengths S) ((a1 + r1)).toNatClampNeg) = a5 → (Q (-1 : Int32))) ∧ (((b9g_lengths S) ((a1 + r1)).toNatClampNeg) = a5 → (Q r1)))))))))))
set_option maxRecDepth 20000 in
theorem t_X9_find {X : bf_X} (C : bf_C X RX9 cX9_find 7 (some .int)) (hR : bf_Rm X 2 52) (S : bT9) (a1 : Int32) (a2 : Int32) (a3 : Int64) (a5 : Int32) (Q : Int32 → Prop) (h : wp_X9_find S a1 a2 a3 a5 Q) : bf_A X (bf_Zi X bW9 (fun r u => u = S ∧ Q r)) 7 0 [some (.ref 0), some (.int a1), some (.int a2), some (.long a3), none, some (.int a5), none] [] (bW9 S) := by
  unfold wp_X9_find at h
  refine bs_aload_n C (bf_dk dd_X9_find 0 rfl) rfl ?_
  refine bs_iload_n C (bf_dk dd_X9_find 1 rfl) rfl ?_
  refine bs_iload_n C (bf_dk dd_X9_find 2 rfl) rfl ?_
  refine bs_lload_n C (bf_dk dd_X9_find 3 rfl) rfl ?_
  refine bs_iload C (bf_dk dd_X9_find 4 rfl) rfl ?_
  refine bs_selfPV_i C hR (c_X9_lessMany _ _ _ _ _ S (a1) (a2) (a3) (a5) _ h) my_X9_lessMany m_9_110 rfl cl_9 (ge_bW9_0 _) rfl (Nat.le_of_ble_eq_true rfl) (Nat.le_of_ble_eq_true rfl) (st := []) (Nat.le_of_ble_eq_true rfl) (bf_dk dd_X9_find 5 rfl) rfl (fun r1 h => ?_)
  refine bs_istore C (bf_dk dd_X9_find 6 rfl) (Nat.le_of_ble_eq_true rfl) (Nat.le_of_ble_eq_true rfl) (lv2 := [some (.ref 0), some (.int a1), some (.int a2), some (.long a3), none, some (.int a5), some (.int r1)]) rfl ?_
  refine bs_iload C (bf_dk dd_X9_find 7 rfl) rfl ?_
  refine bs_iload_n C (bf_dk dd_X9_find 8 rfl) rfl ?_
  refine bs_icmp_ge C (bf_dk dd_X9_find 9 rfl) (tgt := 50) rfl (fun c => ?_) (fun c => ?_)
  · replace h := h.1 c
    refine bs_iconst C (bf_dk dd_X9_find 29 rfl) (-1 : Int32) (by decide) ?_
    exact bs_iret (u := S) C (bf_dk dd_X9_find 30 rfl) rfl ⟨rfl, h⟩
  · replace h := h.2 c
    refine bs_aload_n C (bf_dk dd_X9_find 10 rfl) rfl ?_
    refine bs_get C (bf_dk dd_X9_find 11 rfl) cl_9 in_9 2 (Nat.le_of_ble_eq_true rfl) rfl f_9_13 (ge_bW9_0 S) rfl ?_
    refine bs_iload_n C (bf_dk dd_X9_find 12 rfl) rfl ?_
    refine bs_iload C (bf_dk dd_X9_find 13 rfl) rfl ?_
    refine bs_iadd C (bf_dk dd_X9_find 14 rfl) ?_
    obtain ⟨hi, h⟩ := h
    refine bs_lald C (bf_dk dd_X9_find 15 rfl) (ge_bW9_2 S) hi ?_
    refine bs_lload_n C (bf_dk dd_X9_find 16 rfl) rfl ?_
    refine bs_lcmp C (bf_dk dd_X9_find 17 rfl) ?_
    refine bs_if_ne C (bf_dk dd_X9_find 18 rfl) (tgt := 50) rfl (fun c => ?_) (fun c => ?_)
    · replace h := h.1 c
      refine bs_iconst C (bf_dk dd_X9_find 29 rfl) (-1 : Int32) (by decide) ?_
      exact bs_iret (u := S) C (bf_dk dd_X9_find 30 rfl) rfl ⟨rfl, h⟩
    · replace h := h.2 c
      refine bs_aload_n C (bf_dk dd_X9_find 19 rfl) rfl ?_
      refine bs_get C (bf_dk dd_X9_find 20 rfl) cl_9 in_9 3 (Nat.le_of_ble_eq_true rfl) rfl f_9_17 (ge_bW9_0 S) rfl ?_
      refine bs_iload_n C (bf_dk dd_X9_find 21 rfl) rfl ?_
      refine bs_iload C (bf_dk dd_X9_find 22 rfl) rfl ?_
      refine bs_iadd C (bf_dk dd_X9_find 23 rfl) ?_
      obtain ⟨hi, h⟩ := h
      refine bs_iald C (bf_dk dd_X9_find 24 rfl) (ge_bW9_3 S) hi ?_
      refine bs_iload C (bf_dk dd_X9_find 25 rfl) rfl ?_
      refine bs_icmp_ne C (bf_dk dd_X9_find 26 rfl) (tgt := 50) rfl (fun c => ?_) (fun c => ?_)
      · replace h := h.1 c
        refine bs_iconst C (bf_dk dd_X9_find 29 rfl) (-1 : Int32) (by decide) ?_
        exact bs_iret (u := S) C (bf_dk dd_X9_find 30 rfl) rfl ⟨rfl, h⟩
      · replace h := h.2 c
        refine bs_iload C (bf_dk dd_X9_find 27 rfl) rfl ?_
        refine bs_goto C (bf_dk dd_X9_find 28 rfl) (tgt := 51) rfl ?_
        exact bs_iret (u := S) C (bf_dk dd_X9_find 30 rfl) rfl ⟨rfl, h⟩
theorem c_X9_find (l : Launch) (dC : Nat → ClassId) (dI : Nat → Nat → Nat) (ac : Nat → ClassId) (al : Nat → Nat) (S : bT9) (a1 : Int32) (a2 : Int32) (a3 : Int64) (a5 : Int32) (Q : Int32 → Prop) (h : wp_X9_find S a1 a2 a3 a5 Q) : bf_M l yX9_find cX9_find 7 (some .int) 2 52 dC dI ac al [.ref 0, .int a1, .int a2, .long a3, .int a5] (bW9 S) (bf_Ki dC dI ac al bW9 (fun r u => u = S ∧ Q r)) := by
  refine bf_start [some (.ref 0), some (.int a1), some (.int a2), some (.long a3), none, some (.int a5), none] (by decide) (Nat.le_of_ble_eq_true rfl) (bf_s1 (bf_s1 (bf_s1 (bf_s1 (bf_sn (bf_s1 (bf_en 1))))))) ?_
  intro X hl C hR e1 e2 e3 e4
  subst e1; subst e2; subst e3; subst e4
  exact t_X9_find C hR S a1 a2 a3 a5 Q h
def wp_X9_comes_57b (S : bT9) (x1 : Int64) (x3 : Int32) (x4 : Int32) (x5 : Int32) (Q : Int32 → (bT9) → Prop) (B57 : Int64 → Int32 → Int32 → Int32 → (bT9) → Prop) : Prop := ((x5 ≤ x4 → (vp_in x4 144 ∧ (∀ S1 : bT9, S1 = (b9s_keys S (vp_updL (b9g_keys S) (x4).toNatClampNeg x1)) → (vp_in x4 144 ∧ (∀ S2 : bT9, S2 = (b9s_lengths S1 (upd (b9g_lengths S1) (x4).toNatClampNeg x3)) → (vp_in (8 : Int32) 23 ∧ (vp_in (8 : Int32) 23 ∧ (∀ S3 : bT9, S3 = (b9s_now S2 (upd (b9g_now S2) ((8 : Int32)).toNatClampNeg (((b9g_now S2) ((8 : Int32)).toNatClampNeg) + (1 : Int32)))) → (Q x4 S3))))))))) ∧ (¬ x5 ≤ x4 → (vp_in (x5 - (1 : Int32)) 144 ∧ (vp_in x5 144 ∧ (∀ S4 : bT9, S4 = (b9s_keys S (vp_updL (b9g_keys S) (x5).toNatClampNeg ((b9g_keys S) ((x5 - (1 : Int32))).toNatClampNeg))) → (vp_in (x5 - (1 : Int32)) 144 ∧ (vp_in x5 144 ∧ (∀ S5 : bT9, S5 = (b9s_lengths S4 (upd (b9g_lengths S4) (x5).toNatClampNeg ((b9g_lengths S4) ((x5 - (1 : Int32))).toNatClampNeg))) → (B57 (x1) (x3) (x4) ((x5 + (-1 : Int32))) S5)))))))))
set_option maxRecDepth 20000 in
theorem t_X9_comes_57b {X : bf_X} (C : bf_C X RX9 cX9_comes 6 (some .int)) (hR : bf_Rm X 3 78) (S : bT9) (x1 : Int64) (x3 : Int32) (x4 : Int32) (x5 : Int32) (Q : Int32 → (bT9) → Prop) (B57 : Int64 → Int32 → Int32 → Int32 → (bT9) → Prop) (hB57 : ∀ (x1 : Int64) (x3 : Int32) (x4 : Int32) (x5 : Int32) (S : bT9), B57 x1 x3 x4 x5 S → bf_A X (bf_Zi X bW9 Q) 6 57 [some (.ref 0), some (.long x1), none, some (.int x3), some (.int x4), some (.int x5)] [] (bW9 S)) (h : wp_X9_comes_57b S x1 x3 x4 x5 Q B57) : bf_A X (bf_Zi X bW9 Q) 6 57 [some (.ref 0), some (.long x1), none, some (.int x3), some (.int x4), some (.int x5)] [] (bW9 S) := by
  unfold wp_X9_comes_57b at h
  refine bs_iload C (bf_dk dd_X9_comes 34 rfl) rfl ?_
  refine bs_iload C (bf_dk dd_X9_comes 35 rfl) rfl ?_
  refine bs_icmp_le C (bf_dk dd_X9_comes 36 rfl) (tgt := 102) rfl (fun c => ?_) (fun c => ?_)
  · replace h := h.1 c
    refine bs_aload_n C (bf_dk dd_X9_comes 59 rfl) rfl ?_
    refine bs_get C (bf_dk dd_X9_comes 60 rfl) cl_9 in_9 2 (Nat.le_of_ble_eq_true rfl) rfl f_9_13 (ge_bW9_0 S) rfl ?_
    refine bs_iload C (bf_dk dd_X9_comes 61 rfl) rfl ?_
    refine bs_lload_n C (bf_dk dd_X9_comes 62 rfl) rfl ?_
    obtain ⟨hi, h⟩ := h
    refine bs_last C (bf_dk dd_X9_comes 63 rfl) (ge_bW9_2 S) hi (ar_bW9_2 S _) ?_
    refine bs_nameS bW9 (fun S1 eS1 => ?_)
    replace h := h S1 eS1
    refine bs_aload_n C (bf_dk dd_X9_comes 64 rfl) rfl ?_
    refine bs_get C (bf_dk dd_X9_comes 65 rfl) cl_9 in_9 3 (Nat.le_of_ble_eq_true rfl) rfl f_9_17 (ge_bW9_0 S1) rfl ?_
    refine bs_iload C (bf_dk dd_X9_comes 66 rfl) rfl ?_
    refine bs_iload_n C (bf_dk dd_X9_comes 67 rfl) rfl ?_
    obtain ⟨hi, h⟩ := h
    refine bs_iast C (bf_dk dd_X9_comes 68 rfl) (ge_bW9_3 S1) hi (ar_bW9_3 S1 _) ?_
    refine bs_nameS bW9 (fun S2 eS2 => ?_)
    replace h := h S2 eS2
    refine bs_aload_n C (bf_dk dd_X9_comes 69 rfl) rfl ?_
    refine bs_get C (bf_dk dd_X9_comes 70 rfl) cl_9 in_9 1 (Nat.le_of_ble_eq_true rfl) rfl f_9_7 (ge_bW9_0 S2) rfl ?_
    refine bs_bipush C (bf_dk dd_X9_comes 71 rfl) (8 : Int32) (by decide) ?_
    refine bs_aload_n C (bf_dk dd_X9_comes 72 rfl) rfl ?_
    refine bs_get C (bf_dk dd_X9_comes 73 rfl) cl_9 in_9 1 (Nat.le_of_ble_eq_true rfl) rfl f_9_7 (ge_bW9_0 S2) rfl ?_
    refine bs_bipush C (bf_dk dd_X9_comes 74 rfl) (8 : Int32) (by decide) ?_
    obtain ⟨hi, h⟩ := h
    refine bs_iald C (bf_dk dd_X9_comes 75 rfl) (ge_bW9_1 S2) hi ?_
    refine bs_iconst C (bf_dk dd_X9_comes 76 rfl) (1 : Int32) (by decide) ?_
    refine bs_iadd C (bf_dk dd_X9_comes 77 rfl) ?_
    obtain ⟨hi, h⟩ := h
    refine bs_iast C (bf_dk dd_X9_comes 78 rfl) (ge_bW9_1 S2) hi (ar_bW9_1 S2 _) ?_
    refine bs_nameS bW9 (fun S3 eS3 => ?_)
    replace h := h S3 eS3
    refine bs_iload C (bf_dk dd_X9_comes 79 rfl) rfl ?_
    exact bs_iret (u := S3) C (bf_dk dd_X9_comes 80 rfl) rfl h
  · replace h := h.2 c
    refine bs_aload_n C (bf_dk dd_X9_comes 37 rfl) rfl ?_
    refine bs_get C (bf_dk dd_X9_comes 38 rfl) cl_9 in_9 2 (Nat.le_of_ble_eq_true rfl) rfl f_9_13 (ge_bW9_0 S) rfl ?_
    refine bs_iload C (bf_dk dd_X9_comes 39 rfl) rfl ?_
    refine bs_aload_n C (bf_dk dd_X9_comes 40 rfl) rfl ?_
    refine bs_get C (bf_dk dd_X9_comes 41 rfl) cl_9 in_9 2 (Nat.le_of_ble_eq_true rfl) rfl f_9_13 (ge_bW9_0 S) rfl ?_
    refine bs_iload C (bf_dk dd_X9_comes 42 rfl) rfl ?_
    refine bs_iconst C (bf_dk dd_X9_comes 43 rfl) (1 : Int32) (by decide) ?_
    refine bs_isub C (bf_dk dd_X9_comes 44 rfl) ?_
    obtain ⟨hi, h⟩ := h
    refine bs_lald C (bf_dk dd_X9_comes 45 rfl) (ge_bW9_2 S) hi ?_
    obtain ⟨hi, h⟩ := h
    refine bs_last C (bf_dk dd_X9_comes 46 rfl) (ge_bW9_2 S) hi (ar_bW9_2 S _) ?_
    refine bs_nameS bW9 (fun S4 eS4 => ?_)
    replace h := h S4 eS4
    refine bs_aload_n C (bf_dk dd_X9_comes 47 rfl) rfl ?_
    refine bs_get C (bf_dk dd_X9_comes 48 rfl) cl_9 in_9 3 (Nat.le_of_ble_eq_true rfl) rfl f_9_17 (ge_bW9_0 S4) rfl ?_
    refine bs_iload C (bf_dk dd_X9_comes 49 rfl) rfl ?_
    refine bs_aload_n C (bf_dk dd_X9_comes 50 rfl) rfl ?_
    refine bs_get C (bf_dk dd_X9_comes 51 rfl) cl_9 in_9 3 (Nat.le_of_ble_eq_true rfl) rfl f_9_17 (ge_bW9_0 S4) rfl ?_
    refine bs_iload C (bf_dk dd_X9_comes 52 rfl) rfl ?_
    refine bs_iconst C (bf_dk dd_X9_comes 53 rfl) (1 : Int32) (by decide) ?_
    refine bs_isub C (bf_dk dd_X9_comes 54 rfl) ?_
    obtain ⟨hi, h⟩ := h
    refine bs_iald C (bf_dk dd_X9_comes 55 rfl) (ge_bW9_3 S4) hi ?_
    obtain ⟨hi, h⟩ := h
    refine bs_iast C (bf_dk dd_X9_comes 56 rfl) (ge_bW9_3 S4) hi (ar_bW9_3 S4 _) ?_
    refine bs_nameS bW9 (fun S5 eS5 => ?_)
    replace h := h S5 eS5
    refine bs_iinc C (bf_dk dd_X9_comes 57 rfl) (x5 + (-1 : Int32)) rfl rfl (Nat.le_of_ble_eq_true rfl) (Nat.le_of_ble_eq_true rfl) (lv2 := [some (.ref 0), some (.long x1), none, some (.int x3), some (.int x4), some (.int (x5 + (-1 : Int32)))]) rfl ?_
    refine bs_goto C (bf_dk dd_X9_comes 58 rfl) (tgt := 57) rfl ?_
    exact bs_weak (bf_s1 (bf_s1 (bf_sn (bf_s1 (bf_s1 (bf_s1 bf_s0)))))) (hB57 (x1) (x3) (x4) ((x5 + (-1 : Int32))) S5 h)
def wp_X9_comes_57 (S : bT9) (x1 : Int64) (x3 : Int32) (x4 : Int32) (x5 : Int32) (Q : Int32 → (bT9) → Prop) : Prop := ∃ I : Nat → Int64 → Int32 → Int32 → Int32 → (bT9) → Prop, (∃ n : Nat, I n x1 x3 x4 x5 S) ∧ ∀ (n : Nat) (x1 : Int64) (x3 : Int32) (x4 : Int32) (x5 : Int32) (S : bT9), I n x1 x3 x4 x5 S → wp_X9_comes_57b S x1 x3 x4 x5 Q (fun x1 x3 x4 x5 S => ∃ n2 : Nat, n2 < n ∧ I n2 x1 x3 x4 x5 S)
theorem t_X9_comes_57 {X : bf_X} (C : bf_C X RX9 cX9_comes 6 (some .int)) (hR : bf_Rm X 3 78) (S : bT9) (x1 : Int64) (x3 : Int32) (x4 : Int32) (x5 : Int32) (Q : Int32 → (bT9) → Prop) (h : wp_X9_comes_57 S x1 x3 x4 x5 Q) : bf_A X (bf_Zi X bW9 Q) 6 57 [some (.ref 0), some (.long x1), none, some (.int x3), some (.int x4), some (.int x5)] [] (bW9 S) := by
  obtain ⟨I, ⟨n0, h0⟩, hI⟩ := h
  have key : ∀ (n : Nat) (x1 : Int64) (x3 : Int32) (x4 : Int32) (x5 : Int32) (S : bT9), I n x1 x3 x4 x5 S → bf_A X (bf_Zi X bW9 Q) 6 57 [some (.ref 0), some (.long x1), none, some (.int x3), some (.int x4), some (.int x5)] [] (bW9 S) := by
    intro n
    induction n using Nat.strongRecOn with
    | _ n ih =>
      intro x1 x3 x4 x5 S hi
      exact t_X9_comes_57b C hR S x1 x3 x4 x5 Q _ (fun x1 x3 x4 x5 S hb => by obtain ⟨n2, hn, hi2⟩ := hb; exact ih n2 hn x1 x3 x4 x5 S hi2) (hI n x1 x3 x4 x5 S hi)
  exact key n0 x1 x3 x4 x5 S h0
def wp_X9_comes (S : bT9) (a1 : Int64) (a3 : Int32) (Q : Int32 → (bT9) → Prop) : Prop := (vp_in (8 : Int32) 23 ∧ ((((b9g_now S) ((8 : Int32)).toNatClampNeg) = (64 : Int32) → (Q (-1 : Int32) S)) ∧ (¬ ((b9g_now S) ((8 : Int32)).toNatClampNeg) = (64 : Int32) → (vp_in (8 : Int32) 23 ∧ (wp_X9_find S ((0 : Int32)) (((b9g_now S) ((8 : Int32)).toNatClampNeg)) (a1) (a3) (fun r6 => ((r6 = (-1 : Int32) → (vp_in (8 : Int32) 23 ∧ (wp_X9_lessMany S ((0 : Int32)) (((b9g_now S) ((8 : Int32)).toNatClampNeg)) (a1) (a3) (fun r8 => (vp_in (8 : Int32) 23 ∧ (wp_X9_comes_57 S (a1) (a3) (r8) (((b9g_now S) ((8 : Int32)).toNatClampNeg)) Q)))))) ∧ (¬ r6 = (-1 : Int32) → (Q (-1 : Int32) S)))))))))
set_option maxRecDepth 20000 in
theorem t_X9_comes {X : bf_X} (C : bf_C X RX9 cX9_comes 6 (some .int)) (hR : bf_Rm X 3 78) (S : bT9) (a1 : Int64) (a3 : Int32) (Q : Int32 → (bT9) → Prop) (h : wp_X9_comes S a1 a3 Q) : bf_A X (bf_Zi X bW9 Q) 6 0 [some (.ref 0), some (.long a1), none, some (.int a3), none, none] [] (bW9 S) := by
  unfold wp_X9_comes at h
  refine bs_aload_n C (bf_dk dd_X9_comes 0 rfl) rfl ?_
  refine bs_get C (bf_dk dd_X9_comes 1 rfl) cl_9 in_9 1 (Nat.le_of_ble_eq_true rfl) rfl f_9_7 (ge_bW9_0 S) rfl ?_
  refine bs_bipush C (bf_dk dd_X9_comes 2 rfl) (8 : Int32) (by decide) ?_
  obtain ⟨hi, h⟩ := h
  refine bs_iald C (bf_dk dd_X9_comes 3 rfl) (ge_bW9_1 S) hi ?_
  refine bs_bipush C (bf_dk dd_X9_comes 4 rfl) (64 : Int32) (by decide) ?_
  refine bs_icmp_eq C (bf_dk dd_X9_comes 5 rfl) (tgt := 30) rfl (fun c => ?_) (fun c => ?_)
  · replace h := h.1 c
    refine bs_iconst C (bf_dk dd_X9_comes 17 rfl) (-1 : Int32) (by decide) ?_
    exact bs_iret (u := S) C (bf_dk dd_X9_comes 18 rfl) rfl h
  · replace h := h.2 c
    refine bs_aload_n C (bf_dk dd_X9_comes 6 rfl) rfl ?_
    refine bs_iconst C (bf_dk dd_X9_comes 7 rfl) (0 : Int32) (by decide) ?_
    refine bs_aload_n C (bf_dk dd_X9_comes 8 rfl) rfl ?_
    refine bs_get C (bf_dk dd_X9_comes 9 rfl) cl_9 in_9 1 (Nat.le_of_ble_eq_true rfl) rfl f_9_7 (ge_bW9_0 S) rfl ?_
    refine bs_bipush C (bf_dk dd_X9_comes 10 rfl) (8 : Int32) (by decide) ?_
    obtain ⟨hi, h⟩ := h
    refine bs_iald C (bf_dk dd_X9_comes 11 rfl) (ge_bW9_1 S) hi ?_
    refine bs_lload_n C (bf_dk dd_X9_comes 12 rfl) rfl ?_
    refine bs_iload_n C (bf_dk dd_X9_comes 13 rfl) rfl ?_
    refine bs_selfPV_i C hR (c_X9_find _ _ _ _ _ S ((0 : Int32)) (((b9g_now S) ((8 : Int32)).toNatClampNeg)) (a1) (a3) _ h) my_X9_find m_9_114 rfl cl_9 (ge_bW9_0 _) rfl (Nat.le_of_ble_eq_true rfl) (Nat.le_of_ble_eq_true rfl) (st := []) (Nat.le_of_ble_eq_true rfl) (bf_dk dd_X9_comes 14 rfl) rfl (fun r6 h => ?_)
    refine bs_iconst C (bf_dk dd_X9_comes 15 rfl) (-1 : Int32) (by decide) ?_
    refine bs_icmp_eq C (bf_dk dd_X9_comes 16 rfl) (tgt := 32) rfl (fun c => ?_) (fun c => ?_)
    · replace h := h.1 c
      refine bs_aload_n C (bf_dk dd_X9_comes 19 rfl) rfl ?_
      refine bs_iconst C (bf_dk dd_X9_comes 20 rfl) (0 : Int32) (by decide) ?_
      refine bs_aload_n C (bf_dk dd_X9_comes 21 rfl) rfl ?_
      refine bs_get C (bf_dk dd_X9_comes 22 rfl) cl_9 in_9 1 (Nat.le_of_ble_eq_true rfl) rfl f_9_7 (ge_bW9_0 S) rfl ?_
      refine bs_bipush C (bf_dk dd_X9_comes 23 rfl) (8 : Int32) (by decide) ?_
      obtain ⟨hi, h⟩ := h
      refine bs_iald C (bf_dk dd_X9_comes 24 rfl) (ge_bW9_1 S) hi ?_
      refine bs_lload_n C (bf_dk dd_X9_comes 25 rfl) rfl ?_
      refine bs_iload_n C (bf_dk dd_X9_comes 26 rfl) rfl ?_
      refine bs_selfPV_i C hR (c_X9_lessMany _ _ _ _ _ S ((0 : Int32)) (((b9g_now S) ((8 : Int32)).toNatClampNeg)) (a1) (a3) _ h) my_X9_lessMany m_9_110 rfl cl_9 (ge_bW9_0 _) rfl (Nat.le_of_ble_eq_true rfl) (Nat.le_of_ble_eq_true rfl) (st := []) (Nat.le_of_ble_eq_true rfl) (bf_dk dd_X9_comes 27 rfl) rfl (fun r8 h => ?_)
      refine bs_istore C (bf_dk dd_X9_comes 28 rfl) (Nat.le_of_ble_eq_true rfl) (Nat.le_of_ble_eq_true rfl) (lv2 := [some (.ref 0), some (.long a1), none, some (.int a3), some (.int r8), none]) rfl ?_
      refine bs_aload_n C (bf_dk dd_X9_comes 29 rfl) rfl ?_
      refine bs_get C (bf_dk dd_X9_comes 30 rfl) cl_9 in_9 1 (Nat.le_of_ble_eq_true rfl) rfl f_9_7 (ge_bW9_0 S) rfl ?_
      refine bs_bipush C (bf_dk dd_X9_comes 31 rfl) (8 : Int32) (by decide) ?_
      obtain ⟨hi, h⟩ := h
      refine bs_iald C (bf_dk dd_X9_comes 32 rfl) (ge_bW9_1 S) hi ?_
      refine bs_istore C (bf_dk dd_X9_comes 33 rfl) (Nat.le_of_ble_eq_true rfl) (Nat.le_of_ble_eq_true rfl) (lv2 := [some (.ref 0), some (.long a1), none, some (.int a3), some (.int r8), some (.int ((b9g_now S) ((8 : Int32)).toNatClampNeg))]) rfl ?_
      exact bs_weak (bf_s1 (bf_s1 (bf_sn (bf_s1 (bf_s1 (bf_s1 bf_s0)))))) (t_X9_comes_57 C hR S (a1) (a3) (r8) (((b9g_now S) ((8 : Int32)).toNatClampNeg)) Q h)
    · replace h := h.2 c
      refine bs_iconst C (bf_dk dd_X9_comes 17 rfl) (-1 : Int32) (by decide) ?_
      exact bs_iret (u := S) C (bf_dk dd_X9_comes 18 rfl) rfl h
theorem c_X9_comes (l : Launch) (dC : Nat → ClassId) (dI : Nat → Nat → Nat) (ac : Nat → ClassId) (al : Nat → Nat) (S : bT9) (a1 : Int64) (a3 : Int32) (Q : Int32 → (bT9) → Prop) (h : wp_X9_comes S a1 a3 Q) : bf_M l yX9_comes cX9_comes 6 (some .int) 3 78 dC dI ac al [.ref 0, .long a1, .int a3] (bW9 S) (bf_Ki dC dI ac al bW9 Q) := by
  refine bf_start [some (.ref 0), some (.long a1), none, some (.int a3), none, none] (by decide) (Nat.le_of_ble_eq_true rfl) (bf_s1 (bf_s1 (bf_sn (bf_s1 (bf_en 2))))) ?_
  intro X hl C hR e1 e2 e3 e4
  subst e1; subst e2; subst e3; subst e4
  exact t_X9_comes C hR S a1 a3 Q h
def wp_X9_add (S : bT9) (a1 : Int32) (a2 : Int32) (a3 : Int32) (Q : Int32 → (bT9) → Prop) : Prop := (∀ S1 : bT9, S1 = (b9s_told S (0 : Int32)) → (wp_X9_isKey S1 (a3) (fun r2 => ((r2 = 0 → (Q (-1 : Int32) S1)) ∧ (¬ r2 = 0 → (wp_X9_keyOf S1 (a1) (a2) (a3) (fun r4 => (wp_X9_comes S1 (r4) (a3) (fun r6 u7 => (Q r6 u7))))))))))
set_option maxRecDepth 20000 in
theorem t_X9_add {X : bf_X} (C : bf_C X RX9 cX9_add 4 (some .int)) (hR : bf_Rm X 4 103) (S : bT9) (a1 : Int32) (a2 : Int32) (a3 : Int32) (Q : Int32 → (bT9) → Prop) (h : wp_X9_add S a1 a2 a3 Q) : bf_A X (bf_Zi X bW9 Q) 4 0 [some (.ref 0), some (.int a1), some (.int a2), some (.int a3)] [] (bW9 S) := by
  unfold wp_X9_add at h
  refine bs_aload_n C (bf_dk dd_X9_add 0 rfl) rfl ?_
  refine bs_iconst C (bf_dk dd_X9_add 1 rfl) (0 : Int32) (by decide) ?_
  refine bs_put C (bf_dk dd_X9_add 2 rfl) tyX9_ok nmX9 cl_9 in_9 0 (Nat.le_of_ble_eq_true rfl) rfl f_9_75 rfl (ge_bW9_0 S) (Nat.le_of_ble_eq_true rfl) rfl rfl (pu_bW9_0_0 S (0 : Int32)) ?_
  refine bs_nameS bW9 (fun S1 eS1 => ?_)
  replace h := h S1 eS1
  refine bs_aload_n C (bf_dk dd_X9_add 3 rfl) rfl ?_
  refine bs_iload_n C (bf_dk dd_X9_add 4 rfl) rfl ?_
  refine bs_selfPV_i C hR (c_X9_isKey _ _ _ _ _ S1 (a3) _ h) my_X9_isKey m_9_117 rfl cl_9 (ge_bW9_0 _) rfl (Nat.le_of_ble_eq_true rfl) (Nat.le_of_ble_eq_true rfl) (st := []) (Nat.le_of_ble_eq_true rfl) (bf_dk dd_X9_add 5 rfl) rfl (fun r2 h => ?_)
  refine bs_if_eq C (bf_dk dd_X9_add 6 rfl) (tgt := 28) rfl (fun c => ?_) (fun c => ?_)
  · replace h := h.1 c
    refine bs_iconst C (bf_dk dd_X9_add 16 rfl) (-1 : Int32) (by decide) ?_
    exact bs_iret (u := S1) C (bf_dk dd_X9_add 17 rfl) rfl h
  · replace h := h.2 c
    refine bs_aload_n C (bf_dk dd_X9_add 7 rfl) rfl ?_
    refine bs_aload_n C (bf_dk dd_X9_add 8 rfl) rfl ?_
    refine bs_iload_n C (bf_dk dd_X9_add 9 rfl) rfl ?_
    refine bs_iload_n C (bf_dk dd_X9_add 10 rfl) rfl ?_
    refine bs_iload_n C (bf_dk dd_X9_add 11 rfl) rfl ?_
    refine bs_selfPV_l C hR (c_X9_keyOf _ _ _ _ _ S1 (a1) (a2) (a3) _ h) my_X9_keyOf m_9_121 rfl cl_9 (ge_bW9_0 _) rfl (Nat.le_of_ble_eq_true rfl) (Nat.le_of_ble_eq_true rfl) (st := [.ref 0]) (Nat.le_of_ble_eq_true rfl) (bf_dk dd_X9_add 12 rfl) rfl (fun r4 h => ?_)
    refine bs_iload_n C (bf_dk dd_X9_add 13 rfl) rfl ?_
    refine bs_selfV_i C hR (c_X9_comes _ _ _ _ _ S1 (r4) (a3) _ h) my_X9_comes m_9_125 rfl cl_9 (ge_bW9_0 _) rfl (Nat.le_of_ble_eq_true rfl) (Nat.le_of_ble_eq_true rfl) (st := []) (Nat.le_of_ble_eq_true rfl) (bf_dk dd_X9_add 14 rfl) rfl (len := 21) (fun _ => rfl) (fun r6 u7 h => ?_)
    refine bs_goto C (bf_dk dd_X9_add 15 rfl) (tgt := 29) rfl ?_
    exact bs_iret (u := u7) C (bf_dk dd_X9_add 17 rfl) rfl h
theorem c_X9_add (l : Launch) (dC : Nat → ClassId) (dI : Nat → Nat → Nat) (ac : Nat → ClassId) (al : Nat → Nat) (S : bT9) (a1 : Int32) (a2 : Int32) (a3 : Int32) (Q : Int32 → (bT9) → Prop) (h : wp_X9_add S a1 a2 a3 Q) : bf_M l yX9_add cX9_add 4 (some .int) 4 103 dC dI ac al [.ref 0, .int a1, .int a2, .int a3] (bW9 S) (bf_Ki dC dI ac al bW9 Q) := by
  refine bf_start [some (.ref 0), some (.int a1), some (.int a2), some (.int a3)] (by decide) (Nat.le_of_ble_eq_true rfl) (bf_s1 (bf_s1 (bf_s1 (bf_s1 bf_s0)))) ?_
  intro X hl C hR e1 e2 e3 e4
  subst e1; subst e2; subst e3; subst e4
  exact t_X9_add C hR S a1 a2 a3 Q h
def wp_X9_remove_67b (S : bT9) (x4 : Int32) (x5 : Int32) (Q : Int32 → (bT9) → Prop) (B67 : Int32 → Int32 → (bT9) → Prop) : Prop := (vp_in (8 : Int32) 23 ∧ ((((b9g_now S) ((8 : Int32)).toNatClampNeg) ≤ x5 → (Q x4 S)) ∧ (¬ ((b9g_now S) ((8 : Int32)).toNatClampNeg) ≤ x5 → (vp_in (x5 + (1 : Int32)) 144 ∧ (vp_in x5 144 ∧ (∀ S1 : bT9, S1 = (b9s_keys S (vp_updL (b9g_keys S) (x5).toNatClampNeg ((b9g_keys S) ((x5 + (1 : Int32))).toNatClampNeg))) → (vp_in (x5 + (1 : Int32)) 144 ∧ (vp_in x5 144 ∧ (∀ S2 : bT9, S2 = (b9s_lengths S1 (upd (b9g_lengths S1) (x5).toNatClampNeg ((b9g_lengths S1) ((x5 + (1 : Int32))).toNatClampNeg))) → (B67 (x4) ((x5 + (1 : Int32))) S2))))))))))
set_option maxRecDepth 20000 in
theorem t_X9_remove_67b {X : bf_X} (C : bf_C X RX9 cX9_remove 6 (some .int)) (hR : bf_Rm X 3 78) (S : bT9) (x4 : Int32) (x5 : Int32) (Q : Int32 → (bT9) → Prop) (B67 : Int32 → Int32 → (bT9) → Prop) (hB67 : ∀ (x4 : Int32) (x5 : Int32) (S : bT9), B67 x4 x5 S → bf_A X (bf_Zi X bW9 Q) 6 67 [some (.ref 0), none, none, none, some (.int x4), some (.int x5)] [] (bW9 S)) (h : wp_X9_remove_67b S x4 x5 Q B67) : bf_A X (bf_Zi X bW9 Q) 6 67 [some (.ref 0), none, none, none, some (.int x4), some (.int x5)] [] (bW9 S) := by
  unfold wp_X9_remove_67b at h
  refine bs_iload C (bf_dk dd_X9_remove 40 rfl) rfl ?_
  refine bs_aload_n C (bf_dk dd_X9_remove 41 rfl) rfl ?_
  refine bs_get C (bf_dk dd_X9_remove 42 rfl) cl_9 in_9 1 (Nat.le_of_ble_eq_true rfl) rfl f_9_7 (ge_bW9_0 S) rfl ?_
  refine bs_bipush C (bf_dk dd_X9_remove 43 rfl) (8 : Int32) (by decide) ?_
  obtain ⟨hi, h⟩ := h
  refine bs_iald C (bf_dk dd_X9_remove 44 rfl) (ge_bW9_1 S) hi ?_
  refine bs_icmp_ge C (bf_dk dd_X9_remove 45 rfl) (tgt := 117) rfl (fun c => ?_) (fun c => ?_)
  · replace h := h.1 c
    refine bs_iload C (bf_dk dd_X9_remove 68 rfl) rfl ?_
    exact bs_iret (u := S) C (bf_dk dd_X9_remove 69 rfl) rfl h
  · replace h := h.2 c
    refine bs_aload_n C (bf_dk dd_X9_remove 46 rfl) rfl ?_
    refine bs_get C (bf_dk dd_X9_remove 47 rfl) cl_9 in_9 2 (Nat.le_of_ble_eq_true rfl) rfl f_9_13 (ge_bW9_0 S) rfl ?_
    refine bs_iload C (bf_dk dd_X9_remove 48 rfl) rfl ?_
    refine bs_aload_n C (bf_dk dd_X9_remove 49 rfl) rfl ?_
    refine bs_get C (bf_dk dd_X9_remove 50 rfl) cl_9 in_9 2 (Nat.le_of_ble_eq_true rfl) rfl f_9_13 (ge_bW9_0 S) rfl ?_
    refine bs_iload C (bf_dk dd_X9_remove 51 rfl) rfl ?_
    refine bs_iconst C (bf_dk dd_X9_remove 52 rfl) (1 : Int32) (by decide) ?_
    refine bs_iadd C (bf_dk dd_X9_remove 53 rfl) ?_
    obtain ⟨hi, h⟩ := h
    refine bs_lald C (bf_dk dd_X9_remove 54 rfl) (ge_bW9_2 S) hi ?_
    obtain ⟨hi, h⟩ := h
    refine bs_last C (bf_dk dd_X9_remove 55 rfl) (ge_bW9_2 S) hi (ar_bW9_2 S _) ?_
    refine bs_nameS bW9 (fun S1 eS1 => ?_)
    replace h := h S1 eS1
    refine bs_aload_n C (bf_dk dd_X9_remove 56 rfl) rfl ?_
    refine bs_get C (bf_dk dd_X9_remove 57 rfl) cl_9 in_9 3 (Nat.le_of_ble_eq_true rfl) rfl f_9_17 (ge_bW9_0 S1) rfl ?_
    refine bs_iload C (bf_dk dd_X9_remove 58 rfl) rfl ?_
    refine bs_aload_n C (bf_dk dd_X9_remove 59 rfl) rfl ?_
    refine bs_get C (bf_dk dd_X9_remove 60 rfl) cl_9 in_9 3 (Nat.le_of_ble_eq_true rfl) rfl f_9_17 (ge_bW9_0 S1) rfl ?_
    refine bs_iload C (bf_dk dd_X9_remove 61 rfl) rfl ?_
    refine bs_iconst C (bf_dk dd_X9_remove 62 rfl) (1 : Int32) (by decide) ?_
    refine bs_iadd C (bf_dk dd_X9_remove 63 rfl) ?_
    obtain ⟨hi, h⟩ := h
    refine bs_iald C (bf_dk dd_X9_remove 64 rfl) (ge_bW9_3 S1) hi ?_
    obtain ⟨hi, h⟩ := h
    refine bs_iast C (bf_dk dd_X9_remove 65 rfl) (ge_bW9_3 S1) hi (ar_bW9_3 S1 _) ?_
    refine bs_nameS bW9 (fun S2 eS2 => ?_)
    replace h := h S2 eS2
    refine bs_iinc C (bf_dk dd_X9_remove 66 rfl) (x5 + (1 : Int32)) rfl rfl (Nat.le_of_ble_eq_true rfl) (Nat.le_of_ble_eq_true rfl) (lv2 := [some (.ref 0), none, none, none, some (.int x4), some (.int (x5 + (1 : Int32)))]) rfl ?_
    refine bs_goto C (bf_dk dd_X9_remove 67 rfl) (tgt := 67) rfl ?_
    exact bs_weak (bf_s1 (bf_sn (bf_sn (bf_sn (bf_s1 (bf_s1 bf_s0)))))) (hB67 (x4) ((x5 + (1 : Int32))) S2 h)
def wp_X9_remove_67 (S : bT9) (x4 : Int32) (x5 : Int32) (Q : Int32 → (bT9) → Prop) : Prop := ∃ I : Nat → Int32 → Int32 → (bT9) → Prop, (∃ n : Nat, I n x4 x5 S) ∧ ∀ (n : Nat) (x4 : Int32) (x5 : Int32) (S : bT9), I n x4 x5 S → wp_X9_remove_67b S x4 x5 Q (fun x4 x5 S => ∃ n2 : Nat, n2 < n ∧ I n2 x4 x5 S)
theorem t_X9_remove_67 {X : bf_X} (C : bf_C X RX9 cX9_remove 6 (some .int)) (hR : bf_Rm X 3 78) (S : bT9) (x4 : Int32) (x5 : Int32) (Q : Int32 → (bT9) → Prop) (h : wp_X9_remove_67 S x4 x5 Q) : bf_A X (bf_Zi X bW9 Q) 6 67 [some (.ref 0), none, none, none, some (.int x4), some (.int x5)] [] (bW9 S) := by
  obtain ⟨I, ⟨n0, h0⟩, hI⟩ := h
  have key : ∀ (n : Nat) (x4 : Int32) (x5 : Int32) (S : bT9), I n x4 x5 S → bf_A X (bf_Zi X bW9 Q) 6 67 [some (.ref 0), none, none, none, some (.int x4), some (.int x5)] [] (bW9 S) := by
    intro n
    induction n using Nat.strongRecOn with
    | _ n ih =>
      intro x4 x5 S hi
      exact t_X9_remove_67b C hR S x4 x5 Q _ (fun x4 x5 S hb => by obtain ⟨n2, hn, hi2⟩ := hb; exact ih n2 hn x4 x5 S hi2) (hI n x4 x5 S hi)
  exact key n0 x4 x5 S h0
def wp_X9_remove_37 (S : bT9) (t0 : Int32) (Q : Int32 → (bT9) → Prop) : Prop := ((¬ t0 = (-1 : Int32) → (vp_in (8 : Int32) 23 ∧ (vp_in (8 : Int32) 23 ∧ (∀ S3 : bT9, S3 = (b9s_now S (upd (b9g_now S) ((8 : Int32)).toNatClampNeg (((b9g_now S) ((8 : Int32)).toNatClampNeg) - (1 : Int32)))) → (wp_X9_remove_67 S3 (t0) (t0) Q))))) ∧ (t0 = (-1 : Int32) → (Q (-1 : Int32) S)))
set_option maxRecDepth 20000 in
theorem t_X9_remove_37 {X : bf_X} (C : bf_C X RX9 cX9_remove 6 (some .int)) (hR : bf_Rm X 3 78) (S : bT9) (t0 : Int32) (Q : Int32 → (bT9) → Prop) (h : wp_X9_remove_37 S t0 Q) : bf_A X (bf_Zi X bW9 Q) 6 37 [some (.ref 0), none, none, none, none, none] [.int t0] (bW9 S) := by
  unfold wp_X9_remove_37 at h
  refine bs_istore C (bf_dk dd_X9_remove 22 rfl) (Nat.le_of_ble_eq_true rfl) (Nat.le_of_ble_eq_true rfl) (lv2 := [some (.ref 0), none, none, none, some (.int t0), none]) rfl ?_
  refine bs_iload C (bf_dk dd_X9_remove 23 rfl) rfl ?_
  refine bs_iconst C (bf_dk dd_X9_remove 24 rfl) (-1 : Int32) (by decide) ?_
  refine bs_icmp_ne C (bf_dk dd_X9_remove 25 rfl) (tgt := 47) rfl (fun c => ?_) (fun c => ?_)
  · replace h := h.1 c
    refine bs_aload_n C (bf_dk dd_X9_remove 28 rfl) rfl ?_
    refine bs_get C (bf_dk dd_X9_remove 29 rfl) cl_9 in_9 1 (Nat.le_of_ble_eq_true rfl) rfl f_9_7 (ge_bW9_0 S) rfl ?_
    refine bs_bipush C (bf_dk dd_X9_remove 30 rfl) (8 : Int32) (by decide) ?_
    refine bs_aload_n C (bf_dk dd_X9_remove 31 rfl) rfl ?_
    refine bs_get C (bf_dk dd_X9_remove 32 rfl) cl_9 in_9 1 (Nat.le_of_ble_eq_true rfl) rfl f_9_7 (ge_bW9_0 S) rfl ?_
    refine bs_bipush C (bf_dk dd_X9_remove 33 rfl) (8 : Int32) (by decide) ?_
    obtain ⟨hi, h⟩ := h
    refine bs_iald C (bf_dk dd_X9_remove 34 rfl) (ge_bW9_1 S) hi ?_
    refine bs_iconst C (bf_dk dd_X9_remove 35 rfl) (1 : Int32) (by decide) ?_
    refine bs_isub C (bf_dk dd_X9_remove 36 rfl) ?_
    obtain ⟨hi, h⟩ := h
    refine bs_iast C (bf_dk dd_X9_remove 37 rfl) (ge_bW9_1 S) hi (ar_bW9_1 S _) ?_
    refine bs_nameS bW9 (fun S3 eS3 => ?_)
    replace h := h S3 eS3
    refine bs_iload C (bf_dk dd_X9_remove 38 rfl) rfl ?_
    refine bs_istore C (bf_dk dd_X9_remove 39 rfl) (Nat.le_of_ble_eq_true rfl) (Nat.le_of_ble_eq_true rfl) (lv2 := [some (.ref 0), none, none, none, some (.int t0), some (.int t0)]) rfl ?_
    exact bs_weak (bf_s1 (bf_sn (bf_sn (bf_sn (bf_s1 (bf_s1 bf_s0)))))) (t_X9_remove_67 C hR S3 (t0) (t0) Q h)
  · replace h := h.2 c
    refine bs_iconst C (bf_dk dd_X9_remove 26 rfl) (-1 : Int32) (by decide) ?_
    exact bs_iret (u := S) C (bf_dk dd_X9_remove 27 rfl) rfl h
def wp_X9_remove (S : bT9) (a1 : Int32) (a2 : Int32) (a3 : Int32) (Q : Int32 → (bT9) → Prop) : Prop := (∀ S4 : bT9, S4 = (b9s_told S (0 : Int32)) → (wp_X9_isKey S4 (a3) (fun r5 => ((r5 = 0 → (wp_X9_remove_37 S4 ((-1 : Int32)) Q)) ∧ (¬ r5 = 0 → (vp_in (8 : Int32) 23 ∧ (wp_X9_keyOf S4 (a1) (a2) (a3) (fun r7 => (wp_X9_find S4 ((0 : Int32)) (((b9g_now S4) ((8 : Int32)).toNatClampNeg)) (r7) (a3) (fun r9 => (wp_X9_remove_37 S4 (r9) Q)))))))))))
set_option maxRecDepth 20000 in
theorem t_X9_remove {X : bf_X} (C : bf_C X RX9 cX9_remove 6 (some .int)) (hR : bf_Rm X 3 78) (S : bT9) (a1 : Int32) (a2 : Int32) (a3 : Int32) (Q : Int32 → (bT9) → Prop) (h : wp_X9_remove S a1 a2 a3 Q) : bf_A X (bf_Zi X bW9 Q) 6 0 [some (.ref 0), some (.int a1), some (.int a2), some (.int a3), none, none] [] (bW9 S) := by
  unfold wp_X9_remove at h
  refine bs_aload_n C (bf_dk dd_X9_remove 0 rfl) rfl ?_
  refine bs_iconst C (bf_dk dd_X9_remove 1 rfl) (0 : Int32) (by decide) ?_
  refine bs_put C (bf_dk dd_X9_remove 2 rfl) tyX9_ok nmX9 cl_9 in_9 0 (Nat.le_of_ble_eq_true rfl) rfl f_9_75 rfl (ge_bW9_0 S) (Nat.le_of_ble_eq_true rfl) rfl rfl (pu_bW9_0_0 S (0 : Int32)) ?_
  refine bs_nameS bW9 (fun S4 eS4 => ?_)
  replace h := h S4 eS4
  refine bs_aload_n C (bf_dk dd_X9_remove 3 rfl) rfl ?_
  refine bs_iload_n C (bf_dk dd_X9_remove 4 rfl) rfl ?_
  refine bs_selfPV_i C hR (c_X9_isKey _ _ _ _ _ S4 (a3) _ h) my_X9_isKey m_9_117 rfl cl_9 (ge_bW9_0 _) rfl (Nat.le_of_ble_eq_true rfl) (Nat.le_of_ble_eq_true rfl) (st := []) (Nat.le_of_ble_eq_true rfl) (bf_dk dd_X9_remove 5 rfl) rfl (fun r5 h => ?_)
  refine bs_if_eq C (bf_dk dd_X9_remove 6 rfl) (tgt := 36) rfl (fun c => ?_) (fun c => ?_)
  · replace h := h.1 c
    refine bs_iconst C (bf_dk dd_X9_remove 21 rfl) (-1 : Int32) (by decide) ?_
    exact bs_weak (bf_s1 (bf_sn (bf_sn (bf_sn (bf_sn (bf_sn bf_s0)))))) (t_X9_remove_37 C hR S4 ((-1 : Int32)) Q h)
  · replace h := h.2 c
    refine bs_aload_n C (bf_dk dd_X9_remove 7 rfl) rfl ?_
    refine bs_iconst C (bf_dk dd_X9_remove 8 rfl) (0 : Int32) (by decide) ?_
    refine bs_aload_n C (bf_dk dd_X9_remove 9 rfl) rfl ?_
    refine bs_get C (bf_dk dd_X9_remove 10 rfl) cl_9 in_9 1 (Nat.le_of_ble_eq_true rfl) rfl f_9_7 (ge_bW9_0 S4) rfl ?_
    refine bs_bipush C (bf_dk dd_X9_remove 11 rfl) (8 : Int32) (by decide) ?_
    obtain ⟨hi, h⟩ := h
    refine bs_iald C (bf_dk dd_X9_remove 12 rfl) (ge_bW9_1 S4) hi ?_
    refine bs_aload_n C (bf_dk dd_X9_remove 13 rfl) rfl ?_
    refine bs_iload_n C (bf_dk dd_X9_remove 14 rfl) rfl ?_
    refine bs_iload_n C (bf_dk dd_X9_remove 15 rfl) rfl ?_
    refine bs_iload_n C (bf_dk dd_X9_remove 16 rfl) rfl ?_
    refine bs_selfPV_l C hR (c_X9_keyOf _ _ _ _ _ S4 (a1) (a2) (a3) _ h) my_X9_keyOf m_9_121 rfl cl_9 (ge_bW9_0 _) rfl (Nat.le_of_ble_eq_true rfl) (Nat.le_of_ble_eq_true rfl) (st := [.int ((b9g_now S4) ((8 : Int32)).toNatClampNeg), .int (0 : Int32), .ref 0]) (Nat.le_of_ble_eq_true rfl) (bf_dk dd_X9_remove 17 rfl) rfl (fun r7 h => ?_)
    refine bs_iload_n C (bf_dk dd_X9_remove 18 rfl) rfl ?_
    refine bs_selfPV_i C hR (c_X9_find _ _ _ _ _ S4 ((0 : Int32)) (((b9g_now S4) ((8 : Int32)).toNatClampNeg)) (r7) (a3) _ h) my_X9_find m_9_114 rfl cl_9 (ge_bW9_0 _) rfl (Nat.le_of_ble_eq_true rfl) (Nat.le_of_ble_eq_true rfl) (st := []) (Nat.le_of_ble_eq_true rfl) (bf_dk dd_X9_remove 19 rfl) rfl (fun r9 h => ?_)
    refine bs_goto C (bf_dk dd_X9_remove 20 rfl) (tgt := 37) rfl ?_
    exact bs_weak (bf_s1 (bf_sn (bf_sn (bf_sn (bf_sn (bf_sn bf_s0)))))) (t_X9_remove_37 C hR S4 (r9) Q h)
theorem c_X9_remove (l : Launch) (dC : Nat → ClassId) (dI : Nat → Nat → Nat) (ac : Nat → ClassId) (al : Nat → Nat) (S : bT9) (a1 : Int32) (a2 : Int32) (a3 : Int32) (Q : Int32 → (bT9) → Prop) (h : wp_X9_remove S a1 a2 a3 Q) : bf_M l yX9_remove cX9_remove 6 (some .int) 3 78 dC dI ac al [.ref 0, .int a1, .int a2, .int a3] (bW9 S) (bf_Ki dC dI ac al bW9 Q) := by
  refine bf_start [some (.ref 0), some (.int a1), some (.int a2), some (.int a3), none, none] (by decide) (Nat.le_of_ble_eq_true rfl) (bf_s1 (bf_s1 (bf_s1 (bf_s1 (bf_en 2))))) ?_
  intro X hl C hR e1 e2 e3 e4
  subst e1; subst e2; subst e3; subst e4
  exact t_X9_remove C hR S a1 a2 a3 Q h
