def wp_X9_has (S : bT9) (a1 : Int32) (a2 : Int32) (a3 : Int32) (a4 : Int32) (Q : Int32 → (bT9) → Prop) : Prop := (∀ S1 : bT9, S1 = (b9s_told S (0 : Int32)) → (wp_X9_isKey S1 (a3) (fun r2 => ((r2 = 0 → (Q (-1 : Int32) S1)) ∧ (¬ r2 = 0 → (wp_X9_isIn S1 (a4) ((0 : Int32)) ((1 : Int32)) (fun r4 => ((¬ r4 = 0 → ((¬ a4 = 0 → (vp_in (9 : Int32) 23 ∧ (wp_X9_keyOf S1 (a1) (a2) (a3) (fun r6 => (wp_X9_find S1 ((64 : Int32)) (((b9g_now S1) ((9 : Int32)).toNatClampNeg)) (r6) (a3) (fun r8 => (Q r8 S1))))))) ∧ (a4 = 0 → (vp_in (8 : Int32) 23 ∧ (wp_X9_keyOf S1 (a1) (a2) (a3) (fun r10 => (wp_X9_find S1 ((0 : Int32)) (((b9g_now S1) ((8 : Int32)).toNatClampNeg)) (r10) (a3) (fun r12 => (Q r12 S1))))))))) ∧ (r4 = 0 → (Q (-1 : Int32) S1))))))))))
set_option maxRecDepth 20000 in
theorem t_X9_has {X : bf_X} (C : bf_C X RX9 cX9_has 5 (some .int)) (hR : bf_Rm X 3 78) (S : bT9) (a1 : Int32) (a2 : Int32) (a3 : Int32) (a4 : Int32) (Q : Int32 → (bT9) → Prop) (h : wp_X9_has S a1 a2 a3 a4 Q) : bf_A X (bf_Zi X bW9 Q) 5 0 [some (.ref 0), some (.int a1), some (.int a2), some (.int a3), some (.int a4)] [] (bW9 S) := by
  unfold wp_X9_has at h
  refine bs_aload_n C (bf_dk dd_X9_has 0 rfl) rfl ?_
  refine bs_iconst C (bf_dk dd_X9_has 1 rfl) (0 : Int32) (by decide) ?_
  refine bs_put C (bf_dk dd_X9_has 2 rfl) tyX9_ok nmX9 cl_9 in_9 0 (Nat.le_of_ble_eq_true rfl) rfl f_9_75 rfl (ge_bW9_0 S) (Nat.le_of_ble_eq_true rfl) rfl rfl (pu_bW9_0_0 S (0 : Int32)) ?_
  refine bs_nameS bW9 (fun S1 eS1 => ?_)
  replace h := h S1 eS1
  refine bs_aload_n C (bf_dk dd_X9_has 3 rfl) rfl ?_
  refine bs_iload_n C (bf_dk dd_X9_has 4 rfl) rfl ?_
  refine bs_selfPV_i C hR (c_X9_isKey _ _ _ _ _ S1 (a3) _ h) my_X9_isKey m_9_117 rfl cl_9 (ge_bW9_0 _) rfl (Nat.le_of_ble_eq_true rfl) (Nat.le_of_ble_eq_true rfl) (st := []) (Nat.le_of_ble_eq_true rfl) (bf_dk dd_X9_has 5 rfl) rfl (fun r2 h => ?_)
  refine bs_if_eq C (bf_dk dd_X9_has 6 rfl) (tgt := 24) rfl (fun c => ?_) (fun c => ?_)
  · replace h := h.1 c
    refine bs_iconst C (bf_dk dd_X9_has 13 rfl) (-1 : Int32) (by decide) ?_
    exact bs_iret (u := S1) C (bf_dk dd_X9_has 14 rfl) rfl h
  · replace h := h.2 c
    refine bs_aload_n C (bf_dk dd_X9_has 7 rfl) rfl ?_
    refine bs_iload C (bf_dk dd_X9_has 8 rfl) rfl ?_
    refine bs_iconst C (bf_dk dd_X9_has 9 rfl) (0 : Int32) (by decide) ?_
    refine bs_iconst C (bf_dk dd_X9_has 10 rfl) (1 : Int32) (by decide) ?_
    refine bs_selfPV_i C hR (c_X9_isIn _ _ _ _ _ S1 (a4) ((0 : Int32)) ((1 : Int32)) _ h) my_X9_isIn m_9_82 rfl cl_9 (ge_bW9_0 _) rfl (Nat.le_of_ble_eq_true rfl) (Nat.le_of_ble_eq_true rfl) (st := []) (Nat.le_of_ble_eq_true rfl) (bf_dk dd_X9_has 11 rfl) rfl (fun r4 h => ?_)
    refine bs_if_ne C (bf_dk dd_X9_has 12 rfl) (tgt := 26) rfl (fun c => ?_) (fun c => ?_)
    · replace h := h.1 c
      refine bs_iload C (bf_dk dd_X9_has 15 rfl) rfl ?_
      refine bs_if_ne C (bf_dk dd_X9_has 16 rfl) (tgt := 54) rfl (fun c => ?_) (fun c => ?_)
      · replace h := h.1 c
        refine bs_aload_n C (bf_dk dd_X9_has 31 rfl) rfl ?_
        refine bs_bipush C (bf_dk dd_X9_has 32 rfl) (64 : Int32) (by decide) ?_
        refine bs_aload_n C (bf_dk dd_X9_has 33 rfl) rfl ?_
        refine bs_get C (bf_dk dd_X9_has 34 rfl) cl_9 in_9 1 (Nat.le_of_ble_eq_true rfl) rfl f_9_7 (ge_bW9_0 S1) rfl ?_
        refine bs_bipush C (bf_dk dd_X9_has 35 rfl) (9 : Int32) (by decide) ?_
        obtain ⟨hi, h⟩ := h
        refine bs_iald C (bf_dk dd_X9_has 36 rfl) (ge_bW9_1 S1) hi ?_
        refine bs_aload_n C (bf_dk dd_X9_has 37 rfl) rfl ?_
        refine bs_iload_n C (bf_dk dd_X9_has 38 rfl) rfl ?_
        refine bs_iload_n C (bf_dk dd_X9_has 39 rfl) rfl ?_
        refine bs_iload_n C (bf_dk dd_X9_has 40 rfl) rfl ?_
        refine bs_selfPV_l C hR (c_X9_keyOf _ _ _ _ _ S1 (a1) (a2) (a3) _ h) my_X9_keyOf m_9_121 rfl cl_9 (ge_bW9_0 _) rfl (Nat.le_of_ble_eq_true rfl) (Nat.le_of_ble_eq_true rfl) (st := [.int ((b9g_now S1) ((9 : Int32)).toNatClampNeg), .int (64 : Int32), .ref 0]) (Nat.le_of_ble_eq_true rfl) (bf_dk dd_X9_has 41 rfl) rfl (fun r6 h => ?_)
        refine bs_iload_n C (bf_dk dd_X9_has 42 rfl) rfl ?_
        refine bs_selfPV_i C hR (c_X9_find _ _ _ _ _ S1 ((64 : Int32)) (((b9g_now S1) ((9 : Int32)).toNatClampNeg)) (r6) (a3) _ h) my_X9_find m_9_114 rfl cl_9 (ge_bW9_0 _) rfl (Nat.le_of_ble_eq_true rfl) (Nat.le_of_ble_eq_true rfl) (st := []) (Nat.le_of_ble_eq_true rfl) (bf_dk dd_X9_has 43 rfl) rfl (fun r8 h => ?_)
        exact bs_iret (u := S1) C (bf_dk dd_X9_has 44 rfl) rfl h
      · replace h := h.2 c
        refine bs_aload_n C (bf_dk dd_X9_has 17 rfl) rfl ?_
        refine bs_iconst C (bf_dk dd_X9_has 18 rfl) (0 : Int32) (by decide) ?_
        refine bs_aload_n C (bf_dk dd_X9_has 19 rfl) rfl ?_
        refine bs_get C (bf_dk dd_X9_has 20 rfl) cl_9 in_9 1 (Nat.le_of_ble_eq_true rfl) rfl f_9_7 (ge_bW9_0 S1) rfl ?_
        refine bs_bipush C (bf_dk dd_X9_has 21 rfl) (8 : Int32) (by decide) ?_
        obtain ⟨hi, h⟩ := h
        refine bs_iald C (bf_dk dd_X9_has 22 rfl) (ge_bW9_1 S1) hi ?_
        refine bs_aload_n C (bf_dk dd_X9_has 23 rfl) rfl ?_
        refine bs_iload_n C (bf_dk dd_X9_has 24 rfl) rfl ?_
        refine bs_iload_n C (bf_dk dd_X9_has 25 rfl) rfl ?_
        refine bs_iload_n C (bf_dk dd_X9_has 26 rfl) rfl ?_
        refine bs_selfPV_l C hR (c_X9_keyOf _ _ _ _ _ S1 (a1) (a2) (a3) _ h) my_X9_keyOf m_9_121 rfl cl_9 (ge_bW9_0 _) rfl (Nat.le_of_ble_eq_true rfl) (Nat.le_of_ble_eq_true rfl) (st := [.int ((b9g_now S1) ((8 : Int32)).toNatClampNeg), .int (0 : Int32), .ref 0]) (Nat.le_of_ble_eq_true rfl) (bf_dk dd_X9_has 27 rfl) rfl (fun r10 h => ?_)
        refine bs_iload_n C (bf_dk dd_X9_has 28 rfl) rfl ?_
        refine bs_selfPV_i C hR (c_X9_find _ _ _ _ _ S1 ((0 : Int32)) (((b9g_now S1) ((8 : Int32)).toNatClampNeg)) (r10) (a3) _ h) my_X9_find m_9_114 rfl cl_9 (ge_bW9_0 _) rfl (Nat.le_of_ble_eq_true rfl) (Nat.le_of_ble_eq_true rfl) (st := []) (Nat.le_of_ble_eq_true rfl) (bf_dk dd_X9_has 29 rfl) rfl (fun r12 h => ?_)
        refine bs_goto C (bf_dk dd_X9_has 30 rfl) (tgt := 75) rfl ?_
        exact bs_iret (u := S1) C (bf_dk dd_X9_has 44 rfl) rfl h
    · replace h := h.2 c
      refine bs_iconst C (bf_dk dd_X9_has 13 rfl) (-1 : Int32) (by decide) ?_
      exact bs_iret (u := S1) C (bf_dk dd_X9_has 14 rfl) rfl h
theorem c_X9_has (l : Launch) (dC : Nat → ClassId) (dI : Nat → Nat → Nat) (ac : Nat → ClassId) (al : Nat → Nat) (S : bT9) (a1 : Int32) (a2 : Int32) (a3 : Int32) (a4 : Int32) (Q : Int32 → (bT9) → Prop) (h : wp_X9_has S a1 a2 a3 a4 Q) : bf_M l yX9_has cX9_has 5 (some .int) 3 78 dC dI ac al [.ref 0, .int a1, .int a2, .int a3, .int a4] (bW9 S) (bf_Ki dC dI ac al bW9 Q) := by
  refine bf_start [some (.ref 0), some (.int a1), some (.int a2), some (.int a3), some (.int a4)] (by decide) (Nat.le_of_ble_eq_true rfl) (bf_s1 (bf_s1 (bf_s1 (bf_s1 (bf_s1 bf_s0))))) ?_
  intro X hl C hR e1 e2 e3 e4
  subst e1; subst e2; subst e3; subst e4
  exact t_X9_has C hR S a1 a2 a3 a4 Q h
def wp_X9_draws_18b (S : bT9) (x2 : Int32) (Q : (bT9) → Prop) (B18 : Int32 → (bT9) → Prop) : Prop := (((b9g_drawnLength S) ≤ x2 → (Q S)) ∧ (¬ (b9g_drawnLength S) ≤ x2 → (wp_X9_settingOf S ((4 : Int32)) (fun r1 => (wp_X9_draw S (r1) (fun r3 u4 => (∀ v5 : Int64, v5 = ((b9g_drawn S) ||| ((r3).toInt64 <<< ((((56 : Int32) - ((8 : Int32) * x2))).toInt64 &&& 63))) → (∀ S6 : bT9, S6 = (b9s_drawn u4 v5) → (B18 ((x2 + (1 : Int32))) S6)))))))))
set_option maxRecDepth 20000 in
theorem t_X9_draws_18b {X : bf_X} (C : bf_C X RX9 cX9_draws 3 none) (hR : bf_Rm X 2 42) (S : bT9) (x2 : Int32) (Q : (bT9) → Prop) (B18 : Int32 → (bT9) → Prop) (hB18 : ∀ (x2 : Int32) (S : bT9), B18 x2 S → bf_A X (bf_Zv X bW9 Q) 3 18 [some (.ref 0), none, some (.int x2)] [] (bW9 S)) (h : wp_X9_draws_18b S x2 Q B18) : bf_A X (bf_Zv X bW9 Q) 3 18 [some (.ref 0), none, some (.int x2)] [] (bW9 S) := by
  unfold wp_X9_draws_18b at h
  refine bs_iload_n C (bf_dk dd_X9_draws 12 rfl) rfl ?_
  refine bs_aload_n C (bf_dk dd_X9_draws 13 rfl) rfl ?_
  refine bs_get C (bf_dk dd_X9_draws 14 rfl) cl_9 in_9 5 (Nat.le_of_ble_eq_true rfl) rfl f_9_132 (ge_bW9_0 S) rfl ?_
  refine bs_icmp_ge C (bf_dk dd_X9_draws 15 rfl) (tgt := 59) rfl (fun c => ?_) (fun c => ?_)
  · replace h := h.1 c
    exact bs_vret (u := S) C (bf_dk dd_X9_draws 35 rfl) rfl h
  · replace h := h.2 c
    refine bs_aload_n C (bf_dk dd_X9_draws 16 rfl) rfl ?_
    refine bs_aload_n C (bf_dk dd_X9_draws 17 rfl) rfl ?_
    refine bs_get C (bf_dk dd_X9_draws 18 rfl) cl_9 in_9 4 (Nat.le_of_ble_eq_true rfl) rfl f_9_135 (ge_bW9_0 S) rfl ?_
    refine bs_aload_n C (bf_dk dd_X9_draws 19 rfl) rfl ?_
    refine bs_aload_n C (bf_dk dd_X9_draws 20 rfl) rfl ?_
    refine bs_iconst C (bf_dk dd_X9_draws 21 rfl) (4 : Int32) (by decide) ?_
    refine bs_selfPV_i C hR (c_X9_settingOf _ _ _ _ _ S ((4 : Int32)) _ h) my_X9_settingOf m_9_139 rfl cl_9 (ge_bW9_0 _) rfl (Nat.le_of_ble_eq_true rfl) (Nat.le_of_ble_eq_true rfl) (st := [.ref 0, .long (b9g_drawn S), .ref 0]) (Nat.le_of_ble_eq_true rfl) (bf_dk dd_X9_draws 22 rfl) rfl (fun r1 h => ?_)
    refine bs_selfV_i C hR (c_X9_draw _ _ _ _ _ S (r1) _ h) my_X9_draw m_9_129 rfl cl_9 (ge_bW9_0 _) rfl (Nat.le_of_ble_eq_true rfl) (Nat.le_of_ble_eq_true rfl) (st := [.long (b9g_drawn S), .ref 0]) (Nat.le_of_ble_eq_true rfl) (bf_dk dd_X9_draws 23 rfl) rfl (len := 21) (fun _ => rfl) (fun r3 u4 h => ?_)
    refine bs_i2l C (bf_dk dd_X9_draws 24 rfl) ?_
    refine bs_bipush C (bf_dk dd_X9_draws 25 rfl) (56 : Int32) (by decide) ?_
    refine bs_bipush C (bf_dk dd_X9_draws 26 rfl) (8 : Int32) (by decide) ?_
    refine bs_iload_n C (bf_dk dd_X9_draws 27 rfl) rfl ?_
    refine bs_imul C (bf_dk dd_X9_draws 28 rfl) ?_
    refine bs_isub C (bf_dk dd_X9_draws 29 rfl) ?_
    refine bs_lshl C (bf_dk dd_X9_draws 30 rfl) ?_
    refine bs_lor C (bf_dk dd_X9_draws 31 rfl) ?_
    refine bs_nameL (fun v5 ev5 => ?_)
    replace h := h v5 ev5
    refine bs_put C (bf_dk dd_X9_draws 32 rfl) tyX9_ok nmX9 cl_9 in_9 4 (Nat.le_of_ble_eq_true rfl) rfl f_9_135 rfl (ge_bW9_0 u4) (Nat.le_of_ble_eq_true rfl) rfl rfl (pu_bW9_0_4 u4 v5) ?_
    refine bs_nameS bW9 (fun S6 eS6 => ?_)
    replace h := h S6 eS6
    refine bs_iinc C (bf_dk dd_X9_draws 33 rfl) (x2 + (1 : Int32)) rfl rfl (Nat.le_of_ble_eq_true rfl) (Nat.le_of_ble_eq_true rfl) (lv2 := [some (.ref 0), none, some (.int (x2 + (1 : Int32)))]) rfl ?_
    refine bs_goto C (bf_dk dd_X9_draws 34 rfl) (tgt := 18) rfl ?_
    exact bs_weak (bf_s1 (bf_sn (bf_s1 bf_s0))) (hB18 ((x2 + (1 : Int32))) S6 h)
def wp_X9_draws_18 (S : bT9) (x2 : Int32) (Q : (bT9) → Prop) : Prop := ∃ I : Nat → Int32 → (bT9) → Prop, (∃ n : Nat, I n x2 S) ∧ ∀ (n : Nat) (x2 : Int32) (S : bT9), I n x2 S → wp_X9_draws_18b S x2 Q (fun x2 S => ∃ n2 : Nat, n2 < n ∧ I n2 x2 S)
theorem t_X9_draws_18 {X : bf_X} (C : bf_C X RX9 cX9_draws 3 none) (hR : bf_Rm X 2 42) (S : bT9) (x2 : Int32) (Q : (bT9) → Prop) (h : wp_X9_draws_18 S x2 Q) : bf_A X (bf_Zv X bW9 Q) 3 18 [some (.ref 0), none, some (.int x2)] [] (bW9 S) := by
  obtain ⟨I, ⟨n0, h0⟩, hI⟩ := h
  have key : ∀ (n : Nat) (x2 : Int32) (S : bT9), I n x2 S → bf_A X (bf_Zv X bW9 Q) 3 18 [some (.ref 0), none, some (.int x2)] [] (bW9 S) := by
    intro n
    induction n using Nat.strongRecOn with
    | _ n ih =>
      intro x2 S hi
      exact t_X9_draws_18b C hR S x2 Q _ (fun x2 S hb => by obtain ⟨n2, hn, hi2⟩ := hb; exact ih n2 hn x2 S hi2) (hI n x2 S hi)
  exact key n0 x2 S h0
def wp_X9_draws (S : bT9) (a1 : Int32) (Q : (bT9) → Prop) : Prop := (wp_X9_draw S (a1) (fun r7 u8 => (∀ S9 : bT9, S9 = (b9s_drawnLength u8 ((1 : Int32) + r7)) → (∀ S10 : bT9, S10 = (b9s_drawn S9 (0 : Int64)) → (wp_X9_draws_18 S10 ((0 : Int32)) Q)))))
set_option maxRecDepth 20000 in
theorem t_X9_draws {X : bf_X} (C : bf_C X RX9 cX9_draws 3 none) (hR : bf_Rm X 2 42) (S : bT9) (a1 : Int32) (Q : (bT9) → Prop) (h : wp_X9_draws S a1 Q) : bf_A X (bf_Zv X bW9 Q) 3 0 [some (.ref 0), some (.int a1), none] [] (bW9 S) := by
  unfold wp_X9_draws at h
  refine bs_aload_n C (bf_dk dd_X9_draws 0 rfl) rfl ?_
  refine bs_iconst C (bf_dk dd_X9_draws 1 rfl) (1 : Int32) (by decide) ?_
  refine bs_aload_n C (bf_dk dd_X9_draws 2 rfl) rfl ?_
  refine bs_iload_n C (bf_dk dd_X9_draws 3 rfl) rfl ?_
  refine bs_selfV_i C hR (c_X9_draw _ _ _ _ _ S (a1) _ h) my_X9_draw m_9_129 rfl cl_9 (ge_bW9_0 _) rfl (Nat.le_of_ble_eq_true rfl) (Nat.le_of_ble_eq_true rfl) (st := [.int (1 : Int32), .ref 0]) (Nat.le_of_ble_eq_true rfl) (bf_dk dd_X9_draws 4 rfl) rfl (len := 21) (fun _ => rfl) (fun r7 u8 h => ?_)
  refine bs_iadd C (bf_dk dd_X9_draws 5 rfl) ?_
  refine bs_put C (bf_dk dd_X9_draws 6 rfl) tyX9_ok nmX9 cl_9 in_9 5 (Nat.le_of_ble_eq_true rfl) rfl f_9_132 rfl (ge_bW9_0 u8) (Nat.le_of_ble_eq_true rfl) rfl rfl (pu_bW9_0_5 u8 ((1 : Int32) + r7)) ?_
  refine bs_nameS bW9 (fun S9 eS9 => ?_)
  replace h := h S9 eS9
  refine bs_aload_n C (bf_dk dd_X9_draws 7 rfl) rfl ?_
  refine bs_lconst C (bf_dk dd_X9_draws 8 rfl) (0 : Int64) (by decide) ?_
  refine bs_put C (bf_dk dd_X9_draws 9 rfl) tyX9_ok nmX9 cl_9 in_9 4 (Nat.le_of_ble_eq_true rfl) rfl f_9_135 rfl (ge_bW9_0 S9) (Nat.le_of_ble_eq_true rfl) rfl rfl (pu_bW9_0_4 S9 (0 : Int64)) ?_
  refine bs_nameS bW9 (fun S10 eS10 => ?_)
  replace h := h S10 eS10
  refine bs_iconst C (bf_dk dd_X9_draws 10 rfl) (0 : Int32) (by decide) ?_
  refine bs_istore_n C (bf_dk dd_X9_draws 11 rfl) rfl (Nat.le_of_ble_eq_true rfl) (Nat.le_of_ble_eq_true rfl) (lv2 := [some (.ref 0), some (.int a1), some (.int (0 : Int32))]) rfl ?_
  exact bs_weak (bf_s1 (bf_sn (bf_s1 bf_s0))) (t_X9_draws_18 C hR S10 ((0 : Int32)) Q h)
theorem c_X9_draws (l : Launch) (dC : Nat → ClassId) (dI : Nat → Nat → Nat) (ac : Nat → ClassId) (al : Nat → Nat) (S : bT9) (a1 : Int32) (Q : (bT9) → Prop) (h : wp_X9_draws S a1 Q) : bf_M l yX9_draws cX9_draws 3 none 2 42 dC dI ac al [.ref 0, .int a1] (bW9 S) (bf_Kv dC dI ac al bW9 Q) := by
  refine bf_start [some (.ref 0), some (.int a1), none] (by decide) (Nat.le_of_ble_eq_true rfl) (bf_s1 (bf_s1 (bf_en 1))) ?_
  intro X hl C hR e1 e2 e3 e4
  subst e1; subst e2; subst e3; subst e4
  exact t_X9_draws C hR S a1 Q h
def wp_X9_fill_65 (S : bT9) (x1 : Int32) (x2 : Int32) (x3 : Int32) (x4 : Int32) (Q : Int32 → (bT9) → Prop) (B34 : Int32 → Int32 → Int32 → Int32 → (bT9) → Prop) : Prop := (B34 (x1) (x2) (x3) ((x4 + (1 : Int32))) S)
set_option maxRecDepth 20000 in
theorem t_X9_fill_65 {X : bf_X} (C : bf_C X RX9 cX9_fill 5 (some .int)) (hR : bf_Rm X 4 103) (S : bT9) (x1 : Int32) (x2 : Int32) (x3 : Int32) (x4 : Int32) (Q : Int32 → (bT9) → Prop) (B34 : Int32 → Int32 → Int32 → Int32 → (bT9) → Prop) (hB34 : ∀ (x1 : Int32) (x2 : Int32) (x3 : Int32) (x4 : Int32) (S : bT9), B34 x1 x2 x3 x4 S → bf_A X (bf_Zi X bW9 Q) 5 34 [some (.ref 0), some (.int x1), some (.int x2), some (.int x3), some (.int x4)] [] (bW9 S)) (h : wp_X9_fill_65 S x1 x2 x3 x4 Q B34) : bf_A X (bf_Zi X bW9 Q) 5 65 [some (.ref 0), some (.int x1), some (.int x2), some (.int x3), some (.int x4)] [] (bW9 S) := by
  unfold wp_X9_fill_65 at h
  refine bs_iinc C (bf_dk dd_X9_fill 39 rfl) (x4 + (1 : Int32)) rfl rfl (Nat.le_of_ble_eq_true rfl) (Nat.le_of_ble_eq_true rfl) (lv2 := [some (.ref 0), some (.int x1), some (.int x2), some (.int x3), some (.int (x4 + (1 : Int32)))]) rfl ?_
  refine bs_goto C (bf_dk dd_X9_fill 40 rfl) (tgt := 34) rfl ?_
  exact bs_weak (bf_s1 (bf_s1 (bf_s1 (bf_s1 (bf_s1 bf_s0))))) (hB34 (x1) (x2) (x3) ((x4 + (1 : Int32))) S h)
def wp_X9_fill_34b (S : bT9) (x1 : Int32) (x2 : Int32) (x3 : Int32) (x4 : Int32) (Q : Int32 → (bT9) → Prop) (B34 : Int32 → Int32 → Int32 → Int32 → (bT9) → Prop) : Prop := ((x1 ≤ x4 → (Q x3 S)) ∧ (¬ x1 ≤ x4 → (wp_X9_draws S (x2) (fun u2 => (wp_X9_comes u2 ((b9g_drawn u2)) ((b9g_drawnLength u2)) (fun r3 u4 => ((r3 = (-1 : Int32) → (wp_X9_fill_65 u4 (x1) (x2) (x3) (x4) Q B34)) ∧ (¬ r3 = (-1 : Int32) → (wp_X9_fill_65 u4 (x1) (x2) ((x3 + (1 : Int32))) (x4) Q B34)))))))))
set_option maxRecDepth 20000 in
theorem t_X9_fill_34b {X : bf_X} (C : bf_C X RX9 cX9_fill 5 (some .int)) (hR : bf_Rm X 4 103) (S : bT9) (x1 : Int32) (x2 : Int32) (x3 : Int32) (x4 : Int32) (Q : Int32 → (bT9) → Prop) (B34 : Int32 → Int32 → Int32 → Int32 → (bT9) → Prop) (hB34 : ∀ (x1 : Int32) (x2 : Int32) (x3 : Int32) (x4 : Int32) (S : bT9), B34 x1 x2 x3 x4 S → bf_A X (bf_Zi X bW9 Q) 5 34 [some (.ref 0), some (.int x1), some (.int x2), some (.int x3), some (.int x4)] [] (bW9 S)) (h : wp_X9_fill_34b S x1 x2 x3 x4 Q B34) : bf_A X (bf_Zi X bW9 Q) 5 34 [some (.ref 0), some (.int x1), some (.int x2), some (.int x3), some (.int x4)] [] (bW9 S) := by
  unfold wp_X9_fill_34b at h
  refine bs_iload C (bf_dk dd_X9_fill 21 rfl) rfl ?_
  refine bs_iload_n C (bf_dk dd_X9_fill 22 rfl) rfl ?_
  refine bs_icmp_ge C (bf_dk dd_X9_fill 23 rfl) (tgt := 71) rfl (fun c => ?_) (fun c => ?_)
  · replace h := h.1 c
    refine bs_iload_n C (bf_dk dd_X9_fill 41 rfl) rfl ?_
    exact bs_iret (u := S) C (bf_dk dd_X9_fill 42 rfl) rfl h
  · replace h := h.2 c
    refine bs_aload_n C (bf_dk dd_X9_fill 24 rfl) rfl ?_
    refine bs_iload_n C (bf_dk dd_X9_fill 25 rfl) rfl ?_
    refine bs_selfV_v C hR (c_X9_draws _ _ _ _ _ S (x2) _ h) my_X9_draws m_9_142 rfl cl_9 (ge_bW9_0 _) rfl (Nat.le_of_ble_eq_true rfl) (Nat.le_of_ble_eq_true rfl) (st := []) (Nat.le_of_ble_eq_true rfl) (bf_dk dd_X9_fill 26 rfl) rfl (len := 21) (fun _ => rfl) (fun u2 h => ?_)
    refine bs_aload_n C (bf_dk dd_X9_fill 27 rfl) rfl ?_
    refine bs_aload_n C (bf_dk dd_X9_fill 28 rfl) rfl ?_
    refine bs_get C (bf_dk dd_X9_fill 29 rfl) cl_9 in_9 4 (Nat.le_of_ble_eq_true rfl) rfl f_9_135 (ge_bW9_0 u2) rfl ?_
    refine bs_aload_n C (bf_dk dd_X9_fill 30 rfl) rfl ?_
    refine bs_get C (bf_dk dd_X9_fill 31 rfl) cl_9 in_9 5 (Nat.le_of_ble_eq_true rfl) rfl f_9_132 (ge_bW9_0 u2) rfl ?_
    refine bs_selfV_i C hR (c_X9_comes _ _ _ _ _ u2 ((b9g_drawn u2)) ((b9g_drawnLength u2)) _ h) my_X9_comes m_9_125 rfl cl_9 (ge_bW9_0 _) rfl (Nat.le_of_ble_eq_true rfl) (Nat.le_of_ble_eq_true rfl) (st := []) (Nat.le_of_ble_eq_true rfl) (bf_dk dd_X9_fill 32 rfl) rfl (len := 21) (fun _ => rfl) (fun r3 u4 h => ?_)
    refine bs_iconst C (bf_dk dd_X9_fill 33 rfl) (-1 : Int32) (by decide) ?_
    refine bs_icmp_eq C (bf_dk dd_X9_fill 34 rfl) (tgt := 65) rfl (fun c => ?_) (fun c => ?_)
    · replace h := h.1 c
      exact bs_weak (bf_s1 (bf_s1 (bf_s1 (bf_s1 (bf_s1 bf_s0))))) (t_X9_fill_65 C hR u4 (x1) (x2) (x3) (x4) Q B34 hB34 h)
    · replace h := h.2 c
      refine bs_iload_n C (bf_dk dd_X9_fill 35 rfl) rfl ?_
      refine bs_iconst C (bf_dk dd_X9_fill 36 rfl) (1 : Int32) (by decide) ?_
      refine bs_iadd C (bf_dk dd_X9_fill 37 rfl) ?_
      refine bs_istore_n C (bf_dk dd_X9_fill 38 rfl) rfl (Nat.le_of_ble_eq_true rfl) (Nat.le_of_ble_eq_true rfl) (lv2 := [some (.ref 0), some (.int x1), some (.int x2), some (.int (x3 + (1 : Int32))), some (.int x4)]) rfl ?_
      exact bs_weak (bf_s1 (bf_s1 (bf_s1 (bf_s1 (bf_s1 bf_s0))))) (t_X9_fill_65 C hR u4 (x1) (x2) ((x3 + (1 : Int32))) (x4) Q B34 hB34 h)
def wp_X9_fill_34 (S : bT9) (x1 : Int32) (x2 : Int32) (x3 : Int32) (x4 : Int32) (Q : Int32 → (bT9) → Prop) : Prop := ∃ I : Nat → Int32 → Int32 → Int32 → Int32 → (bT9) → Prop, (∃ n : Nat, I n x1 x2 x3 x4 S) ∧ ∀ (n : Nat) (x1 : Int32) (x2 : Int32) (x3 : Int32) (x4 : Int32) (S : bT9), I n x1 x2 x3 x4 S → wp_X9_fill_34b S x1 x2 x3 x4 Q (fun x1 x2 x3 x4 S => ∃ n2 : Nat, n2 < n ∧ I n2 x1 x2 x3 x4 S)
theorem t_X9_fill_34 {X : bf_X} (C : bf_C X RX9 cX9_fill 5 (some .int)) (hR : bf_Rm X 4 103) (S : bT9) (x1 : Int32) (x2 : Int32) (x3 : Int32) (x4 : Int32) (Q : Int32 → (bT9) → Prop) (h : wp_X9_fill_34 S x1 x2 x3 x4 Q) : bf_A X (bf_Zi X bW9 Q) 5 34 [some (.ref 0), some (.int x1), some (.int x2), some (.int x3), some (.int x4)] [] (bW9 S) := by
  obtain ⟨I, ⟨n0, h0⟩, hI⟩ := h
  have key : ∀ (n : Nat) (x1 : Int32) (x2 : Int32) (x3 : Int32) (x4 : Int32) (S : bT9), I n x1 x2 x3 x4 S → bf_A X (bf_Zi X bW9 Q) 5 34 [some (.ref 0), some (.int x1), some (.int x2), some (.int x3), some (.int x4)] [] (bW9 S) := by
    intro n
    induction n using Nat.strongRecOn with
    | _ n ih =>
      intro x1 x2 x3 x4 S hi
      exact t_X9_fill_34b C hR S x1 x2 x3 x4 Q _ (fun x1 x2 x3 x4 S hb => by obtain ⟨n2, hn, hi2⟩ := hb; exact ih n2 hn x1 x2 x3 x4 S hi2) (hI n x1 x2 x3 x4 S hi)
  exact key n0 x1 x2 x3 x4 S h0
def wp_X9_fill (S : bT9) (a1 : Int32) (a2 : Int32) (Q : Int32 → (bT9) → Prop) : Prop := (∀ S5 : bT9, S5 = (b9s_told S (0 : Int32)) → (wp_X9_isIn S5 (a1) ((1 : Int32)) ((64 : Int32)) (fun r6 => ((r6 = 0 → (Q (-1 : Int32) S5)) ∧ (¬ r6 = 0 → (wp_X9_isIn S5 (a2) ((1 : Int32)) ((8 : Int32)) (fun r8 => ((¬ r8 = 0 → (wp_X9_fill_34 S5 (a1) (a2) ((0 : Int32)) ((0 : Int32)) Q)) ∧ (r8 = 0 → (Q (-1 : Int32) S5))))))))))
set_option maxRecDepth 20000 in
theorem t_X9_fill {X : bf_X} (C : bf_C X RX9 cX9_fill 5 (some .int)) (hR : bf_Rm X 4 103) (S : bT9) (a1 : Int32) (a2 : Int32) (Q : Int32 → (bT9) → Prop) (h : wp_X9_fill S a1 a2 Q) : bf_A X (bf_Zi X bW9 Q) 5 0 [some (.ref 0), some (.int a1), some (.int a2), none, none] [] (bW9 S) := by
  unfold wp_X9_fill at h
  refine bs_aload_n C (bf_dk dd_X9_fill 0 rfl) rfl ?_
  refine bs_iconst C (bf_dk dd_X9_fill 1 rfl) (0 : Int32) (by decide) ?_
  refine bs_put C (bf_dk dd_X9_fill 2 rfl) tyX9_ok nmX9 cl_9 in_9 0 (Nat.le_of_ble_eq_true rfl) rfl f_9_75 rfl (ge_bW9_0 S) (Nat.le_of_ble_eq_true rfl) rfl rfl (pu_bW9_0_0 S (0 : Int32)) ?_
  refine bs_nameS bW9 (fun S5 eS5 => ?_)
  replace h := h S5 eS5
  refine bs_aload_n C (bf_dk dd_X9_fill 3 rfl) rfl ?_
  refine bs_iload_n C (bf_dk dd_X9_fill 4 rfl) rfl ?_
  refine bs_iconst C (bf_dk dd_X9_fill 5 rfl) (1 : Int32) (by decide) ?_
  refine bs_bipush C (bf_dk dd_X9_fill 6 rfl) (64 : Int32) (by decide) ?_
  refine bs_selfPV_i C hR (c_X9_isIn _ _ _ _ _ S5 (a1) ((1 : Int32)) ((64 : Int32)) _ h) my_X9_isIn m_9_82 rfl cl_9 (ge_bW9_0 _) rfl (Nat.le_of_ble_eq_true rfl) (Nat.le_of_ble_eq_true rfl) (st := []) (Nat.le_of_ble_eq_true rfl) (bf_dk dd_X9_fill 7 rfl) rfl (fun r6 h => ?_)
  refine bs_if_eq C (bf_dk dd_X9_fill 8 rfl) (tgt := 27) rfl (fun c => ?_) (fun c => ?_)
  · replace h := h.1 c
    refine bs_iconst C (bf_dk dd_X9_fill 15 rfl) (-1 : Int32) (by decide) ?_
    exact bs_iret (u := S5) C (bf_dk dd_X9_fill 16 rfl) rfl h
  · replace h := h.2 c
    refine bs_aload_n C (bf_dk dd_X9_fill 9 rfl) rfl ?_
    refine bs_iload_n C (bf_dk dd_X9_fill 10 rfl) rfl ?_
    refine bs_iconst C (bf_dk dd_X9_fill 11 rfl) (1 : Int32) (by decide) ?_
    refine bs_bipush C (bf_dk dd_X9_fill 12 rfl) (8 : Int32) (by decide) ?_
    refine bs_selfPV_i C hR (c_X9_isIn _ _ _ _ _ S5 (a2) ((1 : Int32)) ((8 : Int32)) _ h) my_X9_isIn m_9_82 rfl cl_9 (ge_bW9_0 _) rfl (Nat.le_of_ble_eq_true rfl) (Nat.le_of_ble_eq_true rfl) (st := []) (Nat.le_of_ble_eq_true rfl) (bf_dk dd_X9_fill 13 rfl) rfl (fun r8 h => ?_)
    refine bs_if_ne C (bf_dk dd_X9_fill 14 rfl) (tgt := 29) rfl (fun c => ?_) (fun c => ?_)
    · replace h := h.1 c
      refine bs_iconst C (bf_dk dd_X9_fill 17 rfl) (0 : Int32) (by decide) ?_
      refine bs_istore_n C (bf_dk dd_X9_fill 18 rfl) rfl (Nat.le_of_ble_eq_true rfl) (Nat.le_of_ble_eq_true rfl) (lv2 := [some (.ref 0), some (.int a1), some (.int a2), some (.int (0 : Int32)), none]) rfl ?_
      refine bs_iconst C (bf_dk dd_X9_fill 19 rfl) (0 : Int32) (by decide) ?_
      refine bs_istore C (bf_dk dd_X9_fill 20 rfl) (Nat.le_of_ble_eq_true rfl) (Nat.le_of_ble_eq_true rfl) (lv2 := [some (.ref 0), some (.int a1), some (.int a2), some (.int (0 : Int32)), some (.int (0 : Int32))]) rfl ?_
      exact bs_weak (bf_s1 (bf_s1 (bf_s1 (bf_s1 (bf_s1 bf_s0))))) (t_X9_fill_34 C hR S5 (a1) (a2) ((0 : Int32)) ((0 : Int32)) Q h)
    · replace h := h.2 c
      refine bs_iconst C (bf_dk dd_X9_fill 15 rfl) (-1 : Int32) (by decide) ?_
      exact bs_iret (u := S5) C (bf_dk dd_X9_fill 16 rfl) rfl h
theorem c_X9_fill (l : Launch) (dC : Nat → ClassId) (dI : Nat → Nat → Nat) (ac : Nat → ClassId) (al : Nat → Nat) (S : bT9) (a1 : Int32) (a2 : Int32) (Q : Int32 → (bT9) → Prop) (h : wp_X9_fill S a1 a2 Q) : bf_M l yX9_fill cX9_fill 5 (some .int) 4 103 dC dI ac al [.ref 0, .int a1, .int a2] (bW9 S) (bf_Ki dC dI ac al bW9 Q) := by
  refine bf_start [some (.ref 0), some (.int a1), some (.int a2), none, none] (by decide) (Nat.le_of_ble_eq_true rfl) (bf_s1 (bf_s1 (bf_s1 (bf_en 2)))) ?_
  intro X hl C hR e1 e2 e3 e4
  subst e1; subst e2; subst e3; subst e4
  exact t_X9_fill C hR S a1 a2 Q h
def wp_X9_types_3b (S : bT9) (x1 : Int32) (x2 : Int32) (Q : (bT9) → Prop) (B3 : Int32 → Int32 → (bT9) → Prop) : Prop := ((x2 < 0 → (Q S)) ∧ (¬ x2 < 0 → (vp_in (b9g_taped S) 160 ∧ (∀ S1 : bT9, S1 = (b9s_tape S (upd (b9g_tape S) ((b9g_taped S)).toNatClampNeg ((x1 >>> (x2 &&& 31)) &&& (255 : Int32)))) → (∀ S2 : bT9, S2 = (b9s_taped S1 ((b9g_taped S1) + (1 : Int32))) → (B3 (x1) ((x2 + (-8 : Int32))) S2))))))
set_option maxRecDepth 20000 in
theorem t_X9_types_3b {X : bf_X} (C : bf_C X RX9 cX9_types 3 none) (hR : bf_Rm X 0 0) (S : bT9) (x1 : Int32) (x2 : Int32) (Q : (bT9) → Prop) (B3 : Int32 → Int32 → (bT9) → Prop) (hB3 : ∀ (x1 : Int32) (x2 : Int32) (S : bT9), B3 x1 x2 S → bf_A X (bf_Zv X bW9 Q) 3 3 [some (.ref 0), some (.int x1), some (.int x2)] [] (bW9 S)) (h : wp_X9_types_3b S x1 x2 Q B3) : bf_A X (bf_Zv X bW9 Q) 3 3 [some (.ref 0), some (.int x1), some (.int x2)] [] (bW9 S) := by
  unfold wp_X9_types_3b at h
  refine bs_iload_n C (bf_dk dd_X9_types 2 rfl) rfl ?_
  refine bs_if_lt C (bf_dk dd_X9_types 3 rfl) (tgt := 39) rfl (fun c => ?_) (fun c => ?_)
  · replace h := h.1 c
    exact bs_vret (u := S) C (bf_dk dd_X9_types 22 rfl) rfl h
  · replace h := h.2 c
    refine bs_aload_n C (bf_dk dd_X9_types 4 rfl) rfl ?_
    refine bs_get C (bf_dk dd_X9_types 5 rfl) cl_9 in_9 6 (Nat.le_of_ble_eq_true rfl) rfl f_9_20 (ge_bW9_0 S) rfl ?_
    refine bs_aload_n C (bf_dk dd_X9_types 6 rfl) rfl ?_
    refine bs_get C (bf_dk dd_X9_types 7 rfl) cl_9 in_9 7 (Nat.le_of_ble_eq_true rfl) rfl f_9_146 (ge_bW9_0 S) rfl ?_
    refine bs_iload_n C (bf_dk dd_X9_types 8 rfl) rfl ?_
    refine bs_iload_n C (bf_dk dd_X9_types 9 rfl) rfl ?_
    refine bs_ishr C (bf_dk dd_X9_types 10 rfl) ?_
    refine bs_sipush C (bf_dk dd_X9_types 11 rfl) (255 : Int32) (by decide) ?_
    refine bs_iand C (bf_dk dd_X9_types 12 rfl) ?_
    obtain ⟨hi, h⟩ := h
    refine bs_iast C (bf_dk dd_X9_types 13 rfl) (ge_bW9_4 S) hi (ar_bW9_4 S _) ?_
    refine bs_nameS bW9 (fun S1 eS1 => ?_)
    replace h := h S1 eS1
    refine bs_aload_n C (bf_dk dd_X9_types 14 rfl) rfl ?_
    refine bs_aload_n C (bf_dk dd_X9_types 15 rfl) rfl ?_
    refine bs_get C (bf_dk dd_X9_types 16 rfl) cl_9 in_9 7 (Nat.le_of_ble_eq_true rfl) rfl f_9_146 (ge_bW9_0 S1) rfl ?_
    refine bs_iconst C (bf_dk dd_X9_types 17 rfl) (1 : Int32) (by decide) ?_
    refine bs_iadd C (bf_dk dd_X9_types 18 rfl) ?_
    refine bs_put C (bf_dk dd_X9_types 19 rfl) tyX9_ok nmX9 cl_9 in_9 7 (Nat.le_of_ble_eq_true rfl) rfl f_9_146 rfl (ge_bW9_0 S1) (Nat.le_of_ble_eq_true rfl) rfl rfl (pu_bW9_0_7 S1 ((b9g_taped S1) + (1 : Int32))) ?_
    refine bs_nameS bW9 (fun S2 eS2 => ?_)
    replace h := h S2 eS2
    refine bs_iinc C (bf_dk dd_X9_types 20 rfl) (x2 + (-8 : Int32)) rfl rfl (Nat.le_of_ble_eq_true rfl) (Nat.le_of_ble_eq_true rfl) (lv2 := [some (.ref 0), some (.int x1), some (.int (x2 + (-8 : Int32)))]) rfl ?_
    refine bs_goto C (bf_dk dd_X9_types 21 rfl) (tgt := 3) rfl ?_
    exact bs_weak (bf_s1 (bf_s1 (bf_s1 bf_s0))) (hB3 (x1) ((x2 + (-8 : Int32))) S2 h)
def wp_X9_types_3 (S : bT9) (x1 : Int32) (x2 : Int32) (Q : (bT9) → Prop) : Prop := ∃ I : Nat → Int32 → Int32 → (bT9) → Prop, (∃ n : Nat, I n x1 x2 S) ∧ ∀ (n : Nat) (x1 : Int32) (x2 : Int32) (S : bT9), I n x1 x2 S → wp_X9_types_3b S x1 x2 Q (fun x1 x2 S => ∃ n2 : Nat, n2 < n ∧ I n2 x1 x2 S)
theorem t_X9_types_3 {X : bf_X} (C : bf_C X RX9 cX9_types 3 none) (hR : bf_Rm X 0 0) (S : bT9) (x1 : Int32) (x2 : Int32) (Q : (bT9) → Prop) (h : wp_X9_types_3 S x1 x2 Q) : bf_A X (bf_Zv X bW9 Q) 3 3 [some (.ref 0), some (.int x1), some (.int x2)] [] (bW9 S) := by
  obtain ⟨I, ⟨n0, h0⟩, hI⟩ := h
  have key : ∀ (n : Nat) (x1 : Int32) (x2 : Int32) (S : bT9), I n x1 x2 S → bf_A X (bf_Zv X bW9 Q) 3 3 [some (.ref 0), some (.int x1), some (.int x2)] [] (bW9 S) := by
    intro n
    induction n using Nat.strongRecOn with
    | _ n ih =>
      intro x1 x2 S hi
      exact t_X9_types_3b C hR S x1 x2 Q _ (fun x1 x2 S hb => by obtain ⟨n2, hn, hi2⟩ := hb; exact ih n2 hn x1 x2 S hi2) (hI n x1 x2 S hi)
  exact key n0 x1 x2 S h0
def wp_X9_types (S : bT9) (a1 : Int32) (Q : (bT9) → Prop) : Prop := (wp_X9_types_3 S (a1) ((24 : Int32)) Q)
set_option maxRecDepth 20000 in
theorem t_X9_types {X : bf_X} (C : bf_C X RX9 cX9_types 3 none) (hR : bf_Rm X 0 0) (S : bT9) (a1 : Int32) (Q : (bT9) → Prop) (h : wp_X9_types S a1 Q) : bf_A X (bf_Zv X bW9 Q) 3 0 [some (.ref 0), some (.int a1), none] [] (bW9 S) := by
  unfold wp_X9_types at h
  refine bs_bipush C (bf_dk dd_X9_types 0 rfl) (24 : Int32) (by decide) ?_
  refine bs_istore_n C (bf_dk dd_X9_types 1 rfl) rfl (Nat.le_of_ble_eq_true rfl) (Nat.le_of_ble_eq_true rfl) (lv2 := [some (.ref 0), some (.int a1), some (.int (24 : Int32))]) rfl ?_
  exact bs_weak (bf_s1 (bf_s1 (bf_s1 bf_s0))) (t_X9_types_3 C hR S (a1) ((24 : Int32)) Q h)
theorem c_X9_types (l : Launch) (dC : Nat → ClassId) (dI : Nat → Nat → Nat) (ac : Nat → ClassId) (al : Nat → Nat) (S : bT9) (a1 : Int32) (Q : (bT9) → Prop) (h : wp_X9_types S a1 Q) : bf_M l yX9_types cX9_types 3 none 0 0 dC dI ac al [.ref 0, .int a1] (bW9 S) (bf_Kv dC dI ac al bW9 Q) := by
  refine bf_start [some (.ref 0), some (.int a1), none] (by decide) (Nat.le_of_ble_eq_true rfl) (bf_s1 (bf_s1 (bf_en 1))) ?_
  intro X hl C hR e1 e2 e3 e4
  subst e1; subst e2; subst e3; subst e4
  exact t_X9_types C hR S a1 Q h
def wp_X9_feed (S : bT9) (a1 : Int32) (a2 : Int32) (a3 : Int32) (a4 : Int32) (a5 : Int32) (Q : Int32 → (bT9) → Prop) : Prop := (∀ S1 : bT9, S1 = (b9s_told S (0 : Int32)) → (((b9g_taped S1) ≤ (140 : Int32) → (wp_X9_types S1 (a1) (fun u3 => (wp_X9_types u3 (a2) (fun u5 => (wp_X9_types u5 (a3) (fun u7 => (wp_X9_types u7 (a4) (fun u9 => (wp_X9_types u9 (a5) (fun u11 => (Q (b9g_taped u11) u11)))))))))))) ∧ (¬ (b9g_taped S1) ≤ (140 : Int32) → (Q (-1 : Int32) S1))))
set_option maxRecDepth 20000 in
theorem t_X9_feed {X : bf_X} (C : bf_C X RX9 cX9_feed 6 (some .int)) (hR : bf_Rm X 1 22) (S : bT9) (a1 : Int32) (a2 : Int32) (a3 : Int32) (a4 : Int32) (a5 : Int32) (Q : Int32 → (bT9) → Prop) (h : wp_X9_feed S a1 a2 a3 a4 a5 Q) : bf_A X (bf_Zi X bW9 Q) 6 0 [some (.ref 0), some (.int a1), some (.int a2), some (.int a3), some (.int a4), some (.int a5)] [] (bW9 S) := by
  unfold wp_X9_feed at h
  refine bs_aload_n C (bf_dk dd_X9_feed 0 rfl) rfl ?_
  refine bs_iconst C (bf_dk dd_X9_feed 1 rfl) (0 : Int32) (by decide) ?_
  refine bs_put C (bf_dk dd_X9_feed 2 rfl) tyX9_ok nmX9 cl_9 in_9 0 (Nat.le_of_ble_eq_true rfl) rfl f_9_75 rfl (ge_bW9_0 S) (Nat.le_of_ble_eq_true rfl) rfl rfl (pu_bW9_0_0 S (0 : Int32)) ?_
  refine bs_nameS bW9 (fun S1 eS1 => ?_)
  replace h := h S1 eS1
  refine bs_aload_n C (bf_dk dd_X9_feed 3 rfl) rfl ?_
  refine bs_get C (bf_dk dd_X9_feed 4 rfl) cl_9 in_9 7 (Nat.le_of_ble_eq_true rfl) rfl f_9_146 (ge_bW9_0 S1) rfl ?_
  refine bs_sipush C (bf_dk dd_X9_feed 5 rfl) (140 : Int32) (by decide) ?_
  refine bs_icmp_le C (bf_dk dd_X9_feed 6 rfl) (tgt := 17) rfl (fun c => ?_) (fun c => ?_)
  · replace h := h.1 c
    refine bs_aload_n C (bf_dk dd_X9_feed 9 rfl) rfl ?_
    refine bs_iload_n C (bf_dk dd_X9_feed 10 rfl) rfl ?_
    refine bs_selfV_v C hR (c_X9_types _ _ _ _ _ S1 (a1) _ h) my_X9_types m_9_149 rfl cl_9 (ge_bW9_0 _) rfl (Nat.le_of_ble_eq_true rfl) (Nat.le_of_ble_eq_true rfl) (st := []) (Nat.le_of_ble_eq_true rfl) (bf_dk dd_X9_feed 11 rfl) rfl (len := 21) (fun _ => rfl) (fun u3 h => ?_)
    refine bs_aload_n C (bf_dk dd_X9_feed 12 rfl) rfl ?_
    refine bs_iload_n C (bf_dk dd_X9_feed 13 rfl) rfl ?_
    refine bs_selfV_v C hR (c_X9_types _ _ _ _ _ u3 (a2) _ h) my_X9_types m_9_149 rfl cl_9 (ge_bW9_0 _) rfl (Nat.le_of_ble_eq_true rfl) (Nat.le_of_ble_eq_true rfl) (st := []) (Nat.le_of_ble_eq_true rfl) (bf_dk dd_X9_feed 14 rfl) rfl (len := 21) (fun _ => rfl) (fun u5 h => ?_)
    refine bs_aload_n C (bf_dk dd_X9_feed 15 rfl) rfl ?_
    refine bs_iload_n C (bf_dk dd_X9_feed 16 rfl) rfl ?_
    refine bs_selfV_v C hR (c_X9_types _ _ _ _ _ u5 (a3) _ h) my_X9_types m_9_149 rfl cl_9 (ge_bW9_0 _) rfl (Nat.le_of_ble_eq_true rfl) (Nat.le_of_ble_eq_true rfl) (st := []) (Nat.le_of_ble_eq_true rfl) (bf_dk dd_X9_feed 17 rfl) rfl (len := 21) (fun _ => rfl) (fun u7 h => ?_)
    refine bs_aload_n C (bf_dk dd_X9_feed 18 rfl) rfl ?_
    refine bs_iload C (bf_dk dd_X9_feed 19 rfl) rfl ?_
    refine bs_selfV_v C hR (c_X9_types _ _ _ _ _ u7 (a4) _ h) my_X9_types m_9_149 rfl cl_9 (ge_bW9_0 _) rfl (Nat.le_of_ble_eq_true rfl) (Nat.le_of_ble_eq_true rfl) (st := []) (Nat.le_of_ble_eq_true rfl) (bf_dk dd_X9_feed 20 rfl) rfl (len := 21) (fun _ => rfl) (fun u9 h => ?_)
    refine bs_aload_n C (bf_dk dd_X9_feed 21 rfl) rfl ?_
    refine bs_iload C (bf_dk dd_X9_feed 22 rfl) rfl ?_
    refine bs_selfV_v C hR (c_X9_types _ _ _ _ _ u9 (a5) _ h) my_X9_types m_9_149 rfl cl_9 (ge_bW9_0 _) rfl (Nat.le_of_ble_eq_true rfl) (Nat.le_of_ble_eq_true rfl) (st := []) (Nat.le_of_ble_eq_true rfl) (bf_dk dd_X9_feed 23 rfl) rfl (len := 21) (fun _ => rfl) (fun u11 h => ?_)
    refine bs_aload_n C (bf_dk dd_X9_feed 24 rfl) rfl ?_
    refine bs_get C (bf_dk dd_X9_feed 25 rfl) cl_9 in_9 7 (Nat.le_of_ble_eq_true rfl) rfl f_9_146 (ge_bW9_0 u11) rfl ?_
    exact bs_iret (u := u11) C (bf_dk dd_X9_feed 26 rfl) rfl h
  · replace h := h.2 c
    refine bs_iconst C (bf_dk dd_X9_feed 7 rfl) (-1 : Int32) (by decide) ?_
    exact bs_iret (u := S1) C (bf_dk dd_X9_feed 8 rfl) rfl h
theorem c_X9_feed (l : Launch) (dC : Nat → ClassId) (dI : Nat → Nat → Nat) (ac : Nat → ClassId) (al : Nat → Nat) (S : bT9) (a1 : Int32) (a2 : Int32) (a3 : Int32) (a4 : Int32) (a5 : Int32) (Q : Int32 → (bT9) → Prop) (h : wp_X9_feed S a1 a2 a3 a4 a5 Q) : bf_M l yX9_feed cX9_feed 6 (some .int) 1 22 dC dI ac al [.ref 0, .int a1, .int a2, .int a3, .int a4, .int a5] (bW9 S) (bf_Ki dC dI ac al bW9 Q) := by
  refine bf_start [some (.ref 0), some (.int a1), some (.int a2), some (.int a3), some (.int a4), some (.int a5)] (by decide) (Nat.le_of_ble_eq_true rfl) (bf_s1 (bf_s1 (bf_s1 (bf_s1 (bf_s1 (bf_s1 bf_s0)))))) ?_
  intro X hl C hR e1 e2 e3 e4
  subst e1; subst e2; subst e3; subst e4
  exact t_X9_feed C hR S a1 a2 a3 a4 a5 Q h
def wp_X9_end (S : bT9) (a1 : Int32) (Q : Int32 → (bT9) → Prop) : Prop := (∀ S1 : bT9, S1 = (b9s_told S (0 : Int32)) → (wp_X9_isIn S1 (a1) ((0 : Int32)) ((b9g_taped S1)) (fun r2 => ((¬ r2 = 0 → (∀ S4 : bT9, S4 = (b9s_taped S1 a1) → (bf_bool (1 : Int32) ∧ Q (1 : Int32) S4))) ∧ (r2 = 0 → (bf_bool (0 : Int32) ∧ Q (0 : Int32) S1))))))
set_option maxRecDepth 20000 in
theorem t_X9_end {X : bf_X} (C : bf_C X RX9 cX9_end 2 (some .boolean)) (hR : bf_Rm X 1 23) (S : bT9) (a1 : Int32) (Q : Int32 → (bT9) → Prop) (h : wp_X9_end S a1 Q) : bf_A X (bf_Zi X bW9 Q) 2 0 [some (.ref 0), some (.int a1)] [] (bW9 S) := by
  unfold wp_X9_end at h
  refine bs_aload_n C (bf_dk dd_X9_end 0 rfl) rfl ?_
  refine bs_iconst C (bf_dk dd_X9_end 1 rfl) (0 : Int32) (by decide) ?_
  refine bs_put C (bf_dk dd_X9_end 2 rfl) tyX9_ok nmX9 cl_9 in_9 0 (Nat.le_of_ble_eq_true rfl) rfl f_9_75 rfl (ge_bW9_0 S) (Nat.le_of_ble_eq_true rfl) rfl rfl (pu_bW9_0_0 S (0 : Int32)) ?_
  refine bs_nameS bW9 (fun S1 eS1 => ?_)
  replace h := h S1 eS1
  refine bs_aload_n C (bf_dk dd_X9_end 3 rfl) rfl ?_
  refine bs_iload_n C (bf_dk dd_X9_end 4 rfl) rfl ?_
  refine bs_iconst C (bf_dk dd_X9_end 5 rfl) (0 : Int32) (by decide) ?_
  refine bs_aload_n C (bf_dk dd_X9_end 6 rfl) rfl ?_
  refine bs_get C (bf_dk dd_X9_end 7 rfl) cl_9 in_9 7 (Nat.le_of_ble_eq_true rfl) rfl f_9_146 (ge_bW9_0 S1) rfl ?_
  refine bs_selfPV_i C hR (c_X9_isIn _ _ _ _ _ S1 (a1) ((0 : Int32)) ((b9g_taped S1)) _ h) my_X9_isIn m_9_82 rfl cl_9 (ge_bW9_0 _) rfl (Nat.le_of_ble_eq_true rfl) (Nat.le_of_ble_eq_true rfl) (st := []) (Nat.le_of_ble_eq_true rfl) (bf_dk dd_X9_end 8 rfl) rfl (fun r2 h => ?_)
  refine bs_if_ne C (bf_dk dd_X9_end 9 rfl) (tgt := 20) rfl (fun c => ?_) (fun c => ?_)
  · replace h := h.1 c
    refine bs_aload_n C (bf_dk dd_X9_end 12 rfl) rfl ?_
    refine bs_iload_n C (bf_dk dd_X9_end 13 rfl) rfl ?_
    refine bs_put C (bf_dk dd_X9_end 14 rfl) tyX9_ok nmX9 cl_9 in_9 7 (Nat.le_of_ble_eq_true rfl) rfl f_9_146 rfl (ge_bW9_0 S1) (Nat.le_of_ble_eq_true rfl) rfl rfl (pu_bW9_0_7 S1 a1) ?_
    refine bs_nameS bW9 (fun S4 eS4 => ?_)
    replace h := h S4 eS4
    refine bs_iconst C (bf_dk dd_X9_end 15 rfl) (1 : Int32) (by decide) ?_
    obtain ⟨hi, h⟩ := h
    exact bs_zret (u := S4) C (bf_dk dd_X9_end 16 rfl) hi rfl h
  · replace h := h.2 c
    refine bs_iconst C (bf_dk dd_X9_end 10 rfl) (0 : Int32) (by decide) ?_
    obtain ⟨hi, h⟩ := h
    exact bs_zret (u := S1) C (bf_dk dd_X9_end 11 rfl) hi rfl h
theorem c_X9_end (l : Launch) (dC : Nat → ClassId) (dI : Nat → Nat → Nat) (ac : Nat → ClassId) (al : Nat → Nat) (S : bT9) (a1 : Int32) (Q : Int32 → (bT9) → Prop) (h : wp_X9_end S a1 Q) : bf_M l yX9_end cX9_end 2 (some .boolean) 1 23 dC dI ac al [.ref 0, .int a1] (bW9 S) (bf_Ki dC dI ac al bW9 Q) := by
  refine bf_start [some (.ref 0), some (.int a1)] (by decide) (Nat.le_of_ble_eq_true rfl) (bf_s1 (bf_s1 bf_s0)) ?_
  intro X hl C hR e1 e2 e3 e4
  subst e1; subst e2; subst e3; subst e4
  exact t_X9_end C hR S a1 Q h
def wp_X9_named_107b (S : bT9) (x1 : Int32) (x2 : Int32) (x3 : Int32) (Q : Int32 → (bT9) → Prop) (B14 : Int32 → Int32 → Int32 → (bT9) → Prop) (B107 : Int32 → Int32 → Int32 → (bT9) → Prop) : Prop := (vp_in x3 57 ∧ ((((b9g_names S) (x3).toNatClampNeg) = (32 : Int32) → (B14 (x1) (x2) (x3) S)) ∧ (¬ ((b9g_names S) (x3).toNatClampNeg) = (32 : Int32) → (B107 (x1) (x2) ((x3 + (1 : Int32))) S))))
set_option maxRecDepth 20000 in
theorem t_X9_named_107b {X : bf_X} (C : bf_C X RX9 cX9_named 5 (some .int)) (hR : bf_Rm X 0 0) (S : bT9) (x1 : Int32) (x2 : Int32) (x3 : Int32) (Q : Int32 → (bT9) → Prop) (B14 : Int32 → Int32 → Int32 → (bT9) → Prop) (B107 : Int32 → Int32 → Int32 → (bT9) → Prop) (hB14 : ∀ (x1 : Int32) (x2 : Int32) (x3 : Int32) (S : bT9), B14 x1 x2 x3 S → bf_A X (bf_Zi X bW9 Q) 5 14 [some (.ref 0), some (.int x1), some (.int x2), some (.int x3), none] [] (bW9 S)) (hB107 : ∀ (x1 : Int32) (x2 : Int32) (x3 : Int32) (S : bT9), B107 x1 x2 x3 S → bf_A X (bf_Zi X bW9 Q) 5 107 [some (.ref 0), some (.int x1), some (.int x2), some (.int x3), none] [] (bW9 S)) (h : wp_X9_named_107b S x1 x2 x3 Q B14 B107) : bf_A X (bf_Zi X bW9 Q) 5 107 [some (.ref 0), some (.int x1), some (.int x2), some (.int x3), none] [] (bW9 S) := by
  unfold wp_X9_named_107b at h
  refine bs_aload_n C (bf_dk dd_X9_named 67 rfl) rfl ?_
  refine bs_get C (bf_dk dd_X9_named 68 rfl) cl_9 in_9 8 (Nat.le_of_ble_eq_true rfl) rfl f_9_23 (ge_bW9_0 S) rfl ?_
  refine bs_iload_n C (bf_dk dd_X9_named 69 rfl) rfl ?_
  obtain ⟨hi, h⟩ := h
  refine bs_iald C (bf_dk dd_X9_named 70 rfl) (ge_bW9_5 S) hi ?_
  refine bs_bipush C (bf_dk dd_X9_named 71 rfl) (32 : Int32) (by decide) ?_
  refine bs_icmp_eq C (bf_dk dd_X9_named 72 rfl) (tgt := 125) rfl (fun c => ?_) (fun c => ?_)
  · replace h := h.1 c
    refine bs_goto C (bf_dk dd_X9_named 78 rfl) (tgt := 14) rfl ?_
    exact bs_weak (bf_s1 (bf_s1 (bf_s1 (bf_s1 (bf_sn bf_s0))))) (hB14 (x1) (x2) (x3) S h)
  · replace h := h.2 c
    refine bs_iload_n C (bf_dk dd_X9_named 73 rfl) rfl ?_
    refine bs_iconst C (bf_dk dd_X9_named 74 rfl) (1 : Int32) (by decide) ?_
    refine bs_iadd C (bf_dk dd_X9_named 75 rfl) ?_
    refine bs_istore_n C (bf_dk dd_X9_named 76 rfl) rfl (Nat.le_of_ble_eq_true rfl) (Nat.le_of_ble_eq_true rfl) (lv2 := [some (.ref 0), some (.int x1), some (.int x2), some (.int (x3 + (1 : Int32))), none]) rfl ?_
    refine bs_goto C (bf_dk dd_X9_named 77 rfl) (tgt := 107) rfl ?_
    exact bs_weak (bf_s1 (bf_s1 (bf_s1 (bf_s1 (bf_sn bf_s0))))) (hB107 (x1) (x2) ((x3 + (1 : Int32))) S h)
def wp_X9_named_107 (S : bT9) (x1 : Int32) (x2 : Int32) (x3 : Int32) (Q : Int32 → (bT9) → Prop) (B14 : Int32 → Int32 → Int32 → (bT9) → Prop) : Prop := ∃ I : Nat → Int32 → Int32 → Int32 → (bT9) → Prop, (∃ n : Nat, I n x1 x2 x3 S) ∧ ∀ (n : Nat) (x1 : Int32) (x2 : Int32) (x3 : Int32) (S : bT9), I n x1 x2 x3 S → wp_X9_named_107b S x1 x2 x3 Q B14 (fun x1 x2 x3 S => ∃ n2 : Nat, n2 < n ∧ I n2 x1 x2 x3 S)
theorem t_X9_named_107 {X : bf_X} (C : bf_C X RX9 cX9_named 5 (some .int)) (hR : bf_Rm X 0 0) (S : bT9) (x1 : Int32) (x2 : Int32) (x3 : Int32) (Q : Int32 → (bT9) → Prop) (B14 : Int32 → Int32 → Int32 → (bT9) → Prop) (hB14 : ∀ (x1 : Int32) (x2 : Int32) (x3 : Int32) (S : bT9), B14 x1 x2 x3 S → bf_A X (bf_Zi X bW9 Q) 5 14 [some (.ref 0), some (.int x1), some (.int x2), some (.int x3), none] [] (bW9 S)) (h : wp_X9_named_107 S x1 x2 x3 Q B14) : bf_A X (bf_Zi X bW9 Q) 5 107 [some (.ref 0), some (.int x1), some (.int x2), some (.int x3), none] [] (bW9 S) := by
  obtain ⟨I, ⟨n0, h0⟩, hI⟩ := h
  have key : ∀ (n : Nat) (x1 : Int32) (x2 : Int32) (x3 : Int32) (S : bT9), I n x1 x2 x3 S → bf_A X (bf_Zi X bW9 Q) 5 107 [some (.ref 0), some (.int x1), some (.int x2), some (.int x3), none] [] (bW9 S) := by
    intro n
    induction n using Nat.strongRecOn with
    | _ n ih =>
      intro x1 x2 x3 S hi
      exact t_X9_named_107b C hR S x1 x2 x3 Q B14 _ hB14 (fun x1 x2 x3 S hb => by obtain ⟨n2, hn, hi2⟩ := hb; exact ih n2 hn x1 x2 x3 S hi2) (hI n x1 x2 x3 S hi)
  exact key n0 x1 x2 x3 S h0
def wp_X9_named_103 (S : bT9) (x1 : Int32) (x2 : Int32) (x3 : Int32) (Q : Int32 → (bT9) → Prop) (B14 : Int32 → Int32 → Int32 → (bT9) → Prop) : Prop := (wp_X9_named_107 S (x1) (x2) ((x3 + (1 : Int32))) Q B14)
set_option maxRecDepth 20000 in
theorem t_X9_named_103 {X : bf_X} (C : bf_C X RX9 cX9_named 5 (some .int)) (hR : bf_Rm X 0 0) (S : bT9) (x1 : Int32) (x2 : Int32) (x3 : Int32) (Q : Int32 → (bT9) → Prop) (B14 : Int32 → Int32 → Int32 → (bT9) → Prop) (hB14 : ∀ (x1 : Int32) (x2 : Int32) (x3 : Int32) (S : bT9), B14 x1 x2 x3 S → bf_A X (bf_Zi X bW9 Q) 5 14 [some (.ref 0), some (.int x1), some (.int x2), some (.int x3), none] [] (bW9 S)) (h : wp_X9_named_103 S x1 x2 x3 Q B14) : bf_A X (bf_Zi X bW9 Q) 5 103 [some (.ref 0), some (.int x1), some (.int x2), some (.int x3), none] [] (bW9 S) := by
  unfold wp_X9_named_103 at h
  refine bs_iload_n C (bf_dk dd_X9_named 63 rfl) rfl ?_
  refine bs_iconst C (bf_dk dd_X9_named 64 rfl) (1 : Int32) (by decide) ?_
  refine bs_iadd C (bf_dk dd_X9_named 65 rfl) ?_
  refine bs_istore_n C (bf_dk dd_X9_named 66 rfl) rfl (Nat.le_of_ble_eq_true rfl) (Nat.le_of_ble_eq_true rfl) (lv2 := [some (.ref 0), some (.int x1), some (.int x2), some (.int (x3 + (1 : Int32))), none]) rfl ?_
  exact bs_weak (bf_s1 (bf_s1 (bf_s1 (bf_s1 (bf_sn bf_s0))))) (t_X9_named_107 C hR S (x1) (x2) ((x3 + (1 : Int32))) Q B14 hB14 h)
def wp_X9_named_75 (S : bT9) (x1 : Int32) (x2 : Int32) (x3 : Int32) (x4 : Int32) (Q : Int32 → (bT9) → Prop) (B14 : Int32 → Int32 → Int32 → (bT9) → Prop) : Prop := ((¬ x4 = x2 → (wp_X9_named_103 S (x1) (x2) (x3) Q B14)) ∧ (x4 = x2 → ((x2 ≤ 0 → (wp_X9_named_103 S (x1) (x2) (x3) Q B14)) ∧ (¬ x2 ≤ 0 → (vp_in ((x3 + (1 : Int32)) + x4) 57 ∧ ((¬ ((b9g_names S) (((x3 + (1 : Int32)) + x4)).toNatClampNeg) = (32 : Int32) → (wp_X9_named_103 S (x1) (x2) (x3) Q B14)) ∧ (((b9g_names S) (((x3 + (1 : Int32)) + x4)).toNatClampNeg) = (32 : Int32) → (Q x1 S))))))))
set_option maxRecDepth 20000 in
theorem t_X9_named_75 {X : bf_X} (C : bf_C X RX9 cX9_named 5 (some .int)) (hR : bf_Rm X 0 0) (S : bT9) (x1 : Int32) (x2 : Int32) (x3 : Int32) (x4 : Int32) (Q : Int32 → (bT9) → Prop) (B14 : Int32 → Int32 → Int32 → (bT9) → Prop) (hB14 : ∀ (x1 : Int32) (x2 : Int32) (x3 : Int32) (S : bT9), B14 x1 x2 x3 S → bf_A X (bf_Zi X bW9 Q) 5 14 [some (.ref 0), some (.int x1), some (.int x2), some (.int x3), none] [] (bW9 S)) (h : wp_X9_named_75 S x1 x2 x3 x4 Q B14) : bf_A X (bf_Zi X bW9 Q) 5 75 [some (.ref 0), some (.int x1), some (.int x2), some (.int x3), some (.int x4)] [] (bW9 S) := by
  unfold wp_X9_named_75 at h
  refine bs_iload C (bf_dk dd_X9_named 46 rfl) rfl ?_
  refine bs_iload_n C (bf_dk dd_X9_named 47 rfl) rfl ?_
  refine bs_icmp_ne C (bf_dk dd_X9_named 48 rfl) (tgt := 103) rfl (fun c => ?_) (fun c => ?_)
  · replace h := h.1 c
    exact bs_weak (bf_s1 (bf_s1 (bf_s1 (bf_s1 (bf_sn bf_s0))))) (t_X9_named_103 C hR S (x1) (x2) (x3) Q B14 hB14 h)
  · replace h := h.2 c
    refine bs_iload_n C (bf_dk dd_X9_named 49 rfl) rfl ?_
    refine bs_if_le C (bf_dk dd_X9_named 50 rfl) (tgt := 103) rfl (fun c => ?_) (fun c => ?_)
    · replace h := h.1 c
      exact bs_weak (bf_s1 (bf_s1 (bf_s1 (bf_s1 (bf_sn bf_s0))))) (t_X9_named_103 C hR S (x1) (x2) (x3) Q B14 hB14 h)
    · replace h := h.2 c
      refine bs_aload_n C (bf_dk dd_X9_named 51 rfl) rfl ?_
      refine bs_get C (bf_dk dd_X9_named 52 rfl) cl_9 in_9 8 (Nat.le_of_ble_eq_true rfl) rfl f_9_23 (ge_bW9_0 S) rfl ?_
      refine bs_iload_n C (bf_dk dd_X9_named 53 rfl) rfl ?_
      refine bs_iconst C (bf_dk dd_X9_named 54 rfl) (1 : Int32) (by decide) ?_
      refine bs_iadd C (bf_dk dd_X9_named 55 rfl) ?_
      refine bs_iload C (bf_dk dd_X9_named 56 rfl) rfl ?_
      refine bs_iadd C (bf_dk dd_X9_named 57 rfl) ?_
      obtain ⟨hi, h⟩ := h
      refine bs_iald C (bf_dk dd_X9_named 58 rfl) (ge_bW9_5 S) hi ?_
      refine bs_bipush C (bf_dk dd_X9_named 59 rfl) (32 : Int32) (by decide) ?_
      refine bs_icmp_ne C (bf_dk dd_X9_named 60 rfl) (tgt := 103) rfl (fun c => ?_) (fun c => ?_)
      · replace h := h.1 c
        exact bs_weak (bf_s1 (bf_s1 (bf_s1 (bf_s1 (bf_sn bf_s0))))) (t_X9_named_103 C hR S (x1) (x2) (x3) Q B14 hB14 h)
      · replace h := h.2 c
        refine bs_iload_n C (bf_dk dd_X9_named 61 rfl) rfl ?_
        exact bs_iret (u := S) C (bf_dk dd_X9_named 62 rfl) rfl h
def wp_X9_named_27b (S : bT9) (x1 : Int32) (x2 : Int32) (x3 : Int32) (x4 : Int32) (Q : Int32 → (bT9) → Prop) (B14 : Int32 → Int32 → Int32 → (bT9) → Prop) (B27 : Int32 → Int32 → Int32 → Int32 → (bT9) → Prop) : Prop := ((x2 ≤ x4 → (wp_X9_named_75 S (x1) (x2) (x3) (x4) Q B14)) ∧ (¬ x2 ≤ x4 → (vp_in ((x3 + (1 : Int32)) + x4) 57 ∧ (vp_in x4 160 ∧ ((¬ ((b9g_names S) (((x3 + (1 : Int32)) + x4)).toNatClampNeg) = ((b9g_tape S) (x4).toNatClampNeg) → (wp_X9_named_75 S (x1) (x2) (x3) (x4) Q B14)) ∧ (((b9g_names S) (((x3 + (1 : Int32)) + x4)).toNatClampNeg) = ((b9g_tape S) (x4).toNatClampNeg) → (vp_in x4 160 ∧ ((((b9g_tape S) (x4).toNatClampNeg) = (32 : Int32) → (wp_X9_named_75 S (x1) (x2) (x3) (x4) Q B14)) ∧ (¬ ((b9g_tape S) (x4).toNatClampNeg) = (32 : Int32) → (B27 (x1) (x2) (x3) ((x4 + (1 : Int32))) S))))))))))
set_option maxRecDepth 20000 in
theorem t_X9_named_27b {X : bf_X} (C : bf_C X RX9 cX9_named 5 (some .int)) (hR : bf_Rm X 0 0) (S : bT9) (x1 : Int32) (x2 : Int32) (x3 : Int32) (x4 : Int32) (Q : Int32 → (bT9) → Prop) (B14 : Int32 → Int32 → Int32 → (bT9) → Prop) (B27 : Int32 → Int32 → Int32 → Int32 → (bT9) → Prop) (hB14 : ∀ (x1 : Int32) (x2 : Int32) (x3 : Int32) (S : bT9), B14 x1 x2 x3 S → bf_A X (bf_Zi X bW9 Q) 5 14 [some (.ref 0), some (.int x1), some (.int x2), some (.int x3), none] [] (bW9 S)) (hB27 : ∀ (x1 : Int32) (x2 : Int32) (x3 : Int32) (x4 : Int32) (S : bT9), B27 x1 x2 x3 x4 S → bf_A X (bf_Zi X bW9 Q) 5 27 [some (.ref 0), some (.int x1), some (.int x2), some (.int x3), some (.int x4)] [] (bW9 S)) (h : wp_X9_named_27b S x1 x2 x3 x4 Q B14 B27) : bf_A X (bf_Zi X bW9 Q) 5 27 [some (.ref 0), some (.int x1), some (.int x2), some (.int x3), some (.int x4)] [] (bW9 S) := by
  unfold wp_X9_named_27b at h
  refine bs_iload C (bf_dk dd_X9_named 19 rfl) rfl ?_
  refine bs_iload_n C (bf_dk dd_X9_named 20 rfl) rfl ?_
  refine bs_icmp_ge C (bf_dk dd_X9_named 21 rfl) (tgt := 75) rfl (fun c => ?_) (fun c => ?_)
  · replace h := h.1 c
    exact bs_weak (bf_s1 (bf_s1 (bf_s1 (bf_s1 (bf_s1 bf_s0))))) (t_X9_named_75 C hR S (x1) (x2) (x3) (x4) Q B14 hB14 h)
  · replace h := h.2 c
    refine bs_aload_n C (bf_dk dd_X9_named 22 rfl) rfl ?_
    refine bs_get C (bf_dk dd_X9_named 23 rfl) cl_9 in_9 8 (Nat.le_of_ble_eq_true rfl) rfl f_9_23 (ge_bW9_0 S) rfl ?_
    refine bs_iload_n C (bf_dk dd_X9_named 24 rfl) rfl ?_
    refine bs_iconst C (bf_dk dd_X9_named 25 rfl) (1 : Int32) (by decide) ?_
    refine bs_iadd C (bf_dk dd_X9_named 26 rfl) ?_
    refine bs_iload C (bf_dk dd_X9_named 27 rfl) rfl ?_
    refine bs_iadd C (bf_dk dd_X9_named 28 rfl) ?_
    obtain ⟨hi, h⟩ := h
    refine bs_iald C (bf_dk dd_X9_named 29 rfl) (ge_bW9_5 S) hi ?_
    refine bs_aload_n C (bf_dk dd_X9_named 30 rfl) rfl ?_
    refine bs_get C (bf_dk dd_X9_named 31 rfl) cl_9 in_9 6 (Nat.le_of_ble_eq_true rfl) rfl f_9_20 (ge_bW9_0 S) rfl ?_
    refine bs_iload C (bf_dk dd_X9_named 32 rfl) rfl ?_
    obtain ⟨hi, h⟩ := h
    refine bs_iald C (bf_dk dd_X9_named 33 rfl) (ge_bW9_4 S) hi ?_
    refine bs_icmp_ne C (bf_dk dd_X9_named 34 rfl) (tgt := 75) rfl (fun c => ?_) (fun c => ?_)
    · replace h := h.1 c
      exact bs_weak (bf_s1 (bf_s1 (bf_s1 (bf_s1 (bf_s1 bf_s0))))) (t_X9_named_75 C hR S (x1) (x2) (x3) (x4) Q B14 hB14 h)
    · replace h := h.2 c
      refine bs_aload_n C (bf_dk dd_X9_named 35 rfl) rfl ?_
      refine bs_get C (bf_dk dd_X9_named 36 rfl) cl_9 in_9 6 (Nat.le_of_ble_eq_true rfl) rfl f_9_20 (ge_bW9_0 S) rfl ?_
      refine bs_iload C (bf_dk dd_X9_named 37 rfl) rfl ?_
      obtain ⟨hi, h⟩ := h
      refine bs_iald C (bf_dk dd_X9_named 38 rfl) (ge_bW9_4 S) hi ?_
      refine bs_bipush C (bf_dk dd_X9_named 39 rfl) (32 : Int32) (by decide) ?_
      refine bs_icmp_eq C (bf_dk dd_X9_named 40 rfl) (tgt := 75) rfl (fun c => ?_) (fun c => ?_)
      · replace h := h.1 c
        exact bs_weak (bf_s1 (bf_s1 (bf_s1 (bf_s1 (bf_s1 bf_s0))))) (t_X9_named_75 C hR S (x1) (x2) (x3) (x4) Q B14 hB14 h)
      · replace h := h.2 c
        refine bs_iload C (bf_dk dd_X9_named 41 rfl) rfl ?_
        refine bs_iconst C (bf_dk dd_X9_named 42 rfl) (1 : Int32) (by decide) ?_
        refine bs_iadd C (bf_dk dd_X9_named 43 rfl) ?_
        refine bs_istore C (bf_dk dd_X9_named 44 rfl) (Nat.le_of_ble_eq_true rfl) (Nat.le_of_ble_eq_true rfl) (lv2 := [some (.ref 0), some (.int x1), some (.int x2), some (.int x3), some (.int (x4 + (1 : Int32)))]) rfl ?_
        refine bs_goto C (bf_dk dd_X9_named 45 rfl) (tgt := 27) rfl ?_
        exact bs_weak (bf_s1 (bf_s1 (bf_s1 (bf_s1 (bf_s1 bf_s0))))) (hB27 (x1) (x2) (x3) ((x4 + (1 : Int32))) S h)
def wp_X9_named_27 (S : bT9) (x1 : Int32) (x2 : Int32) (x3 : Int32) (x4 : Int32) (Q : Int32 → (bT9) → Prop) (B14 : Int32 → Int32 → Int32 → (bT9) → Prop) : Prop := ∃ I : Nat → Int32 → Int32 → Int32 → Int32 → (bT9) → Prop, (∃ n : Nat, I n x1 x2 x3 x4 S) ∧ ∀ (n : Nat) (x1 : Int32) (x2 : Int32) (x3 : Int32) (x4 : Int32) (S : bT9), I n x1 x2 x3 x4 S → wp_X9_named_27b S x1 x2 x3 x4 Q B14 (fun x1 x2 x3 x4 S => ∃ n2 : Nat, n2 < n ∧ I n2 x1 x2 x3 x4 S)
theorem t_X9_named_27 {X : bf_X} (C : bf_C X RX9 cX9_named 5 (some .int)) (hR : bf_Rm X 0 0) (S : bT9) (x1 : Int32) (x2 : Int32) (x3 : Int32) (x4 : Int32) (Q : Int32 → (bT9) → Prop) (B14 : Int32 → Int32 → Int32 → (bT9) → Prop) (hB14 : ∀ (x1 : Int32) (x2 : Int32) (x3 : Int32) (S : bT9), B14 x1 x2 x3 S → bf_A X (bf_Zi X bW9 Q) 5 14 [some (.ref 0), some (.int x1), some (.int x2), some (.int x3), none] [] (bW9 S)) (h : wp_X9_named_27 S x1 x2 x3 x4 Q B14) : bf_A X (bf_Zi X bW9 Q) 5 27 [some (.ref 0), some (.int x1), some (.int x2), some (.int x3), some (.int x4)] [] (bW9 S) := by
  obtain ⟨I, ⟨n0, h0⟩, hI⟩ := h
  have key : ∀ (n : Nat) (x1 : Int32) (x2 : Int32) (x3 : Int32) (x4 : Int32) (S : bT9), I n x1 x2 x3 x4 S → bf_A X (bf_Zi X bW9 Q) 5 27 [some (.ref 0), some (.int x1), some (.int x2), some (.int x3), some (.int x4)] [] (bW9 S) := by
    intro n
    induction n using Nat.strongRecOn with
    | _ n ih =>
      intro x1 x2 x3 x4 S hi
      exact t_X9_named_27b C hR S x1 x2 x3 x4 Q B14 _ hB14 (fun x1 x2 x3 x4 S hb => by obtain ⟨n2, hn, hi2⟩ := hb; exact ih n2 hn x1 x2 x3 x4 S hi2) (hI n x1 x2 x3 x4 S hi)
  exact key n0 x1 x2 x3 x4 S h0
def wp_X9_named_14b (S : bT9) (x1 : Int32) (x2 : Int32) (x3 : Int32) (Q : Int32 → (bT9) → Prop) (B14 : Int32 → Int32 → Int32 → (bT9) → Prop) : Prop := (((56 : Int32) ≤ x3 → (Q (-1 : Int32) S)) ∧ (¬ (56 : Int32) ≤ x3 → (wp_X9_named_27 S ((x1 + (1 : Int32))) (x2) (x3) ((0 : Int32)) Q B14)))
set_option maxRecDepth 20000 in
theorem t_X9_named_14b {X : bf_X} (C : bf_C X RX9 cX9_named 5 (some .int)) (hR : bf_Rm X 0 0) (S : bT9) (x1 : Int32) (x2 : Int32) (x3 : Int32) (Q : Int32 → (bT9) → Prop) (B14 : Int32 → Int32 → Int32 → (bT9) → Prop) (hB14 : ∀ (x1 : Int32) (x2 : Int32) (x3 : Int32) (S : bT9), B14 x1 x2 x3 S → bf_A X (bf_Zi X bW9 Q) 5 14 [some (.ref 0), some (.int x1), some (.int x2), some (.int x3), none] [] (bW9 S)) (h : wp_X9_named_14b S x1 x2 x3 Q B14) : bf_A X (bf_Zi X bW9 Q) 5 14 [some (.ref 0), some (.int x1), some (.int x2), some (.int x3), none] [] (bW9 S) := by
  unfold wp_X9_named_14b at h
  refine bs_iload_n C (bf_dk dd_X9_named 10 rfl) rfl ?_
  refine bs_bipush C (bf_dk dd_X9_named 11 rfl) (56 : Int32) (by decide) ?_
  refine bs_icmp_ge C (bf_dk dd_X9_named 12 rfl) (tgt := 128) rfl (fun c => ?_) (fun c => ?_)
  · replace h := h.1 c
    refine bs_iconst C (bf_dk dd_X9_named 79 rfl) (-1 : Int32) (by decide) ?_
    exact bs_iret (u := S) C (bf_dk dd_X9_named 80 rfl) rfl h
  · replace h := h.2 c
    refine bs_iconst C (bf_dk dd_X9_named 13 rfl) (0 : Int32) (by decide) ?_
    refine bs_istore C (bf_dk dd_X9_named 14 rfl) (Nat.le_of_ble_eq_true rfl) (Nat.le_of_ble_eq_true rfl) (lv2 := [some (.ref 0), some (.int x1), some (.int x2), some (.int x3), some (.int (0 : Int32))]) rfl ?_
    refine bs_iload_n C (bf_dk dd_X9_named 15 rfl) rfl ?_
    refine bs_iconst C (bf_dk dd_X9_named 16 rfl) (1 : Int32) (by decide) ?_
    refine bs_iadd C (bf_dk dd_X9_named 17 rfl) ?_
    refine bs_istore_n C (bf_dk dd_X9_named 18 rfl) rfl (Nat.le_of_ble_eq_true rfl) (Nat.le_of_ble_eq_true rfl) (lv2 := [some (.ref 0), some (.int (x1 + (1 : Int32))), some (.int x2), some (.int x3), some (.int (0 : Int32))]) rfl ?_
    exact bs_weak (bf_s1 (bf_s1 (bf_s1 (bf_s1 (bf_s1 bf_s0))))) (t_X9_named_27 C hR S ((x1 + (1 : Int32))) (x2) (x3) ((0 : Int32)) Q B14 hB14 h)
def wp_X9_named_14 (S : bT9) (x1 : Int32) (x2 : Int32) (x3 : Int32) (Q : Int32 → (bT9) → Prop) : Prop := ∃ I : Nat → Int32 → Int32 → Int32 → (bT9) → Prop, (∃ n : Nat, I n x1 x2 x3 S) ∧ ∀ (n : Nat) (x1 : Int32) (x2 : Int32) (x3 : Int32) (S : bT9), I n x1 x2 x3 S → wp_X9_named_14b S x1 x2 x3 Q (fun x1 x2 x3 S => ∃ n2 : Nat, n2 < n ∧ I n2 x1 x2 x3 S)
theorem t_X9_named_14 {X : bf_X} (C : bf_C X RX9 cX9_named 5 (some .int)) (hR : bf_Rm X 0 0) (S : bT9) (x1 : Int32) (x2 : Int32) (x3 : Int32) (Q : Int32 → (bT9) → Prop) (h : wp_X9_named_14 S x1 x2 x3 Q) : bf_A X (bf_Zi X bW9 Q) 5 14 [some (.ref 0), some (.int x1), some (.int x2), some (.int x3), none] [] (bW9 S) := by
  obtain ⟨I, ⟨n0, h0⟩, hI⟩ := h
  have key : ∀ (n : Nat) (x1 : Int32) (x2 : Int32) (x3 : Int32) (S : bT9), I n x1 x2 x3 S → bf_A X (bf_Zi X bW9 Q) 5 14 [some (.ref 0), some (.int x1), some (.int x2), some (.int x3), none] [] (bW9 S) := by
    intro n
    induction n using Nat.strongRecOn with
    | _ n ih =>
      intro x1 x2 x3 S hi
      exact t_X9_named_14b C hR S x1 x2 x3 Q _ (fun x1 x2 x3 S hb => by obtain ⟨n2, hn, hi2⟩ := hb; exact ih n2 hn x1 x2 x3 S hi2) (hI n x1 x2 x3 S hi)
  exact key n0 x1 x2 x3 S h0
def wp_X9_named (S : bT9) (Q : Int32 → (bT9) → Prop) : Prop := (∀ S1 : bT9, S1 = (b9s_taped S (0 : Int32)) → (wp_X9_named_14 S1 ((-1 : Int32)) ((b9g_taped S)) ((0 : Int32)) Q))
set_option maxRecDepth 20000 in
theorem t_X9_named {X : bf_X} (C : bf_C X RX9 cX9_named 5 (some .int)) (hR : bf_Rm X 0 0) (S : bT9) (Q : Int32 → (bT9) → Prop) (h : wp_X9_named S Q) : bf_A X (bf_Zi X bW9 Q) 5 0 [some (.ref 0), none, none, none, none] [] (bW9 S) := by
  unfold wp_X9_named at h
  refine bs_iconst C (bf_dk dd_X9_named 0 rfl) (-1 : Int32) (by decide) ?_
  refine bs_istore_n C (bf_dk dd_X9_named 1 rfl) rfl (Nat.le_of_ble_eq_true rfl) (Nat.le_of_ble_eq_true rfl) (lv2 := [some (.ref 0), some (.int (-1 : Int32)), none, none, none]) rfl ?_
  refine bs_aload_n C (bf_dk dd_X9_named 2 rfl) rfl ?_
  refine bs_get C (bf_dk dd_X9_named 3 rfl) cl_9 in_9 7 (Nat.le_of_ble_eq_true rfl) rfl f_9_146 (ge_bW9_0 S) rfl ?_
  refine bs_istore_n C (bf_dk dd_X9_named 4 rfl) rfl (Nat.le_of_ble_eq_true rfl) (Nat.le_of_ble_eq_true rfl) (lv2 := [some (.ref 0), some (.int (-1 : Int32)), some (.int (b9g_taped S)), none, none]) rfl ?_
  refine bs_iconst C (bf_dk dd_X9_named 5 rfl) (0 : Int32) (by decide) ?_
  refine bs_istore_n C (bf_dk dd_X9_named 6 rfl) rfl (Nat.le_of_ble_eq_true rfl) (Nat.le_of_ble_eq_true rfl) (lv2 := [some (.ref 0), some (.int (-1 : Int32)), some (.int (b9g_taped S)), some (.int (0 : Int32)), none]) rfl ?_
  refine bs_aload_n C (bf_dk dd_X9_named 7 rfl) rfl ?_
  refine bs_iconst C (bf_dk dd_X9_named 8 rfl) (0 : Int32) (by decide) ?_
  refine bs_put C (bf_dk dd_X9_named 9 rfl) tyX9_ok nmX9 cl_9 in_9 7 (Nat.le_of_ble_eq_true rfl) rfl f_9_146 rfl (ge_bW9_0 S) (Nat.le_of_ble_eq_true rfl) rfl rfl (pu_bW9_0_7 S (0 : Int32)) ?_
  refine bs_nameS bW9 (fun S1 eS1 => ?_)
  replace h := h S1 eS1
  exact bs_weak (bf_s1 (bf_s1 (bf_s1 (bf_s1 (bf_sn bf_s0))))) (t_X9_named_14 C hR S1 ((-1 : Int32)) ((b9g_taped S)) ((0 : Int32)) Q h)
theorem c_X9_named (l : Launch) (dC : Nat → ClassId) (dI : Nat → Nat → Nat) (ac : Nat → ClassId) (al : Nat → Nat) (S : bT9) (Q : Int32 → (bT9) → Prop) (h : wp_X9_named S Q) : bf_M l yX9_named cX9_named 5 (some .int) 0 0 dC dI ac al [.ref 0] (bW9 S) (bf_Ki dC dI ac al bW9 Q) := by
  refine bf_start [some (.ref 0), none, none, none, none] (by decide) (Nat.le_of_ble_eq_true rfl) (bf_s1 (bf_en 4)) ?_
  intro X hl C hR e1 e2 e3 e4
  subst e1; subst e2; subst e3; subst e4
  exact t_X9_named C hR S Q h
def wp_X9_mode (S : bT9) (Q : Int32 → (bT9) → Prop) : Prop := (∀ S1 : bT9, S1 = (b9s_told S (0 : Int32)) → (wp_X9_named S1 (fun r2 u3 => (wp_X9_isIn u3 (r2) ((0 : Int32)) ((3 : Int32)) (fun r4 => ((¬ r4 = 0 → (vp_in (6 : Int32) 23 ∧ (∀ S6 : bT9, S6 = (b9s_now u3 (upd (b9g_now u3) ((6 : Int32)).toNatClampNeg r2)) → (Q r2 S6)))) ∧ (r4 = 0 → (Q (-1 : Int32) u3))))))))
set_option maxRecDepth 20000 in
theorem t_X9_mode {X : bf_X} (C : bf_C X RX9 cX9_mode 2 (some .int)) (hR : bf_Rm X 1 24) (S : bT9) (Q : Int32 → (bT9) → Prop) (h : wp_X9_mode S Q) : bf_A X (bf_Zi X bW9 Q) 2 0 [some (.ref 0), none] [] (bW9 S) := by
  unfold wp_X9_mode at h
  refine bs_aload_n C (bf_dk dd_X9_mode 0 rfl) rfl ?_
  refine bs_iconst C (bf_dk dd_X9_mode 1 rfl) (0 : Int32) (by decide) ?_
  refine bs_put C (bf_dk dd_X9_mode 2 rfl) tyX9_ok nmX9 cl_9 in_9 0 (Nat.le_of_ble_eq_true rfl) rfl f_9_75 rfl (ge_bW9_0 S) (Nat.le_of_ble_eq_true rfl) rfl rfl (pu_bW9_0_0 S (0 : Int32)) ?_
  refine bs_nameS bW9 (fun S1 eS1 => ?_)
  replace h := h S1 eS1
  refine bs_aload_n C (bf_dk dd_X9_mode 3 rfl) rfl ?_
  refine bs_selfV_i C hR (c_X9_named _ _ _ _ _ S1 _ h) my_X9_named m_9_152 rfl cl_9 (ge_bW9_0 _) rfl (Nat.le_of_ble_eq_true rfl) (Nat.le_of_ble_eq_true rfl) (st := []) (Nat.le_of_ble_eq_true rfl) (bf_dk dd_X9_mode 4 rfl) rfl (len := 21) (fun _ => rfl) (fun r2 u3 h => ?_)
  refine bs_istore_n C (bf_dk dd_X9_mode 5 rfl) rfl (Nat.le_of_ble_eq_true rfl) (Nat.le_of_ble_eq_true rfl) (lv2 := [some (.ref 0), some (.int r2)]) rfl ?_
  refine bs_aload_n C (bf_dk dd_X9_mode 6 rfl) rfl ?_
  refine bs_iload_n C (bf_dk dd_X9_mode 7 rfl) rfl ?_
  refine bs_iconst C (bf_dk dd_X9_mode 8 rfl) (0 : Int32) (by decide) ?_
  refine bs_iconst C (bf_dk dd_X9_mode 9 rfl) (3 : Int32) (by decide) ?_
  refine bs_selfPV_i C hR (c_X9_isIn _ _ _ _ _ u3 (r2) ((0 : Int32)) ((3 : Int32)) _ h) my_X9_isIn m_9_82 rfl cl_9 (ge_bW9_0 _) rfl (Nat.le_of_ble_eq_true rfl) (Nat.le_of_ble_eq_true rfl) (st := []) (Nat.le_of_ble_eq_true rfl) (bf_dk dd_X9_mode 10 rfl) rfl (fun r4 h => ?_)
  refine bs_if_ne C (bf_dk dd_X9_mode 11 rfl) (tgt := 22) rfl (fun c => ?_) (fun c => ?_)
  · replace h := h.1 c
    refine bs_aload_n C (bf_dk dd_X9_mode 14 rfl) rfl ?_
    refine bs_get C (bf_dk dd_X9_mode 15 rfl) cl_9 in_9 1 (Nat.le_of_ble_eq_true rfl) rfl f_9_7 (ge_bW9_0 u3) rfl ?_
    refine bs_bipush C (bf_dk dd_X9_mode 16 rfl) (6 : Int32) (by decide) ?_
    refine bs_iload_n C (bf_dk dd_X9_mode 17 rfl) rfl ?_
    obtain ⟨hi, h⟩ := h
    refine bs_iast C (bf_dk dd_X9_mode 18 rfl) (ge_bW9_1 u3) hi (ar_bW9_1 u3 _) ?_
    refine bs_nameS bW9 (fun S6 eS6 => ?_)
    replace h := h S6 eS6
    refine bs_iload_n C (bf_dk dd_X9_mode 19 rfl) rfl ?_
    exact bs_iret (u := S6) C (bf_dk dd_X9_mode 20 rfl) rfl h
  · replace h := h.2 c
    refine bs_iconst C (bf_dk dd_X9_mode 12 rfl) (-1 : Int32) (by decide) ?_
    exact bs_iret (u := u3) C (bf_dk dd_X9_mode 13 rfl) rfl h
theorem c_X9_mode (l : Launch) (dC : Nat → ClassId) (dI : Nat → Nat → Nat) (ac : Nat → ClassId) (al : Nat → Nat) (S : bT9) (Q : Int32 → (bT9) → Prop) (h : wp_X9_mode S Q) : bf_M l yX9_mode cX9_mode 2 (some .int) 1 24 dC dI ac al [.ref 0] (bW9 S) (bf_Ki dC dI ac al bW9 Q) := by
  refine bf_start [some (.ref 0), none] (by decide) (Nat.le_of_ble_eq_true rfl) (bf_s1 (bf_en 1)) ?_
  intro X hl C hR e1 e2 e3 e4
  subst e1; subst e2; subst e3; subst e4
  exact t_X9_mode C hR S Q h
def wp_X9_row (S : bT9) (Q : Int32 → (bT9) → Prop) : Prop := (∀ S1 : bT9, S1 = (b9s_told S (0 : Int32)) → (wp_X9_named S1 (fun r2 u3 => (((4 : Int32) ≤ r2 → (∀ S4 : bT9, S4 = (b9s_chosen u3 (r2 - (4 : Int32))) → (Q (b9g_chosen S4) S4))) ∧ (¬ (4 : Int32) ≤ r2 → (Q (-1 : Int32) u3))))))
set_option maxRecDepth 20000 in
theorem t_X9_row {X : bf_X} (C : bf_C X RX9 cX9_row 2 (some .int)) (hR : bf_Rm X 1 24) (S : bT9) (Q : Int32 → (bT9) → Prop) (h : wp_X9_row S Q) : bf_A X (bf_Zi X bW9 Q) 2 0 [some (.ref 0), none] [] (bW9 S) := by
  unfold wp_X9_row at h
  refine bs_aload_n C (bf_dk dd_X9_row 0 rfl) rfl ?_
  refine bs_iconst C (bf_dk dd_X9_row 1 rfl) (0 : Int32) (by decide) ?_
  refine bs_put C (bf_dk dd_X9_row 2 rfl) tyX9_ok nmX9 cl_9 in_9 0 (Nat.le_of_ble_eq_true rfl) rfl f_9_75 rfl (ge_bW9_0 S) (Nat.le_of_ble_eq_true rfl) rfl rfl (pu_bW9_0_0 S (0 : Int32)) ?_
  refine bs_nameS bW9 (fun S1 eS1 => ?_)
  replace h := h S1 eS1
  refine bs_aload_n C (bf_dk dd_X9_row 3 rfl) rfl ?_
  refine bs_selfV_i C hR (c_X9_named _ _ _ _ _ S1 _ h) my_X9_named m_9_152 rfl cl_9 (ge_bW9_0 _) rfl (Nat.le_of_ble_eq_true rfl) (Nat.le_of_ble_eq_true rfl) (st := []) (Nat.le_of_ble_eq_true rfl) (bf_dk dd_X9_row 4 rfl) rfl (len := 21) (fun _ => rfl) (fun r2 u3 h => ?_)
  refine bs_istore_n C (bf_dk dd_X9_row 5 rfl) rfl (Nat.le_of_ble_eq_true rfl) (Nat.le_of_ble_eq_true rfl) (lv2 := [some (.ref 0), some (.int r2)]) rfl ?_
  refine bs_iload_n C (bf_dk dd_X9_row 6 rfl) rfl ?_
  refine bs_iconst C (bf_dk dd_X9_row 7 rfl) (4 : Int32) (by decide) ?_
  refine bs_icmp_ge C (bf_dk dd_X9_row 8 rfl) (tgt := 17) rfl (fun c => ?_) (fun c => ?_)
  · replace h := h.1 c
    refine bs_aload_n C (bf_dk dd_X9_row 11 rfl) rfl ?_
    refine bs_iload_n C (bf_dk dd_X9_row 12 rfl) rfl ?_
    refine bs_iconst C (bf_dk dd_X9_row 13 rfl) (4 : Int32) (by decide) ?_
    refine bs_isub C (bf_dk dd_X9_row 14 rfl) ?_
    refine bs_put C (bf_dk dd_X9_row 15 rfl) tyX9_ok nmX9 cl_9 in_9 9 (Nat.le_of_ble_eq_true rfl) rfl f_9_156 rfl (ge_bW9_0 u3) (Nat.le_of_ble_eq_true rfl) rfl rfl (pu_bW9_0_9 u3 (r2 - (4 : Int32))) ?_
    refine bs_nameS bW9 (fun S4 eS4 => ?_)
    replace h := h S4 eS4
    refine bs_aload_n C (bf_dk dd_X9_row 16 rfl) rfl ?_
    refine bs_get C (bf_dk dd_X9_row 17 rfl) cl_9 in_9 9 (Nat.le_of_ble_eq_true rfl) rfl f_9_156 (ge_bW9_0 S4) rfl ?_
    exact bs_iret (u := S4) C (bf_dk dd_X9_row 18 rfl) rfl h
  · replace h := h.2 c
    refine bs_iconst C (bf_dk dd_X9_row 9 rfl) (-1 : Int32) (by decide) ?_
    exact bs_iret (u := u3) C (bf_dk dd_X9_row 10 rfl) rfl h
theorem c_X9_row (l : Launch) (dC : Nat → ClassId) (dI : Nat → Nat → Nat) (ac : Nat → ClassId) (al : Nat → Nat) (S : bT9) (Q : Int32 → (bT9) → Prop) (h : wp_X9_row S Q) : bf_M l yX9_row cX9_row 2 (some .int) 1 24 dC dI ac al [.ref 0] (bW9 S) (bf_Ki dC dI ac al bW9 Q) := by
  refine bf_start [some (.ref 0), none] (by decide) (Nat.le_of_ble_eq_true rfl) (bf_s1 (bf_en 1)) ?_
  intro X hl C hR e1 e2 e3 e4
  subst e1; subst e2; subst e3; subst e4
  exact t_X9_row C hR S Q h
def wp_X9_tapedKey_5b (S : bT9) (x1 : Int32) (x2 : Int32) (x3 : Int64) (x5 : Int32) (Q : Int64 → Prop) (B5 : Int32 → Int32 → Int64 → Int32 → Prop) : Prop := ((x2 ≤ x5 → (Q x3)) ∧ (¬ x2 ≤ x5 → (vp_in (x1 + x5) 160 ∧ (∀ v1 : Int64, v1 = (x3 ||| ((((b9g_tape S) ((x1 + x5)).toNatClampNeg)).toInt64 <<< ((((56 : Int32) - ((8 : Int32) * x5))).toInt64 &&& 63))) → (B5 (x1) (x2) (v1) ((x5 + (1 : Int32))))))))
set_option maxRecDepth 20000 in
theorem t_X9_tapedKey_5b {X : bf_X} (C : bf_C X RX9 cX9_tapedKey 6 (some .long)) (hR : bf_Rm X 0 0) (S : bT9) (x1 : Int32) (x2 : Int32) (x3 : Int64) (x5 : Int32) (Q : Int64 → Prop) (B5 : Int32 → Int32 → Int64 → Int32 → Prop) (hB5 : ∀ (x1 : Int32) (x2 : Int32) (x3 : Int64) (x5 : Int32), B5 x1 x2 x3 x5 → bf_A X (bf_Zl X bW9 (fun r u => u = S ∧ Q r)) 6 5 [some (.ref 0), some (.int x1), some (.int x2), some (.long x3), none, some (.int x5)] [] (bW9 S)) (h : wp_X9_tapedKey_5b S x1 x2 x3 x5 Q B5) : bf_A X (bf_Zl X bW9 (fun r u => u = S ∧ Q r)) 6 5 [some (.ref 0), some (.int x1), some (.int x2), some (.long x3), none, some (.int x5)] [] (bW9 S) := by
  unfold wp_X9_tapedKey_5b at h
  refine bs_iload C (bf_dk dd_X9_tapedKey 4 rfl) rfl ?_
  refine bs_iload_n C (bf_dk dd_X9_tapedKey 5 rfl) rfl ?_
  refine bs_icmp_ge C (bf_dk dd_X9_tapedKey 6 rfl) (tgt := 39) rfl (fun c => ?_) (fun c => ?_)
  · replace h := h.1 c
    refine bs_lload_n C (bf_dk dd_X9_tapedKey 25 rfl) rfl ?_
    exact bs_lret (u := S) C (bf_dk dd_X9_tapedKey 26 rfl) rfl ⟨rfl, h⟩
  · replace h := h.2 c
    refine bs_lload_n C (bf_dk dd_X9_tapedKey 7 rfl) rfl ?_
    refine bs_aload_n C (bf_dk dd_X9_tapedKey 8 rfl) rfl ?_
    refine bs_get C (bf_dk dd_X9_tapedKey 9 rfl) cl_9 in_9 6 (Nat.le_of_ble_eq_true rfl) rfl f_9_20 (ge_bW9_0 S) rfl ?_
    refine bs_iload_n C (bf_dk dd_X9_tapedKey 10 rfl) rfl ?_
    refine bs_iload C (bf_dk dd_X9_tapedKey 11 rfl) rfl ?_
    refine bs_iadd C (bf_dk dd_X9_tapedKey 12 rfl) ?_
    obtain ⟨hi, h⟩ := h
    refine bs_iald C (bf_dk dd_X9_tapedKey 13 rfl) (ge_bW9_4 S) hi ?_
    refine bs_i2l C (bf_dk dd_X9_tapedKey 14 rfl) ?_
    refine bs_bipush C (bf_dk dd_X9_tapedKey 15 rfl) (56 : Int32) (by decide) ?_
    refine bs_bipush C (bf_dk dd_X9_tapedKey 16 rfl) (8 : Int32) (by decide) ?_
    refine bs_iload C (bf_dk dd_X9_tapedKey 17 rfl) rfl ?_
    refine bs_imul C (bf_dk dd_X9_tapedKey 18 rfl) ?_
    refine bs_isub C (bf_dk dd_X9_tapedKey 19 rfl) ?_
    refine bs_lshl C (bf_dk dd_X9_tapedKey 20 rfl) ?_
    refine bs_lor C (bf_dk dd_X9_tapedKey 21 rfl) ?_
    refine bs_nameL (fun v1 ev1 => ?_)
    replace h := h v1 ev1
    refine bs_lstore_n C (bf_dk dd_X9_tapedKey 22 rfl) rfl (Nat.le_of_ble_eq_true rfl) (Nat.le_of_ble_eq_true rfl) (lv2 := [some (.ref 0), some (.int x1), some (.int x2), some (.long v1), none, some (.int x5)]) rfl ?_
    refine bs_iinc C (bf_dk dd_X9_tapedKey 23 rfl) (x5 + (1 : Int32)) rfl rfl (Nat.le_of_ble_eq_true rfl) (Nat.le_of_ble_eq_true rfl) (lv2 := [some (.ref 0), some (.int x1), some (.int x2), some (.long v1), none, some (.int (x5 + (1 : Int32)))]) rfl ?_
    refine bs_goto C (bf_dk dd_X9_tapedKey 24 rfl) (tgt := 5) rfl ?_
    exact bs_weak (bf_s1 (bf_s1 (bf_s1 (bf_s1 (bf_sn (bf_s1 bf_s0)))))) (hB5 (x1) (x2) (v1) ((x5 + (1 : Int32))) h)
def wp_X9_tapedKey_5 (S : bT9) (x1 : Int32) (x2 : Int32) (x3 : Int64) (x5 : Int32) (Q : Int64 → Prop) : Prop := ∃ I : Nat → Int32 → Int32 → Int64 → Int32 → Prop, (∃ n : Nat, I n x1 x2 x3 x5) ∧ ∀ (n : Nat) (x1 : Int32) (x2 : Int32) (x3 : Int64) (x5 : Int32), I n x1 x2 x3 x5 → wp_X9_tapedKey_5b S x1 x2 x3 x5 Q (fun x1 x2 x3 x5 => ∃ n2 : Nat, n2 < n ∧ I n2 x1 x2 x3 x5)
theorem t_X9_tapedKey_5 {X : bf_X} (C : bf_C X RX9 cX9_tapedKey 6 (some .long)) (hR : bf_Rm X 0 0) (S : bT9) (x1 : Int32) (x2 : Int32) (x3 : Int64) (x5 : Int32) (Q : Int64 → Prop) (h : wp_X9_tapedKey_5 S x1 x2 x3 x5 Q) : bf_A X (bf_Zl X bW9 (fun r u => u = S ∧ Q r)) 6 5 [some (.ref 0), some (.int x1), some (.int x2), some (.long x3), none, some (.int x5)] [] (bW9 S) := by
  obtain ⟨I, ⟨n0, h0⟩, hI⟩ := h
  have key : ∀ (n : Nat) (x1 : Int32) (x2 : Int32) (x3 : Int64) (x5 : Int32), I n x1 x2 x3 x5 → bf_A X (bf_Zl X bW9 (fun r u => u = S ∧ Q r)) 6 5 [some (.ref 0), some (.int x1), some (.int x2), some (.long x3), none, some (.int x5)] [] (bW9 S) := by
    intro n
    induction n using Nat.strongRecOn with
    | _ n ih =>
      intro x1 x2 x3 x5 hi
      exact t_X9_tapedKey_5b C hR S x1 x2 x3 x5 Q _ (fun x1 x2 x3 x5 hb => by obtain ⟨n2, hn, hi2⟩ := hb; exact ih n2 hn x1 x2 x3 x5 hi2) (hI n x1 x2 x3 x5 hi)
  exact key n0 x1 x2 x3 x5 h0
def wp_X9_tapedKey (S : bT9) (a1 : Int32) (a2 : Int32) (Q : Int64 → Prop) : Prop := (wp_X9_tapedKey_5 S (a1) (a2) ((0 : Int64)) ((0 : Int32)) Q)
set_option maxRecDepth 20000 in
theorem t_X9_tapedKey {X : bf_X} (C : bf_C X RX9 cX9_tapedKey 6 (some .long)) (hR : bf_Rm X 0 0) (S : bT9) (a1 : Int32) (a2 : Int32) (Q : Int64 → Prop) (h : wp_X9_tapedKey S a1 a2 Q) : bf_A X (bf_Zl X bW9 (fun r u => u = S ∧ Q r)) 6 0 [some (.ref 0), some (.int a1), some (.int a2), none, none, none] [] (bW9 S) := by
  unfold wp_X9_tapedKey at h
  refine bs_lconst C (bf_dk dd_X9_tapedKey 0 rfl) (0 : Int64) (by decide) ?_
  refine bs_lstore_n C (bf_dk dd_X9_tapedKey 1 rfl) rfl (Nat.le_of_ble_eq_true rfl) (Nat.le_of_ble_eq_true rfl) (lv2 := [some (.ref 0), some (.int a1), some (.int a2), some (.long (0 : Int64)), none, none]) rfl ?_
  refine bs_iconst C (bf_dk dd_X9_tapedKey 2 rfl) (0 : Int32) (by decide) ?_
  refine bs_istore C (bf_dk dd_X9_tapedKey 3 rfl) (Nat.le_of_ble_eq_true rfl) (Nat.le_of_ble_eq_true rfl) (lv2 := [some (.ref 0), some (.int a1), some (.int a2), some (.long (0 : Int64)), none, some (.int (0 : Int32))]) rfl ?_
  exact bs_weak (bf_s1 (bf_s1 (bf_s1 (bf_s1 (bf_sn (bf_s1 bf_s0)))))) (t_X9_tapedKey_5 C hR S (a1) (a2) ((0 : Int64)) ((0 : Int32)) Q h)
theorem c_X9_tapedKey (l : Launch) (dC : Nat → ClassId) (dI : Nat → Nat → Nat) (ac : Nat → ClassId) (al : Nat → Nat) (S : bT9) (a1 : Int32) (a2 : Int32) (Q : Int64 → Prop) (h : wp_X9_tapedKey S a1 a2 Q) : bf_M l yX9_tapedKey cX9_tapedKey 6 (some .long) 0 0 dC dI ac al [.ref 0, .int a1, .int a2] (bW9 S) (bf_Kl dC dI ac al bW9 (fun r u => u = S ∧ Q r)) := by
  refine bf_start [some (.ref 0), some (.int a1), some (.int a2), none, none, none] (by decide) (Nat.le_of_ble_eq_true rfl) (bf_s1 (bf_s1 (bf_s1 (bf_en 3)))) ?_
  intro X hl C hR e1 e2 e3 e4
  subst e1; subst e2; subst e3; subst e4
  exact t_X9_tapedKey C hR S a1 a2 Q h
def wp_X9_areKeys_2b (S : bT9) (x1 : Int32) (x2 : Int32) (Q : Int32 → Prop) (B2 : Int32 → Int32 → Prop) : Prop := ((x1 ≤ x2 → ((¬ x2 = x1 → (bf_bool (0 : Int32) ∧ Q (0 : Int32))) ∧ (x2 = x1 → (bf_bool (1 : Int32) ∧ Q (1 : Int32))))) ∧ (¬ x1 ≤ x2 → (vp_in x2 160 ∧ (wp_X9_isKey S (((b9g_tape S) (x2).toNatClampNeg)) (fun r1 => ((¬ r1 = 0 → (vp_in x2 160 ∧ (B2 (x1) (((x2 + (1 : Int32)) + ((b9g_tape S) (x2).toNatClampNeg)))))) ∧ (r1 = 0 → (bf_bool (0 : Int32) ∧ Q (0 : Int32)))))))))
set_option maxRecDepth 20000 in
theorem t_X9_areKeys_2b {X : bf_X} (C : bf_C X RX9 cX9_areKeys 3 (some .boolean)) (hR : bf_Rm X 2 44) (S : bT9) (x1 : Int32) (x2 : Int32) (Q : Int32 → Prop) (B2 : Int32 → Int32 → Prop) (hB2 : ∀ (x1 : Int32) (x2 : Int32), B2 x1 x2 → bf_A X (bf_Zi X bW9 (fun r u => u = S ∧ Q r)) 3 2 [some (.ref 0), some (.int x1), some (.int x2)] [] (bW9 S)) (h : wp_X9_areKeys_2b S x1 x2 Q B2) : bf_A X (bf_Zi X bW9 (fun r u => u = S ∧ Q r)) 3 2 [some (.ref 0), some (.int x1), some (.int x2)] [] (bW9 S) := by
  unfold wp_X9_areKeys_2b at h
  refine bs_iload_n C (bf_dk dd_X9_areKeys 2 rfl) rfl ?_
  refine bs_iload_n C (bf_dk dd_X9_areKeys 3 rfl) rfl ?_
  refine bs_icmp_ge C (bf_dk dd_X9_areKeys 4 rfl) (tgt := 36) rfl (fun c => ?_) (fun c => ?_)
  · replace h := h.1 c
    refine bs_iload_n C (bf_dk dd_X9_areKeys 24 rfl) rfl ?_
    refine bs_iload_n C (bf_dk dd_X9_areKeys 25 rfl) rfl ?_
    refine bs_icmp_ne C (bf_dk dd_X9_areKeys 26 rfl) (tgt := 45) rfl (fun c => ?_) (fun c => ?_)
    · replace h := h.1 c
      refine bs_iconst C (bf_dk dd_X9_areKeys 29 rfl) (0 : Int32) (by decide) ?_
      obtain ⟨hi, h⟩ := h
      exact bs_zret (u := S) C (bf_dk dd_X9_areKeys 30 rfl) hi rfl ⟨rfl, h⟩
    · replace h := h.2 c
      refine bs_iconst C (bf_dk dd_X9_areKeys 27 rfl) (1 : Int32) (by decide) ?_
      refine bs_goto C (bf_dk dd_X9_areKeys 28 rfl) (tgt := 46) rfl ?_
      obtain ⟨hi, h⟩ := h
      exact bs_zret (u := S) C (bf_dk dd_X9_areKeys 30 rfl) hi rfl ⟨rfl, h⟩
  · replace h := h.2 c
    refine bs_aload_n C (bf_dk dd_X9_areKeys 5 rfl) rfl ?_
    refine bs_aload_n C (bf_dk dd_X9_areKeys 6 rfl) rfl ?_
    refine bs_get C (bf_dk dd_X9_areKeys 7 rfl) cl_9 in_9 6 (Nat.le_of_ble_eq_true rfl) rfl f_9_20 (ge_bW9_0 S) rfl ?_
    refine bs_iload_n C (bf_dk dd_X9_areKeys 8 rfl) rfl ?_
    obtain ⟨hi, h⟩ := h
    refine bs_iald C (bf_dk dd_X9_areKeys 9 rfl) (ge_bW9_4 S) hi ?_
    refine bs_selfPV_i C hR (c_X9_isKey _ _ _ _ _ S (((b9g_tape S) (x2).toNatClampNeg)) _ h) my_X9_isKey m_9_117 rfl cl_9 (ge_bW9_0 _) rfl (Nat.le_of_ble_eq_true rfl) (Nat.le_of_ble_eq_true rfl) (st := []) (Nat.le_of_ble_eq_true rfl) (bf_dk dd_X9_areKeys 10 rfl) rfl (fun r1 h => ?_)
    refine bs_if_ne C (bf_dk dd_X9_areKeys 11 rfl) (tgt := 22) rfl (fun c => ?_) (fun c => ?_)
    · replace h := h.1 c
      refine bs_iload_n C (bf_dk dd_X9_areKeys 14 rfl) rfl ?_
      refine bs_iconst C (bf_dk dd_X9_areKeys 15 rfl) (1 : Int32) (by decide) ?_
      refine bs_iadd C (bf_dk dd_X9_areKeys 16 rfl) ?_
      refine bs_aload_n C (bf_dk dd_X9_areKeys 17 rfl) rfl ?_
      refine bs_get C (bf_dk dd_X9_areKeys 18 rfl) cl_9 in_9 6 (Nat.le_of_ble_eq_true rfl) rfl f_9_20 (ge_bW9_0 S) rfl ?_
      refine bs_iload_n C (bf_dk dd_X9_areKeys 19 rfl) rfl ?_
      obtain ⟨hi, h⟩ := h
      refine bs_iald C (bf_dk dd_X9_areKeys 20 rfl) (ge_bW9_4 S) hi ?_
      refine bs_iadd C (bf_dk dd_X9_areKeys 21 rfl) ?_
      refine bs_istore_n C (bf_dk dd_X9_areKeys 22 rfl) rfl (Nat.le_of_ble_eq_true rfl) (Nat.le_of_ble_eq_true rfl) (lv2 := [some (.ref 0), some (.int x1), some (.int ((x2 + (1 : Int32)) + ((b9g_tape S) (x2).toNatClampNeg)))]) rfl ?_
      refine bs_goto C (bf_dk dd_X9_areKeys 23 rfl) (tgt := 2) rfl ?_
      exact bs_weak (bf_s1 (bf_s1 (bf_s1 bf_s0))) (hB2 (x1) (((x2 + (1 : Int32)) + ((b9g_tape S) (x2).toNatClampNeg))) h)
    · replace h := h.2 c
      refine bs_iconst C (bf_dk dd_X9_areKeys 12 rfl) (0 : Int32) (by decide) ?_
      obtain ⟨hi, h⟩ := h
      exact bs_zret (u := S) C (bf_dk dd_X9_areKeys 13 rfl) hi rfl ⟨rfl, h⟩
def wp_X9_areKeys_2 (S : bT9) (x1 : Int32) (x2 : Int32) (Q : Int32 → Prop) : Prop := ∃ I : Nat → Int32 → Int32 → Prop, (∃ n : Nat, I n x1 x2) ∧ ∀ (n : Nat) (x1 : Int32) (x2 : Int32), I n x1 x2 → wp_X9_areKeys_2b S x1 x2 Q (fun x1 x2 => ∃ n2 : Nat, n2 < n ∧ I n2 x1 x2)
theorem t_X9_areKeys_2 {X : bf_X} (C : bf_C X RX9 cX9_areKeys 3 (some .boolean)) (hR : bf_Rm X 2 44) (S : bT9) (x1 : Int32) (x2 : Int32) (Q : Int32 → Prop) (h : wp_X9_areKeys_2 S x1 x2 Q) : bf_A X (bf_Zi X bW9 (fun r u => u = S ∧ Q r)) 3 2 [some (.ref 0), some (.int x1), some (.int x2)] [] (bW9 S) := by
  obtain ⟨I, ⟨n0, h0⟩, hI⟩ := h
  have key : ∀ (n : Nat) (x1 : Int32) (x2 : Int32), I n x1 x2 → bf_A X (bf_Zi X bW9 (fun r u => u = S ∧ Q r)) 3 2 [some (.ref 0), some (.int x1), some (.int x2)] [] (bW9 S) := by
    intro n
    induction n using Nat.strongRecOn with
    | _ n ih =>
      intro x1 x2 hi
      exact t_X9_areKeys_2b C hR S x1 x2 Q _ (fun x1 x2 hb => by obtain ⟨n2, hn, hi2⟩ := hb; exact ih n2 hn x1 x2 hi2) (hI n x1 x2 hi)
  exact key n0 x1 x2 h0
def wp_X9_areKeys (S : bT9) (a1 : Int32) (Q : Int32 → Prop) : Prop := (wp_X9_areKeys_2 S (a1) ((0 : Int32)) Q)
set_option maxRecDepth 20000 in
theorem t_X9_areKeys {X : bf_X} (C : bf_C X RX9 cX9_areKeys 3 (some .boolean)) (hR : bf_Rm X 2 44) (S : bT9) (a1 : Int32) (Q : Int32 → Prop) (h : wp_X9_areKeys S a1 Q) : bf_A X (bf_Zi X bW9 (fun r u => u = S ∧ Q r)) 3 0 [some (.ref 0), some (.int a1), none] [] (bW9 S) := by
  unfold wp_X9_areKeys at h
  refine bs_iconst C (bf_dk dd_X9_areKeys 0 rfl) (0 : Int32) (by decide) ?_
  refine bs_istore_n C (bf_dk dd_X9_areKeys 1 rfl) rfl (Nat.le_of_ble_eq_true rfl) (Nat.le_of_ble_eq_true rfl) (lv2 := [some (.ref 0), some (.int a1), some (.int (0 : Int32))]) rfl ?_
  exact bs_weak (bf_s1 (bf_s1 (bf_s1 bf_s0))) (t_X9_areKeys_2 C hR S (a1) ((0 : Int32)) Q h)
theorem c_X9_areKeys (l : Launch) (dC : Nat → ClassId) (dI : Nat → Nat → Nat) (ac : Nat → ClassId) (al : Nat → Nat) (S : bT9) (a1 : Int32) (Q : Int32 → Prop) (h : wp_X9_areKeys S a1 Q) : bf_M l yX9_areKeys cX9_areKeys 3 (some .boolean) 2 44 dC dI ac al [.ref 0, .int a1] (bW9 S) (bf_Ki dC dI ac al bW9 (fun r u => u = S ∧ Q r)) := by
  refine bf_start [some (.ref 0), some (.int a1), none] (by decide) (Nat.le_of_ble_eq_true rfl) (bf_s1 (bf_s1 (bf_en 1))) ?_
  intro X hl C hR e1 e2 e3 e4
  subst e1; subst e2; subst e3; subst e4
  exact t_X9_areKeys C hR S a1 Q h
def wp_X9_comingFrom_40 (S : bT9) (x1 : Int32) (x2 : Int32) (x3 : Int32) (Q : Int32 → (bT9) → Prop) (B4 : Int32 → Int32 → Int32 → (bT9) → Prop) : Prop := (vp_in x3 160 ∧ (B4 (x1) (x2) (((x3 + (1 : Int32)) + ((b9g_tape S) (x3).toNatClampNeg))) S))
set_option maxRecDepth 20000 in
theorem t_X9_comingFrom_40 {X : bf_X} (C : bf_C X RX9 cX9_comingFrom 4 (some .int)) (hR : bf_Rm X 4 103) (S : bT9) (x1 : Int32) (x2 : Int32) (x3 : Int32) (Q : Int32 → (bT9) → Prop) (B4 : Int32 → Int32 → Int32 → (bT9) → Prop) (hB4 : ∀ (x1 : Int32) (x2 : Int32) (x3 : Int32) (S : bT9), B4 x1 x2 x3 S → bf_A X (bf_Zi X bW9 Q) 4 4 [some (.ref 0), some (.int x1), some (.int x2), some (.int x3)] [] (bW9 S)) (h : wp_X9_comingFrom_40 S x1 x2 x3 Q B4) : bf_A X (bf_Zi X bW9 Q) 4 40 [some (.ref 0), some (.int x1), some (.int x2), some (.int x3)] [] (bW9 S) := by
  unfold wp_X9_comingFrom_40 at h
  refine bs_iload_n C (bf_dk dd_X9_comingFrom 28 rfl) rfl ?_
  refine bs_iconst C (bf_dk dd_X9_comingFrom 29 rfl) (1 : Int32) (by decide) ?_
  refine bs_iadd C (bf_dk dd_X9_comingFrom 30 rfl) ?_
  refine bs_aload_n C (bf_dk dd_X9_comingFrom 31 rfl) rfl ?_
  refine bs_get C (bf_dk dd_X9_comingFrom 32 rfl) cl_9 in_9 6 (Nat.le_of_ble_eq_true rfl) rfl f_9_20 (ge_bW9_0 S) rfl ?_
  refine bs_iload_n C (bf_dk dd_X9_comingFrom 33 rfl) rfl ?_
  obtain ⟨hi, h⟩ := h
  refine bs_iald C (bf_dk dd_X9_comingFrom 34 rfl) (ge_bW9_4 S) hi ?_
  refine bs_iadd C (bf_dk dd_X9_comingFrom 35 rfl) ?_
  refine bs_istore_n C (bf_dk dd_X9_comingFrom 36 rfl) rfl (Nat.le_of_ble_eq_true rfl) (Nat.le_of_ble_eq_true rfl) (lv2 := [some (.ref 0), some (.int x1), some (.int x2), some (.int ((x3 + (1 : Int32)) + ((b9g_tape S) (x3).toNatClampNeg)))]) rfl ?_
  refine bs_goto C (bf_dk dd_X9_comingFrom 37 rfl) (tgt := 4) rfl ?_
  exact bs_weak (bf_s1 (bf_s1 (bf_s1 (bf_s1 bf_s0)))) (hB4 (x1) (x2) (((x3 + (1 : Int32)) + ((b9g_tape S) (x3).toNatClampNeg))) S h)
def wp_X9_comingFrom_4b (S : bT9) (x1 : Int32) (x2 : Int32) (x3 : Int32) (Q : Int32 → (bT9) → Prop) (B4 : Int32 → Int32 → Int32 → (bT9) → Prop) : Prop := ((x1 ≤ x3 → (Q x2 S)) ∧ (¬ x1 ≤ x3 → (vp_in x3 160 ∧ (wp_X9_tapedKey S ((x3 + (1 : Int32))) (((b9g_tape S) (x3).toNatClampNeg)) (fun r1 => (vp_in x3 160 ∧ (wp_X9_comes S (r1) (((b9g_tape S) (x3).toNatClampNeg)) (fun r3 u4 => ((r3 = (-1 : Int32) → (wp_X9_comingFrom_40 u4 (x1) (x2) (x3) Q B4)) ∧ (¬ r3 = (-1 : Int32) → (wp_X9_comingFrom_40 u4 (x1) ((x2 + (1 : Int32))) (x3) Q B4)))))))))))
set_option maxRecDepth 20000 in
theorem t_X9_comingFrom_4b {X : bf_X} (C : bf_C X RX9 cX9_comingFrom 4 (some .int)) (hR : bf_Rm X 4 103) (S : bT9) (x1 : Int32) (x2 : Int32) (x3 : Int32) (Q : Int32 → (bT9) → Prop) (B4 : Int32 → Int32 → Int32 → (bT9) → Prop) (hB4 : ∀ (x1 : Int32) (x2 : Int32) (x3 : Int32) (S : bT9), B4 x1 x2 x3 S → bf_A X (bf_Zi X bW9 Q) 4 4 [some (.ref 0), some (.int x1), some (.int x2), some (.int x3)] [] (bW9 S)) (h : wp_X9_comingFrom_4b S x1 x2 x3 Q B4) : bf_A X (bf_Zi X bW9 Q) 4 4 [some (.ref 0), some (.int x1), some (.int x2), some (.int x3)] [] (bW9 S) := by
  unfold wp_X9_comingFrom_4b at h
  refine bs_iload_n C (bf_dk dd_X9_comingFrom 4 rfl) rfl ?_
  refine bs_iload_n C (bf_dk dd_X9_comingFrom 5 rfl) rfl ?_
  refine bs_icmp_ge C (bf_dk dd_X9_comingFrom 6 rfl) (tgt := 54) rfl (fun c => ?_) (fun c => ?_)
  · replace h := h.1 c
    refine bs_iload_n C (bf_dk dd_X9_comingFrom 38 rfl) rfl ?_
    exact bs_iret (u := S) C (bf_dk dd_X9_comingFrom 39 rfl) rfl h
  · replace h := h.2 c
    refine bs_aload_n C (bf_dk dd_X9_comingFrom 7 rfl) rfl ?_
    refine bs_aload_n C (bf_dk dd_X9_comingFrom 8 rfl) rfl ?_
    refine bs_iload_n C (bf_dk dd_X9_comingFrom 9 rfl) rfl ?_
    refine bs_iconst C (bf_dk dd_X9_comingFrom 10 rfl) (1 : Int32) (by decide) ?_
    refine bs_iadd C (bf_dk dd_X9_comingFrom 11 rfl) ?_
    refine bs_aload_n C (bf_dk dd_X9_comingFrom 12 rfl) rfl ?_
    refine bs_get C (bf_dk dd_X9_comingFrom 13 rfl) cl_9 in_9 6 (Nat.le_of_ble_eq_true rfl) rfl f_9_20 (ge_bW9_0 S) rfl ?_
    refine bs_iload_n C (bf_dk dd_X9_comingFrom 14 rfl) rfl ?_
    obtain ⟨hi, h⟩ := h
    refine bs_iald C (bf_dk dd_X9_comingFrom 15 rfl) (ge_bW9_4 S) hi ?_
    refine bs_selfPV_l C hR (c_X9_tapedKey _ _ _ _ _ S ((x3 + (1 : Int32))) (((b9g_tape S) (x3).toNatClampNeg)) _ h) my_X9_tapedKey m_9_159 rfl cl_9 (ge_bW9_0 _) rfl (Nat.le_of_ble_eq_true rfl) (Nat.le_of_ble_eq_true rfl) (st := [.ref 0]) (Nat.le_of_ble_eq_true rfl) (bf_dk dd_X9_comingFrom 16 rfl) rfl (fun r1 h => ?_)
    refine bs_aload_n C (bf_dk dd_X9_comingFrom 17 rfl) rfl ?_
    refine bs_get C (bf_dk dd_X9_comingFrom 18 rfl) cl_9 in_9 6 (Nat.le_of_ble_eq_true rfl) rfl f_9_20 (ge_bW9_0 S) rfl ?_
    refine bs_iload_n C (bf_dk dd_X9_comingFrom 19 rfl) rfl ?_
    obtain ⟨hi, h⟩ := h
    refine bs_iald C (bf_dk dd_X9_comingFrom 20 rfl) (ge_bW9_4 S) hi ?_
    refine bs_selfV_i C hR (c_X9_comes _ _ _ _ _ S (r1) (((b9g_tape S) (x3).toNatClampNeg)) _ h) my_X9_comes m_9_125 rfl cl_9 (ge_bW9_0 _) rfl (Nat.le_of_ble_eq_true rfl) (Nat.le_of_ble_eq_true rfl) (st := []) (Nat.le_of_ble_eq_true rfl) (bf_dk dd_X9_comingFrom 21 rfl) rfl (len := 21) (fun _ => rfl) (fun r3 u4 h => ?_)
    refine bs_iconst C (bf_dk dd_X9_comingFrom 22 rfl) (-1 : Int32) (by decide) ?_
    refine bs_icmp_eq C (bf_dk dd_X9_comingFrom 23 rfl) (tgt := 40) rfl (fun c => ?_) (fun c => ?_)
    · replace h := h.1 c
      exact bs_weak (bf_s1 (bf_s1 (bf_s1 (bf_s1 bf_s0)))) (t_X9_comingFrom_40 C hR u4 (x1) (x2) (x3) Q B4 hB4 h)
    · replace h := h.2 c
      refine bs_iload_n C (bf_dk dd_X9_comingFrom 24 rfl) rfl ?_
      refine bs_iconst C (bf_dk dd_X9_comingFrom 25 rfl) (1 : Int32) (by decide) ?_
      refine bs_iadd C (bf_dk dd_X9_comingFrom 26 rfl) ?_
      refine bs_istore_n C (bf_dk dd_X9_comingFrom 27 rfl) rfl (Nat.le_of_ble_eq_true rfl) (Nat.le_of_ble_eq_true rfl) (lv2 := [some (.ref 0), some (.int x1), some (.int (x2 + (1 : Int32))), some (.int x3)]) rfl ?_
      exact bs_weak (bf_s1 (bf_s1 (bf_s1 (bf_s1 bf_s0)))) (t_X9_comingFrom_40 C hR u4 (x1) ((x2 + (1 : Int32))) (x3) Q B4 hB4 h)
def wp_X9_comingFrom_4 (S : bT9) (x1 : Int32) (x2 : Int32) (x3 : Int32) (Q : Int32 → (bT9) → Prop) : Prop := ∃ I : Nat → Int32 → Int32 → Int32 → (bT9) → Prop, (∃ n : Nat, I n x1 x2 x3 S) ∧ ∀ (n : Nat) (x1 : Int32) (x2 : Int32) (x3 : Int32) (S : bT9), I n x1 x2 x3 S → wp_X9_comingFrom_4b S x1 x2 x3 Q (fun x1 x2 x3 S => ∃ n2 : Nat, n2 < n ∧ I n2 x1 x2 x3 S)
theorem t_X9_comingFrom_4 {X : bf_X} (C : bf_C X RX9 cX9_comingFrom 4 (some .int)) (hR : bf_Rm X 4 103) (S : bT9) (x1 : Int32) (x2 : Int32) (x3 : Int32) (Q : Int32 → (bT9) → Prop) (h : wp_X9_comingFrom_4 S x1 x2 x3 Q) : bf_A X (bf_Zi X bW9 Q) 4 4 [some (.ref 0), some (.int x1), some (.int x2), some (.int x3)] [] (bW9 S) := by
  obtain ⟨I, ⟨n0, h0⟩, hI⟩ := h
  have key : ∀ (n : Nat) (x1 : Int32) (x2 : Int32) (x3 : Int32) (S : bT9), I n x1 x2 x3 S → bf_A X (bf_Zi X bW9 Q) 4 4 [some (.ref 0), some (.int x1), some (.int x2), some (.int x3)] [] (bW9 S) := by
    intro n
    induction n using Nat.strongRecOn with
    | _ n ih =>
      intro x1 x2 x3 S hi
      exact t_X9_comingFrom_4b C hR S x1 x2 x3 Q _ (fun x1 x2 x3 S hb => by obtain ⟨n2, hn, hi2⟩ := hb; exact ih n2 hn x1 x2 x3 S hi2) (hI n x1 x2 x3 S hi)
  exact key n0 x1 x2 x3 S h0
def wp_X9_comingFrom (S : bT9) (a1 : Int32) (Q : Int32 → (bT9) → Prop) : Prop := (wp_X9_comingFrom_4 S (a1) ((0 : Int32)) ((0 : Int32)) Q)
set_option maxRecDepth 20000 in
theorem t_X9_comingFrom {X : bf_X} (C : bf_C X RX9 cX9_comingFrom 4 (some .int)) (hR : bf_Rm X 4 103) (S : bT9) (a1 : Int32) (Q : Int32 → (bT9) → Prop) (h : wp_X9_comingFrom S a1 Q) : bf_A X (bf_Zi X bW9 Q) 4 0 [some (.ref 0), some (.int a1), none, none] [] (bW9 S) := by
  unfold wp_X9_comingFrom at h
  refine bs_iconst C (bf_dk dd_X9_comingFrom 0 rfl) (0 : Int32) (by decide) ?_
  refine bs_istore_n C (bf_dk dd_X9_comingFrom 1 rfl) rfl (Nat.le_of_ble_eq_true rfl) (Nat.le_of_ble_eq_true rfl) (lv2 := [some (.ref 0), some (.int a1), some (.int (0 : Int32)), none]) rfl ?_
  refine bs_iconst C (bf_dk dd_X9_comingFrom 2 rfl) (0 : Int32) (by decide) ?_
  refine bs_istore_n C (bf_dk dd_X9_comingFrom 3 rfl) rfl (Nat.le_of_ble_eq_true rfl) (Nat.le_of_ble_eq_true rfl) (lv2 := [some (.ref 0), some (.int a1), some (.int (0 : Int32)), some (.int (0 : Int32))]) rfl ?_
  exact bs_weak (bf_s1 (bf_s1 (bf_s1 (bf_s1 bf_s0)))) (t_X9_comingFrom_4 C hR S (a1) ((0 : Int32)) ((0 : Int32)) Q h)
theorem c_X9_comingFrom (l : Launch) (dC : Nat → ClassId) (dI : Nat → Nat → Nat) (ac : Nat → ClassId) (al : Nat → Nat) (S : bT9) (a1 : Int32) (Q : Int32 → (bT9) → Prop) (h : wp_X9_comingFrom S a1 Q) : bf_M l yX9_comingFrom cX9_comingFrom 4 (some .int) 4 103 dC dI ac al [.ref 0, .int a1] (bW9 S) (bf_Ki dC dI ac al bW9 Q) := by
  refine bf_start [some (.ref 0), some (.int a1), none, none] (by decide) (Nat.le_of_ble_eq_true rfl) (bf_s1 (bf_s1 (bf_en 2))) ?_
  intro X hl C hR e1 e2 e3 e4
  subst e1; subst e2; subst e3; subst e4
  exact t_X9_comingFrom C hR S a1 Q h
def wp_X9_newMany_146 (S : bT9) (x1 : Int32) (x2 : Int32) (x3 : Int32) (Q : Int32 → Prop) (B4 : Int32 → Int32 → Int32 → Prop) : Prop := (vp_in x3 160 ∧ (B4 (x1) (x2) (((x3 + (1 : Int32)) + ((b9g_tape S) (x3).toNatClampNeg)))))
set_option maxRecDepth 20000 in
theorem t_X9_newMany_146 {X : bf_X} (C : bf_C X RX9 cX9_newMany 6 (some .int)) (hR : bf_Rm X 3 78) (S : bT9) (x1 : Int32) (x2 : Int32) (x3 : Int32) (Q : Int32 → Prop) (B4 : Int32 → Int32 → Int32 → Prop) (hB4 : ∀ (x1 : Int32) (x2 : Int32) (x3 : Int32), B4 x1 x2 x3 → bf_A X (bf_Zi X bW9 (fun r u => u = S ∧ Q r)) 6 4 [some (.ref 0), some (.int x1), some (.int x2), some (.int x3), none, none] [] (bW9 S)) (h : wp_X9_newMany_146 S x1 x2 x3 Q B4) : bf_A X (bf_Zi X bW9 (fun r u => u = S ∧ Q r)) 6 146 [some (.ref 0), some (.int x1), some (.int x2), some (.int x3), none, none] [] (bW9 S) := by
  unfold wp_X9_newMany_146 at h
  refine bs_iload_n C (bf_dk dd_X9_newMany 89 rfl) rfl ?_
  refine bs_iconst C (bf_dk dd_X9_newMany 90 rfl) (1 : Int32) (by decide) ?_
  refine bs_iadd C (bf_dk dd_X9_newMany 91 rfl) ?_
  refine bs_aload_n C (bf_dk dd_X9_newMany 92 rfl) rfl ?_
  refine bs_get C (bf_dk dd_X9_newMany 93 rfl) cl_9 in_9 6 (Nat.le_of_ble_eq_true rfl) rfl f_9_20 (ge_bW9_0 S) rfl ?_
  refine bs_iload_n C (bf_dk dd_X9_newMany 94 rfl) rfl ?_
  obtain ⟨hi, h⟩ := h
  refine bs_iald C (bf_dk dd_X9_newMany 95 rfl) (ge_bW9_4 S) hi ?_
  refine bs_iadd C (bf_dk dd_X9_newMany 96 rfl) ?_
  refine bs_istore_n C (bf_dk dd_X9_newMany 97 rfl) rfl (Nat.le_of_ble_eq_true rfl) (Nat.le_of_ble_eq_true rfl) (lv2 := [some (.ref 0), some (.int x1), some (.int x2), some (.int ((x3 + (1 : Int32)) + ((b9g_tape S) (x3).toNatClampNeg))), none, none]) rfl ?_
  refine bs_goto C (bf_dk dd_X9_newMany 98 rfl) (tgt := 4) rfl ?_
  exact bs_weak (bf_s1 (bf_s1 (bf_s1 (bf_s1 (bf_sn (bf_sn bf_s0)))))) (hB4 (x1) (x2) (((x3 + (1 : Int32)) + ((b9g_tape S) (x3).toNatClampNeg))) h)
def wp_X9_newMany_118 (S : bT9) (x1 : Int32) (x2 : Int32) (x3 : Int32) (x5 : Int32) (t0 : Int32) (Q : Int32 → Prop) (B4 : Int32 → Int32 → Int32 → Prop) (B54 : Int32 → Int32 → Int32 → Int32 → Int32 → Prop) : Prop := (vp_in x5 160 ∧ (B54 (x1) (x2) (x3) (t0) (((x5 + (1 : Int32)) + ((b9g_tape S) (x5).toNatClampNeg)))))
set_option maxRecDepth 20000 in
theorem t_X9_newMany_118 {X : bf_X} (C : bf_C X RX9 cX9_newMany 6 (some .int)) (hR : bf_Rm X 3 78) (S : bT9) (x1 : Int32) (x2 : Int32) (x3 : Int32) (x5 : Int32) (t0 : Int32) (Q : Int32 → Prop) (B4 : Int32 → Int32 → Int32 → Prop) (B54 : Int32 → Int32 → Int32 → Int32 → Int32 → Prop) (hB4 : ∀ (x1 : Int32) (x2 : Int32) (x3 : Int32), B4 x1 x2 x3 → bf_A X (bf_Zi X bW9 (fun r u => u = S ∧ Q r)) 6 4 [some (.ref 0), some (.int x1), some (.int x2), some (.int x3), none, none] [] (bW9 S)) (hB54 : ∀ (x1 : Int32) (x2 : Int32) (x3 : Int32) (x4 : Int32) (x5 : Int32), B54 x1 x2 x3 x4 x5 → bf_A X (bf_Zi X bW9 (fun r u => u = S ∧ Q r)) 6 54 [some (.ref 0), some (.int x1), some (.int x2), some (.int x3), some (.int x4), some (.int x5)] [] (bW9 S)) (h : wp_X9_newMany_118 S x1 x2 x3 x5 t0 Q B4 B54) : bf_A X (bf_Zi X bW9 (fun r u => u = S ∧ Q r)) 6 118 [some (.ref 0), some (.int x1), some (.int x2), some (.int x3), none, some (.int x5)] [.int t0] (bW9 S) := by
  unfold wp_X9_newMany_118 at h
  refine bs_istore C (bf_dk dd_X9_newMany 72 rfl) (Nat.le_of_ble_eq_true rfl) (Nat.le_of_ble_eq_true rfl) (lv2 := [some (.ref 0), some (.int x1), some (.int x2), some (.int x3), some (.int t0), some (.int x5)]) rfl ?_
  refine bs_iload C (bf_dk dd_X9_newMany 73 rfl) rfl ?_
  refine bs_iconst C (bf_dk dd_X9_newMany 74 rfl) (1 : Int32) (by decide) ?_
  refine bs_iadd C (bf_dk dd_X9_newMany 75 rfl) ?_
  refine bs_aload_n C (bf_dk dd_X9_newMany 76 rfl) rfl ?_
  refine bs_get C (bf_dk dd_X9_newMany 77 rfl) cl_9 in_9 6 (Nat.le_of_ble_eq_true rfl) rfl f_9_20 (ge_bW9_0 S) rfl ?_
  refine bs_iload C (bf_dk dd_X9_newMany 78 rfl) rfl ?_
  obtain ⟨hi, h⟩ := h
  refine bs_iald C (bf_dk dd_X9_newMany 79 rfl) (ge_bW9_4 S) hi ?_
  refine bs_iadd C (bf_dk dd_X9_newMany 80 rfl) ?_
  refine bs_istore C (bf_dk dd_X9_newMany 81 rfl) (Nat.le_of_ble_eq_true rfl) (Nat.le_of_ble_eq_true rfl) (lv2 := [some (.ref 0), some (.int x1), some (.int x2), some (.int x3), some (.int t0), some (.int ((x5 + (1 : Int32)) + ((b9g_tape S) (x5).toNatClampNeg)))]) rfl ?_
  refine bs_goto C (bf_dk dd_X9_newMany 82 rfl) (tgt := 54) rfl ?_
  exact bs_weak (bf_s1 (bf_s1 (bf_s1 (bf_s1 (bf_s1 (bf_s1 bf_s0)))))) (hB54 (x1) (x2) (x3) (t0) (((x5 + (1 : Int32)) + ((b9g_tape S) (x5).toNatClampNeg))) h)
def wp_X9_newMany_117 (S : bT9) (x1 : Int32) (x2 : Int32) (x3 : Int32) (x5 : Int32) (Q : Int32 → Prop) (B4 : Int32 → Int32 → Int32 → Prop) (B54 : Int32 → Int32 → Int32 → Int32 → Int32 → Prop) : Prop := (wp_X9_newMany_118 S (x1) (x2) (x3) (x5) ((0 : Int32)) Q B4 B54)
set_option maxRecDepth 20000 in
theorem t_X9_newMany_117 {X : bf_X} (C : bf_C X RX9 cX9_newMany 6 (some .int)) (hR : bf_Rm X 3 78) (S : bT9) (x1 : Int32) (x2 : Int32) (x3 : Int32) (x5 : Int32) (Q : Int32 → Prop) (B4 : Int32 → Int32 → Int32 → Prop) (B54 : Int32 → Int32 → Int32 → Int32 → Int32 → Prop) (hB4 : ∀ (x1 : Int32) (x2 : Int32) (x3 : Int32), B4 x1 x2 x3 → bf_A X (bf_Zi X bW9 (fun r u => u = S ∧ Q r)) 6 4 [some (.ref 0), some (.int x1), some (.int x2), some (.int x3), none, none] [] (bW9 S)) (hB54 : ∀ (x1 : Int32) (x2 : Int32) (x3 : Int32) (x4 : Int32) (x5 : Int32), B54 x1 x2 x3 x4 x5 → bf_A X (bf_Zi X bW9 (fun r u => u = S ∧ Q r)) 6 54 [some (.ref 0), some (.int x1), some (.int x2), some (.int x3), some (.int x4), some (.int x5)] [] (bW9 S)) (h : wp_X9_newMany_117 S x1 x2 x3 x5 Q B4 B54) : bf_A X (bf_Zi X bW9 (fun r u => u = S ∧ Q r)) 6 117 [some (.ref 0), some (.int x1), some (.int x2), some (.int x3), none, some (.int x5)] [] (bW9 S) := by
  unfold wp_X9_newMany_117 at h
  refine bs_iconst C (bf_dk dd_X9_newMany 71 rfl) (0 : Int32) (by decide) ?_
  exact bs_weak (bf_s1 (bf_s1 (bf_s1 (bf_s1 (bf_sn (bf_s1 bf_s0)))))) (t_X9_newMany_118 C hR S (x1) (x2) (x3) (x5) ((0 : Int32)) Q B4 B54 hB4 hB54 h)
def wp_X9_newMany_113 (S : bT9) (x1 : Int32) (x2 : Int32) (x3 : Int32) (x5 : Int32) (Q : Int32 → Prop) (B4 : Int32 → Int32 → Int32 → Prop) (B54 : Int32 → Int32 → Int32 → Int32 → Int32 → Prop) : Prop := (wp_X9_newMany_118 S (x1) (x2) (x3) (x5) ((1 : Int32)) Q B4 B54)
set_option maxRecDepth 20000 in
theorem t_X9_newMany_113 {X : bf_X} (C : bf_C X RX9 cX9_newMany 6 (some .int)) (hR : bf_Rm X 3 78) (S : bT9) (x1 : Int32) (x2 : Int32) (x3 : Int32) (x5 : Int32) (Q : Int32 → Prop) (B4 : Int32 → Int32 → Int32 → Prop) (B54 : Int32 → Int32 → Int32 → Int32 → Int32 → Prop) (hB4 : ∀ (x1 : Int32) (x2 : Int32) (x3 : Int32), B4 x1 x2 x3 → bf_A X (bf_Zi X bW9 (fun r u => u = S ∧ Q r)) 6 4 [some (.ref 0), some (.int x1), some (.int x2), some (.int x3), none, none] [] (bW9 S)) (hB54 : ∀ (x1 : Int32) (x2 : Int32) (x3 : Int32) (x4 : Int32) (x5 : Int32), B54 x1 x2 x3 x4 x5 → bf_A X (bf_Zi X bW9 (fun r u => u = S ∧ Q r)) 6 54 [some (.ref 0), some (.int x1), some (.int x2), some (.int x3), some (.int x4), some (.int x5)] [] (bW9 S)) (h : wp_X9_newMany_113 S x1 x2 x3 x5 Q B4 B54) : bf_A X (bf_Zi X bW9 (fun r u => u = S ∧ Q r)) 6 113 [some (.ref 0), some (.int x1), some (.int x2), some (.int x3), none, some (.int x5)] [] (bW9 S) := by
  unfold wp_X9_newMany_113 at h
  refine bs_iconst C (bf_dk dd_X9_newMany 69 rfl) (1 : Int32) (by decide) ?_
  refine bs_goto C (bf_dk dd_X9_newMany 70 rfl) (tgt := 118) rfl ?_
  exact bs_weak (bf_s1 (bf_s1 (bf_s1 (bf_s1 (bf_sn (bf_s1 bf_s0)))))) (t_X9_newMany_118 C hR S (x1) (x2) (x3) (x5) ((1 : Int32)) Q B4 B54 hB4 hB54 h)
def wp_X9_newMany_54b (S : bT9) (x1 : Int32) (x2 : Int32) (x3 : Int32) (x4 : Int32) (x5 : Int32) (Q : Int32 → Prop) (B4 : Int32 → Int32 → Int32 → Prop) (B54 : Int32 → Int32 → Int32 → Int32 → Int32 → Prop) : Prop := ((x3 ≤ x5 → ((x4 = 0 → (wp_X9_newMany_146 S (x1) (x2) (x3) Q B4)) ∧ (¬ x4 = 0 → (wp_X9_newMany_146 S (x1) ((x2 + (1 : Int32))) (x3) Q B4)))) ∧ (¬ x3 ≤ x5 → ((x4 = 0 → (wp_X9_newMany_117 S (x1) (x2) (x3) (x5) Q B4 B54)) ∧ (¬ x4 = 0 → (vp_in x5 160 ∧ (vp_in x3 160 ∧ ((¬ ((b9g_tape S) (x5).toNatClampNeg) = ((b9g_tape S) (x3).toNatClampNeg) → (wp_X9_newMany_113 S (x1) (x2) (x3) (x5) Q B4 B54)) ∧ (((b9g_tape S) (x5).toNatClampNeg) = ((b9g_tape S) (x3).toNatClampNeg) → (vp_in x5 160 ∧ (wp_X9_tapedKey S ((x5 + (1 : Int32))) (((b9g_tape S) (x5).toNatClampNeg)) (fun r1 => (vp_in x3 160 ∧ (wp_X9_tapedKey S ((x3 + (1 : Int32))) (((b9g_tape S) (x3).toNatClampNeg)) (fun r3 => (((lg_cmp r1 r3) = 0 → (wp_X9_newMany_117 S (x1) (x2) (x3) (x5) Q B4 B54)) ∧ (¬ (lg_cmp r1 r3) = 0 → (wp_X9_newMany_113 S (x1) (x2) (x3) (x5) Q B4 B54)))))))))))))))))
set_option maxRecDepth 20000 in
theorem t_X9_newMany_54b {X : bf_X} (C : bf_C X RX9 cX9_newMany 6 (some .int)) (hR : bf_Rm X 3 78) (S : bT9) (x1 : Int32) (x2 : Int32) (x3 : Int32) (x4 : Int32) (x5 : Int32) (Q : Int32 → Prop) (B4 : Int32 → Int32 → Int32 → Prop) (B54 : Int32 → Int32 → Int32 → Int32 → Int32 → Prop) (hB4 : ∀ (x1 : Int32) (x2 : Int32) (x3 : Int32), B4 x1 x2 x3 → bf_A X (bf_Zi X bW9 (fun r u => u = S ∧ Q r)) 6 4 [some (.ref 0), some (.int x1), some (.int x2), some (.int x3), none, none] [] (bW9 S)) (hB54 : ∀ (x1 : Int32) (x2 : Int32) (x3 : Int32) (x4 : Int32) (x5 : Int32), B54 x1 x2 x3 x4 x5 → bf_A X (bf_Zi X bW9 (fun r u => u = S ∧ Q r)) 6 54 [some (.ref 0), some (.int x1), some (.int x2), some (.int x3), some (.int x4), some (.int x5)] [] (bW9 S)) (h : wp_X9_newMany_54b S x1 x2 x3 x4 x5 Q B4 B54) : bf_A X (bf_Zi X bW9 (fun r u => u = S ∧ Q r)) 6 54 [some (.ref 0), some (.int x1), some (.int x2), some (.int x3), some (.int x4), some (.int x5)] [] (bW9 S) := by
  unfold wp_X9_newMany_54b at h
  refine bs_iload C (bf_dk dd_X9_newMany 35 rfl) rfl ?_
  refine bs_iload_n C (bf_dk dd_X9_newMany 36 rfl) rfl ?_
  refine bs_icmp_ge C (bf_dk dd_X9_newMany 37 rfl) (tgt := 137) rfl (fun c => ?_) (fun c => ?_)
  · replace h := h.1 c
    refine bs_iload C (bf_dk dd_X9_newMany 83 rfl) rfl ?_
    refine bs_if_eq C (bf_dk dd_X9_newMany 84 rfl) (tgt := 146) rfl (fun c => ?_) (fun c => ?_)
    · replace h := h.1 c
      exact bs_weak (bf_s1 (bf_s1 (bf_s1 (bf_s1 (bf_sn (bf_sn bf_s0)))))) (t_X9_newMany_146 C hR S (x1) (x2) (x3) Q B4 hB4 h)
    · replace h := h.2 c
      refine bs_iload_n C (bf_dk dd_X9_newMany 85 rfl) rfl ?_
      refine bs_iconst C (bf_dk dd_X9_newMany 86 rfl) (1 : Int32) (by decide) ?_
      refine bs_iadd C (bf_dk dd_X9_newMany 87 rfl) ?_
      refine bs_istore_n C (bf_dk dd_X9_newMany 88 rfl) rfl (Nat.le_of_ble_eq_true rfl) (Nat.le_of_ble_eq_true rfl) (lv2 := [some (.ref 0), some (.int x1), some (.int (x2 + (1 : Int32))), some (.int x3), some (.int x4), some (.int x5)]) rfl ?_
      exact bs_weak (bf_s1 (bf_s1 (bf_s1 (bf_s1 (bf_sn (bf_sn bf_s0)))))) (t_X9_newMany_146 C hR S (x1) ((x2 + (1 : Int32))) (x3) Q B4 hB4 h)
  · replace h := h.2 c
    refine bs_iload C (bf_dk dd_X9_newMany 38 rfl) rfl ?_
    refine bs_if_eq C (bf_dk dd_X9_newMany 39 rfl) (tgt := 117) rfl (fun c => ?_) (fun c => ?_)
    · replace h := h.1 c
      exact bs_weak (bf_s1 (bf_s1 (bf_s1 (bf_s1 (bf_sn (bf_s1 bf_s0)))))) (t_X9_newMany_117 C hR S (x1) (x2) (x3) (x5) Q B4 B54 hB4 hB54 h)
    · replace h := h.2 c
      refine bs_aload_n C (bf_dk dd_X9_newMany 40 rfl) rfl ?_
      refine bs_get C (bf_dk dd_X9_newMany 41 rfl) cl_9 in_9 6 (Nat.le_of_ble_eq_true rfl) rfl f_9_20 (ge_bW9_0 S) rfl ?_
      refine bs_iload C (bf_dk dd_X9_newMany 42 rfl) rfl ?_
      obtain ⟨hi, h⟩ := h
      refine bs_iald C (bf_dk dd_X9_newMany 43 rfl) (ge_bW9_4 S) hi ?_
      refine bs_aload_n C (bf_dk dd_X9_newMany 44 rfl) rfl ?_
      refine bs_get C (bf_dk dd_X9_newMany 45 rfl) cl_9 in_9 6 (Nat.le_of_ble_eq_true rfl) rfl f_9_20 (ge_bW9_0 S) rfl ?_
      refine bs_iload_n C (bf_dk dd_X9_newMany 46 rfl) rfl ?_
      obtain ⟨hi, h⟩ := h
      refine bs_iald C (bf_dk dd_X9_newMany 47 rfl) (ge_bW9_4 S) hi ?_
      refine bs_icmp_ne C (bf_dk dd_X9_newMany 48 rfl) (tgt := 113) rfl (fun c => ?_) (fun c => ?_)
      · replace h := h.1 c
        exact bs_weak (bf_s1 (bf_s1 (bf_s1 (bf_s1 (bf_sn (bf_s1 bf_s0)))))) (t_X9_newMany_113 C hR S (x1) (x2) (x3) (x5) Q B4 B54 hB4 hB54 h)
      · replace h := h.2 c
        refine bs_aload_n C (bf_dk dd_X9_newMany 49 rfl) rfl ?_
        refine bs_iload C (bf_dk dd_X9_newMany 50 rfl) rfl ?_
        refine bs_iconst C (bf_dk dd_X9_newMany 51 rfl) (1 : Int32) (by decide) ?_
        refine bs_iadd C (bf_dk dd_X9_newMany 52 rfl) ?_
        refine bs_aload_n C (bf_dk dd_X9_newMany 53 rfl) rfl ?_
        refine bs_get C (bf_dk dd_X9_newMany 54 rfl) cl_9 in_9 6 (Nat.le_of_ble_eq_true rfl) rfl f_9_20 (ge_bW9_0 S) rfl ?_
        refine bs_iload C (bf_dk dd_X9_newMany 55 rfl) rfl ?_
        obtain ⟨hi, h⟩ := h
        refine bs_iald C (bf_dk dd_X9_newMany 56 rfl) (ge_bW9_4 S) hi ?_
        refine bs_selfPV_l C hR (c_X9_tapedKey _ _ _ _ _ S ((x5 + (1 : Int32))) (((b9g_tape S) (x5).toNatClampNeg)) _ h) my_X9_tapedKey m_9_159 rfl cl_9 (ge_bW9_0 _) rfl (Nat.le_of_ble_eq_true rfl) (Nat.le_of_ble_eq_true rfl) (st := []) (Nat.le_of_ble_eq_true rfl) (bf_dk dd_X9_newMany 57 rfl) rfl (fun r1 h => ?_)
        refine bs_aload_n C (bf_dk dd_X9_newMany 58 rfl) rfl ?_
        refine bs_iload_n C (bf_dk dd_X9_newMany 59 rfl) rfl ?_
        refine bs_iconst C (bf_dk dd_X9_newMany 60 rfl) (1 : Int32) (by decide) ?_
        refine bs_iadd C (bf_dk dd_X9_newMany 61 rfl) ?_
        refine bs_aload_n C (bf_dk dd_X9_newMany 62 rfl) rfl ?_
        refine bs_get C (bf_dk dd_X9_newMany 63 rfl) cl_9 in_9 6 (Nat.le_of_ble_eq_true rfl) rfl f_9_20 (ge_bW9_0 S) rfl ?_
        refine bs_iload_n C (bf_dk dd_X9_newMany 64 rfl) rfl ?_
        obtain ⟨hi, h⟩ := h
        refine bs_iald C (bf_dk dd_X9_newMany 65 rfl) (ge_bW9_4 S) hi ?_
        refine bs_selfPV_l C hR (c_X9_tapedKey _ _ _ _ _ S ((x3 + (1 : Int32))) (((b9g_tape S) (x3).toNatClampNeg)) _ h) my_X9_tapedKey m_9_159 rfl cl_9 (ge_bW9_0 _) rfl (Nat.le_of_ble_eq_true rfl) (Nat.le_of_ble_eq_true rfl) (st := [.long r1]) (Nat.le_of_ble_eq_true rfl) (bf_dk dd_X9_newMany 66 rfl) rfl (fun r3 h => ?_)
        refine bs_lcmp C (bf_dk dd_X9_newMany 67 rfl) ?_
        refine bs_if_eq C (bf_dk dd_X9_newMany 68 rfl) (tgt := 117) rfl (fun c => ?_) (fun c => ?_)
        · replace h := h.1 c
          exact bs_weak (bf_s1 (bf_s1 (bf_s1 (bf_s1 (bf_sn (bf_s1 bf_s0)))))) (t_X9_newMany_117 C hR S (x1) (x2) (x3) (x5) Q B4 B54 hB4 hB54 h)
        · replace h := h.2 c
          exact bs_weak (bf_s1 (bf_s1 (bf_s1 (bf_s1 (bf_sn (bf_s1 bf_s0)))))) (t_X9_newMany_113 C hR S (x1) (x2) (x3) (x5) Q B4 B54 hB4 hB54 h)
def wp_X9_newMany_54 (S : bT9) (x1 : Int32) (x2 : Int32) (x3 : Int32) (x4 : Int32) (x5 : Int32) (Q : Int32 → Prop) (B4 : Int32 → Int32 → Int32 → Prop) : Prop := ∃ I : Nat → Int32 → Int32 → Int32 → Int32 → Int32 → Prop, (∃ n : Nat, I n x1 x2 x3 x4 x5) ∧ ∀ (n : Nat) (x1 : Int32) (x2 : Int32) (x3 : Int32) (x4 : Int32) (x5 : Int32), I n x1 x2 x3 x4 x5 → wp_X9_newMany_54b S x1 x2 x3 x4 x5 Q B4 (fun x1 x2 x3 x4 x5 => ∃ n2 : Nat, n2 < n ∧ I n2 x1 x2 x3 x4 x5)
theorem t_X9_newMany_54 {X : bf_X} (C : bf_C X RX9 cX9_newMany 6 (some .int)) (hR : bf_Rm X 3 78) (S : bT9) (x1 : Int32) (x2 : Int32) (x3 : Int32) (x4 : Int32) (x5 : Int32) (Q : Int32 → Prop) (B4 : Int32 → Int32 → Int32 → Prop) (hB4 : ∀ (x1 : Int32) (x2 : Int32) (x3 : Int32), B4 x1 x2 x3 → bf_A X (bf_Zi X bW9 (fun r u => u = S ∧ Q r)) 6 4 [some (.ref 0), some (.int x1), some (.int x2), some (.int x3), none, none] [] (bW9 S)) (h : wp_X9_newMany_54 S x1 x2 x3 x4 x5 Q B4) : bf_A X (bf_Zi X bW9 (fun r u => u = S ∧ Q r)) 6 54 [some (.ref 0), some (.int x1), some (.int x2), some (.int x3), some (.int x4), some (.int x5)] [] (bW9 S) := by
  obtain ⟨I, ⟨n0, h0⟩, hI⟩ := h
  have key : ∀ (n : Nat) (x1 : Int32) (x2 : Int32) (x3 : Int32) (x4 : Int32) (x5 : Int32), I n x1 x2 x3 x4 x5 → bf_A X (bf_Zi X bW9 (fun r u => u = S ∧ Q r)) 6 54 [some (.ref 0), some (.int x1), some (.int x2), some (.int x3), some (.int x4), some (.int x5)] [] (bW9 S) := by
    intro n
    induction n using Nat.strongRecOn with
    | _ n ih =>
      intro x1 x2 x3 x4 x5 hi
      exact t_X9_newMany_54b C hR S x1 x2 x3 x4 x5 Q B4 _ hB4 (fun x1 x2 x3 x4 x5 hb => by obtain ⟨n2, hn, hi2⟩ := hb; exact ih n2 hn x1 x2 x3 x4 x5 hi2) (hI n x1 x2 x3 x4 x5 hi)
  exact key n0 x1 x2 x3 x4 x5 h0
def wp_X9_newMany_49 (S : bT9) (x1 : Int32) (x2 : Int32) (x3 : Int32) (t0 : Int32) (Q : Int32 → Prop) (B4 : Int32 → Int32 → Int32 → Prop) : Prop := (wp_X9_newMany_54 S (x1) (x2) (x3) (t0) ((0 : Int32)) Q B4)
set_option maxRecDepth 20000 in
theorem t_X9_newMany_49 {X : bf_X} (C : bf_C X RX9 cX9_newMany 6 (some .int)) (hR : bf_Rm X 3 78) (S : bT9) (x1 : Int32) (x2 : Int32) (x3 : Int32) (t0 : Int32) (Q : Int32 → Prop) (B4 : Int32 → Int32 → Int32 → Prop) (hB4 : ∀ (x1 : Int32) (x2 : Int32) (x3 : Int32), B4 x1 x2 x3 → bf_A X (bf_Zi X bW9 (fun r u => u = S ∧ Q r)) 6 4 [some (.ref 0), some (.int x1), some (.int x2), some (.int x3), none, none] [] (bW9 S)) (h : wp_X9_newMany_49 S x1 x2 x3 t0 Q B4) : bf_A X (bf_Zi X bW9 (fun r u => u = S ∧ Q r)) 6 49 [some (.ref 0), some (.int x1), some (.int x2), some (.int x3), none, none] [.int t0] (bW9 S) := by
  unfold wp_X9_newMany_49 at h
  refine bs_istore C (bf_dk dd_X9_newMany 32 rfl) (Nat.le_of_ble_eq_true rfl) (Nat.le_of_ble_eq_true rfl) (lv2 := [some (.ref 0), some (.int x1), some (.int x2), some (.int x3), some (.int t0), none]) rfl ?_
  refine bs_iconst C (bf_dk dd_X9_newMany 33 rfl) (0 : Int32) (by decide) ?_
  refine bs_istore C (bf_dk dd_X9_newMany 34 rfl) (Nat.le_of_ble_eq_true rfl) (Nat.le_of_ble_eq_true rfl) (lv2 := [some (.ref 0), some (.int x1), some (.int x2), some (.int x3), some (.int t0), some (.int (0 : Int32))]) rfl ?_
  exact bs_weak (bf_s1 (bf_s1 (bf_s1 (bf_s1 (bf_s1 (bf_s1 bf_s0)))))) (t_X9_newMany_54 C hR S (x1) (x2) (x3) (t0) ((0 : Int32)) Q B4 hB4 h)
def wp_X9_newMany_4b (S : bT9) (x1 : Int32) (x2 : Int32) (x3 : Int32) (Q : Int32 → Prop) (B4 : Int32 → Int32 → Int32 → Prop) : Prop := ((x1 ≤ x3 → (Q x2)) ∧ (¬ x1 ≤ x3 → (vp_in (8 : Int32) 23 ∧ (vp_in x3 160 ∧ (wp_X9_tapedKey S ((x3 + (1 : Int32))) (((b9g_tape S) (x3).toNatClampNeg)) (fun r5 => (vp_in x3 160 ∧ (wp_X9_find S ((0 : Int32)) (((b9g_now S) ((8 : Int32)).toNatClampNeg)) (r5) (((b9g_tape S) (x3).toNatClampNeg)) (fun r7 => ((¬ r7 = (-1 : Int32) → (wp_X9_newMany_49 S (x1) (x2) (x3) ((0 : Int32)) Q B4)) ∧ (r7 = (-1 : Int32) → (wp_X9_newMany_49 S (x1) (x2) (x3) ((1 : Int32)) Q B4))))))))))))
set_option maxRecDepth 20000 in
theorem t_X9_newMany_4b {X : bf_X} (C : bf_C X RX9 cX9_newMany 6 (some .int)) (hR : bf_Rm X 3 78) (S : bT9) (x1 : Int32) (x2 : Int32) (x3 : Int32) (Q : Int32 → Prop) (B4 : Int32 → Int32 → Int32 → Prop) (hB4 : ∀ (x1 : Int32) (x2 : Int32) (x3 : Int32), B4 x1 x2 x3 → bf_A X (bf_Zi X bW9 (fun r u => u = S ∧ Q r)) 6 4 [some (.ref 0), some (.int x1), some (.int x2), some (.int x3), none, none] [] (bW9 S)) (h : wp_X9_newMany_4b S x1 x2 x3 Q B4) : bf_A X (bf_Zi X bW9 (fun r u => u = S ∧ Q r)) 6 4 [some (.ref 0), some (.int x1), some (.int x2), some (.int x3), none, none] [] (bW9 S) := by
  unfold wp_X9_newMany_4b at h
  refine bs_iload_n C (bf_dk dd_X9_newMany 4 rfl) rfl ?_
  refine bs_iload_n C (bf_dk dd_X9_newMany 5 rfl) rfl ?_
  refine bs_icmp_ge C (bf_dk dd_X9_newMany 6 rfl) (tgt := 160) rfl (fun c => ?_) (fun c => ?_)
  · replace h := h.1 c
    refine bs_iload_n C (bf_dk dd_X9_newMany 99 rfl) rfl ?_
    exact bs_iret (u := S) C (bf_dk dd_X9_newMany 100 rfl) rfl ⟨rfl, h⟩
  · replace h := h.2 c
    refine bs_aload_n C (bf_dk dd_X9_newMany 7 rfl) rfl ?_
    refine bs_iconst C (bf_dk dd_X9_newMany 8 rfl) (0 : Int32) (by decide) ?_
    refine bs_aload_n C (bf_dk dd_X9_newMany 9 rfl) rfl ?_
    refine bs_get C (bf_dk dd_X9_newMany 10 rfl) cl_9 in_9 1 (Nat.le_of_ble_eq_true rfl) rfl f_9_7 (ge_bW9_0 S) rfl ?_
    refine bs_bipush C (bf_dk dd_X9_newMany 11 rfl) (8 : Int32) (by decide) ?_
    obtain ⟨hi, h⟩ := h
    refine bs_iald C (bf_dk dd_X9_newMany 12 rfl) (ge_bW9_1 S) hi ?_
    refine bs_aload_n C (bf_dk dd_X9_newMany 13 rfl) rfl ?_
    refine bs_iload_n C (bf_dk dd_X9_newMany 14 rfl) rfl ?_
    refine bs_iconst C (bf_dk dd_X9_newMany 15 rfl) (1 : Int32) (by decide) ?_
    refine bs_iadd C (bf_dk dd_X9_newMany 16 rfl) ?_
    refine bs_aload_n C (bf_dk dd_X9_newMany 17 rfl) rfl ?_
    refine bs_get C (bf_dk dd_X9_newMany 18 rfl) cl_9 in_9 6 (Nat.le_of_ble_eq_true rfl) rfl f_9_20 (ge_bW9_0 S) rfl ?_
    refine bs_iload_n C (bf_dk dd_X9_newMany 19 rfl) rfl ?_
    obtain ⟨hi, h⟩ := h
    refine bs_iald C (bf_dk dd_X9_newMany 20 rfl) (ge_bW9_4 S) hi ?_
    refine bs_selfPV_l C hR (c_X9_tapedKey _ _ _ _ _ S ((x3 + (1 : Int32))) (((b9g_tape S) (x3).toNatClampNeg)) _ h) my_X9_tapedKey m_9_159 rfl cl_9 (ge_bW9_0 _) rfl (Nat.le_of_ble_eq_true rfl) (Nat.le_of_ble_eq_true rfl) (st := [.int ((b9g_now S) ((8 : Int32)).toNatClampNeg), .int (0 : Int32), .ref 0]) (Nat.le_of_ble_eq_true rfl) (bf_dk dd_X9_newMany 21 rfl) rfl (fun r5 h => ?_)
    refine bs_aload_n C (bf_dk dd_X9_newMany 22 rfl) rfl ?_
    refine bs_get C (bf_dk dd_X9_newMany 23 rfl) cl_9 in_9 6 (Nat.le_of_ble_eq_true rfl) rfl f_9_20 (ge_bW9_0 S) rfl ?_
    refine bs_iload_n C (bf_dk dd_X9_newMany 24 rfl) rfl ?_
    obtain ⟨hi, h⟩ := h
    refine bs_iald C (bf_dk dd_X9_newMany 25 rfl) (ge_bW9_4 S) hi ?_
    refine bs_selfPV_i C hR (c_X9_find _ _ _ _ _ S ((0 : Int32)) (((b9g_now S) ((8 : Int32)).toNatClampNeg)) (r5) (((b9g_tape S) (x3).toNatClampNeg)) _ h) my_X9_find m_9_114 rfl cl_9 (ge_bW9_0 _) rfl (Nat.le_of_ble_eq_true rfl) (Nat.le_of_ble_eq_true rfl) (st := []) (Nat.le_of_ble_eq_true rfl) (bf_dk dd_X9_newMany 26 rfl) rfl (fun r7 h => ?_)
    refine bs_iconst C (bf_dk dd_X9_newMany 27 rfl) (-1 : Int32) (by decide) ?_
    refine bs_icmp_ne C (bf_dk dd_X9_newMany 28 rfl) (tgt := 48) rfl (fun c => ?_) (fun c => ?_)
    · replace h := h.1 c
      refine bs_iconst C (bf_dk dd_X9_newMany 31 rfl) (0 : Int32) (by decide) ?_
      exact bs_weak (bf_s1 (bf_s1 (bf_s1 (bf_s1 (bf_sn (bf_sn bf_s0)))))) (t_X9_newMany_49 C hR S (x1) (x2) (x3) ((0 : Int32)) Q B4 hB4 h)
    · replace h := h.2 c
      refine bs_iconst C (bf_dk dd_X9_newMany 29 rfl) (1 : Int32) (by decide) ?_
      refine bs_goto C (bf_dk dd_X9_newMany 30 rfl) (tgt := 49) rfl ?_
      exact bs_weak (bf_s1 (bf_s1 (bf_s1 (bf_s1 (bf_sn (bf_sn bf_s0)))))) (t_X9_newMany_49 C hR S (x1) (x2) (x3) ((1 : Int32)) Q B4 hB4 h)
def wp_X9_newMany_4 (S : bT9) (x1 : Int32) (x2 : Int32) (x3 : Int32) (Q : Int32 → Prop) : Prop := ∃ I : Nat → Int32 → Int32 → Int32 → Prop, (∃ n : Nat, I n x1 x2 x3) ∧ ∀ (n : Nat) (x1 : Int32) (x2 : Int32) (x3 : Int32), I n x1 x2 x3 → wp_X9_newMany_4b S x1 x2 x3 Q (fun x1 x2 x3 => ∃ n2 : Nat, n2 < n ∧ I n2 x1 x2 x3)
theorem t_X9_newMany_4 {X : bf_X} (C : bf_C X RX9 cX9_newMany 6 (some .int)) (hR : bf_Rm X 3 78) (S : bT9) (x1 : Int32) (x2 : Int32) (x3 : Int32) (Q : Int32 → Prop) (h : wp_X9_newMany_4 S x1 x2 x3 Q) : bf_A X (bf_Zi X bW9 (fun r u => u = S ∧ Q r)) 6 4 [some (.ref 0), some (.int x1), some (.int x2), some (.int x3), none, none] [] (bW9 S) := by
  obtain ⟨I, ⟨n0, h0⟩, hI⟩ := h
  have key : ∀ (n : Nat) (x1 : Int32) (x2 : Int32) (x3 : Int32), I n x1 x2 x3 → bf_A X (bf_Zi X bW9 (fun r u => u = S ∧ Q r)) 6 4 [some (.ref 0), some (.int x1), some (.int x2), some (.int x3), none, none] [] (bW9 S) := by
    intro n
    induction n using Nat.strongRecOn with
    | _ n ih =>
      intro x1 x2 x3 hi
      exact t_X9_newMany_4b C hR S x1 x2 x3 Q _ (fun x1 x2 x3 hb => by obtain ⟨n2, hn, hi2⟩ := hb; exact ih n2 hn x1 x2 x3 hi2) (hI n x1 x2 x3 hi)
  exact key n0 x1 x2 x3 h0
def wp_X9_newMany (S : bT9) (a1 : Int32) (Q : Int32 → Prop) : Prop := (wp_X9_newMany_4 S (a1) ((0 : Int32)) ((0 : Int32)) Q)
set_option maxRecDepth 20000 in
theorem t_X9_newMany {X : bf_X} (C : bf_C X RX9 cX9_newMany 6 (some .int)) (hR : bf_Rm X 3 78) (S : bT9) (a1 : Int32) (Q : Int32 → Prop) (h : wp_X9_newMany S a1 Q) : bf_A X (bf_Zi X bW9 (fun r u => u = S ∧ Q r)) 6 0 [some (.ref 0), some (.int a1), none, none, none, none] [] (bW9 S) := by
  unfold wp_X9_newMany at h
  refine bs_iconst C (bf_dk dd_X9_newMany 0 rfl) (0 : Int32) (by decide) ?_
  refine bs_istore_n C (bf_dk dd_X9_newMany 1 rfl) rfl (Nat.le_of_ble_eq_true rfl) (Nat.le_of_ble_eq_true rfl) (lv2 := [some (.ref 0), some (.int a1), some (.int (0 : Int32)), none, none, none]) rfl ?_
  refine bs_iconst C (bf_dk dd_X9_newMany 2 rfl) (0 : Int32) (by decide) ?_
  refine bs_istore_n C (bf_dk dd_X9_newMany 3 rfl) rfl (Nat.le_of_ble_eq_true rfl) (Nat.le_of_ble_eq_true rfl) (lv2 := [some (.ref 0), some (.int a1), some (.int (0 : Int32)), some (.int (0 : Int32)), none, none]) rfl ?_
  exact bs_weak (bf_s1 (bf_s1 (bf_s1 (bf_s1 (bf_sn (bf_sn bf_s0)))))) (t_X9_newMany_4 C hR S (a1) ((0 : Int32)) ((0 : Int32)) Q h)
theorem c_X9_newMany (l : Launch) (dC : Nat → ClassId) (dI : Nat → Nat → Nat) (ac : Nat → ClassId) (al : Nat → Nat) (S : bT9) (a1 : Int32) (Q : Int32 → Prop) (h : wp_X9_newMany S a1 Q) : bf_M l yX9_newMany cX9_newMany 6 (some .int) 3 78 dC dI ac al [.ref 0, .int a1] (bW9 S) (bf_Ki dC dI ac al bW9 (fun r u => u = S ∧ Q r)) := by
  refine bf_start [some (.ref 0), some (.int a1), none, none, none, none] (by decide) (Nat.le_of_ble_eq_true rfl) (bf_s1 (bf_s1 (bf_en 4))) ?_
  intro X hl C hR e1 e2 e3 e4
  subst e1; subst e2; subst e3; subst e4
  exact t_X9_newMany C hR S a1 Q h
def wp_X9_keys (S : bT9) (Q : Int32 → (bT9) → Prop) : Prop := (∀ S1 : bT9, S1 = (b9s_told S (0 : Int32)) → (∀ S2 : bT9, S2 = (b9s_taped S1 (0 : Int32)) → (wp_X9_areKeys S2 ((b9g_taped S1)) (fun r3 => ((r3 = 0 → (Q (-1 : Int32) S2)) ∧ (¬ r3 = 0 → (vp_in (8 : Int32) 23 ∧ (wp_X9_newMany S2 ((b9g_taped S1)) (fun r5 => (((((b9g_now S2) ((8 : Int32)).toNatClampNeg) + r5) ≤ (64 : Int32) → (wp_X9_comingFrom S2 ((b9g_taped S1)) (fun r7 u8 => (Q r7 u8)))) ∧ (¬ (((b9g_now S2) ((8 : Int32)).toNatClampNeg) + r5) ≤ (64 : Int32) → (Q (-1 : Int32) S2))))))))))))
set_option maxRecDepth 20000 in
theorem t_X9_keys {X : bf_X} (C : bf_C X RX9 cX9_keys 2 (some .int)) (hR : bf_Rm X 5 126) (S : bT9) (Q : Int32 → (bT9) → Prop) (h : wp_X9_keys S Q) : bf_A X (bf_Zi X bW9 Q) 2 0 [some (.ref 0), none] [] (bW9 S) := by
  unfold wp_X9_keys at h
  refine bs_aload_n C (bf_dk dd_X9_keys 0 rfl) rfl ?_
  refine bs_iconst C (bf_dk dd_X9_keys 1 rfl) (0 : Int32) (by decide) ?_
  refine bs_put C (bf_dk dd_X9_keys 2 rfl) tyX9_ok nmX9 cl_9 in_9 0 (Nat.le_of_ble_eq_true rfl) rfl f_9_75 rfl (ge_bW9_0 S) (Nat.le_of_ble_eq_true rfl) rfl rfl (pu_bW9_0_0 S (0 : Int32)) ?_
  refine bs_nameS bW9 (fun S1 eS1 => ?_)
  replace h := h S1 eS1
  refine bs_aload_n C (bf_dk dd_X9_keys 3 rfl) rfl ?_
  refine bs_get C (bf_dk dd_X9_keys 4 rfl) cl_9 in_9 7 (Nat.le_of_ble_eq_true rfl) rfl f_9_146 (ge_bW9_0 S1) rfl ?_
  refine bs_istore_n C (bf_dk dd_X9_keys 5 rfl) rfl (Nat.le_of_ble_eq_true rfl) (Nat.le_of_ble_eq_true rfl) (lv2 := [some (.ref 0), some (.int (b9g_taped S1))]) rfl ?_
  refine bs_aload_n C (bf_dk dd_X9_keys 6 rfl) rfl ?_
  refine bs_iconst C (bf_dk dd_X9_keys 7 rfl) (0 : Int32) (by decide) ?_
  refine bs_put C (bf_dk dd_X9_keys 8 rfl) tyX9_ok nmX9 cl_9 in_9 7 (Nat.le_of_ble_eq_true rfl) rfl f_9_146 rfl (ge_bW9_0 S1) (Nat.le_of_ble_eq_true rfl) rfl rfl (pu_bW9_0_7 S1 (0 : Int32)) ?_
  refine bs_nameS bW9 (fun S2 eS2 => ?_)
  replace h := h S2 eS2
  refine bs_aload_n C (bf_dk dd_X9_keys 9 rfl) rfl ?_
  refine bs_iload_n C (bf_dk dd_X9_keys 10 rfl) rfl ?_
  refine bs_selfPV_i C hR (c_X9_areKeys _ _ _ _ _ S2 ((b9g_taped S1)) _ h) my_X9_areKeys m_9_163 rfl cl_9 (ge_bW9_0 _) rfl (Nat.le_of_ble_eq_true rfl) (Nat.le_of_ble_eq_true rfl) (st := []) (Nat.le_of_ble_eq_true rfl) (bf_dk dd_X9_keys 11 rfl) rfl (fun r3 h => ?_)
  refine bs_if_eq C (bf_dk dd_X9_keys 12 rfl) (tgt := 41) rfl (fun c => ?_) (fun c => ?_)
  · replace h := h.1 c
    refine bs_iconst C (bf_dk dd_X9_keys 23 rfl) (-1 : Int32) (by decide) ?_
    exact bs_iret (u := S2) C (bf_dk dd_X9_keys 24 rfl) rfl h
  · replace h := h.2 c
    refine bs_aload_n C (bf_dk dd_X9_keys 13 rfl) rfl ?_
    refine bs_get C (bf_dk dd_X9_keys 14 rfl) cl_9 in_9 1 (Nat.le_of_ble_eq_true rfl) rfl f_9_7 (ge_bW9_0 S2) rfl ?_
    refine bs_bipush C (bf_dk dd_X9_keys 15 rfl) (8 : Int32) (by decide) ?_
    obtain ⟨hi, h⟩ := h
    refine bs_iald C (bf_dk dd_X9_keys 16 rfl) (ge_bW9_1 S2) hi ?_
    refine bs_aload_n C (bf_dk dd_X9_keys 17 rfl) rfl ?_
    refine bs_iload_n C (bf_dk dd_X9_keys 18 rfl) rfl ?_
    refine bs_selfPV_i C hR (c_X9_newMany _ _ _ _ _ S2 ((b9g_taped S1)) _ h) my_X9_newMany m_9_166 rfl cl_9 (ge_bW9_0 _) rfl (Nat.le_of_ble_eq_true rfl) (Nat.le_of_ble_eq_true rfl) (st := [.int ((b9g_now S2) ((8 : Int32)).toNatClampNeg)]) (Nat.le_of_ble_eq_true rfl) (bf_dk dd_X9_keys 19 rfl) rfl (fun r5 h => ?_)
    refine bs_iadd C (bf_dk dd_X9_keys 20 rfl) ?_
    refine bs_bipush C (bf_dk dd_X9_keys 21 rfl) (64 : Int32) (by decide) ?_
    refine bs_icmp_le C (bf_dk dd_X9_keys 22 rfl) (tgt := 43) rfl (fun c => ?_) (fun c => ?_)
    · replace h := h.1 c
      refine bs_aload_n C (bf_dk dd_X9_keys 25 rfl) rfl ?_
      refine bs_iload_n C (bf_dk dd_X9_keys 26 rfl) rfl ?_
      refine bs_selfV_i C hR (c_X9_comingFrom _ _ _ _ _ S2 ((b9g_taped S1)) _ h) my_X9_comingFrom m_9_169 rfl cl_9 (ge_bW9_0 _) rfl (Nat.le_of_ble_eq_true rfl) (Nat.le_of_ble_eq_true rfl) (st := []) (Nat.le_of_ble_eq_true rfl) (bf_dk dd_X9_keys 27 rfl) rfl (len := 21) (fun _ => rfl) (fun r7 u8 h => ?_)
      exact bs_iret (u := u8) C (bf_dk dd_X9_keys 28 rfl) rfl h
    · replace h := h.2 c
      refine bs_iconst C (bf_dk dd_X9_keys 23 rfl) (-1 : Int32) (by decide) ?_
      exact bs_iret (u := S2) C (bf_dk dd_X9_keys 24 rfl) rfl h
theorem c_X9_keys (l : Launch) (dC : Nat → ClassId) (dI : Nat → Nat → Nat) (ac : Nat → ClassId) (al : Nat → Nat) (S : bT9) (Q : Int32 → (bT9) → Prop) (h : wp_X9_keys S Q) : bf_M l yX9_keys cX9_keys 2 (some .int) 5 126 dC dI ac al [.ref 0] (bW9 S) (bf_Ki dC dI ac al bW9 Q) := by
  refine bf_start [some (.ref 0), none] (by decide) (Nat.le_of_ble_eq_true rfl) (bf_s1 (bf_en 1)) ?_
  intro X hl C hR e1 e2 e3 e4
  subst e1; subst e2; subst e3; subst e4
  exact t_X9_keys C hR S Q h
def wp_X9_key (S : bT9) (a1 : Int32) (Q : Int64 → Prop) : Prop := (vp_in ((64 : Int32) + a1) 144 ∧ (Q ((b9g_keys S) (((64 : Int32) + a1)).toNatClampNeg)))
set_option maxRecDepth 20000 in
theorem t_X9_key {X : bf_X} (C : bf_C X RX9 cX9_key 2 (some .long)) (hR : bf_Rm X 0 0) (S : bT9) (a1 : Int32) (Q : Int64 → Prop) (h : wp_X9_key S a1 Q) : bf_A X (bf_Zl X bW9 (fun r u => u = S ∧ Q r)) 2 0 [some (.ref 0), some (.int a1)] [] (bW9 S) := by
  unfold wp_X9_key at h
  refine bs_aload_n C (bf_dk dd_X9_key 0 rfl) rfl ?_
  refine bs_get C (bf_dk dd_X9_key 1 rfl) cl_9 in_9 2 (Nat.le_of_ble_eq_true rfl) rfl f_9_13 (ge_bW9_0 S) rfl ?_
  refine bs_bipush C (bf_dk dd_X9_key 2 rfl) (64 : Int32) (by decide) ?_
  refine bs_iload_n C (bf_dk dd_X9_key 3 rfl) rfl ?_
  refine bs_iadd C (bf_dk dd_X9_key 4 rfl) ?_
  obtain ⟨hi, h⟩ := h
  refine bs_lald C (bf_dk dd_X9_key 5 rfl) (ge_bW9_2 S) hi ?_
  exact bs_lret (u := S) C (bf_dk dd_X9_key 6 rfl) rfl ⟨rfl, h⟩
theorem c_X9_key (l : Launch) (dC : Nat → ClassId) (dI : Nat → Nat → Nat) (ac : Nat → ClassId) (al : Nat → Nat) (S : bT9) (a1 : Int32) (Q : Int64 → Prop) (h : wp_X9_key S a1 Q) : bf_M l yX9_key cX9_key 2 (some .long) 0 0 dC dI ac al [.ref 0, .int a1] (bW9 S) (bf_Kl dC dI ac al bW9 (fun r u => u = S ∧ Q r)) := by
  refine bf_start [some (.ref 0), some (.int a1)] (by decide) (Nat.le_of_ble_eq_true rfl) (bf_s1 (bf_s1 bf_s0)) ?_
  intro X hl C hR e1 e2 e3 e4
  subst e1; subst e2; subst e3; subst e4
  exact t_X9_key C hR S a1 Q h
def wp_X9_lengthOf (S : bT9) (a1 : Int32) (Q : Int32 → Prop) : Prop := (vp_in ((64 : Int32) + a1) 144 ∧ (Q ((b9g_lengths S) (((64 : Int32) + a1)).toNatClampNeg)))
set_option maxRecDepth 20000 in
theorem t_X9_lengthOf {X : bf_X} (C : bf_C X RX9 cX9_lengthOf 2 (some .int)) (hR : bf_Rm X 0 0) (S : bT9) (a1 : Int32) (Q : Int32 → Prop) (h : wp_X9_lengthOf S a1 Q) : bf_A X (bf_Zi X bW9 (fun r u => u = S ∧ Q r)) 2 0 [some (.ref 0), some (.int a1)] [] (bW9 S) := by
  unfold wp_X9_lengthOf at h
  refine bs_aload_n C (bf_dk dd_X9_lengthOf 0 rfl) rfl ?_
  refine bs_get C (bf_dk dd_X9_lengthOf 1 rfl) cl_9 in_9 3 (Nat.le_of_ble_eq_true rfl) rfl f_9_17 (ge_bW9_0 S) rfl ?_
  refine bs_bipush C (bf_dk dd_X9_lengthOf 2 rfl) (64 : Int32) (by decide) ?_
  refine bs_iload_n C (bf_dk dd_X9_lengthOf 3 rfl) rfl ?_
  refine bs_iadd C (bf_dk dd_X9_lengthOf 4 rfl) ?_
  obtain ⟨hi, h⟩ := h
  refine bs_iald C (bf_dk dd_X9_lengthOf 5 rfl) (ge_bW9_3 S) hi ?_
  exact bs_iret (u := S) C (bf_dk dd_X9_lengthOf 6 rfl) rfl ⟨rfl, h⟩
theorem c_X9_lengthOf (l : Launch) (dC : Nat → ClassId) (dI : Nat → Nat → Nat) (ac : Nat → ClassId) (al : Nat → Nat) (S : bT9) (a1 : Int32) (Q : Int32 → Prop) (h : wp_X9_lengthOf S a1 Q) : bf_M l yX9_lengthOf cX9_lengthOf 2 (some .int) 0 0 dC dI ac al [.ref 0, .int a1] (bW9 S) (bf_Ki dC dI ac al bW9 (fun r u => u = S ∧ Q r)) := by
  refine bf_start [some (.ref 0), some (.int a1)] (by decide) (Nat.le_of_ble_eq_true rfl) (bf_s1 (bf_s1 bf_s0)) ?_
  intro X hl C hR e1 e2 e3 e4
  subst e1; subst e2; subst e3; subst e4
  exact t_X9_lengthOf C hR S a1 Q h
def wp_X9_alike_19b (S : bT9) (x1 : Int32) (x2 : Int32) (x3 : Int32) (Q : Int32 → Prop) (B19 : Int32 → Int32 → Int32 → Prop) : Prop := (wp_X9_lengthOf S (x1) (fun r1 => ((r1 ≤ x3 → (Q x3)) ∧ (¬ r1 ≤ x3 → (wp_X9_lengthOf S (x2) (fun r3 => ((r3 ≤ x3 → (Q x3)) ∧ (¬ r3 ≤ x3 → (wp_X9_key S (x1) (fun r5 => (wp_X9_byteOf S (r5) (x3) (fun r7 => (wp_X9_key S (x2) (fun r9 => (wp_X9_byteOf S (r9) (x3) (fun r11 => ((¬ r7 = r11 → (Q x3)) ∧ (r7 = r11 → (B19 (x1) (x2) ((x3 + (1 : Int32))))))))))))))))))))))
set_option maxRecDepth 20000 in
theorem t_X9_alike_19b {X : bf_X} (C : bf_C X RX9 cX9_alike 4 (some .int)) (hR : bf_Rm X 1 23) (S : bT9) (x1 : Int32) (x2 : Int32) (x3 : Int32) (Q : Int32 → Prop) (B19 : Int32 → Int32 → Int32 → Prop) (hB19 : ∀ (x1 : Int32) (x2 : Int32) (x3 : Int32), B19 x1 x2 x3 → bf_A X (bf_Zi X bW9 (fun r u => u = S ∧ Q r)) 4 19 [some (.ref 0), some (.int x1), some (.int x2), some (.int x3)] [] (bW9 S)) (h : wp_X9_alike_19b S x1 x2 x3 Q B19) : bf_A X (bf_Zi X bW9 (fun r u => u = S ∧ Q r)) 4 19 [some (.ref 0), some (.int x1), some (.int x2), some (.int x3)] [] (bW9 S) := by
  unfold wp_X9_alike_19b at h
  refine bs_iload_n C (bf_dk dd_X9_alike 12 rfl) rfl ?_
  refine bs_aload_n C (bf_dk dd_X9_alike 13 rfl) rfl ?_
  refine bs_iload_n C (bf_dk dd_X9_alike 14 rfl) rfl ?_
  refine bs_selfPV_i C hR (c_X9_lengthOf _ _ _ _ _ S (x1) _ h) my_X9_lengthOf m_9_175 rfl cl_9 (ge_bW9_0 _) rfl (Nat.le_of_ble_eq_true rfl) (Nat.le_of_ble_eq_true rfl) (st := [.int x3]) (Nat.le_of_ble_eq_true rfl) (bf_dk dd_X9_alike 15 rfl) rfl (fun r1 h => ?_)
  refine bs_icmp_ge C (bf_dk dd_X9_alike 16 rfl) (tgt := 67) rfl (fun c => ?_) (fun c => ?_)
  · replace h := h.1 c
    refine bs_iload_n C (bf_dk dd_X9_alike 40 rfl) rfl ?_
    exact bs_iret (u := S) C (bf_dk dd_X9_alike 41 rfl) rfl ⟨rfl, h⟩
  · replace h := h.2 c
    refine bs_iload_n C (bf_dk dd_X9_alike 17 rfl) rfl ?_
    refine bs_aload_n C (bf_dk dd_X9_alike 18 rfl) rfl ?_
    refine bs_iload_n C (bf_dk dd_X9_alike 19 rfl) rfl ?_
    refine bs_selfPV_i C hR (c_X9_lengthOf _ _ _ _ _ S (x2) _ h) my_X9_lengthOf m_9_175 rfl cl_9 (ge_bW9_0 _) rfl (Nat.le_of_ble_eq_true rfl) (Nat.le_of_ble_eq_true rfl) (st := [.int x3]) (Nat.le_of_ble_eq_true rfl) (bf_dk dd_X9_alike 20 rfl) rfl (fun r3 h => ?_)
    refine bs_icmp_ge C (bf_dk dd_X9_alike 21 rfl) (tgt := 67) rfl (fun c => ?_) (fun c => ?_)
    · replace h := h.1 c
      refine bs_iload_n C (bf_dk dd_X9_alike 40 rfl) rfl ?_
      exact bs_iret (u := S) C (bf_dk dd_X9_alike 41 rfl) rfl ⟨rfl, h⟩
    · replace h := h.2 c
      refine bs_aload_n C (bf_dk dd_X9_alike 22 rfl) rfl ?_
      refine bs_aload_n C (bf_dk dd_X9_alike 23 rfl) rfl ?_
      refine bs_iload_n C (bf_dk dd_X9_alike 24 rfl) rfl ?_
      refine bs_selfPV_l C hR (c_X9_key _ _ _ _ _ S (x1) _ h) my_X9_key m_9_178 rfl cl_9 (ge_bW9_0 _) rfl (Nat.le_of_ble_eq_true rfl) (Nat.le_of_ble_eq_true rfl) (st := [.ref 0]) (Nat.le_of_ble_eq_true rfl) (bf_dk dd_X9_alike 25 rfl) rfl (fun r5 h => ?_)
      refine bs_iload_n C (bf_dk dd_X9_alike 26 rfl) rfl ?_
      refine bs_selfPV_i C hR (c_X9_byteOf _ _ _ _ _ S (r5) (x3) _ h) my_X9_byteOf m_9_181 rfl cl_9 (ge_bW9_0 _) rfl (Nat.le_of_ble_eq_true rfl) (Nat.le_of_ble_eq_true rfl) (st := []) (Nat.le_of_ble_eq_true rfl) (bf_dk dd_X9_alike 27 rfl) rfl (fun r7 h => ?_)
      refine bs_aload_n C (bf_dk dd_X9_alike 28 rfl) rfl ?_
      refine bs_aload_n C (bf_dk dd_X9_alike 29 rfl) rfl ?_
      refine bs_iload_n C (bf_dk dd_X9_alike 30 rfl) rfl ?_
      refine bs_selfPV_l C hR (c_X9_key _ _ _ _ _ S (x2) _ h) my_X9_key m_9_178 rfl cl_9 (ge_bW9_0 _) rfl (Nat.le_of_ble_eq_true rfl) (Nat.le_of_ble_eq_true rfl) (st := [.ref 0, .int r7]) (Nat.le_of_ble_eq_true rfl) (bf_dk dd_X9_alike 31 rfl) rfl (fun r9 h => ?_)
      refine bs_iload_n C (bf_dk dd_X9_alike 32 rfl) rfl ?_
      refine bs_selfPV_i C hR (c_X9_byteOf _ _ _ _ _ S (r9) (x3) _ h) my_X9_byteOf m_9_181 rfl cl_9 (ge_bW9_0 _) rfl (Nat.le_of_ble_eq_true rfl) (Nat.le_of_ble_eq_true rfl) (st := [.int r7]) (Nat.le_of_ble_eq_true rfl) (bf_dk dd_X9_alike 33 rfl) rfl (fun r11 h => ?_)
      refine bs_icmp_ne C (bf_dk dd_X9_alike 34 rfl) (tgt := 67) rfl (fun c => ?_) (fun c => ?_)
      · replace h := h.1 c
        refine bs_iload_n C (bf_dk dd_X9_alike 40 rfl) rfl ?_
        exact bs_iret (u := S) C (bf_dk dd_X9_alike 41 rfl) rfl ⟨rfl, h⟩
      · replace h := h.2 c
        refine bs_iload_n C (bf_dk dd_X9_alike 35 rfl) rfl ?_
        refine bs_iconst C (bf_dk dd_X9_alike 36 rfl) (1 : Int32) (by decide) ?_
        refine bs_iadd C (bf_dk dd_X9_alike 37 rfl) ?_
        refine bs_istore_n C (bf_dk dd_X9_alike 38 rfl) rfl (Nat.le_of_ble_eq_true rfl) (Nat.le_of_ble_eq_true rfl) (lv2 := [some (.ref 0), some (.int x1), some (.int x2), some (.int (x3 + (1 : Int32)))]) rfl ?_
        refine bs_goto C (bf_dk dd_X9_alike 39 rfl) (tgt := 19) rfl ?_
        exact bs_weak (bf_s1 (bf_s1 (bf_s1 (bf_s1 bf_s0)))) (hB19 (x1) (x2) ((x3 + (1 : Int32))) h)
def wp_X9_alike_19 (S : bT9) (x1 : Int32) (x2 : Int32) (x3 : Int32) (Q : Int32 → Prop) : Prop := ∃ I : Nat → Int32 → Int32 → Int32 → Prop, (∃ n : Nat, I n x1 x2 x3) ∧ ∀ (n : Nat) (x1 : Int32) (x2 : Int32) (x3 : Int32), I n x1 x2 x3 → wp_X9_alike_19b S x1 x2 x3 Q (fun x1 x2 x3 => ∃ n2 : Nat, n2 < n ∧ I n2 x1 x2 x3)
theorem t_X9_alike_19 {X : bf_X} (C : bf_C X RX9 cX9_alike 4 (some .int)) (hR : bf_Rm X 1 23) (S : bT9) (x1 : Int32) (x2 : Int32) (x3 : Int32) (Q : Int32 → Prop) (h : wp_X9_alike_19 S x1 x2 x3 Q) : bf_A X (bf_Zi X bW9 (fun r u => u = S ∧ Q r)) 4 19 [some (.ref 0), some (.int x1), some (.int x2), some (.int x3)] [] (bW9 S) := by
  obtain ⟨I, ⟨n0, h0⟩, hI⟩ := h
  have key : ∀ (n : Nat) (x1 : Int32) (x2 : Int32) (x3 : Int32), I n x1 x2 x3 → bf_A X (bf_Zi X bW9 (fun r u => u = S ∧ Q r)) 4 19 [some (.ref 0), some (.int x1), some (.int x2), some (.int x3)] [] (bW9 S) := by
    intro n
    induction n using Nat.strongRecOn with
    | _ n ih =>
      intro x1 x2 x3 hi
      exact t_X9_alike_19b C hR S x1 x2 x3 Q _ (fun x1 x2 x3 hb => by obtain ⟨n2, hn, hi2⟩ := hb; exact ih n2 hn x1 x2 x3 hi2) (hI n x1 x2 x3 hi)
  exact key n0 x1 x2 x3 h0
def wp_X9_alike (S : bT9) (a1 : Int32) (a2 : Int32) (Q : Int32 → Prop) : Prop := ((a1 < 0 → (Q (0 : Int32))) ∧ (¬ a1 < 0 → (vp_in (9 : Int32) 23 ∧ ((a2 < ((b9g_now S) ((9 : Int32)).toNatClampNeg) → (wp_X9_alike_19 S (a1) (a2) ((0 : Int32)) Q)) ∧ (¬ a2 < ((b9g_now S) ((9 : Int32)).toNatClampNeg) → (Q (0 : Int32)))))))
set_option maxRecDepth 20000 in
theorem t_X9_alike {X : bf_X} (C : bf_C X RX9 cX9_alike 4 (some .int)) (hR : bf_Rm X 1 23) (S : bT9) (a1 : Int32) (a2 : Int32) (Q : Int32 → Prop) (h : wp_X9_alike S a1 a2 Q) : bf_A X (bf_Zi X bW9 (fun r u => u = S ∧ Q r)) 4 0 [some (.ref 0), some (.int a1), some (.int a2), none] [] (bW9 S) := by
  unfold wp_X9_alike at h
  refine bs_iload_n C (bf_dk dd_X9_alike 0 rfl) rfl ?_
  refine bs_if_lt C (bf_dk dd_X9_alike 1 rfl) (tgt := 15) rfl (fun c => ?_) (fun c => ?_)
  · replace h := h.1 c
    refine bs_iconst C (bf_dk dd_X9_alike 8 rfl) (0 : Int32) (by decide) ?_
    exact bs_iret (u := S) C (bf_dk dd_X9_alike 9 rfl) rfl ⟨rfl, h⟩
  · replace h := h.2 c
    refine bs_iload_n C (bf_dk dd_X9_alike 2 rfl) rfl ?_
    refine bs_aload_n C (bf_dk dd_X9_alike 3 rfl) rfl ?_
    refine bs_get C (bf_dk dd_X9_alike 4 rfl) cl_9 in_9 1 (Nat.le_of_ble_eq_true rfl) rfl f_9_7 (ge_bW9_0 S) rfl ?_
    refine bs_bipush C (bf_dk dd_X9_alike 5 rfl) (9 : Int32) (by decide) ?_
    obtain ⟨hi, h⟩ := h
    refine bs_iald C (bf_dk dd_X9_alike 6 rfl) (ge_bW9_1 S) hi ?_
    refine bs_icmp_lt C (bf_dk dd_X9_alike 7 rfl) (tgt := 17) rfl (fun c => ?_) (fun c => ?_)
    · replace h := h.1 c
      refine bs_iconst C (bf_dk dd_X9_alike 10 rfl) (0 : Int32) (by decide) ?_
      refine bs_istore_n C (bf_dk dd_X9_alike 11 rfl) rfl (Nat.le_of_ble_eq_true rfl) (Nat.le_of_ble_eq_true rfl) (lv2 := [some (.ref 0), some (.int a1), some (.int a2), some (.int (0 : Int32))]) rfl ?_
      exact bs_weak (bf_s1 (bf_s1 (bf_s1 (bf_s1 bf_s0)))) (t_X9_alike_19 C hR S (a1) (a2) ((0 : Int32)) Q h)
    · replace h := h.2 c
      refine bs_iconst C (bf_dk dd_X9_alike 8 rfl) (0 : Int32) (by decide) ?_
      exact bs_iret (u := S) C (bf_dk dd_X9_alike 9 rfl) rfl ⟨rfl, h⟩
theorem c_X9_alike (l : Launch) (dC : Nat → ClassId) (dI : Nat → Nat → Nat) (ac : Nat → ClassId) (al : Nat → Nat) (S : bT9) (a1 : Int32) (a2 : Int32) (Q : Int32 → Prop) (h : wp_X9_alike S a1 a2 Q) : bf_M l yX9_alike cX9_alike 4 (some .int) 1 23 dC dI ac al [.ref 0, .int a1, .int a2] (bW9 S) (bf_Ki dC dI ac al bW9 (fun r u => u = S ∧ Q r)) := by
  refine bf_start [some (.ref 0), some (.int a1), some (.int a2), none] (by decide) (Nat.le_of_ble_eq_true rfl) (bf_s1 (bf_s1 (bf_s1 (bf_en 1)))) ?_
  intro X hl C hR e1 e2 e3 e4
  subst e1; subst e2; subst e3; subst e4
  exact t_X9_alike C hR S a1 a2 Q h
def wp_X9_laysBeginnings_96 (S : bT9) (x1 : Int32) (t1 : Int32) (t2 : Int32) (Q : (bT9) → Prop) (B15 : Int32 → (bT9) → Prop) : Prop := (vp_in t1 64 ∧ (∀ S1 : bT9, S1 = (b9s_beginning S (upd (b9g_beginning S) (t1).toNatClampNeg t2)) → (B15 ((x1 + (1 : Int32))) S1)))
set_option maxRecDepth 20000 in
theorem t_X9_laysBeginnings_96 {X : bf_X} (C : bf_C X RX9 cX9_laysBeginnings 4 none) (hR : bf_Rm X 2 46) (S : bT9) (x1 : Int32) (t1 : Int32) (t2 : Int32) (Q : (bT9) → Prop) (B15 : Int32 → (bT9) → Prop) (hB15 : ∀ (x1 : Int32) (S : bT9), B15 x1 S → bf_A X (bf_Zv X bW9 Q) 4 15 [some (.ref 0), some (.int x1), none, none] [] (bW9 S)) (h : wp_X9_laysBeginnings_96 S x1 t1 t2 Q B15) : bf_A X (bf_Zv X bW9 Q) 4 96 [some (.ref 0), some (.int x1), none, none] [.int t2, .int t1, .ref 7] (bW9 S) := by
  unfold wp_X9_laysBeginnings_96 at h
  obtain ⟨hi, h⟩ := h
  refine bs_iast C (bf_dk dd_X9_laysBeginnings 61 rfl) (ge_bW9_7 S) hi (ar_bW9_7 S _) ?_
  refine bs_nameS bW9 (fun S1 eS1 => ?_)
  replace h := h S1 eS1
  refine bs_iinc C (bf_dk dd_X9_laysBeginnings 62 rfl) (x1 + (1 : Int32)) rfl rfl (Nat.le_of_ble_eq_true rfl) (Nat.le_of_ble_eq_true rfl) (lv2 := [some (.ref 0), some (.int (x1 + (1 : Int32))), none, none]) rfl ?_
  refine bs_goto C (bf_dk dd_X9_laysBeginnings 63 rfl) (tgt := 15) rfl ?_
  exact bs_weak (bf_s1 (bf_s1 (bf_sn (bf_sn bf_s0)))) (hB15 ((x1 + (1 : Int32))) S1 h)
def wp_X9_laysBeginnings_59 (S : bT9) (x1 : Int32) (t1 : Int32) (t2 : Int32) (Q : (bT9) → Prop) (B15 : Int32 → (bT9) → Prop) : Prop := (vp_in t1 64 ∧ (∀ S2 : bT9, S2 = (b9s_common S (upd (b9g_common S) (t1).toNatClampNeg t2)) → (vp_in x1 64 ∧ (wp_X9_lengthOf S2 (x1) (fun r3 => ((¬ ((b9g_common S2) (x1).toNatClampNeg) = r3 → (vp_in x1 64 ∧ (wp_X9_laysBeginnings_96 S2 (x1) (x1) ((((b9g_common S2) (x1).toNatClampNeg) + (1 : Int32))) Q B15))) ∧ (((b9g_common S2) (x1).toNatClampNeg) = r3 → (vp_in x1 64 ∧ (wp_X9_laysBeginnings_96 S2 (x1) (x1) (((b9g_common S2) (x1).toNatClampNeg)) Q B15)))))))))
set_option maxRecDepth 20000 in
theorem t_X9_laysBeginnings_59 {X : bf_X} (C : bf_C X RX9 cX9_laysBeginnings 4 none) (hR : bf_Rm X 2 46) (S : bT9) (x1 : Int32) (t1 : Int32) (t2 : Int32) (Q : (bT9) → Prop) (B15 : Int32 → (bT9) → Prop) (hB15 : ∀ (x1 : Int32) (S : bT9), B15 x1 S → bf_A X (bf_Zv X bW9 Q) 4 15 [some (.ref 0), some (.int x1), none, none] [] (bW9 S)) (h : wp_X9_laysBeginnings_59 S x1 t1 t2 Q B15) : bf_A X (bf_Zv X bW9 Q) 4 59 [some (.ref 0), some (.int x1), none, none] [.int t2, .int t1, .ref 6] (bW9 S) := by
  unfold wp_X9_laysBeginnings_59 at h
  obtain ⟨hi, h⟩ := h
  refine bs_iast C (bf_dk dd_X9_laysBeginnings 38 rfl) (ge_bW9_6 S) hi (ar_bW9_6 S _) ?_
  refine bs_nameS bW9 (fun S2 eS2 => ?_)
  replace h := h S2 eS2
  refine bs_aload_n C (bf_dk dd_X9_laysBeginnings 39 rfl) rfl ?_
  refine bs_get C (bf_dk dd_X9_laysBeginnings 40 rfl) cl_9 in_9 11 (Nat.le_of_ble_eq_true rfl) rfl f_9_29 (ge_bW9_0 S2) rfl ?_
  refine bs_iload_n C (bf_dk dd_X9_laysBeginnings 41 rfl) rfl ?_
  refine bs_aload_n C (bf_dk dd_X9_laysBeginnings 42 rfl) rfl ?_
  refine bs_get C (bf_dk dd_X9_laysBeginnings 43 rfl) cl_9 in_9 10 (Nat.le_of_ble_eq_true rfl) rfl f_9_26 (ge_bW9_0 S2) rfl ?_
  refine bs_iload_n C (bf_dk dd_X9_laysBeginnings 44 rfl) rfl ?_
  obtain ⟨hi, h⟩ := h
  refine bs_iald C (bf_dk dd_X9_laysBeginnings 45 rfl) (ge_bW9_6 S2) hi ?_
  refine bs_aload_n C (bf_dk dd_X9_laysBeginnings 46 rfl) rfl ?_
  refine bs_iload_n C (bf_dk dd_X9_laysBeginnings 47 rfl) rfl ?_
  refine bs_selfPV_i C hR (c_X9_lengthOf _ _ _ _ _ S2 (x1) _ h) my_X9_lengthOf m_9_175 rfl cl_9 (ge_bW9_0 _) rfl (Nat.le_of_ble_eq_true rfl) (Nat.le_of_ble_eq_true rfl) (st := [.int ((b9g_common S2) (x1).toNatClampNeg), .int x1, .ref 7]) (Nat.le_of_ble_eq_true rfl) (bf_dk dd_X9_laysBeginnings 48 rfl) rfl (fun r3 h => ?_)
  refine bs_icmp_ne C (bf_dk dd_X9_laysBeginnings 49 rfl) (tgt := 88) rfl (fun c => ?_) (fun c => ?_)
  · replace h := h.1 c
    refine bs_aload_n C (bf_dk dd_X9_laysBeginnings 55 rfl) rfl ?_
    refine bs_get C (bf_dk dd_X9_laysBeginnings 56 rfl) cl_9 in_9 10 (Nat.le_of_ble_eq_true rfl) rfl f_9_26 (ge_bW9_0 S2) rfl ?_
    refine bs_iload_n C (bf_dk dd_X9_laysBeginnings 57 rfl) rfl ?_
    obtain ⟨hi, h⟩ := h
    refine bs_iald C (bf_dk dd_X9_laysBeginnings 58 rfl) (ge_bW9_6 S2) hi ?_
    refine bs_iconst C (bf_dk dd_X9_laysBeginnings 59 rfl) (1 : Int32) (by decide) ?_
    refine bs_iadd C (bf_dk dd_X9_laysBeginnings 60 rfl) ?_
    exact bs_weak (bf_s1 (bf_s1 (bf_sn (bf_sn bf_s0)))) (t_X9_laysBeginnings_96 C hR S2 (x1) (x1) ((((b9g_common S2) (x1).toNatClampNeg) + (1 : Int32))) Q B15 hB15 h)
  · replace h := h.2 c
    refine bs_aload_n C (bf_dk dd_X9_laysBeginnings 50 rfl) rfl ?_
    refine bs_get C (bf_dk dd_X9_laysBeginnings 51 rfl) cl_9 in_9 10 (Nat.le_of_ble_eq_true rfl) rfl f_9_26 (ge_bW9_0 S2) rfl ?_
    refine bs_iload_n C (bf_dk dd_X9_laysBeginnings 52 rfl) rfl ?_
    obtain ⟨hi, h⟩ := h
    refine bs_iald C (bf_dk dd_X9_laysBeginnings 53 rfl) (ge_bW9_6 S2) hi ?_
    refine bs_goto C (bf_dk dd_X9_laysBeginnings 54 rfl) (tgt := 96) rfl ?_
    exact bs_weak (bf_s1 (bf_s1 (bf_sn (bf_sn bf_s0)))) (t_X9_laysBeginnings_96 C hR S2 (x1) (x1) (((b9g_common S2) (x1).toNatClampNeg)) Q B15 hB15 h)
def wp_X9_laysBeginnings_15b (S : bT9) (x1 : Int32) (Q : (bT9) → Prop) (B15 : Int32 → (bT9) → Prop) : Prop := (vp_in (9 : Int32) 23 ∧ ((((b9g_now S) ((9 : Int32)).toNatClampNeg) ≤ x1 → (Q S)) ∧ (¬ ((b9g_now S) ((9 : Int32)).toNatClampNeg) ≤ x1 → (wp_X9_alike S ((x1 - (1 : Int32))) (x1) (fun r5 => (wp_X9_alike S (x1) ((x1 + (1 : Int32))) (fun r7 => ((r5 ≤ r7 → (wp_X9_laysBeginnings_59 S (x1) (x1) (r7) Q B15)) ∧ (¬ r5 ≤ r7 → (wp_X9_laysBeginnings_59 S (x1) (x1) (r5) Q B15))))))))))
set_option maxRecDepth 20000 in
theorem t_X9_laysBeginnings_15b {X : bf_X} (C : bf_C X RX9 cX9_laysBeginnings 4 none) (hR : bf_Rm X 2 46) (S : bT9) (x1 : Int32) (Q : (bT9) → Prop) (B15 : Int32 → (bT9) → Prop) (hB15 : ∀ (x1 : Int32) (S : bT9), B15 x1 S → bf_A X (bf_Zv X bW9 Q) 4 15 [some (.ref 0), some (.int x1), none, none] [] (bW9 S)) (h : wp_X9_laysBeginnings_15b S x1 Q B15) : bf_A X (bf_Zv X bW9 Q) 4 15 [some (.ref 0), some (.int x1), none, none] [] (bW9 S) := by
  unfold wp_X9_laysBeginnings_15b at h
  refine bs_iload_n C (bf_dk dd_X9_laysBeginnings 9 rfl) rfl ?_
  refine bs_aload_n C (bf_dk dd_X9_laysBeginnings 10 rfl) rfl ?_
  refine bs_get C (bf_dk dd_X9_laysBeginnings 11 rfl) cl_9 in_9 1 (Nat.le_of_ble_eq_true rfl) rfl f_9_7 (ge_bW9_0 S) rfl ?_
  refine bs_bipush C (bf_dk dd_X9_laysBeginnings 12 rfl) (9 : Int32) (by decide) ?_
  obtain ⟨hi, h⟩ := h
  refine bs_iald C (bf_dk dd_X9_laysBeginnings 13 rfl) (ge_bW9_1 S) hi ?_
  refine bs_icmp_ge C (bf_dk dd_X9_laysBeginnings 14 rfl) (tgt := 103) rfl (fun c => ?_) (fun c => ?_)
  · replace h := h.1 c
    exact bs_vret (u := S) C (bf_dk dd_X9_laysBeginnings 64 rfl) rfl h
  · replace h := h.2 c
    refine bs_aload_n C (bf_dk dd_X9_laysBeginnings 15 rfl) rfl ?_
    refine bs_iload_n C (bf_dk dd_X9_laysBeginnings 16 rfl) rfl ?_
    refine bs_iconst C (bf_dk dd_X9_laysBeginnings 17 rfl) (1 : Int32) (by decide) ?_
    refine bs_isub C (bf_dk dd_X9_laysBeginnings 18 rfl) ?_
    refine bs_iload_n C (bf_dk dd_X9_laysBeginnings 19 rfl) rfl ?_
    refine bs_selfPV_i C hR (c_X9_alike _ _ _ _ _ S ((x1 - (1 : Int32))) (x1) _ h) my_X9_alike m_9_188 rfl cl_9 (ge_bW9_0 _) rfl (Nat.le_of_ble_eq_true rfl) (Nat.le_of_ble_eq_true rfl) (st := []) (Nat.le_of_ble_eq_true rfl) (bf_dk dd_X9_laysBeginnings 20 rfl) rfl (fun r5 h => ?_)
    refine bs_istore_n C (bf_dk dd_X9_laysBeginnings 21 rfl) rfl (Nat.le_of_ble_eq_true rfl) (Nat.le_of_ble_eq_true rfl) (lv2 := [some (.ref 0), some (.int x1), some (.int r5), none]) rfl ?_
    refine bs_aload_n C (bf_dk dd_X9_laysBeginnings 22 rfl) rfl ?_
    refine bs_iload_n C (bf_dk dd_X9_laysBeginnings 23 rfl) rfl ?_
    refine bs_iload_n C (bf_dk dd_X9_laysBeginnings 24 rfl) rfl ?_
    refine bs_iconst C (bf_dk dd_X9_laysBeginnings 25 rfl) (1 : Int32) (by decide) ?_
    refine bs_iadd C (bf_dk dd_X9_laysBeginnings 26 rfl) ?_
    refine bs_selfPV_i C hR (c_X9_alike _ _ _ _ _ S (x1) ((x1 + (1 : Int32))) _ h) my_X9_alike m_9_188 rfl cl_9 (ge_bW9_0 _) rfl (Nat.le_of_ble_eq_true rfl) (Nat.le_of_ble_eq_true rfl) (st := []) (Nat.le_of_ble_eq_true rfl) (bf_dk dd_X9_laysBeginnings 27 rfl) rfl (fun r7 h => ?_)
    refine bs_istore_n C (bf_dk dd_X9_laysBeginnings 28 rfl) rfl (Nat.le_of_ble_eq_true rfl) (Nat.le_of_ble_eq_true rfl) (lv2 := [some (.ref 0), some (.int x1), some (.int r5), some (.int r7)]) rfl ?_
    refine bs_aload_n C (bf_dk dd_X9_laysBeginnings 29 rfl) rfl ?_
    refine bs_get C (bf_dk dd_X9_laysBeginnings 30 rfl) cl_9 in_9 10 (Nat.le_of_ble_eq_true rfl) rfl f_9_26 (ge_bW9_0 S) rfl ?_
    refine bs_iload_n C (bf_dk dd_X9_laysBeginnings 31 rfl) rfl ?_
    refine bs_iload_n C (bf_dk dd_X9_laysBeginnings 32 rfl) rfl ?_
    refine bs_iload_n C (bf_dk dd_X9_laysBeginnings 33 rfl) rfl ?_
    refine bs_icmp_le C (bf_dk dd_X9_laysBeginnings 34 rfl) (tgt := 58) rfl (fun c => ?_) (fun c => ?_)
    · replace h := h.1 c
      refine bs_iload_n C (bf_dk dd_X9_laysBeginnings 37 rfl) rfl ?_
      exact bs_weak (bf_s1 (bf_s1 (bf_sn (bf_sn bf_s0)))) (t_X9_laysBeginnings_59 C hR S (x1) (x1) (r7) Q B15 hB15 h)
    · replace h := h.2 c
      refine bs_iload_n C (bf_dk dd_X9_laysBeginnings 35 rfl) rfl ?_
      refine bs_goto C (bf_dk dd_X9_laysBeginnings 36 rfl) (tgt := 59) rfl ?_
      exact bs_weak (bf_s1 (bf_s1 (bf_sn (bf_sn bf_s0)))) (t_X9_laysBeginnings_59 C hR S (x1) (x1) (r5) Q B15 hB15 h)
def wp_X9_laysBeginnings_15 (S : bT9) (x1 : Int32) (Q : (bT9) → Prop) : Prop := ∃ I : Nat → Int32 → (bT9) → Prop, (∃ n : Nat, I n x1 S) ∧ ∀ (n : Nat) (x1 : Int32) (S : bT9), I n x1 S → wp_X9_laysBeginnings_15b S x1 Q (fun x1 S => ∃ n2 : Nat, n2 < n ∧ I n2 x1 S)
theorem t_X9_laysBeginnings_15 {X : bf_X} (C : bf_C X RX9 cX9_laysBeginnings 4 none) (hR : bf_Rm X 2 46) (S : bT9) (x1 : Int32) (Q : (bT9) → Prop) (h : wp_X9_laysBeginnings_15 S x1 Q) : bf_A X (bf_Zv X bW9 Q) 4 15 [some (.ref 0), some (.int x1), none, none] [] (bW9 S) := by
  obtain ⟨I, ⟨n0, h0⟩, hI⟩ := h
  have key : ∀ (n : Nat) (x1 : Int32) (S : bT9), I n x1 S → bf_A X (bf_Zv X bW9 Q) 4 15 [some (.ref 0), some (.int x1), none, none] [] (bW9 S) := by
    intro n
    induction n using Nat.strongRecOn with
    | _ n ih =>
      intro x1 S hi
      exact t_X9_laysBeginnings_15b C hR S x1 Q _ (fun x1 S hb => by obtain ⟨n2, hn, hi2⟩ := hb; exact ih n2 hn x1 S hi2) (hI n x1 S hi)
  exact key n0 x1 S h0
def wp_X9_laysBeginnings (S : bT9) (Q : (bT9) → Prop) : Prop := (((b9g_isLaid S) = 0 → (∀ S9 : bT9, S9 = (b9s_isLaid S (1 : Int32)) → (wp_X9_laysBeginnings_15 S9 ((0 : Int32)) Q))) ∧ (¬ (b9g_isLaid S) = 0 → (Q S)))
set_option maxRecDepth 20000 in
theorem t_X9_laysBeginnings {X : bf_X} (C : bf_C X RX9 cX9_laysBeginnings 4 none) (hR : bf_Rm X 2 46) (S : bT9) (Q : (bT9) → Prop) (h : wp_X9_laysBeginnings S Q) : bf_A X (bf_Zv X bW9 Q) 4 0 [some (.ref 0), none, none, none] [] (bW9 S) := by
  unfold wp_X9_laysBeginnings at h
  refine bs_aload_n C (bf_dk dd_X9_laysBeginnings 0 rfl) rfl ?_
  refine bs_get C (bf_dk dd_X9_laysBeginnings 1 rfl) cl_9 in_9 12 (Nat.le_of_ble_eq_true rfl) rfl f_9_184 (ge_bW9_0 S) rfl ?_
  refine bs_if_eq C (bf_dk dd_X9_laysBeginnings 2 rfl) (tgt := 8) rfl (fun c => ?_) (fun c => ?_)
  · replace h := h.1 c
    refine bs_aload_n C (bf_dk dd_X9_laysBeginnings 4 rfl) rfl ?_
    refine bs_iconst C (bf_dk dd_X9_laysBeginnings 5 rfl) (1 : Int32) (by decide) ?_
    refine bs_put C (bf_dk dd_X9_laysBeginnings 6 rfl) tyX9_ok nmX9 cl_9 in_9 12 (Nat.le_of_ble_eq_true rfl) rfl f_9_184 rfl (ge_bW9_0 S) (Nat.le_of_ble_eq_true rfl) rfl rfl (pu_bW9_0_12 S (1 : Int32)) ?_
    refine bs_nameS bW9 (fun S9 eS9 => ?_)
    replace h := h S9 eS9
    refine bs_iconst C (bf_dk dd_X9_laysBeginnings 7 rfl) (0 : Int32) (by decide) ?_
    refine bs_istore_n C (bf_dk dd_X9_laysBeginnings 8 rfl) rfl (Nat.le_of_ble_eq_true rfl) (Nat.le_of_ble_eq_true rfl) (lv2 := [some (.ref 0), some (.int (0 : Int32)), none, none]) rfl ?_
    exact bs_weak (bf_s1 (bf_s1 (bf_sn (bf_sn bf_s0)))) (t_X9_laysBeginnings_15 C hR S9 ((0 : Int32)) Q h)
  · replace h := h.2 c
    exact bs_vret (u := S) C (bf_dk dd_X9_laysBeginnings 3 rfl) rfl h
theorem c_X9_laysBeginnings (l : Launch) (dC : Nat → ClassId) (dI : Nat → Nat → Nat) (ac : Nat → ClassId) (al : Nat → Nat) (S : bT9) (Q : (bT9) → Prop) (h : wp_X9_laysBeginnings S Q) : bf_M l yX9_laysBeginnings cX9_laysBeginnings 4 none 2 46 dC dI ac al [.ref 0] (bW9 S) (bf_Kv dC dI ac al bW9 Q) := by
  refine bf_start [some (.ref 0), none, none, none] (by decide) (Nat.le_of_ble_eq_true rfl) (bf_s1 (bf_en 3)) ?_
  intro X hl C hR e1 e2 e3 e4
  subst e1; subst e2; subst e3; subst e4
  exact t_X9_laysBeginnings C hR S Q h
def wp_X9_leaves (S : bT9) (Q : Int32 → (bT9) → Prop) : Prop := (wp_X9_laysBeginnings S (fun u2 => (vp_in (9 : Int32) 23 ∧ (Q ((b9g_now u2) ((9 : Int32)).toNatClampNeg) u2))))
set_option maxRecDepth 20000 in
theorem t_X9_leaves {X : bf_X} (C : bf_C X RX9 cX9_leaves 1 (some .int)) (hR : bf_Rm X 3 69) (S : bT9) (Q : Int32 → (bT9) → Prop) (h : wp_X9_leaves S Q) : bf_A X (bf_Zi X bW9 Q) 1 0 [some (.ref 0)] [] (bW9 S) := by
  unfold wp_X9_leaves at h
  refine bs_aload_n C (bf_dk dd_X9_leaves 0 rfl) rfl ?_
  refine bs_selfV_v C hR (c_X9_laysBeginnings _ _ _ _ _ S _ h) my_X9_laysBeginnings m_9_172 rfl cl_9 (ge_bW9_0 _) rfl (Nat.le_of_ble_eq_true rfl) (Nat.le_of_ble_eq_true rfl) (st := []) (Nat.le_of_ble_eq_true rfl) (bf_dk dd_X9_leaves 1 rfl) rfl (len := 21) (fun _ => rfl) (fun u2 h => ?_)
  refine bs_aload_n C (bf_dk dd_X9_leaves 2 rfl) rfl ?_
  refine bs_get C (bf_dk dd_X9_leaves 3 rfl) cl_9 in_9 1 (Nat.le_of_ble_eq_true rfl) rfl f_9_7 (ge_bW9_0 u2) rfl ?_
  refine bs_bipush C (bf_dk dd_X9_leaves 4 rfl) (9 : Int32) (by decide) ?_
  obtain ⟨hi, h⟩ := h
  refine bs_iald C (bf_dk dd_X9_leaves 5 rfl) (ge_bW9_1 u2) hi ?_
  exact bs_iret (u := u2) C (bf_dk dd_X9_leaves 6 rfl) rfl h
theorem c_X9_leaves (l : Launch) (dC : Nat → ClassId) (dI : Nat → Nat → Nat) (ac : Nat → ClassId) (al : Nat → Nat) (S : bT9) (Q : Int32 → (bT9) → Prop) (h : wp_X9_leaves S Q) : bf_M l yX9_leaves cX9_leaves 1 (some .int) 3 69 dC dI ac al [.ref 0] (bW9 S) (bf_Ki dC dI ac al bW9 Q) := by
  refine bf_start [some (.ref 0)] (by decide) (Nat.le_of_ble_eq_true rfl) (bf_s1 bf_s0) ?_
  intro X hl C hR e1 e2 e3 e4
  subst e1; subst e2; subst e3; subst e4
  exact t_X9_leaves C hR S Q h
def wp_X9_isEnded (S : bT9) (a1 : Int32) (Q : Int32 → Prop) : Prop := (vp_in a1 64 ∧ (wp_X9_lengthOf S (a1) (fun r1 => ((¬ ((b9g_common S) (a1).toNatClampNeg) = r1 → (bf_bool (0 : Int32) ∧ Q (0 : Int32))) ∧ (((b9g_common S) (a1).toNatClampNeg) = r1 → (bf_bool (1 : Int32) ∧ Q (1 : Int32)))))))
set_option maxRecDepth 20000 in
theorem t_X9_isEnded {X : bf_X} (C : bf_C X RX9 cX9_isEnded 2 (some .boolean)) (hR : bf_Rm X 1 21) (S : bT9) (a1 : Int32) (Q : Int32 → Prop) (h : wp_X9_isEnded S a1 Q) : bf_A X (bf_Zi X bW9 (fun r u => u = S ∧ Q r)) 2 0 [some (.ref 0), some (.int a1)] [] (bW9 S) := by
  unfold wp_X9_isEnded at h
  refine bs_aload_n C (bf_dk dd_X9_isEnded 0 rfl) rfl ?_
  refine bs_get C (bf_dk dd_X9_isEnded 1 rfl) cl_9 in_9 10 (Nat.le_of_ble_eq_true rfl) rfl f_9_26 (ge_bW9_0 S) rfl ?_
  refine bs_iload_n C (bf_dk dd_X9_isEnded 2 rfl) rfl ?_
  obtain ⟨hi, h⟩ := h
  refine bs_iald C (bf_dk dd_X9_isEnded 3 rfl) (ge_bW9_6 S) hi ?_
  refine bs_aload_n C (bf_dk dd_X9_isEnded 4 rfl) rfl ?_
  refine bs_iload_n C (bf_dk dd_X9_isEnded 5 rfl) rfl ?_
  refine bs_selfPV_i C hR (c_X9_lengthOf _ _ _ _ _ S (a1) _ h) my_X9_lengthOf m_9_175 rfl cl_9 (ge_bW9_0 _) rfl (Nat.le_of_ble_eq_true rfl) (Nat.le_of_ble_eq_true rfl) (st := [.int ((b9g_common S) (a1).toNatClampNeg)]) (Nat.le_of_ble_eq_true rfl) (bf_dk dd_X9_isEnded 6 rfl) rfl (fun r1 h => ?_)
  refine bs_icmp_ne C (bf_dk dd_X9_isEnded 7 rfl) (tgt := 18) rfl (fun c => ?_) (fun c => ?_)
  · replace h := h.1 c
    refine bs_iconst C (bf_dk dd_X9_isEnded 10 rfl) (0 : Int32) (by decide) ?_
    obtain ⟨hi, h⟩ := h
    exact bs_zret (u := S) C (bf_dk dd_X9_isEnded 11 rfl) hi rfl ⟨rfl, h⟩
  · replace h := h.2 c
    refine bs_iconst C (bf_dk dd_X9_isEnded 8 rfl) (1 : Int32) (by decide) ?_
    refine bs_goto C (bf_dk dd_X9_isEnded 9 rfl) (tgt := 19) rfl ?_
    obtain ⟨hi, h⟩ := h
    exact bs_zret (u := S) C (bf_dk dd_X9_isEnded 11 rfl) hi rfl ⟨rfl, h⟩
theorem c_X9_isEnded (l : Launch) (dC : Nat → ClassId) (dI : Nat → Nat → Nat) (ac : Nat → ClassId) (al : Nat → Nat) (S : bT9) (a1 : Int32) (Q : Int32 → Prop) (h : wp_X9_isEnded S a1 Q) : bf_M l yX9_isEnded cX9_isEnded 2 (some .boolean) 1 21 dC dI ac al [.ref 0, .int a1] (bW9 S) (bf_Ki dC dI ac al bW9 (fun r u => u = S ∧ Q r)) := by
  refine bf_start [some (.ref 0), some (.int a1)] (by decide) (Nat.le_of_ble_eq_true rfl) (bf_s1 (bf_s1 bf_s0)) ?_
  intro X hl C hR e1 e2 e3 e4
  subst e1; subst e2; subst e3; subst e4
  exact t_X9_isEnded C hR S a1 Q h
def wp_X9_build_7b (S : bT9) (x1 : Int32) (Q : Int32 → (bT9) → Prop) (B7 : Int32 → (bT9) → Prop) : Prop := (vp_in (8 : Int32) 23 ∧ ((((b9g_now S) ((8 : Int32)).toNatClampNeg) ≤ x1 → (vp_in (8 : Int32) 23 ∧ (vp_in (9 : Int32) 23 ∧ (∀ S1 : bT9, S1 = (b9s_now S (upd (b9g_now S) ((9 : Int32)).toNatClampNeg ((b9g_now S) ((8 : Int32)).toNatClampNeg))) → (wp_X9_settingOf S1 ((0 : Int32)) (fun r2 => (vp_in (11 : Int32) 23 ∧ (∀ S4 : bT9, S4 = (b9s_now S1 (upd (b9g_now S1) ((11 : Int32)).toNatClampNeg r2)) → (wp_X9_settingOf S4 ((1 : Int32)) (fun r5 => (vp_in (12 : Int32) 23 ∧ (∀ S7 : bT9, S7 = (b9s_now S4 (upd (b9g_now S4) ((12 : Int32)).toNatClampNeg r5)) → (wp_X9_settingOf S7 ((2 : Int32)) (fun r8 => (vp_in (13 : Int32) 23 ∧ (∀ S10 : bT9, S10 = (b9s_now S7 (upd (b9g_now S7) ((13 : Int32)).toNatClampNeg (r8 + (1 : Int32)))) → (wp_X9_settingOf S10 ((3 : Int32)) (fun r11 => (vp_in (14 : Int32) 23 ∧ (∀ S13 : bT9, S13 = (b9s_now S10 (upd (b9g_now S10) ((14 : Int32)).toNatClampNeg r11)) → (vp_in (6 : Int32) 23 ∧ (vp_in (15 : Int32) 23 ∧ (∀ S14 : bT9, S14 = (b9s_now S13 (upd (b9g_now S13) ((15 : Int32)).toNatClampNeg ((b9g_now S13) ((6 : Int32)).toNatClampNeg))) → (vp_in (5 : Int32) 23 ∧ (vp_in (16 : Int32) 23 ∧ (∀ S15 : bT9, S15 = (b9s_now S14 (upd (b9g_now S14) ((16 : Int32)).toNatClampNeg ((b9g_now S14) ((5 : Int32)).toNatClampNeg))) → (∀ S16 : bT9, S16 = (b9s_isLaid S15 (0 : Int32)) → (∀ S17 : bT9, S17 = (b9s_areNodesLaid S16 (0 : Int32)) → (vp_in (9 : Int32) 23 ∧ (Q ((b9g_now S17) ((9 : Int32)).toNatClampNeg) S17)))))))))))))))))))))))))))))) ∧ (¬ ((b9g_now S) ((8 : Int32)).toNatClampNeg) ≤ x1 → (vp_in x1 144 ∧ (vp_in ((64 : Int32) + x1) 144 ∧ (∀ S18 : bT9, S18 = (b9s_keys S (vp_updL (b9g_keys S) (((64 : Int32) + x1)).toNatClampNeg ((b9g_keys S) (x1).toNatClampNeg))) → (vp_in x1 144 ∧ (vp_in ((64 : Int32) + x1) 144 ∧ (∀ S19 : bT9, S19 = (b9s_lengths S18 (upd (b9g_lengths S18) (((64 : Int32) + x1)).toNatClampNeg ((b9g_lengths S18) (x1).toNatClampNeg))) → (B7 ((x1 + (1 : Int32))) S19))))))))))
set_option maxRecDepth 20000 in
theorem t_X9_build_7b {X : bf_X} (C : bf_C X RX9 cX9_build 2 (some .int)) (hR : bf_Rm X 2 42) (S : bT9) (x1 : Int32) (Q : Int32 → (bT9) → Prop) (B7 : Int32 → (bT9) → Prop) (hB7 : ∀ (x1 : Int32) (S : bT9), B7 x1 S → bf_A X (bf_Zi X bW9 Q) 2 7 [some (.ref 0), some (.int x1)] [] (bW9 S)) (h : wp_X9_build_7b S x1 Q B7) : bf_A X (bf_Zi X bW9 Q) 2 7 [some (.ref 0), some (.int x1)] [] (bW9 S) := by
  unfold wp_X9_build_7b at h
  refine bs_iload_n C (bf_dk dd_X9_build 5 rfl) rfl ?_
  refine bs_aload_n C (bf_dk dd_X9_build 6 rfl) rfl ?_
  refine bs_get C (bf_dk dd_X9_build 7 rfl) cl_9 in_9 1 (Nat.le_of_ble_eq_true rfl) rfl f_9_7 (ge_bW9_0 S) rfl ?_
  refine bs_bipush C (bf_dk dd_X9_build 8 rfl) (8 : Int32) (by decide) ?_
  obtain ⟨hi, h⟩ := h
  refine bs_iald C (bf_dk dd_X9_build 9 rfl) (ge_bW9_1 S) hi ?_
  refine bs_icmp_ge C (bf_dk dd_X9_build 10 rfl) (tgt := 54) rfl (fun c => ?_) (fun c => ?_)
  · replace h := h.1 c
    refine bs_aload_n C (bf_dk dd_X9_build 33 rfl) rfl ?_
    refine bs_get C (bf_dk dd_X9_build 34 rfl) cl_9 in_9 1 (Nat.le_of_ble_eq_true rfl) rfl f_9_7 (ge_bW9_0 S) rfl ?_
    refine bs_bipush C (bf_dk dd_X9_build 35 rfl) (9 : Int32) (by decide) ?_
    refine bs_aload_n C (bf_dk dd_X9_build 36 rfl) rfl ?_
    refine bs_get C (bf_dk dd_X9_build 37 rfl) cl_9 in_9 1 (Nat.le_of_ble_eq_true rfl) rfl f_9_7 (ge_bW9_0 S) rfl ?_
    refine bs_bipush C (bf_dk dd_X9_build 38 rfl) (8 : Int32) (by decide) ?_
    obtain ⟨hi, h⟩ := h
    refine bs_iald C (bf_dk dd_X9_build 39 rfl) (ge_bW9_1 S) hi ?_
    obtain ⟨hi, h⟩ := h
    refine bs_iast C (bf_dk dd_X9_build 40 rfl) (ge_bW9_1 S) hi (ar_bW9_1 S _) ?_
    refine bs_nameS bW9 (fun S1 eS1 => ?_)
    replace h := h S1 eS1
    refine bs_aload_n C (bf_dk dd_X9_build 41 rfl) rfl ?_
    refine bs_get C (bf_dk dd_X9_build 42 rfl) cl_9 in_9 1 (Nat.le_of_ble_eq_true rfl) rfl f_9_7 (ge_bW9_0 S1) rfl ?_
    refine bs_bipush C (bf_dk dd_X9_build 43 rfl) (11 : Int32) (by decide) ?_
    refine bs_aload_n C (bf_dk dd_X9_build 44 rfl) rfl ?_
    refine bs_iconst C (bf_dk dd_X9_build 45 rfl) (0 : Int32) (by decide) ?_
    refine bs_selfPV_i C hR (c_X9_settingOf _ _ _ _ _ S1 ((0 : Int32)) _ h) my_X9_settingOf m_9_139 rfl cl_9 (ge_bW9_0 _) rfl (Nat.le_of_ble_eq_true rfl) (Nat.le_of_ble_eq_true rfl) (st := [.int (11 : Int32), .ref 1]) (Nat.le_of_ble_eq_true rfl) (bf_dk dd_X9_build 46 rfl) rfl (fun r2 h => ?_)
    obtain ⟨hi, h⟩ := h
    refine bs_iast C (bf_dk dd_X9_build 47 rfl) (ge_bW9_1 S1) hi (ar_bW9_1 S1 _) ?_
    refine bs_nameS bW9 (fun S4 eS4 => ?_)
    replace h := h S4 eS4
    refine bs_aload_n C (bf_dk dd_X9_build 48 rfl) rfl ?_
    refine bs_get C (bf_dk dd_X9_build 49 rfl) cl_9 in_9 1 (Nat.le_of_ble_eq_true rfl) rfl f_9_7 (ge_bW9_0 S4) rfl ?_
    refine bs_bipush C (bf_dk dd_X9_build 50 rfl) (12 : Int32) (by decide) ?_
    refine bs_aload_n C (bf_dk dd_X9_build 51 rfl) rfl ?_
    refine bs_iconst C (bf_dk dd_X9_build 52 rfl) (1 : Int32) (by decide) ?_
    refine bs_selfPV_i C hR (c_X9_settingOf _ _ _ _ _ S4 ((1 : Int32)) _ h) my_X9_settingOf m_9_139 rfl cl_9 (ge_bW9_0 _) rfl (Nat.le_of_ble_eq_true rfl) (Nat.le_of_ble_eq_true rfl) (st := [.int (12 : Int32), .ref 1]) (Nat.le_of_ble_eq_true rfl) (bf_dk dd_X9_build 53 rfl) rfl (fun r5 h => ?_)
    obtain ⟨hi, h⟩ := h
    refine bs_iast C (bf_dk dd_X9_build 54 rfl) (ge_bW9_1 S4) hi (ar_bW9_1 S4 _) ?_
    refine bs_nameS bW9 (fun S7 eS7 => ?_)
    replace h := h S7 eS7
    refine bs_aload_n C (bf_dk dd_X9_build 55 rfl) rfl ?_
    refine bs_get C (bf_dk dd_X9_build 56 rfl) cl_9 in_9 1 (Nat.le_of_ble_eq_true rfl) rfl f_9_7 (ge_bW9_0 S7) rfl ?_
    refine bs_bipush C (bf_dk dd_X9_build 57 rfl) (13 : Int32) (by decide) ?_
    refine bs_aload_n C (bf_dk dd_X9_build 58 rfl) rfl ?_
    refine bs_iconst C (bf_dk dd_X9_build 59 rfl) (2 : Int32) (by decide) ?_
    refine bs_selfPV_i C hR (c_X9_settingOf _ _ _ _ _ S7 ((2 : Int32)) _ h) my_X9_settingOf m_9_139 rfl cl_9 (ge_bW9_0 _) rfl (Nat.le_of_ble_eq_true rfl) (Nat.le_of_ble_eq_true rfl) (st := [.int (13 : Int32), .ref 1]) (Nat.le_of_ble_eq_true rfl) (bf_dk dd_X9_build 60 rfl) rfl (fun r8 h => ?_)
    refine bs_iconst C (bf_dk dd_X9_build 61 rfl) (1 : Int32) (by decide) ?_
    refine bs_iadd C (bf_dk dd_X9_build 62 rfl) ?_
    obtain ⟨hi, h⟩ := h
    refine bs_iast C (bf_dk dd_X9_build 63 rfl) (ge_bW9_1 S7) hi (ar_bW9_1 S7 _) ?_
    refine bs_nameS bW9 (fun S10 eS10 => ?_)
    replace h := h S10 eS10
    refine bs_aload_n C (bf_dk dd_X9_build 64 rfl) rfl ?_
    refine bs_get C (bf_dk dd_X9_build 65 rfl) cl_9 in_9 1 (Nat.le_of_ble_eq_true rfl) rfl f_9_7 (ge_bW9_0 S10) rfl ?_
    refine bs_bipush C (bf_dk dd_X9_build 66 rfl) (14 : Int32) (by decide) ?_
    refine bs_aload_n C (bf_dk dd_X9_build 67 rfl) rfl ?_
    refine bs_iconst C (bf_dk dd_X9_build 68 rfl) (3 : Int32) (by decide) ?_
    refine bs_selfPV_i C hR (c_X9_settingOf _ _ _ _ _ S10 ((3 : Int32)) _ h) my_X9_settingOf m_9_139 rfl cl_9 (ge_bW9_0 _) rfl (Nat.le_of_ble_eq_true rfl) (Nat.le_of_ble_eq_true rfl) (st := [.int (14 : Int32), .ref 1]) (Nat.le_of_ble_eq_true rfl) (bf_dk dd_X9_build 69 rfl) rfl (fun r11 h => ?_)
    obtain ⟨hi, h⟩ := h
    refine bs_iast C (bf_dk dd_X9_build 70 rfl) (ge_bW9_1 S10) hi (ar_bW9_1 S10 _) ?_
    refine bs_nameS bW9 (fun S13 eS13 => ?_)
    replace h := h S13 eS13
    refine bs_aload_n C (bf_dk dd_X9_build 71 rfl) rfl ?_
    refine bs_get C (bf_dk dd_X9_build 72 rfl) cl_9 in_9 1 (Nat.le_of_ble_eq_true rfl) rfl f_9_7 (ge_bW9_0 S13) rfl ?_
    refine bs_bipush C (bf_dk dd_X9_build 73 rfl) (15 : Int32) (by decide) ?_
    refine bs_aload_n C (bf_dk dd_X9_build 74 rfl) rfl ?_
    refine bs_get C (bf_dk dd_X9_build 75 rfl) cl_9 in_9 1 (Nat.le_of_ble_eq_true rfl) rfl f_9_7 (ge_bW9_0 S13) rfl ?_
    refine bs_bipush C (bf_dk dd_X9_build 76 rfl) (6 : Int32) (by decide) ?_
    obtain ⟨hi, h⟩ := h
    refine bs_iald C (bf_dk dd_X9_build 77 rfl) (ge_bW9_1 S13) hi ?_
    obtain ⟨hi, h⟩ := h
    refine bs_iast C (bf_dk dd_X9_build 78 rfl) (ge_bW9_1 S13) hi (ar_bW9_1 S13 _) ?_
    refine bs_nameS bW9 (fun S14 eS14 => ?_)
    replace h := h S14 eS14
    refine bs_aload_n C (bf_dk dd_X9_build 79 rfl) rfl ?_
    refine bs_get C (bf_dk dd_X9_build 80 rfl) cl_9 in_9 1 (Nat.le_of_ble_eq_true rfl) rfl f_9_7 (ge_bW9_0 S14) rfl ?_
    refine bs_bipush C (bf_dk dd_X9_build 81 rfl) (16 : Int32) (by decide) ?_
    refine bs_aload_n C (bf_dk dd_X9_build 82 rfl) rfl ?_
    refine bs_get C (bf_dk dd_X9_build 83 rfl) cl_9 in_9 1 (Nat.le_of_ble_eq_true rfl) rfl f_9_7 (ge_bW9_0 S14) rfl ?_
    refine bs_iconst C (bf_dk dd_X9_build 84 rfl) (5 : Int32) (by decide) ?_
    obtain ⟨hi, h⟩ := h
    refine bs_iald C (bf_dk dd_X9_build 85 rfl) (ge_bW9_1 S14) hi ?_
    obtain ⟨hi, h⟩ := h
    refine bs_iast C (bf_dk dd_X9_build 86 rfl) (ge_bW9_1 S14) hi (ar_bW9_1 S14 _) ?_
    refine bs_nameS bW9 (fun S15 eS15 => ?_)
    replace h := h S15 eS15
    refine bs_aload_n C (bf_dk dd_X9_build 87 rfl) rfl ?_
    refine bs_iconst C (bf_dk dd_X9_build 88 rfl) (0 : Int32) (by decide) ?_
    refine bs_put C (bf_dk dd_X9_build 89 rfl) tyX9_ok nmX9 cl_9 in_9 12 (Nat.le_of_ble_eq_true rfl) rfl f_9_184 rfl (ge_bW9_0 S15) (Nat.le_of_ble_eq_true rfl) rfl rfl (pu_bW9_0_12 S15 (0 : Int32)) ?_
    refine bs_nameS bW9 (fun S16 eS16 => ?_)
    replace h := h S16 eS16
    refine bs_aload_n C (bf_dk dd_X9_build 90 rfl) rfl ?_
    refine bs_iconst C (bf_dk dd_X9_build 91 rfl) (0 : Int32) (by decide) ?_
    refine bs_put C (bf_dk dd_X9_build 92 rfl) tyX9_ok nmX9 cl_9 in_9 20 (Nat.le_of_ble_eq_true rfl) rfl f_9_192 rfl (ge_bW9_0 S16) (Nat.le_of_ble_eq_true rfl) rfl rfl (pu_bW9_0_20 S16 (0 : Int32)) ?_
    refine bs_nameS bW9 (fun S17 eS17 => ?_)
    replace h := h S17 eS17
    refine bs_aload_n C (bf_dk dd_X9_build 93 rfl) rfl ?_
    refine bs_get C (bf_dk dd_X9_build 94 rfl) cl_9 in_9 1 (Nat.le_of_ble_eq_true rfl) rfl f_9_7 (ge_bW9_0 S17) rfl ?_
    refine bs_bipush C (bf_dk dd_X9_build 95 rfl) (9 : Int32) (by decide) ?_
    obtain ⟨hi, h⟩ := h
    refine bs_iald C (bf_dk dd_X9_build 96 rfl) (ge_bW9_1 S17) hi ?_
    exact bs_iret (u := S17) C (bf_dk dd_X9_build 97 rfl) rfl h
  · replace h := h.2 c
    refine bs_aload_n C (bf_dk dd_X9_build 11 rfl) rfl ?_
    refine bs_get C (bf_dk dd_X9_build 12 rfl) cl_9 in_9 2 (Nat.le_of_ble_eq_true rfl) rfl f_9_13 (ge_bW9_0 S) rfl ?_
    refine bs_bipush C (bf_dk dd_X9_build 13 rfl) (64 : Int32) (by decide) ?_
    refine bs_iload_n C (bf_dk dd_X9_build 14 rfl) rfl ?_
    refine bs_iadd C (bf_dk dd_X9_build 15 rfl) ?_
    refine bs_aload_n C (bf_dk dd_X9_build 16 rfl) rfl ?_
    refine bs_get C (bf_dk dd_X9_build 17 rfl) cl_9 in_9 2 (Nat.le_of_ble_eq_true rfl) rfl f_9_13 (ge_bW9_0 S) rfl ?_
    refine bs_iload_n C (bf_dk dd_X9_build 18 rfl) rfl ?_
    obtain ⟨hi, h⟩ := h
    refine bs_lald C (bf_dk dd_X9_build 19 rfl) (ge_bW9_2 S) hi ?_
    obtain ⟨hi, h⟩ := h
    refine bs_last C (bf_dk dd_X9_build 20 rfl) (ge_bW9_2 S) hi (ar_bW9_2 S _) ?_
    refine bs_nameS bW9 (fun S18 eS18 => ?_)
    replace h := h S18 eS18
    refine bs_aload_n C (bf_dk dd_X9_build 21 rfl) rfl ?_
    refine bs_get C (bf_dk dd_X9_build 22 rfl) cl_9 in_9 3 (Nat.le_of_ble_eq_true rfl) rfl f_9_17 (ge_bW9_0 S18) rfl ?_
    refine bs_bipush C (bf_dk dd_X9_build 23 rfl) (64 : Int32) (by decide) ?_
    refine bs_iload_n C (bf_dk dd_X9_build 24 rfl) rfl ?_
    refine bs_iadd C (bf_dk dd_X9_build 25 rfl) ?_
    refine bs_aload_n C (bf_dk dd_X9_build 26 rfl) rfl ?_
    refine bs_get C (bf_dk dd_X9_build 27 rfl) cl_9 in_9 3 (Nat.le_of_ble_eq_true rfl) rfl f_9_17 (ge_bW9_0 S18) rfl ?_
    refine bs_iload_n C (bf_dk dd_X9_build 28 rfl) rfl ?_
    obtain ⟨hi, h⟩ := h
    refine bs_iald C (bf_dk dd_X9_build 29 rfl) (ge_bW9_3 S18) hi ?_
    obtain ⟨hi, h⟩ := h
    refine bs_iast C (bf_dk dd_X9_build 30 rfl) (ge_bW9_3 S18) hi (ar_bW9_3 S18 _) ?_
    refine bs_nameS bW9 (fun S19 eS19 => ?_)
    replace h := h S19 eS19
    refine bs_iinc C (bf_dk dd_X9_build 31 rfl) (x1 + (1 : Int32)) rfl rfl (Nat.le_of_ble_eq_true rfl) (Nat.le_of_ble_eq_true rfl) (lv2 := [some (.ref 0), some (.int (x1 + (1 : Int32)))]) rfl ?_
    refine bs_goto C (bf_dk dd_X9_build 32 rfl) (tgt := 7) rfl ?_
    exact bs_weak (bf_s1 (bf_s1 bf_s0)) (hB7 ((x1 + (1 : Int32))) S19 h)
def wp_X9_build_7 (S : bT9) (x1 : Int32) (Q : Int32 → (bT9) → Prop) : Prop := ∃ I : Nat → Int32 → (bT9) → Prop, (∃ n : Nat, I n x1 S) ∧ ∀ (n : Nat) (x1 : Int32) (S : bT9), I n x1 S → wp_X9_build_7b S x1 Q (fun x1 S => ∃ n2 : Nat, n2 < n ∧ I n2 x1 S)
theorem t_X9_build_7 {X : bf_X} (C : bf_C X RX9 cX9_build 2 (some .int)) (hR : bf_Rm X 2 42) (S : bT9) (x1 : Int32) (Q : Int32 → (bT9) → Prop) (h : wp_X9_build_7 S x1 Q) : bf_A X (bf_Zi X bW9 Q) 2 7 [some (.ref 0), some (.int x1)] [] (bW9 S) := by
  obtain ⟨I, ⟨n0, h0⟩, hI⟩ := h
  have key : ∀ (n : Nat) (x1 : Int32) (S : bT9), I n x1 S → bf_A X (bf_Zi X bW9 Q) 2 7 [some (.ref 0), some (.int x1)] [] (bW9 S) := by
    intro n
    induction n using Nat.strongRecOn with
    | _ n ih =>
      intro x1 S hi
      exact t_X9_build_7b C hR S x1 Q _ (fun x1 S hb => by obtain ⟨n2, hn, hi2⟩ := hb; exact ih n2 hn x1 S hi2) (hI n x1 S hi)
  exact key n0 x1 S h0
def wp_X9_build (S : bT9) (Q : Int32 → (bT9) → Prop) : Prop := (∀ S20 : bT9, S20 = (b9s_told S (0 : Int32)) → (wp_X9_build_7 S20 ((0 : Int32)) Q))
set_option maxRecDepth 20000 in
theorem t_X9_build {X : bf_X} (C : bf_C X RX9 cX9_build 2 (some .int)) (hR : bf_Rm X 2 42) (S : bT9) (Q : Int32 → (bT9) → Prop) (h : wp_X9_build S Q) : bf_A X (bf_Zi X bW9 Q) 2 0 [some (.ref 0), none] [] (bW9 S) := by
  unfold wp_X9_build at h
  refine bs_aload_n C (bf_dk dd_X9_build 0 rfl) rfl ?_
  refine bs_iconst C (bf_dk dd_X9_build 1 rfl) (0 : Int32) (by decide) ?_
  refine bs_put C (bf_dk dd_X9_build 2 rfl) tyX9_ok nmX9 cl_9 in_9 0 (Nat.le_of_ble_eq_true rfl) rfl f_9_75 rfl (ge_bW9_0 S) (Nat.le_of_ble_eq_true rfl) rfl rfl (pu_bW9_0_0 S (0 : Int32)) ?_
  refine bs_nameS bW9 (fun S20 eS20 => ?_)
  replace h := h S20 eS20
  refine bs_iconst C (bf_dk dd_X9_build 3 rfl) (0 : Int32) (by decide) ?_
  refine bs_istore_n C (bf_dk dd_X9_build 4 rfl) rfl (Nat.le_of_ble_eq_true rfl) (Nat.le_of_ble_eq_true rfl) (lv2 := [some (.ref 0), some (.int (0 : Int32))]) rfl ?_
  exact bs_weak (bf_s1 (bf_s1 bf_s0)) (t_X9_build_7 C hR S20 ((0 : Int32)) Q h)
theorem c_X9_build (l : Launch) (dC : Nat → ClassId) (dI : Nat → Nat → Nat) (ac : Nat → ClassId) (al : Nat → Nat) (S : bT9) (Q : Int32 → (bT9) → Prop) (h : wp_X9_build S Q) : bf_M l yX9_build cX9_build 2 (some .int) 2 42 dC dI ac al [.ref 0] (bW9 S) (bf_Ki dC dI ac al bW9 Q) := by
  refine bf_start [some (.ref 0), none] (by decide) (Nat.le_of_ble_eq_true rfl) (bf_s1 (bf_en 1)) ?_
  intro X hl C hR e1 e2 e3 e4
  subst e1; subst e2; subst e3; subst e4
  exact t_X9_build C hR S Q h
