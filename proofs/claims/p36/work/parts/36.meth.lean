def wp_X9_has (S : bT9) (a1 : Int32) (a2 : Int32) (a3 : Int32) (a4 : Int32) (Q : Int32 → (bT9) → Prop) : Prop := (∀ S1 : bT9, S1 = (b9s_told S (0 : Int32)) → (wp_X9_isKey S1 (a3) (fun r2 => ((r2 = 0 → (Q (-1 : Int32) S1)) ∧ (¬ r2 = 0 → (wp_X9_isIn S1 (a4) ((0 : Int32)) ((1 : Int32)) (fun r4 => ((¬ r4 = 0 → ((¬ a4 = 0 → (vp_in (9 : Int32) 23 ∧ (wp_X9_keyOf S1 (a1) (a2) (a3) (fun r6 => (wp_X9_find S1 ((64 : Int32)) (((b9g_now S1) ((9 : Int32)).toNatClampNeg)) (r6) (a3) (fun r8 => (Q r8 S1))))))) ∧ (a4 = 0 → (vp_in (8 : Int32) 23 ∧ (wp_X9_keyOf S1 (a1) (a2) (a3) (fun r10 => (wp_X9_find S1 ((0 : Int32)) (((b9g_now S1) ((8 : Int32)).toNatClampNeg)) (r10) (a3) (fun r12 => (Q r12 S1))))))))) ∧ (r4 = 0 → (Q (-1 : Int32) S1))))))))))
set_option maxRecDepth 20000 in
theorem t_X9_has {X : bf_X} (C : bf_C X RX9 cX9_has 5 (some .int)) (hR : bf_Rm X 3 78) (S : bT9) (a1 : Int32) (a2 : Int32) (a3 : Int32) (a4 : Int32) (Q : Int32 → (bT9) → Prop) (h : wp_X9_has S a1 a2 a3 a4 Q) : bf_A X (bf_Zi X bW9 Q) 5 0 [some (.ref 0), some (.int a1), some (.int a2), some (.int a3), some (.int a4)] [] (bW9 S) := by
  unfold wp_X9_has at h
  refine bs_aload_n C (bf_dk dd_X9_has 0 rfl) rfl ?_
  refine bs_iconst C (bf_dk dd_X9_has 1 rfl) (0 : Int32) (by decide) ?_
  refine bs_put C (bf_dk dd_X9_has 2 rfl) tyX9_ok nmX9 cl_9 in_9 0 (Nat.le_of_ble_eq_true rfl) rfl f_9_75 rfl (ge_bW9_0 S) (Nat.le_of_ble_eq_true rfl) rfl rfl (pu_bW9_0_0 S (0 : Int32)) ?_
  refine bs_nameS bW9 (fun S1 eS1 => ?_)
  replace h := h S1 eS1
  refine bs_aload_n C (bf_dk dd_X9_has 3 rfl) rfl ?_
  refine bs_iload_n C (bf_dk dd_X9_has 4 rfl) rfl ?_
  refine bs_selfPV_i C hR (c_X9_isKey _ _ _ _ _ S1 (a3) _ h) my_X9_isKey m_9_117 rfl cl_9 (ge_bW9_0 _) rfl (Nat.le_of_ble_eq_true rfl) (Nat.le_of_ble_eq_true rfl) (st := []) (Nat.le_of_ble_eq_true rfl) (bf_dk dd_X9_has 5 rfl) rfl (fun r2 h => ?_)
  refine bs_if_eq C (bf_dk dd_X9_has 6 rfl) (tgt := 24) rfl (fun c => ?_) (fun c => ?_)
  · replace h := h.1 c
    refine bs_iconst C (bf_dk dd_X9_has 13 rfl) (-1 : Int32) (by decide) ?_
    exact bs_iret (u := S1) C (bf_dk dd_X9_has 14 rfl) rfl h
  · replace h := h.2 c
    refine bs_aload_n C (bf_dk dd_X9_has 7 rfl) rfl ?_
    refine bs_iload C (bf_dk dd_X9_has 8 rfl) rfl ?_
    refine bs_iconst C (bf_dk dd_X9_has 9 rfl) (0 : Int32) (by decide) ?_
    refine bs_iconst C (bf_dk dd_X9_has 10 rfl) (1 : Int32) (by decide) ?_
    refine bs_selfPV_i C hR (c_X9_isIn _ _ _ _ _ S1 (a4) ((0 : Int32)) ((1 : Int32)) _ h) my_X9_isIn m_9_82 rfl cl_9 (ge_bW9_0 _) rfl (Nat.le_of_ble_eq_true rfl) (Nat.le_of_ble_eq_true rfl) (st := []) (Nat.le_of_ble_eq_true rfl) (bf_dk dd_X9_has 11 rfl) rfl (fun r4 h => ?_)
    refine bs_if_ne C (bf_dk dd_X9_has 12 rfl) (tgt := 26) rfl (fun c => ?_) (fun c => ?_)
    · replace h := h.1 c
      refine bs_iload C (bf_dk dd_X9_has 15 rfl) rfl ?_
      refine bs_if_ne C (bf_dk dd_X9_has 16 rfl) (tgt := 54) rfl (fun c => ?_) (fun c => ?_)
      · replace h := h.1 c
        refine bs_aload_n C (bf_dk dd_X9_has 31 rfl) rfl ?_
        refine bs_bipush C (bf_dk dd_X9_has 32 rfl) (64 : Int32) (by decide) ?_
        refine bs_aload_n C (bf_dk dd_X9_has 33 rfl) rfl ?_
        refine bs_get C (bf_dk dd_X9_has 34 rfl) cl_9 in_9 1 (Nat.le_of_ble_eq_true rfl) rfl f_9_7 (ge_bW9_0 S1) rfl ?_
        refine bs_bipush C (bf_dk dd_X9_has 35 rfl) (9 : Int32) (by decide) ?_
        obtain ⟨hi, h⟩ := h
        refine bs_iald C (bf_dk dd_X9_has 36 rfl) (ge_bW9_1 S1) hi ?_
        refine bs_aload_n C (bf_dk dd_X9_has 37 rfl) rfl ?_
        refine bs_iload_n C (bf_dk dd_X9_has 38 rfl) rfl ?_
        refine bs_iload_n C (bf_dk dd_X9_has 39 rfl) rfl ?_
        refine bs_iload_n C (bf_dk dd_X9_has 40 rfl) rfl ?_
        refine bs_selfPV_l C hR (c_X9_keyOf _ _ _ _ _ S1 (a1) (a2) (a3) _ h) my_X9_keyOf m_9_121 rfl cl_9 (ge_bW9_0 _) rfl (Nat.le_of_ble_eq_true rfl) (Nat.le_of_ble_eq_true rfl) (st := [.int ((b9g_now S1) ((9 : Int32)).toNatClampNeg), .int (64 : Int32), .ref 0]) (Nat.le_of_ble_eq_true rfl) (bf_dk dd_X9_has 41 rfl) rfl (fun r6 h => ?_)
        refine bs_iload_n C (bf_dk dd_X9_has 42 rfl) rfl ?_
        refine bs_selfPV_i C hR (c_X9_find _ _ _ _ _ S1 ((64 : Int32)) (((b9g_now S1) ((9 : Int32)).toNatClampNeg)) (r6) (a3) _ h) my_X9_find m_9_114 rfl cl_9 (ge_bW9_0 _) rfl (Nat.le_of_ble_eq_true rfl) (Nat.le_of_ble_eq_true rfl) (st := []) (Nat.le_of_ble_eq_true rfl) (bf_dk dd_X9_has 43 rfl) rfl (fun r8 h => ?_)
        exact bs_iret (u := S1) C (bf_dk dd_X9_has 44 rfl) rfl h
      · replace h := h.2 c
        refine bs_aload_n C (bf_dk dd_X9_has 17 rfl) rfl ?_
        refine bs_iconst C (bf_dk dd_X9_has 18 rfl) (0 : Int32) (by decide) ?_
        refine bs_aload_n C (bf_dk dd_X9_has 19 rfl) rfl ?_
        refine bs_get C (bf_dk dd_X9_has 20 rfl) cl_9 in_9 1 (Nat.le_of_ble_eq_true rfl) rfl f_9_7 (ge_bW9_0 S1) rfl ?_
        refine bs_bipush C (bf_dk dd_X9_has 21 rfl) (8 : Int32) (by decide) ?_
        obtain ⟨hi, h⟩ := h
        refine bs_iald C (bf_dk dd_X9_has 22 rfl) (ge_bW9_1 S1) hi ?_
        refine bs_aload_n C (bf_dk dd_X9_has 23 rfl) rfl ?_
        refine bs_iload_n C (bf_dk dd_X9_has 24 rfl) rfl ?_
        refine bs_iload_n C (bf_dk dd_X9_has 25 rfl) rfl ?_
        refine bs_iload_n C (bf_dk dd_X9_has 26 rfl) rfl ?_
        refine bs_selfPV_l C hR (c_X9_keyOf _ _ _ _ _ S1 (a1) (a2) (a3) _ h) my_X9_keyOf m_9_121 rfl cl_9 (ge_bW9_0 _) rfl (Nat.le_of_ble_eq_true rfl) (Nat.le_of_ble_eq_true rfl) (st := [.int ((b9g_now S1) ((8 : Int32)).toNatClampNeg), .int (0 : Int32), .ref 0]) (Nat.le_of_ble_eq_true rfl) (bf_dk dd_X9_has 27 rfl) rfl (fun r10 h => ?_)
        refine bs_iload_n C (bf_dk dd_X9_has 28 rfl) rfl ?_
        refine bs_selfPV_i C hR (c_X9_find _ _ _ _ _ S1 ((0 : Int32)) (((b9g_now S1) ((8 : Int32)).toNatClampNeg)) (r10) (a3) _ h) my_X9_find m_9_114 rfl cl_9 (ge_bW9_0 _) rfl (Nat.le_of_ble_eq_true rfl) (Nat.le_of_ble_eq_true rfl) (st := []) (Nat.le_of_ble_eq_true rfl) (bf_dk dd_X9_has 29 rfl) rfl (fun r12 h => ?_)
        refine bs_goto C (bf_dk dd_X9_has 30 rfl) (tgt := 75) rfl ?_
        exact bs_iret (u := S1) C (bf_dk dd_X9_has 44 rfl) rfl h
    · replace h := h.2 c
      refine bs_iconst C (bf_dk dd_X9_has 13 rfl) (-1 : Int32) (by decide) ?_
      exact bs_iret (u := S1) C (bf_dk dd_X9_has 14 rfl) rfl h
theorem c_X9_has (l : Launch) (dC : Nat → ClassId) (dI : Nat → Nat → Nat) (ac : Nat → ClassId) (al : Nat → Nat) (S : bT9) (a1 : Int32) (a2 : Int32) (a3 : Int32) (a4 : Int32) (Q : Int32 → (bT9) → Prop) (h : wp_X9_has S a1 a2 a3 a4 Q) : bf_M l yX9_has cX9_has 5 (some .int) 3 78 dC dI ac al [.ref 0, .int a1, .int a2, .int a3, .int a4] (bW9 S) (bf_Ki dC dI ac al bW9 Q) := by
  refine bf_start [some (.ref 0), some (.int a1), some (.int a2), some (.int a3), some (.int a4)] (by decide) (Nat.le_of_ble_eq_true rfl) (bf_s1 (bf_s1 (bf_s1 (bf_s1 (bf_s1 bf_s0))))) ?_
  intro X hl C hR e1 e2 e3 e4
  subst e1; subst e2; subst e3; subst e4
  exact t_X9_has C hR S a1 a2 a3 a4 Q h
def wp_X9_draws_18b (S : bT9) (x2 : Int32) (Q : (bT9) → Prop) (B18 : Int32 → (bT9) → Prop) : Prop := (((b9g_drawnLength S) ≤ x2 → (Q S)) ∧ (¬ (b9g_drawnLength S) ≤ x2 → (wp_X9_settingOf S ((4 : Int32)) (fun r1 => (wp_X9_draw S (r1) (fun r3 u4 => (∀ v5 : Int64, v5 = ((b9g_drawn S) ||| ((r3).toInt64 <<< ((((56 : Int32) - ((8 : Int32) * x2))).toInt64 &&& 63))) → (∀ S6 : bT9, S6 = (b9s_drawn u4 v5) → (B18 ((x2 + (1 : Int32))) S6)))))))))
set_option maxRecDepth 20000 in
theorem t_X9_draws_18b {X : bf_X} (C : bf_C X RX9 cX9_draws 3 none) (hR : bf_Rm X 2 42) (S : bT9) (x2 : Int32) (Q : (bT9) → Prop) (B18 : Int32 → (bT9) → Prop) (hB18 : ∀ (x2 : Int32) (S : bT9), B18 x2 S → bf_A X (bf_Zv X bW9 Q) 3 18 [some (.ref 0), none, some (.int x2)] [] (bW9 S)) (h : wp_X9_draws_18b S x2 Q B18) : bf_A X (bf_Zv X bW9 Q) 3 18 [some (.ref 0), none, some (.int x2)] [] (bW9 S) := by
  unfold wp_X9_draws_18b at h
  refine bs_iload_n C (bf_dk dd_X9_draws 12 rfl) rfl ?_
  refine bs_aload_n C (bf_dk dd_X9_draws 13 rfl) rfl ?_
  refine bs_get C (bf_dk dd_X9_draws 14 rfl) cl_9 in_9 5 (Nat.le_of_ble_eq_true rfl) rfl f_9_132 (ge_bW9_0 S) rfl ?_
  refine bs_icmp_ge C (bf_dk dd_X9_draws 15 rfl) (tgt := 59) rfl (fun c => ?_) (fun c => ?_)
  · replace h := h.1 c
    exact bs_vret (u := S) C (bf_dk dd_X9_draws 35 rfl) rfl h
  · replace h := h.2 c
    refine bs_aload_n C (bf_dk dd_X9_draws 16 rfl) rfl ?_
    refine bs_aload_n C (bf_dk dd_X9_draws 17 rfl) rfl ?_
    refine bs_get C (bf_dk dd_X9_draws 18 rfl) cl_9 in_9 4 (Nat.le_of_ble_eq_true rfl) rfl f_9_135 (ge_bW9_0 S) rfl ?_
    refine bs_aload_n C (bf_dk dd_X9_draws 19 rfl) rfl ?_
    refine bs_aload_n C (bf_dk dd_X9_draws 20 rfl) rfl ?_
    refine bs_iconst C (bf_dk dd_X9_draws 21 rfl) (4 : Int32) (by decide) ?_
    refine bs_selfPV_i C hR (c_X9_settingOf _ _ _ _ _ S ((4 : Int32)) _ h) my_X9_settingOf m_9_139 rfl cl_9 (ge_bW9_0 _) rfl (Nat.le_of_ble_eq_true rfl) (Nat.le_of_ble_eq_true rfl) (st := [.ref 0, .long (b9g_drawn S), .ref 0]) (Nat.le_of_ble_eq_true rfl) (bf_dk dd_X9_draws 22 rfl) rfl (fun r1 h => ?_)
    refine bs_selfV_i C hR (c_X9_draw _ _ _ _ _ S (r1) _ h) my_X9_draw m_9_129 rfl cl_9 (ge_bW9_0 _) rfl (Nat.le_of_ble_eq_true rfl) (Nat.le_of_ble_eq_true rfl) (st := [.long (b9g_drawn S), .ref 0]) (Nat.le_of_ble_eq_true rfl) (bf_dk dd_X9_draws 23 rfl) rfl (len := 21) (fun _ => rfl) (fun r3 u4 h => ?_)
    refine bs_i2l C (bf_dk dd_X9_draws 24 rfl) ?_
    refine bs_bipush C (bf_dk dd_X9_draws 25 rfl) (56 : Int32) (by decide) ?_
    refine bs_bipush C (bf_dk dd_X9_draws 26 rfl) (8 : Int32) (by decide) ?_
    refine bs_iload_n C (bf_dk dd_X9_draws 27 rfl) rfl ?_
    refine bs_imul C (bf_dk dd_X9_draws 28 rfl) ?_
    refine bs_isub C (bf_dk dd_X9_draws 29 rfl) ?_
    refine bs_lshl C (bf_dk dd_X9_draws 30 rfl) ?_
    refine bs_lor C (bf_dk dd_X9_draws 31 rfl) ?_
    refine bs_nameL (fun v5 ev5 => ?_)
    replace h := h v5 ev5
    refine bs_put C (bf_dk dd_X9_draws 32 rfl) tyX9_ok nmX9 cl_9 in_9 4 (Nat.le_of_ble_eq_true rfl) rfl f_9_135 rfl (ge_bW9_0 u4) (Nat.le_of_ble_eq_true rfl) rfl rfl (pu_bW9_0_4 u4 v5) ?_
    refine bs_nameS bW9 (fun S6 eS6 => ?_)
    replace h := h S6 eS6
    refine bs_iinc C (bf_dk dd_X9_draws 33 rfl) (x2 + (1 : Int32)) rfl rfl (Nat.le_of_ble_eq_true rfl) (Nat.le_of_ble_eq_true rfl) (lv2 := [some (.ref 0), none, some (.int (x2 + (1 : Int32)))]) rfl ?_
    refine bs_goto C (bf_dk dd_X9_draws 34 rfl) (tgt := 18) rfl ?_
    exact bs_weak (bf_s1 (bf_sn (bf_s1 bf_s0))) (hB18 ((x2 + (1 : Int32))) S6 h)
def wp_X9_draws_18 (S : bT9) (x2 : Int32) (Q : (bT9) → Prop) : Prop := ∃ I : Nat → Int32 → (bT9) → Prop, (∃ n : Nat, I n x2 S) ∧ ∀ (n : Nat) (x2 : Int32) (S : bT9), I n x2 S → wp_X9_draws_18b S x2 Q (fun x2 S => ∃ n2 : Nat, n2 < n ∧ I n2 x2 S)
theorem t_X9_draws_18 {X : bf_X} (C : bf_C X RX9 cX9_draws 3 none) (hR : bf_Rm X 2 42) (S : bT9) (x2 : Int32) (Q : (bT9) → Prop) (h : wp_X9_draws_18 S x2 Q) : bf_A X (bf_Zv X bW9 Q) 3 18 [some (.ref 0), none, some (.int x2)] [] (bW9 S) := by
  obtain ⟨I, ⟨n0, h0⟩, hI⟩ := h
  have key : ∀ (n : Nat) (x2 : Int32) (S : bT9), I n x2 S → bf_A X (bf_Zv X bW9 Q) 3 18 [some (.ref 0), none, some (.int x2)] [] (bW9 S) := by
    intro n
    induction n using Nat.strongRecOn with
    | _ n ih =>
      intro x2 S hi
      exact t_X9_draws_18b C hR S x2 Q _ (fun x2 S hb => by obtain ⟨n2, hn, hi2⟩ := hb; exact ih n2 hn x2 S hi2) (hI n x2 S hi)
  exact key n0 x2 S h0
def wp_X9_draws (S : bT9) (a1 : Int32) (Q : (bT9) → Prop) : Prop := (wp_X9_draw S (a1) (fun r7 u8 => (∀ S9 : bT9, S9 = (b9s_drawnLength u8 ((1 : Int32) + r7)) → (∀ S10 : bT9, S10 = (b9s_drawn S9 (0 : Int64)) → (wp_X9_draws_18 S10 ((0 : Int32)) Q)))))
set_option maxRecDepth 20000 in
theorem t_X9_draws {X : bf_X} (C : bf_C X RX9 cX9_draws 3 none) (hR : bf_Rm X 2 42) (S : bT9) (a1 : Int32) (Q : (bT9) → Prop) (h : wp_X9_draws S a1 Q) : bf_A X (bf_Zv X bW9 Q) 3 0 [some (.ref 0), some (.int a1), none] [] (bW9 S) := by
  unfold wp_X9_draws at h
  refine bs_aload_n C (bf_dk dd_X9_draws 0 rfl) rfl ?_
  refine bs_iconst C (bf_dk dd_X9_draws 1 rfl) (1 : Int32) (by decide) ?_
  refine bs_aload_n C (bf_dk dd_X9_draws 2 rfl) rfl ?_
  refine bs_iload_n C (bf_dk dd_X9_draws 3 rfl) rfl ?_
  refine bs_selfV_i C hR (c_X9_draw _ _ _ _ _ S (a1) _ h) my_X9_draw m_9_129 rfl cl_9 (ge_bW9_0 _) rfl (Nat.le_of_ble_eq_true rfl) (Nat.le_of_ble_eq_true rfl) (st := [.int (1 : Int32), .ref 0]) (Nat.le_of_ble_eq_true rfl) (bf_dk dd_X9_draws 4 rfl) rfl (len := 21) (fun _ => rfl) (fun r7 u8 h => ?_)
  refine bs_iadd C (bf_dk dd_X9_draws 5 rfl) ?_
  refine bs_put C (bf_dk dd_X9_draws 6 rfl) tyX9_ok nmX9 cl_9 in_9 5 (Nat.le_of_ble_eq_true rfl) rfl f_9_132 rfl (ge_bW9_0 u8) (Nat.le_of_ble_eq_true rfl) rfl rfl (pu_bW9_0_5 u8 ((1 : Int32) + r7)) ?_
  refine bs_nameS bW9 (fun S9 eS9 => ?_)
  replace h := h S9 eS9
  refine bs_aload_n C (bf_dk dd_X9_draws 7 rfl) rfl ?_
  refine bs_lconst C (bf_dk dd_X9_draws 8 rfl) (0 : Int64) (by decide) ?_
  refine bs_put C (bf_dk dd_X9_draws 9 rfl) tyX9_ok nmX9 cl_9 in_9 4 (Nat.le_of_ble_eq_true rfl) rfl f_9_135 rfl (ge_bW9_0 S9) (Nat.le_of_ble_eq_true rfl) rfl rfl (pu_bW9_0_4 S9 (0 : Int64)) ?_
  refine bs_nameS bW9 (fun S10 eS10 => ?_)
  replace h := h S10 eS10
  refine bs_iconst C (bf_dk dd_X9_draws 10 rfl) (0 : Int32) (by decide) ?_
  refine bs_istore_n C (bf_dk dd_X9_draws 11 rfl) rfl (Nat.le_of_ble_eq_true rfl) (Nat.le_of_ble_eq_true rfl) (lv2 := [some (.ref 0), some (.int a1), some (.int (0 : Int32))]) rfl ?_
  exact bs_weak (bf_s1 (bf_sn (bf_s1 bf_s0))) (t_X9_draws_18 C hR S10 ((0 : Int32)) Q h)
theorem c_X9_draws (l : Launch) (dC : Nat → ClassId) (dI : Nat → Nat → Nat) (ac : Nat → ClassId) (al : Nat → Nat) (S : bT9) (a1 : Int32) (Q : (bT9) → Prop) (h : wp_X9_draws S a1 Q) : bf_M l yX9_draws cX9_draws 3 none 2 42 dC dI ac al [.ref 0, .int a1] (bW9 S) (bf_Kv dC dI ac al bW9 Q) := by
  refine bf_start [some (.ref 0), some (.int a1), none] (by decide) (Nat.le_of_ble_eq_true rfl) (bf_s1 (bf_s1 (bf_en 1))) ?_
  intro X hl C hR e1 e2 e3 e4
  subst e1; subst e2; subst e3; subst e4
  exact t_X9_draws C hR S a1 Q h
def wp_X9_fill_65 (S : bT9) (x1 : Int32) (x2 : Int32) (x3 : Int32) (x4 : Int32) (Q : Int32 → (bT9) → Prop) (B34 : Int32 → Int32 → Int32 → Int32 → (bT9) → Prop) : Prop := (B34 (x1) (x2) (x3) ((x4 + (1 : Int32))) S)
set_option maxRecDepth 20000 in
theorem t_X9_fill_65 {X : bf_X} (C : bf_C X RX9 cX9_fill 5 (some .int)) (hR : bf_Rm X 4 103) (S : bT9) (x1 : Int32) (x2 : Int32) (x3 : Int32) (x4 : Int32) (Q : Int32 → (bT9) → Prop) (B34 : Int32 → Int32 → Int32 → Int32 → (bT9) → Prop) (hB34 : ∀ (x1 : Int32) (x2 : Int32) (x3 : Int32) (x4 : Int32) (S : bT9), B34 x1 x2 x3 x4 S → bf_A X (bf_Zi X bW9 Q) 5 34 [some (.ref 0), some (.int x1), some (.int x2), some (.int x3), some (.int x4)] [] (bW9 S)) (h : wp_X9_fill_65 S x1 x2 x3 x4 Q B34) : bf_A X (bf_Zi X bW9 Q) 5 65 [some (.ref 0), some (.int x1), some (.int x2), some (.int x3), some (.int x4)] [] (bW9 S) := by
  unfold wp_X9_fill_65 at h
  refine bs_iinc C (bf_dk dd_X9_fill 39 rfl) (x4 + (1 : Int32)) rfl rfl (Nat.le_of_ble_eq_true rfl) (Nat.le_of_ble_eq_true rfl) (lv2 := [some (.ref 0), some (.int x1), some (.int x2), some (.int x3), some (.int (x4 + (1 : Int32)))]) rfl ?_
  refine bs_goto C (bf_dk dd_X9_fill 40 rfl) (tgt := 34) rfl ?_
  exact bs_weak (bf_s1 (bf_s1 (bf_s1 (bf_s1 (bf_s1 bf_s0))))) (hB34 (x1) (x2) (x3) ((x4 + (1 : Int32))) S h)
def wp_X9_fill_34b (S : bT9) (x1 : Int32) (x2 : Int32) (x3 : Int32) (x4 : Int32) (Q : Int32 → (bT9) → Prop) (B34 : Int32 → Int32 → Int32 → Int32 → (bT9) → Prop) : Prop := ((x1 ≤ x4 → (Q x3 S)) ∧ (¬ x1 ≤ x4 → (wp_X9_draws S (x2) (fun u2 => (wp_X9_comes u2 ((b9g_drawn u2)) ((b9g_drawnLength u2)) (fun r3 u4 => ((r3 = (-1 : Int32) → (wp_X9_fill_65 u4 (x1) (x2) (x3) (x4) Q B34)) ∧ (¬ r3 = (-1 : Int32) → (wp_X9_fill_65 u4 (x1) (x2) ((x3 + (1 : Int32))) (x4) Q B34)))))))))
set_option maxRecDepth 20000 in
theorem t_X9_fill_34b {X : bf_X} (C : bf_C X RX9 cX9_fill 5 (some .int)) (hR : bf_Rm X 4 103) (S : bT9) (x1 : Int32) (x2 : Int32) (x3 : Int32) (x4 : Int32) (Q : Int32 → (bT9) → Prop) (B34 : Int32 → Int32 → Int32 → Int32 → (bT9) → Prop) (hB34 : ∀ (x1 : Int32) (x2 : Int32) (x3 : Int32) (x4 : Int32) (S : bT9), B34 x1 x2 x3 x4 S → bf_A X (bf_Zi X bW9 Q) 5 34 [some (.ref 0), some (.int x1), some (.int x2), some (.int x3), some (.int x4)] [] (bW9 S)) (h : wp_X9_fill_34b S x1 x2 x3 x4 Q B34) : bf_A X (bf_Zi X bW9 Q) 5 34 [some (.ref 0), some (.int x1), some (.int x2), some (.int x3), some (.int x4)] [] (bW9 S) := by
  unfold wp_X9_fill_34b at h
  refine bs_iload C (bf_dk dd_X9_fill 21 rfl) rfl ?_
  refine bs_iload_n C (bf_dk dd_X9_fill 22 rfl) rfl ?_
  refine bs_icmp_ge C (bf_dk dd_X9_fill 23 rfl) (tgt := 71) rfl (fun c => ?_) (fun c => ?_)
  · replace h := h.1 c
    refine bs_iload_n C (bf_dk dd_X9_fill 41 rfl) rfl ?_
    exact bs_iret (u := S) C (bf_dk dd_X9_fill 42 rfl) rfl h
  · replace h := h.2 c
    refine bs_aload_n C (bf_dk dd_X9_fill 24 rfl) rfl ?_
    refine bs_iload_n C (bf_dk dd_X9_fill 25 rfl) rfl ?_
    refine bs_selfV_v C hR (c_X9_draws _ _ _ _ _ S (x2) _ h) my_X9_draws m_9_142 rfl cl_9 (ge_bW9_0 _) rfl (Nat.le_of_ble_eq_true rfl) (Nat.le_of_ble_eq_true rfl) (st := []) (Nat.le_of_ble_eq_true rfl) (bf_dk dd_X9_fill 26 rfl) rfl (len := 21) (fun _ => rfl) (fun u2 h => ?_)
    refine bs_aload_n C (bf_dk dd_X9_fill 27 rfl) rfl ?_
    refine bs_aload_n C (bf_dk dd_X9_fill 28 rfl) rfl ?_
    refine bs_get C (bf_dk dd_X9_fill 29 rfl) cl_9 in_9 4 (Nat.le_of_ble_eq_true rfl) rfl f_9_135 (ge_bW9_0 u2) rfl ?_
    refine bs_aload_n C (bf_dk dd_X9_fill 30 rfl) rfl ?_
    refine bs_get C (bf_dk dd_X9_fill 31 rfl) cl_9 in_9 5 (Nat.le_of_ble_eq_true rfl) rfl f_9_132 (ge_bW9_0 u2) rfl ?_
    refine bs_selfV_i C hR (c_X9_comes _ _ _ _ _ u2 ((b9g_drawn u2)) ((b9g_drawnLength u2)) _ h) my_X9_comes m_9_125 rfl cl_9 (ge_bW9_0 _) rfl (Nat.le_of_ble_eq_true rfl) (Nat.le_of_ble_eq_true rfl) (st := []) (Nat.le_of_ble_eq_true rfl) (bf_dk dd_X9_fill 32 rfl) rfl (len := 21) (fun _ => rfl) (fun r3 u4 h => ?_)
    refine bs_iconst C (bf_dk dd_X9_fill 33 rfl) (-1 : Int32) (by decide) ?_
    refine bs_icmp_eq C (bf_dk dd_X9_fill 34 rfl) (tgt := 65) rfl (fun c => ?_) (fun c => ?_)
    · replace h := h.1 c
      exact bs_weak (bf_s1 (bf_s1 (bf_s1 (bf_s1 (bf_s1 bf_s0))))) (t_X9_fill_65 C hR u4 (x1) (x2) (x3) (x4) Q B34 hB34 h)
    · replace h := h.2 c
      refine bs_iload_n C (bf_dk dd_X9_fill 35 rfl) rfl ?_
      refine bs_iconst C (bf_dk dd_X9_fill 36 rfl) (1 : Int32) (by decide) ?_
      refine bs_iadd C (bf_dk dd_X9_fill 37 rfl) ?_
      refine bs_istore_n C (bf_dk dd_X9_fill 38 rfl) rfl (Nat.le_of_ble_eq_true rfl) (Nat.le_of_ble_eq_true rfl) (lv2 := [some (.ref 0), some (.int x1), some (.int x2), some (.int (x3 + (1 : Int32))), some (.int x4)]) rfl ?_
      exact bs_weak (bf_s1 (bf_s1 (bf_s1 (bf_s1 (bf_s1 bf_s0))))) (t_X9_fill_65 C hR u4 (x1) (x2) ((x3 + (1 : Int32))) (x4) Q B34 hB34 h)
def wp_X9_fill_34 (S : bT9) (x1 : Int32) (x2 : Int32) (x3 : Int32) (x4 : Int32) (Q : Int32 → (bT9) → Prop) : Prop := ∃ I : Nat → Int32 → Int32 → Int32 → Int32 → (bT9) → Prop, (∃ n : Nat, I n x1 x2 x3 x4 S) ∧ ∀ (n : Nat) (x1 : Int32) (x2 : Int32) (x3 : Int32) (x4 : Int32) (S : bT9), I n x1 x2 x3 x4 S → wp_X9_fill_34b S x1 x2 x3 x4 Q (fun x1 x2 x3 x4 S => ∃ n2 : Nat, n2 < n ∧ I n2 x1 x2 x3 x4 S)
theorem t_X9_fill_34 {X : bf_X} (C : bf_C X RX9 cX9_fill 5 (some .int)) (hR : bf_Rm X 4 103) (S : bT9) (x1 : Int32) (x2 : Int32) (x3 : Int32) (x4 : Int32) (Q : Int32 → (bT9) → Prop) (h : wp_X9_fill_34 S x1 x2 x3 x4 Q) : bf_A X (bf_Zi X bW9 Q) 5 34 [some (.ref 0), some (.int x1), some (.int x2), some (.int x3), some (.int x4)] [] (bW9 S) := by
  obtain ⟨I, ⟨n0, h0⟩, hI⟩ := h
  have key : ∀ (n : Nat) (x1 : Int32) (x2 : Int32) (x3 : Int32) (x4 : Int32) (S : bT9), I n x1 x2 x3 x4 S → bf_A X (bf_Zi X bW9 Q) 5 34 [some (.ref 0), some (.int x1), some (.int x2), some (.int x3), some (.int x4)] [] (bW9 S) := by
    intro n
    induction n using Nat.strongRecOn with
    | _ n ih =>
      intro x1 x2 x3 x4 S hi
      exact t_X9_fill_34b C hR S x1 x2 x3 x4 Q _ (fun x1 x2 x3 x4 S hb => by obtain ⟨n2, hn, hi2⟩ := hb; exact ih n2 hn x1 x2 x3 x4 S hi2) (hI n x1 x2 x3 x4 S hi)
  exact key n0 x1 x2 x3 x4 S h0
def wp_X9_fill (S : bT9) (a1 : Int32) (a2 : Int32) (Q : Int32 → (bT9) → Prop) : Prop := (∀ S5 : bT9, S5 = (b9s_told S (0 : Int32)) → (wp_X9_isIn S5 (a1) ((1 : Int32)) ((64 : Int32)) (fun r6 => ((r6 = 0 → (Q (-1 : Int32) S5)) ∧ (¬ r6 = 0 → (wp_X9_isIn S5 (a2) ((1 : Int32)) ((8 : Int32)) (fun r8 => ((¬ r8 = 0 → (wp_X9_fill_34 S5 (a1) (a2) ((0 : Int32)) ((0 : Int32)) Q)) ∧ (r8 = 0 → (Q (-1 : Int32) S5))))))))))
set_option maxRecDepth 20000 in
theorem t_X9_fill {X : bf_X} (C : bf_C X RX9 cX9_fill 5 (some .int)) (hR : bf_Rm X 4 103) (S : bT9) (a1 : Int32) (a2 : Int32) (Q : Int32 → (bT9) → Prop) (h : wp_X9_fill S a1 a2 Q) : bf_A X (bf_Zi X bW9 Q) 5 0 [some (.ref 0), some (.int a1), some (.int a2), none, none] [] (bW9 S) := by
  unfold wp_X9_fill at h
  refine bs_aload_n C (bf_dk dd_X9_fill 0 rfl) rfl ?_
  refine bs_iconst C (bf_dk dd_X9_fill 1 rfl) (0 : Int32) (by decide) ?_
  refine bs_put C (bf_dk dd_X9_fill 2 rfl) tyX9_ok nmX9 cl_9 in_9 0 (Nat.le_of_ble_eq_true rfl) rfl f_9_75 rfl (ge_bW9_0 S) (Nat.le_of_ble_eq_true rfl) rfl rfl (pu_bW9_0_0 S (0 : Int32)) ?_
  refine bs_nameS bW9 (fun S5 eS5 => ?_)
  replace h := h S5 eS5
  refine bs_aload_n C (bf_dk dd_X9_fill 3 rfl) rfl ?_
  refine bs_iload_n C (bf_dk dd_X9_fill 4 rfl) rfl ?_
  refine bs_iconst C (bf_dk dd_X9_fill 5 rfl) (1 : Int32) (by decide) ?_
  refine bs_bipush C (bf_dk dd_X9_fill 6 rfl) (64 : Int32) (by decide) ?_
  refine bs_selfPV_i C hR (c_X9_isIn _ _ _ _ _ S5 (a1) ((1 : Int32)) ((64 : Int32)) _ h) my_X9_isIn m_9_82 rfl cl_9 (ge_bW9_0 _) rfl (Nat.le_of_ble_eq_true rfl) (Nat.le_of_ble_eq_true rfl) (st := []) (Nat.le_of_ble_eq_true rfl) (bf_dk dd_X9_fill 7 rfl) rfl (fun r6 h => ?_)
  refine bs_if_eq C (bf_dk dd_X9_fill 8 rfl) (tgt := 27) rfl (fun c => ?_) (fun c => ?_)
  · replace h := h.1 c
    refine bs_iconst C (bf_dk dd_X9_fill 15 rfl) (-1 : Int32) (by decide) ?_
    exact bs_iret (u := S5) C (bf_dk dd_X9_fill 16 rfl) rfl h
  · replace h := h.2 c
    refine bs_aload_n C (bf_dk dd_X9_fill 9 rfl) rfl ?_
    refine bs_iload_n C (bf_dk dd_X9_fill 10 rfl) rfl ?_
    refine bs_iconst C (bf_dk dd_X9_fill 11 rfl) (1 : Int32) (by decide) ?_
    refine bs_bipush C (bf_dk dd_X9_fill 12 rfl) (8 : Int32) (by decide) ?_
    refine bs_selfPV_i C hR (c_X9_isIn _ _ _ _ _ S5 (a2) ((1 : Int32)) ((8 : Int32)) _ h) my_X9_isIn m_9_82 rfl cl_9 (ge_bW9_0 _) rfl (Nat.le_of_ble_eq_true rfl) (Nat.le_of_ble_eq_true rfl) (st := []) (Nat.le_of_ble_eq_true rfl) (bf_dk dd_X9_fill 13 rfl) rfl (fun r8 h => ?_)
    refine bs_if_ne C (bf_dk dd_X9_fill 14 rfl) (tgt := 29) rfl (fun c => ?_) (fun c => ?_)
    · replace h := h.1 c
      refine bs_iconst C (bf_dk dd_X9_fill 17 rfl) (0 : Int32) (by decide) ?_
      refine bs_istore_n C (bf_dk dd_X9_fill 18 rfl) rfl (Nat.le_of_ble_eq_true rfl) (Nat.le_of_ble_eq_true rfl) (lv2 := [some (.ref 0), some (.int a1), some (.int a2), some (.int (0 : Int32)), none]) rfl ?_
      refine bs_iconst C (bf_dk dd_X9_fill 19 rfl) (0 : Int32) (by decide) ?_
      refine bs_istore C (bf_dk dd_X9_fill 20 rfl) (Nat.le_of_ble_eq_true rfl) (Nat.le_of_ble_eq_true rfl) (lv2 := [some (.ref 0), some (.int a1), some (.int a2), some (.int (0 : Int32)), some (.int (0 : Int32))]) rfl ?_
      exact bs_weak (bf_s1 (bf_s1 (bf_s1 (bf_s1 (bf_s1 bf_s0))))) (t_X9_fill_34 C hR S5 (a1) (a2) ((0 : Int32)) ((0 : Int32)) Q h)
    · replace h := h.2 c
      refine bs_iconst C (bf_dk dd_X9_fill 15 rfl) (-1 : Int32) (by decide) ?_
      exact bs_iret (u := S5) C (bf_dk dd_X9_fill 16 rfl) rfl h
theorem c_X9_fill (l : Launch) (dC : Nat → ClassId) (dI : Nat → Nat → Nat) (ac : Nat → ClassId) (al : Nat → Nat) (S : bT9) (a1 : Int32) (a2 : Int32) (Q : Int32 → (bT9) → Prop) (h : wp_X9_fill S a1 a2 Q) : bf_M l yX9_fill cX9_fill 5 (some .int) 4 103 dC dI ac al [.ref 0, .int a1, .int a2] (bW9 S) (bf_Ki dC dI ac al bW9 Q) := by
  refine bf_start [some (.ref 0), some (.int a1), some (.int a2), none, none] (by decide) (Nat.le_of_ble_eq_true rfl) (bf_s1 (bf_s1 (bf_s1 (bf_en 2)))) ?_
  intro X hl C hR e1 e2 e3 e4
  subst e1; subst e2; subst e3; subst e4
  exact t_X9_fill C hR S a1 a2 Q h
def wp_X9_types_3b (S : bT9) (x1 : Int32) (x2 : Int32) (Q : (bT9) → Prop) (B3 : Int32 → Int32 → (bT9) → Prop) : Prop := ((x2 < 0 → (Q S)) ∧ (¬ x2 < 0 → (vp_in (b9g_taped S) 160 ∧ (∀ S1 : bT9, S1 = (b9s_tape S (upd (b9g_tape S) ((b9g_taped S)).toNatClampNeg ((x1 >>> (x2 &&& 31)) &&& (255 : Int32)))) → (∀ S2 : bT9, S2 = (b9s_taped S1 ((b9g_taped S1) + (1 : Int32))) → (B3 (x1) ((x2 + (-8 : Int32))) S2))))))
set_option maxRecDepth 20000 in
theorem t_X9_types_3b {X : bf_X} (C : bf_C X RX9 cX9_types 3 none) (hR : bf_Rm X 0 0) (S : bT9) (x1 : Int32) (x2 : Int32) (Q : (bT9) → Prop) (B3 : Int32 → Int32 → (bT9) → Prop) (hB3 : ∀ (x1 : Int32) (x2 : Int32) (S : bT9), B3 x1 x2 S → bf_A X (bf_Zv X bW9 Q) 3 3 [some (.ref 0), some (.int x1), some (.int x2)] [] (bW9 S)) (h : wp_X9_types_3b S x1 x2 Q B3) : bf_A X (bf_Zv X bW9 Q) 3 3 [some (.ref 0), some (.int x1), some (.int x2)] [] (bW9 S) := by
  unfold wp_X9_types_3b at h
  refine bs_iload_n C (bf_dk dd_X9_types 2 rfl) rfl ?_
  refine bs_if_lt C (bf_dk dd_X9_types 3 rfl) (tgt := 39) rfl (fun c => ?_) (fun c => ?_)
  · replace h := h.1 c
    exact bs_vret (u := S) C (bf_dk dd_X9_types 22 rfl) rfl h
  · replace h := h.2 c
    refine bs_aload_n C (bf_dk dd_X9_types 4 rfl) rfl ?_
    refine bs_get C (bf_dk dd_X9_types 5 rfl) cl_9 in_9 6 (Nat.le_of_ble_eq_true rfl) rfl f_9_20 (ge_bW9_0 S) rfl ?_
    refine bs_aload_n C (bf_dk dd_X9_types 6 rfl) rfl ?_
    refine bs_get C (bf_dk dd_X9_types 7 rfl) cl_9 in_9 7 (Nat.le_of_ble_eq_true rfl) rfl f_9_146 (ge_bW9_0 S) rfl ?_
    refine bs_iload_n C (bf_dk dd_X9_types 8 rfl) rfl ?_
    refine bs_iload_n C (bf_dk dd_X9_types 9 rfl) rfl ?_
    refine bs_ishr C (bf_dk dd_X9_types 10 rfl) ?_
    refine bs_sipush C (bf_dk dd_X9_types 11 rfl) (255 : Int32) (by decide) ?_
    refine bs_iand C (bf_dk dd_X9_types 12 rfl) ?_
    obtain ⟨hi, h⟩ := h
    refine bs_iast C (bf_dk dd_X9_types 13 rfl) (ge_bW9_4 S) hi (ar_bW9_4 S _) ?_
    refine bs_nameS bW9 (fun S1 eS1 => ?_)
    replace h := h S1 eS1
    refine bs_aload_n C (bf_dk dd_X9_types 14 rfl) rfl ?_
    refine bs_aload_n C (bf_dk dd_X9_types 15 rfl) rfl ?_
    refine bs_get C (bf_dk dd_X9_types 16 rfl) cl_9 in_9 7 (Nat.le_of_ble_eq_true rfl) rfl f_9_146 (ge_bW9_0 S1) rfl ?_
    refine bs_iconst C (bf_dk dd_X9_types 17 rfl) (1 : Int32) (by decide) ?_
    refine bs_iadd C (bf_dk dd_X9_types 18 rfl) ?_
    refine bs_put C (bf_dk dd_X9_types 19 rfl) tyX9_ok nmX9 cl_9 in_9 7 (Nat.le_of_ble_eq_true rfl) rfl f_9_146 rfl (ge_bW9_0 S1) (Nat.le_of_ble_eq_true rfl) rfl rfl (pu_bW9_0_7 S1 ((b9g_taped S1) + (1 : Int32))) ?_
    refine bs_nameS bW9 (fun S2 eS2 => ?_)
    replace h := h S2 eS2
    refine bs_iinc C (bf_dk dd_X9_types 20 rfl) (x2 + (-8 : Int32)) rfl rfl (Nat.le_of_ble_eq_true rfl) (Nat.le_of_ble_eq_true rfl) (lv2 := [some (.ref 0), some (.int x1), some (.int (x2 + (-8 : Int32)))]) rfl ?_
    refine bs_goto C (bf_dk dd_X9_types 21 rfl) (tgt := 3) rfl ?_
    exact bs_weak (bf_s1 (bf_s1 (bf_s1 bf_s0))) (hB3 (x1) ((x2 + (-8 : Int32))) S2 h)
def wp_X9_types_3 (S : bT9) (x1 : Int32) (x2 : Int32) (Q : (bT9) → Prop) : Prop := ∃ I : Nat → Int32 → Int32 → (bT9) → Prop, (∃ n : Nat, I n x1 x2 S) ∧ ∀ (n : Nat) (x1 : Int32) (x2 : Int32) (S : bT9), I n x1 x2 S → wp_X9_types_3b S x1 x2 Q (fun x1 x2 S => ∃ n2 : Nat, n2 < n ∧ I n2 x1 x2 S)
theorem t_X9_types_3 {X : bf_X} (C : bf_C X RX9 cX9_types 3 none) (hR : bf_Rm X 0 0) (S : bT9) (x1 : Int32) (x2 : Int32) (Q : (bT9) → Prop) (h : wp_X9_types_3 S x1 x2 Q) : bf_A X (bf_Zv X bW9 Q) 3 3 [some (.ref 0), some (.int x1), some (.int x2)] [] (bW9 S) := by
  obtain ⟨I, ⟨n0, h0⟩, hI⟩ := h
  have key : ∀ (n : Nat) (x1 : Int32) (x2 : Int32) (S : bT9), I n x1 x2 S → bf_A X (bf_Zv X bW9 Q) 3 3 [some (.ref 0), some (.int x1), some (.int x2)] [] (bW9 S) := by
    intro n
    induction n using Nat.strongRecOn with
    | _ n ih =>
      intro x1 x2 S hi
      exact t_X9_types_3b C hR S x1 x2 Q _ (fun x1 x2 S hb => by obtain ⟨n2, hn, hi2⟩ := hb; exact ih n2 hn x1 x2 S hi2) (hI n x1 x2 S hi)
  exact key n0 x1 x2 S h0
def wp_X9_types (S : bT9) (a1 : Int32) (Q : (bT9) → Prop) : Prop := (wp_X9_types_3 S (a1) ((24 : Int32)) Q)
set_option maxRecDepth 20000 in
theorem t_X9_types {X : bf_X} (C : bf_C X RX9 cX9_types 3 none) (hR : bf_Rm X 0 0) (S : bT9) (a1 : Int32) (Q : (bT9) → Prop) (h : wp_X9_types S a1 Q) : bf_A X (bf_Zv X bW9 Q) 3 0 [some (.ref 0), some (.int a1), none] [] (bW9 S) := by
  unfold wp_X9_types at h
  refine bs_bipush C (bf_dk dd_X9_types 0 rfl) (24 : Int32) (by decide) ?_
  refine bs_istore_n C (bf_dk dd_X9_types 1 rfl) rfl (Nat.le_of_ble_eq_true rfl) (Nat.le_of_ble_eq_true rfl) (lv2 := [some (.ref 0), some (.int a1), some (.int (24 : Int32))]) rfl ?_
  exact bs_weak (bf_s1 (bf_s1 (bf_s1 bf_s0))) (t_X9_types_3 C hR S (a1) ((24 : Int32)) Q h)
theorem c_X9_types (l : Launch) (dC : Nat → ClassId) (dI : Nat → Nat → Nat) (ac : Nat → ClassId) (al : Nat → Nat) (S : bT9) (a1 : Int32) (Q : (bT9) → Prop) (h : wp_X9_types S a1 Q) : bf_M l yX9_types cX9_types 3 none 0 0 dC dI ac al [.ref 0, .int a1] (bW9 S) (bf_Kv dC dI ac al bW9 Q) := by
  refine bf_start [some (.ref 0), some (.int a1), none] (by decide) (Nat.le_of_ble_eq_true rfl) (bf_s1 (bf_s1 (bf_en 1))) ?_
  intro X hl C hR e1 e2 e3 e4
  subst e1; subst e2; subst e3; subst e4
  exact t_X9_types C hR S a1 Q h
def wp_X9_feed (S : bT9) (a1 : Int32) (a2 : Int32) (a3 : Int32) (a4 : Int32) (a5 : Int32) (Q : Int32 → (bT9) → Prop) : Prop := (∀ S1 : bT9, S1 = (b9s_told S (0 : Int32)) → (((b9g_taped S1) ≤ (140 : Int32) → (wp_X9_types S1 (a1) (fun u3 => (wp_X9_types u3 (a2) (fun u5 => (wp_X9_types u5 (a3) (fun u7 => (wp_X9_types u7 (a4) (fun u9 => (wp_X9_types u9 (a5) (fun u11 => (Q (b9g_taped u11) u11)))))))))))) ∧ (¬ (b9g_taped S1) ≤ (140 : Int32) → (Q (-1 : Int32) S1))))
set_option maxRecDepth 20000 in
theorem t_X9_feed {X : bf_X} (C : bf_C X RX9 cX9_feed 6 (some .int)) (hR : bf_Rm X 1 22) (S : bT9) (a1 : Int32) (a2 : Int32) (a3 : Int32) (a4 : Int32) (a5 : Int32) (Q : Int32 → (bT9) → Prop) (h : wp_X9_feed S a1 a2 a3 a4 a5 Q) : bf_A X (bf_Zi X bW9 Q) 6 0 [some (.ref 0), some (.int a1), some (.int a2), some (.int a3), some (.int a4), some (.int a5)] [] (bW9 S) := by
  unfold wp_X9_feed at h
  refine bs_aload_n C (bf_dk dd_X9_feed 0 rfl) rfl ?_
  refine bs_iconst C (bf_dk dd_X9_feed 1 rfl) (0 : Int32) (by decide) ?_
  refine bs_put C (bf_dk dd_X9_feed 2 rfl) tyX9_ok nmX9 cl_9 in_9 0 (Nat.le_of_ble_eq_true rfl) rfl f_9_75 rfl (ge_bW9_0 S) (Nat.le_of_ble_eq_true rfl) rfl rfl (pu_bW9_0_0 S (0 : Int32)) ?_
  refine bs_nameS bW9 (fun S1 eS1 => ?_)
  replace h := h S1 eS1
  refine bs_aload_n C (bf_dk dd_X9_feed 3 rfl) rfl ?_
  refine bs_get C (bf_dk dd_X9_feed 4 rfl) cl_9 in_9 7 (Nat.le_of_ble_eq_true rfl) rfl f_9_146 (ge_bW9_0 S1) rfl ?_
  refine bs_sipush C (bf_dk dd_X9_feed 5 rfl) (140 : Int32) (by decide) ?_
  refine bs_icmp_le C (bf_dk dd_X9_feed 6 rfl) (tgt := 17) rfl (fun c => ?_) (fun c => ?_)
  · replace h := h.1 c
    refine bs_aload_n C (bf_dk dd_X9_feed 9 rfl) rfl ?_
    refine bs_iload_n C (bf_dk dd_X9_feed 10 rfl) rfl ?_
    refine bs_selfV_v C hR (c_X9_types _ _ _ _ _ S1 (a1) _ h) my_X9_types m_9_149 rfl cl_9 (ge_bW9_0 _) rfl (Nat.le_of_ble_eq_true rfl) (Nat.le_of_ble_eq_true rfl) (st := []) (Nat.le_of_ble_eq_true rfl) (bf_dk dd_X9_feed 11 rfl) rfl (len := 21) (fun _ => rfl) (fun u3 h => ?_)
    refine bs_aload_n C (bf_dk dd_X9_feed 12 rfl) rfl ?_
    refine bs_iload_n C (bf_dk dd_X9_feed 13 rfl) rfl ?_
    refine bs_selfV_v C hR (c_X9_types _ _ _ _ _ u3 (a2) _ h) my_X9_types m_9_149 rfl cl_9 (ge_bW9_0 _) rfl (Nat.le_of_ble_eq_true rfl) (Nat.le_of_ble_eq_true rfl) (st := []) (Nat.le_of_ble_eq_true rfl) (bf_dk dd_X9_feed 14 rfl) rfl (len := 21) (fun _ => rfl) (fun u5 h => ?_)
    refine bs_aload_n C (bf_dk dd_X9_feed 15 rfl) rfl ?_
    refine bs_iload_n C (bf_dk dd_X9_feed 16 rfl) rfl ?_
    refine bs_selfV_v C hR (c_X9_types _ _ _ _ _ u5 (a3) _ h) my_X9_types m_9_149 rfl cl_9 (ge_bW9_0 _) rfl (Nat.le_of_ble_eq_true rfl) (Nat.le_of_ble_eq_true rfl) (st := []) (Nat.le_of_ble_eq_true rfl) (bf_dk dd_X9_feed 17 rfl) rfl (len := 21) (fun _ => rfl) (fun u7 h => ?_)
    refine bs_aload_n C (bf_dk dd_X9_feed 18 rfl) rfl ?_
    refine bs_iload C (bf_dk dd_X9_feed 19 rfl) rfl ?_
    refine bs_selfV_v C hR (c_X9_types _ _ _ _ _ u7 (a4) _ h) my_X9_types m_9_149 rfl cl_9 (ge_bW9_0 _) rfl (Nat.le_of_ble_eq_true rfl) (Nat.le_of_ble_eq_true rfl) (st := []) (Nat.le_of_ble_eq_true rfl) (bf_dk dd_X9_feed 20 rfl) rfl (len := 21) (fun _ => rfl) (fun u9 h => ?_)
    refine bs_aload_n C (bf_dk dd_X9_feed 21 rfl) rfl ?_
    refine bs_iload C (bf_dk dd_X9_feed 22 rfl) rfl ?_
    refine bs_selfV_v C hR (c_X9_types _ _ _ _ _ u9 (a5) _ h) my_X9_types m_9_149 rfl cl_9 (ge_bW9_0 _) rfl (Nat.le_of_ble_eq_true rfl) (Nat.le_of_ble_eq_true rfl) (st := []) (Nat.le_of_ble_eq_true rfl) (bf_dk dd_X9_feed 23 rfl) rfl (len := 21) (fun _ => rfl) (fun u11 h => ?_)
    refine bs_aload_n C (bf_dk dd_X9_feed 24 rfl) rfl ?_
    refine bs_get C (bf_dk dd_X9_feed 25 rfl) cl_9 in_9 7 (Nat.le_of_ble_eq_true rfl) rfl f_9_146 (ge_bW9_0 u11) rfl ?_
    exact bs_iret (u := u11) C (bf_dk dd_X9_feed 26 rfl) rfl h
  · replace h := h.2 c
    refine bs_iconst C (bf_dk dd_X9_feed 7 rfl) (-1 : Int32) (by decide) ?_
    exact bs_iret (u := S1) C (bf_dk dd_X9_feed 8 rfl) rfl h
theorem c_X9_feed (l : Launch) (dC : Nat → ClassId) (dI : Nat → Nat → Nat) (ac : Nat → ClassId) (al : Nat → Nat) (S : bT9) (a1 : Int32) (a2 : Int32) (a3 : Int32) (a4 : Int32) (a5 : Int32) (Q : Int32 → (bT9) → Prop) (h : wp_X9_feed S a1 a2 a3 a4 a5 Q) : bf_M l yX9_feed cX9_feed 6 (some .int) 1 22 dC dI ac al [.ref 0, .int a1, .int a2, .int a3, .int a4, .int a5] (bW9 S) (bf_Ki dC dI ac al bW9 Q) := by
  refine bf_start [some (.ref 0), some (.int a1), some (.int a2), some (.int a3), some (.int a4), some (.int a5)] (by decide) (Nat.le_of_ble_eq_true rfl) (bf_s1 (bf_s1 (bf_s1 (bf_s1 (bf_s1 (bf_s1 bf_s0)))))) ?_
  intro X hl C hR e1 e2 e3 e4
  subst e1; subst e2; subst e3; subst e4
  exact t_X9_feed C hR S a1 a2 a3 a4 a5 Q h
def wp_X9_end (S : bT9) (a1 : Int32) (Q : Int32 → (bT9) → Prop) : Prop := (∀ S1 : bT9, S1 = (b9s_told S (0 : Int32)) → (wp_X9_isIn S1 (a1) ((0 : Int32)) ((b9g_taped S1)) (fun r2 => ((¬ r2 = 0 → (∀ S4 : bT9, S4 = (b9s_taped S1 a1) → (bf_bool (1 : Int32) ∧ Q (1 : Int32) S4))) ∧ (r2 = 0 → (bf_bool (0 : Int32) ∧ Q (0 : Int32) S1))))))
set_option maxRecDepth 20000 in
theorem t_X9_end {X : bf_X} (C : bf_C X RX9 cX9_end 2 (some .boolean)) (hR : bf_Rm X 1 23) (S : bT9) (a1 : Int32) (Q : Int32 → (bT9) → Prop) (h : wp_X9_end S a1 Q) : bf_A X (bf_Zi X bW9 Q) 2 0 [some (.ref 0), some (.int a1)] [] (bW9 S) := by
  unfold wp_X9_end at h
  refine bs_aload_n C (bf_dk dd_X9_end 0 rfl) rfl ?_
  refine bs_iconst C (bf_dk dd_X9_end 1 rfl) (0 : Int32) (by decide) ?_
  refine bs_put C (bf_dk dd_X9_end 2 rfl) tyX9_ok nmX9 cl_9 in_9 0 (Nat.le_of_ble_eq_true rfl) rfl f_9_75 rfl (ge_bW9_0 S) (Nat.le_of_ble_eq_true rfl) rfl rfl (pu_bW9_0_0 S (0 : Int32)) ?_
  refine bs_nameS bW9 (fun S1 eS1 => ?_)
  replace h := h S1 eS1
  refine bs_aload_n C (bf_dk dd_X9_end 3 rfl) rfl ?_
  refine bs_iload_n C (bf_dk dd_X9_end 4 rfl) rfl ?_
  refine bs_iconst C (bf_dk dd_X9_end 5 rfl) (0 : Int32) (by decide) ?_
  refine bs_aload_n C (bf_dk dd_X9_end 6 rfl) rfl ?_
  refine bs_get C (bf_dk dd_X9_end 7 rfl) cl_9 in_9 7 (Nat.le_of_ble_eq_true rfl) rfl f_9_146 (ge_bW9_0 S1) rfl ?_
  refine bs_selfPV_i C hR (c_X9_isIn _ _ _ _ _ S1 (a1) ((0 : Int32)) ((b9g_taped S1)) _ h) my_X9_isIn m_9_82 rfl cl_9 (ge_bW9_0 _) rfl (Nat.le_of_ble_eq_true rfl) (Nat.le_of_ble_eq_true rfl) (st := []) (Nat.le_of_ble_eq_true rfl) (bf_dk dd_X9_end 8 rfl) rfl (fun r2 h => ?_)
  refine bs_if_ne C (bf_dk dd_X9_end 9 rfl) (tgt := 20) rfl (fun c => ?_) (fun c => ?_)
  · replace h := h.1 c
    refine bs_aload_n C (bf_dk dd_X9_end 12 rfl) rfl ?_
    refine bs_iload_n C (bf_dk dd_X9_end 13 rfl) rfl ?_
    refine bs_put C (bf_dk dd_X9_end 14 rfl) tyX9_ok nmX9 cl_9 in_9 7 (Nat.le_of_ble_eq_true rfl) rfl f_9_146 rfl (ge_bW9_0 S1) (Nat.le_of_ble_eq_true rfl) rfl rfl (pu_bW9_0_7 S1 a1) ?_
    refine bs_nameS bW9 (fun S4 eS4 => ?_)
    replace h := h S4 eS4
    refine bs_iconst C (bf_dk dd_X9_end 15 rfl) (1 : Int32) (by decide) ?_
    obtain ⟨hi, h⟩ := h
    exact bs_zret (u := S4) C (bf_dk dd_X9_end 16 rfl) hi rfl h
  · replace h := h.2 c
    refine bs_iconst C (bf_dk dd_X9_end 10 rfl) (0 : Int32) (by decide) ?_
    obtain ⟨hi, h⟩ := h
    exact bs_zret (u := S1) C (bf_dk dd_X9_end 11 rfl) hi rfl h
theorem c_X9_end (l : Launch) (dC : Nat → ClassId) (dI : Nat → Nat → Nat) (ac : Nat → ClassId) (al : Nat → Nat) (S : bT9) (a1 : Int32) (Q : Int32 → (bT9) → Prop) (h : wp_X9_end S a1 Q) : bf_M l yX9_end cX9_end 2 (some .boolean) 1 23 dC dI ac al [.ref 0, .int a1] (bW9 S) (bf_Ki dC dI ac al bW9 Q) := by
  refine bf_start [some (.ref 0), some (.int a1)] (by decide) (Nat.le_of_ble_eq_true rfl) (bf_s1 (bf_s1 bf_s0)) ?_
  intro X hl C hR e1 e2 e3 e4
  subst e1; subst e2; subst e3; subst e4
  exact t_X9_end C hR S a1 Q h
def wp_X9_named_107b (S : bT9) (x1 : Int32) (x2 : Int32) (x3 : Int32) (Q : Int32 → (bT9) → Prop) (B14 : Int32 → Int32 → Int32 → (bT9) → Prop) (B107 : Int32 → Int32 → Int32 → (bT9) → Prop) : Prop := (vp_in x3 57 ∧ ((((b9g_names S) (x3).toNatClampNeg) = (32 : Int32) → (B14 (x1) (x2) (x3) S)) ∧ (¬ ((b9g_names S) (x3).toNatClampNeg) = (32 : Int32) → (B107 (x1) (x2) ((x3 + (1 : Int32))) S))))
set_option maxRecDepth 20000 in
theorem t_X9_named_107b {X : bf_X} (C : bf_C X RX9 cX9_named 5 (some .int)) (hR : bf_Rm X 0 0) (S : bT9) (x1 : Int32) (x2 : Int32) (x3 : Int32) (Q : Int32 → (bT9) → Prop) (B14 : Int32 → Int32 → Int32 → (bT9) → Prop) (B107 : Int32 → Int32 → Int32 → (bT9) → Prop) (hB14 : ∀ (x1 : Int32) (x2 : Int32) (x3 : Int32) (S : bT9), B14 x1 x2 x3 S → bf_A X (bf_Zi X bW9 Q) 5 14 [some (.ref 0), some (.int x1), some (.int x2), some (.int x3), none] [] (bW9 S)) (hB107 : ∀ (x1 : Int32) (x2 : Int32) (x3 : Int32) (S : bT9), B107 x1 x2 x3 S → bf_A X (bf_Zi X bW9 Q) 5 107 [some (.ref 0), some (.int x1), some (.int x2), some (.int x3), none] [] (bW9 S)) (h : wp_X9_named_107b S x1 x2 x3 Q B14 B107) : bf_A X (bf_Zi X bW9 Q) 5 107 [some (.ref 0), some (.int x1), some (.int x2), some (.int x3), none] [] (bW9 S) := by
  unfold wp_X9_named_107b at h
  refine bs_aload_n C (bf_dk dd_X9_named 67 rfl) rfl ?_
  refine bs_get C (bf_dk dd_X9_named 68 rfl) cl_9 in_9 8 (Nat.le_of_ble_eq_true rfl) rfl f_9_23 (ge_bW9_0 S) rfl ?_
  refine bs_iload_n C (bf_dk dd_X9_named 69 rfl) rfl ?_
  obtain ⟨hi, h⟩ := h
  refine bs_iald C (bf_dk dd_X9_named 70 rfl) (ge_bW9_5 S) hi ?_
  refine bs_bipush C (bf_dk dd_X9_named 71 rfl) (32 : Int32) (by decide) ?_
  refine bs_icmp_eq C (bf_dk dd_X9_named 72 rfl) (tgt := 125) rfl (fun c => ?_) (fun c => ?_)
  · replace h := h.1 c
    refine bs_goto C (bf_dk dd_X9_named 78 rfl) (tgt := 14) rfl ?_
    exact bs_weak (bf_s1 (bf_s1 (bf_s1 (bf_s1 (bf_sn bf_s0))))) (hB14 (x1) (x2) (x3) S h)
  · replace h := h.2 c
    refine bs_iload_n C (bf_dk dd_X9_named 73 rfl) rfl ?_
    refine bs_iconst C (bf_dk dd_X9_named 74 rfl) (1 : Int32) (by decide) ?_
    refine bs_iadd C (bf_dk dd_X9_named 75 rfl) ?_
    refine bs_istore_n C (bf_dk dd_X9_named 76 rfl) rfl (Nat.le_of_ble_eq_true rfl) (Nat.le_of_ble_eq_true rfl) (lv2 := [some (.ref 0), some (.int x1), some (.int x2), some (.int (x3 + (1 : Int32))), none]) rfl ?_
    refine bs_goto C (bf_dk dd_X9_named 77 rfl) (tgt := 107) rfl ?_
    exact bs_weak (bf_s1 (bf_s1 (bf_s1 (bf_s1 (bf_sn bf_s0))))) (hB107 (x1) (x2) ((x3 + (1 : Int32))) S h)
def wp_X9_named_107 (S : bT9) (x1 : Int32) (x2 : Int32) (x3 : Int32) (Q : Int32 → (bT9) → Prop) (B14 : Int32 → Int32 → Int32 → (bT9) → Prop) : Prop := ∃ I : Nat → Int32 → Int32 → Int32 → (bT9) → Prop, (∃ n : Nat, I n x1 x2 x3 S) ∧ ∀ (n : Nat) (x1 : Int32) (x2 : Int32) (x3 : Int32) (S : bT9), I n x1 x2 x3 S → wp_X9_named_107b S x1 x2 x3 Q B14 (fun x1 x2 x3 S => ∃ n2 : Nat, n2 < n ∧ I n2 x1 x2 x3 S)
theorem t_X9_named_107 {X : bf_X} (C : bf_C X RX9 cX9_named 5 (some .int)) (hR : bf_Rm X 0 0) (S : bT9) (x1 : Int32) (x2 : Int32) (x3 : Int32) (Q : Int32 → (bT9) → Prop) (B14 : Int32 → Int32 → Int32 → (bT9) → Prop) (hB14 : ∀ (x1 : Int32) (x2 : Int32) (x3 : Int32) (S : bT9), B14 x1 x2 x3 S → bf_A X (bf_Zi X bW9 Q) 5 14 [some (.ref 0), some (.int x1), some (.int x2), some (.int x3), none] [] (bW9 S)) (h : wp_X9_named_107 S x1 x2 x3 Q B14) : bf_A X (bf_Zi X bW9 Q) 5 107 [some (.ref 0), some (.int x1), some (.int x2), some (.int x3), none] [] (bW9 S) := by
  obtain ⟨I, ⟨n0, h0⟩, hI⟩ := h
  have key : ∀ (n : Nat) (x1 : Int32) (x2 : Int32) (x3 : Int32) (S : bT9), I n x1 x2 x3 S → bf_A X (bf_Zi X bW9 Q) 5 107 [some (.ref 0), some (.int x1), some (.int x2), some (.int x3), none] [] (bW9 S) := by
    intro n
    induction n using Nat.strongRecOn with
    | _ n ih =>
      intro x1 x2 x3 S hi
      exact t_X9_named_107b C hR S x1 x2 x3 Q B14 _ hB14 (fun x1 x2 x3 S hb => by obtain ⟨n2, hn, hi2⟩ := hb; exact ih n2 hn x1 x2 x3 S hi2) (hI n x1 x2 x3 S hi)
  exact key n0 x1 x2 x3 S h0
def wp_X9_named_103 (S : bT9) (x1 : Int32) (x2 : Int32) (x3 : Int32) (Q : Int32 → (bT9) → Prop) (B14 : Int32 → Int32 → Int32 → (bT9) → Prop) : Prop := (wp_X9_named_107 S (x1) (x2) ((x3 + (1 : Int32))) Q B14)
set_option maxRecDepth 20000 in
theorem t_X9_named_103 {X : bf_X} (C : bf_C X RX9 cX9_named 5 (some .int)) (hR : bf_Rm X 0 0) (S : bT9) (x1 : Int32) (x2 : Int32) (x3 : Int32) (Q : Int32 → (bT9) → Prop) (B14 : Int32 → Int32 → Int32 → (bT9) → Prop) (hB14 : ∀ (x1 : Int32) (x2 : Int32) (x3 : Int32) (S : bT9), B14 x1 x2 x3 S → bf_A X (bf_Zi X bW9 Q) 5 14 [some (.ref 0), some (.int x1), some (.int x2), some (.int x3), none] [] (bW9 S)) (h : wp_X9_named_103 S x1 x2 x3 Q B14) : bf_A X (bf_Zi X bW9 Q) 5 103 [some (.ref 0), some (.int x1), some (.int x2), some (.int x3), none] [] (bW9 S) := by
  unfold wp_X9_named_103 at h
  refine bs_iload_n C (bf_dk dd_X9_named 63 rfl) rfl ?_
  refine bs_iconst C (bf_dk dd_X9_named 64 rfl) (1 : Int32) (by decide) ?_
  refine bs_iadd C (bf_dk dd_X9_named 65 rfl) ?_
  refine bs_istore_n C (bf_dk dd_X9_named 66 rfl) rfl (Nat.le_of_ble_eq_true rfl) (Nat.le_of_ble_eq_true rfl) (lv2 := [some (.ref 0), some (.int x1), some (.int x2), some (.int (x3 + (1 : Int32))), none]) rfl ?_
  exact bs_weak (bf_s1 (bf_s1 (bf_s1 (bf_s1 (bf_sn bf_s0))))) (t_X9_named_107 C hR S (x1) (x2) ((x3 + (1 : Int32))) Q B14 hB14 h)
def wp_X9_named_75 (S : bT9) (x1 : Int32) (x2 : Int32) (x3 : Int32) (x4 : Int32) (Q : Int32 → (bT9) → Prop) (B14 : Int32 → Int32 → Int32 → (bT9) → Prop) : Prop := ((¬ x4 = x2 → (wp_X9_named_103 S (x1) (x2) (x3) Q B14)) ∧ (x4 = x2 → ((x2 ≤ 0 → (wp_X9_named_103 S (x1) (x2) (x3) Q B14)) ∧ (¬ x2 ≤ 0 → (vp_in ((x3 + (1 : Int32)) + x4) 57 ∧ ((¬ ((b9g_names S) (((x3 + (1 : Int32)) + x4)).toNatClampNeg) = (32 : Int32) → (wp_X9_named_103 S (x1) (x2) (x3) Q B14)) ∧ (((b9g_names S) (((x3 + (1 : Int32)) + x4)).toNatClampNeg) = (32 : Int32) → (Q x1 S))))))))
set_option maxRecDepth 20000 in
theorem t_X9_named_75 {X : bf_X} (C : bf_C X RX9 cX9_named 5 (some .int)) (hR : bf_Rm X 0 0) (S : bT9) (x1 : Int32) (x2 : Int32) (x3 : Int32) (x4 : Int32) (Q : Int32 → (bT9) → Prop) (B14 : Int32 → Int32 → Int32 → (bT9) → Prop) (hB14 : ∀ (x1 : Int32) (x2 : Int32) (x3 : Int32) (S : bT9), B14 x1 x2 x3 S → bf_A X (bf_Zi X bW9 Q) 5 14 [some (.ref 0), some (.int x1), some (.int x2), some (.int x3), none] [] (bW9 S)) (h : wp_X9_named_75 S x1 x2 x3 x4 Q B14) : bf_A X (bf_Zi X bW9 Q) 5 75 [some (.ref 0), some (.int x1), some (.int x2), some (.int x3), some (.int x4)] [] (bW9 S) := by
  unfold wp_X9_named_75 at h
  refine bs_iload C (bf_dk dd_X9_named 46 rfl) rfl ?_
  refine bs_iload_n C (bf_dk dd_X9_named 47 rfl) rfl ?_
  refine bs_icmp_ne C (bf_dk dd_X9_named 48 rfl) (tgt := 103) rfl (fun c => ?_) (fun c => ?_)
  · replace h := h.1 c
    exact bs_weak (bf_s1 (bf_s1 (bf_s1 (bf_s1 (bf_sn bf_s0))))) (t_X9_named_103 C hR S (x1) (x2) (x3) Q B14 hB14 h)
  · replace h := h.2 c
    refine bs_iload_n C (bf_dk dd_X9_named 49 rfl) rfl ?_
    refine bs_if_le C (bf_dk dd_X9_named 50 rfl) (tgt := 103) rfl (fun c => ?_) (fun c => ?_)
    · replace h := h.1 c
      exact bs_weak (bf_s1 (bf_s1 (bf_s1 (bf_s1 (bf_sn bf_s0))))) (t_X9_named_103 C hR S (x1) (x2) (x3) Q B14 hB14 h)
    · replace h := h.2 c
      refine bs_aload_n C (bf_dk dd_X9_named 51 rfl) rfl ?_
      refine bs_get C (bf_dk dd_X9_named 52 rfl) cl_9 in_9 8 (Nat.le_of_ble_eq_true rfl) rfl f_9_23 (ge_bW9_0 S) rfl ?_
      refine bs_iload_n C (bf_dk dd_X9_named 53 rfl) rfl ?_
      refine bs_iconst C (bf_dk dd_X9_named 54 rfl) (1 : Int32) (by decide) ?_
      refine bs_iadd C (bf_dk dd_X9_named 55 rfl) ?_
      refine bs_iload C (bf_dk dd_X9_named 56 rfl) rfl ?_
      refine bs_iadd C (bf_dk dd_X9_named 57 rfl) ?_
      obtain ⟨hi, h⟩ := h
      refine bs_iald C (bf_dk dd_X9_named 58 rfl) (ge_bW9_5 S) hi ?_
      refine bs_bipush C (bf_dk dd_X9_named 59 rfl) (32 : Int32) (by decide) ?_
      refine bs_icmp_ne C (bf_dk dd_X9_named 60 rfl) (tgt := 103) rfl (fun c => ?_) (fun c => ?_)
      · replace h := h.1 c
        exact bs_weak (bf_s1 (bf_s1 (bf_s1 (bf_s1 (bf_sn bf_s0))))) (t_X9_named_103 C hR S (x1) (x2) (x3) Q B14 hB14 h)
      · replace h := h.2 c
        refine bs_iload_n C (bf_dk dd_X9_named 61 rfl) rfl ?_
        exact bs_iret (u := S) C (bf_dk dd_X9_named 62 rfl) rfl h
def wp_X9_named_27b (S : bT9) (x1 : Int32) (x2 : Int32) (x3 : Int32) (x4 : Int32) (Q : Int32 → (bT9) → Prop) (B14 : Int32 → Int32 → Int32 → (bT9) → Prop) (B27 : Int32 → Int32 → Int32 → Int32 → (bT9) → Prop) : Prop := ((x2 ≤ x4 → (wp_X9_named_75 S (x1) (x2) (x3) (x4) Q B14)) ∧ (¬ x2 ≤ x4 → (vp_in ((x3 + (1 : Int32)) + x4) 57 ∧ (vp_in x4 160 ∧ ((¬ ((b9g_names S) (((x3 + (1 : Int32)) + x4)).toNatClampNeg) = ((b9g_tape S) (x4).toNatClampNeg) → (wp_X9_named_75 S (x1) (x2) (x3) (x4) Q B14)) ∧ (((b9g_names S) (((x3 + (1 : Int32)) + x4)).toNatClampNeg) = ((b9g_tape S) (x4).toNatClampNeg) → (vp_in x4 160 ∧ ((((b9g_tape S) (x4).toNatClampNeg) = (32 : Int32) → (wp_X9_named_75 S (x1) (x2) (x3) (x4) Q B14)) ∧ (¬ ((b9g_tape S) (x4).toNatClampNeg) = (32 : Int32) → (B27 (x1) (x2) (x3) ((x4 + (1 : Int32))) S))))))))))
set_option maxRecDepth 20000 in
theorem t_X9_named_27b {X : bf_X} (C : bf_C X RX9 cX9_named 5 (some .int)) (hR : bf_Rm X 0 0) (S : bT9) (x1 : Int32) (x2 : Int32) (x3 : Int32) (x4 : Int32) (Q : Int32 → (bT9) → Prop) (B14 : Int32 → Int32 → Int32 → (bT9) → Prop) (B27 : Int32 → Int32 → Int32 → Int32 → (bT9) → Prop) (hB14 : ∀ (x1 : Int32) (x2 : Int32) (x3 : Int32) (S : bT9), B14 x1 x2 x3 S → bf_A X (bf_Zi X bW9 Q) 5 14 [some (.ref 0), some (.int x1), some (.int x2), some (.int x3), none] [] (bW9 S)) (hB27 : ∀ (x1 : Int32) (x2 : Int32) (x3 : Int32) (x4 : Int32) (S : bT9), B27 x1 x2 x3 x4 S → bf_A X (bf_Zi X bW9 Q) 5 27 [some (.ref 0), some (.int x1), some (.int x2), some (.int x3), some (.int x4)] [] (bW9 S)) (h : wp_X9_named_27b S x1 x2 x3 x4 Q B14 B27) : bf_A X (bf_Zi X bW9 Q) 5 27 [some (.ref 0), some (.int x1), some (.int x2), some (.int x3), some (.int x4)] [] (bW9 S) := by
  unfold wp_X9_named_27b at h
  refine bs_iload C (bf_dk dd_X9_named 19 rfl) rfl ?_
  refine bs_iload_n C (bf_dk dd_X9_named 20 rfl) rfl ?_
  refine bs_icmp_ge C (bf_dk dd_X9_named 21 rfl) (tgt := 75) rfl (fun c => ?_) (fun c => ?_)
  · replace h := h.1 c
    exact bs_weak (bf_s1 (bf_s1 (bf_s1 (bf_s1 (bf_s1 bf_s0))))) (t_X9_named_75 C hR S (x1) (x2) (x3) (x4) Q B14 hB14 h)
  · replace h := h.2 c
    refine bs_aload_n C (bf_dk dd_X9_named 22 rfl) rfl ?_
    refine bs_get C (bf_dk dd_X9_named 23 rfl) cl_9 in_9 8 (Nat.le_of_ble_eq_true rfl) rfl f_9_23 (ge_bW9_0 S) rfl ?_
    refine bs_iload_n C (bf_dk dd_X9_named 24 rfl) rfl ?_
    refine bs_iconst C (bf_dk dd_X9_named 25 rfl) (1 : Int32) (by decide) ?_
    refine bs_iadd C (bf_dk dd_X9_named 26 rfl) ?_
    refine bs_iload C (bf_dk dd_X9_named 27 rfl) rfl ?_
    refine bs_iadd C (bf_dk dd_X9_named 28 rfl) ?_
    obtain ⟨hi, h⟩ := h
    refine bs_iald C (bf_dk dd_X9_named 29 rfl) (ge_bW9_5 S) hi ?_
    refine bs_aload_n C (bf_dk dd_X9_named 30 rfl) rfl ?_
    refine bs_get C (bf_dk dd_X9_named 31 rfl) cl_9 in_9 6 (Nat.le_of_ble_eq_true rfl) rfl f_9_20 (ge_bW9_0 S) rfl ?_
    refine bs_iload C (bf_dk dd_X9_named 32 rfl) rfl ?_
    obtain ⟨hi, h⟩ := h
    refine bs_iald C (bf_dk dd_X9_named 33 rfl) (ge_bW9_4 S) hi ?_
    refine bs_icmp_ne C (bf_dk dd_X9_named 34 rfl) (tgt := 75) rfl (fun c => ?_) (fun c => ?_)
    · replace h := h.1 c
      exact bs_weak (bf_s1 (bf_s1 (bf_s1 (bf_s1 (bf_s1 bf_s0))))) (t_X9_named_75 C hR S (x1) (x2) (x3) (x4) Q B14 hB14 h)
    · replace h := h.2 c
      refine bs_aload_n C (bf_dk dd_X9_named 35 rfl) rfl ?_
      refine bs_get C (bf_dk dd_X9_named 36 rfl) cl_9 in_9 6 (Nat.le_of_ble_eq_true rfl) rfl f_9_20 (ge_bW9_0 S) rfl ?_
      refine bs_iload C (bf_dk dd_X9_named 37 rfl) rfl ?_
      obtain ⟨hi, h⟩ := h
      refine bs_iald C (bf_dk dd_X9_named 38 rfl) (ge_bW9_4 S) hi ?_
      refine bs_bipush C (bf_dk dd_X9_named 39 rfl) (32 : Int32) (by decide) ?_
      refine bs_icmp_eq C (bf_dk dd_X9_named 40 rfl) (tgt := 75) rfl (fun c => ?_) (fun c => ?_)
      · replace h := h.1 c
        exact bs_weak (bf_s1 (bf_s1 (bf_s1 (bf_s1 (bf_s1 bf_s0))))) (t_X9_named_75 C hR S (x1) (x2) (x3) (x4) Q B14 hB14 h)
      · replace h := h.2 c
        refine bs_iload C (bf_dk dd_X9_named 41 rfl) rfl ?_
        refine bs_iconst C (bf_dk dd_X9_named 42 rfl) (1 : Int32) (by decide) ?_
        refine bs_iadd C (bf_dk dd_X9_named 43 rfl) ?_
        refine bs_istore C (bf_dk dd_X9_named 44 rfl) (Nat.le_of_ble_eq_true rfl) (Nat.le_of_ble_eq_true rfl) (lv2 := [some (.ref 0), some (.int x1), some (.int x2), some (.int x3), some (.int (x4 + (1 : Int32)))]) rfl ?_
        refine bs_goto C (bf_dk dd_X9_named 45 rfl) (tgt := 27) rfl ?_
        exact bs_weak (bf_s1 (bf_s1 (bf_s1 (bf_s1 (bf_s1 bf_s0))))) (hB27 (x1) (x2) (x3) ((x4 + (1 : Int32))) S h)
def wp_X9_named_27 (S : bT9) (x1 : Int32) (x2 : Int32) (x3 : Int32) (x4 : Int32) (Q : Int32 → (bT9) → Prop) (B14 : Int32 → Int32 → Int32 → (bT9) → Prop) : Prop := ∃ I : Nat → Int32 → Int32 → Int32 → Int32 → (bT9) → Prop, (∃ n : Nat, I n x1 x2 x3 x4 S) ∧ ∀ (n : Nat) (x1 : Int32) (x2 : Int32) (x3 : Int32) (x4 : Int32) (S : bT9), I n x1 x2 x3 x4 S → wp_X9_named_27b S x1 x2 x3 x4 Q B14 (fun x1 x2 x3 x4 S => ∃ n2 : Nat, n2 < n ∧ I n2 x1 x2 x3 x4 S)
theorem t_X9_named_27 {X : bf_X} (C : bf_C X RX9 cX9_named 5 (some .int)) (hR : bf_Rm X 0 0) (S : bT9) (x1 : Int32) (x2 : Int32) (x3 : Int32) (x4 : Int32) (Q : Int32 → (bT9) → Prop) (B14 : Int32 → Int32 → Int32 → (bT9) → Prop) (hB14 : ∀ (x1 : Int32) (x2 : Int32) (x3 : Int32) (S : bT9), B14 x1 x2 x3 S → bf_A X (bf_Zi X bW9 Q) 5 14 [some (.ref 0), some (.int x1), some (.int x2), some (.int x3), none] [] (bW9 S)) (h : wp_X9_named_27 S x1 x2 x3 x4 Q B14) : bf_A X (bf_Zi X bW9 Q) 5 27 [some (.ref 0), some (.int x1), some (.int x2), some (.int x3), some (.int x4)] [] (bW9 S) := by
  obtain ⟨I, ⟨n0, h0⟩, hI⟩ := h
  have key : ∀ (n : Nat) (x1 : Int32) (x2 : Int32) (x3 : Int32) (x4 : Int32) (S : bT9), I n x1 x2 x3 x4 S → bf_A X (bf_Zi X bW9 Q) 5 27 [some (.ref 0), some (.int x1), some (.int x2), some (.int x3), some (.int x4)] [] (bW9 S) := by
    intro n
    induction n using Nat.strongRecOn with
    | _ n ih =>
      intro x1 x2 x3 x4 S hi
      exact t_X9_named_27b C hR S x1 x2 x3 x4 Q B14 _ hB14 (fun x1 x2 x3 x4 S hb => by obtain ⟨n2, hn, hi2⟩ := hb; exact ih n2 hn x1 x2 x3 x4 S hi2) (hI n x1 x2 x3 x4 S hi)
  exact key n0 x1 x2 x3 x4 S h0
def wp_X9_named_14b (S : bT9) (x1 : Int32) (x2 : Int32) (x3 : Int32) (Q : Int32 → (bT9) → Prop) (B14 : Int32 → Int32 → Int32 → (bT9) → Prop) : Prop := (((56 : Int32) ≤ x3 → (Q (-1 : Int32) S)) ∧ (¬ (56 : Int32) ≤ x3 → (wp_X9_named_27 S ((x1 + (1 : Int32))) (x2) (x3) ((0 : Int32)) Q B14)))
set_option maxRecDepth 20000 in
theorem t_X9_named_14b {X : bf_X} (C : bf_C X RX9 cX9_named 5 (some .int)) (hR : bf_Rm X 0 0) (S : bT9) (x1 : Int32) (x2 : Int32) (x3 : Int32) (Q : Int32 → (bT9) → Prop) (B14 : Int32 → Int32 → Int32 → (bT9) → Prop) (hB14 : ∀ (x1 : Int32) (x2 : Int32) (x3 : Int32) (S : bT9), B14 x1 x2 x3 S → bf_A X (bf_Zi X bW9 Q) 5 14 [some (.ref 0), some (.int x1), some (.int x2), some (.int x3), none] [] (bW9 S)) (h : wp_X9_named_14b S x1 x2 x3 Q B14) : bf_A X (bf_Zi X bW9 Q) 5 14 [some (.ref 0), some (.int x1), some (.int x2), some (.int x3), none] [] (bW9 S) := by
  unfold wp_X9_named_14b at h
  refine bs_iload_n C (bf_dk dd_X9_named 10 rfl) rfl ?_
  refine bs_bipush C (bf_dk dd_X9_named 11 rfl) (56 : Int32) (by decide) ?_
  refine bs_icmp_ge C (bf_dk dd_X9_named 12 rfl) (tgt := 128) rfl (fun c => ?_) (fun c => ?_)
  · replace h := h.1 c
    refine bs_iconst C (bf_dk dd_X9_named 79 rfl) (-1 : Int32) (by decide) ?_
    exact bs_iret (u := S) C (bf_dk dd_X9_named 80 rfl) rfl h
  · replace h := h.2 c
    refine bs_iconst C (bf_dk dd_X9_named 13 rfl) (0 : Int32) (by decide) ?_
    refine bs_istore C (bf_dk dd_X9_named 14 rfl) (Nat.le_of_ble_eq_true rfl) (Nat.le_of_ble_eq_true rfl) (lv2 := [some (.ref 0), some (.int x1), some (.int x2), some (.int x3), some (.int (0 : Int32))]) rfl ?_
    refine bs_iload_n C (bf_dk dd_X9_named 15 rfl) rfl ?_
    refine bs_iconst C (bf_dk dd_X9_named 16 rfl) (1 : Int32) (by decide) ?_
    refine bs_iadd C (bf_dk dd_X9_named 17 rfl) ?_
    refine bs_istore_n C (bf_dk dd_X9_named 18 rfl) rfl (Nat.le_of_ble_eq_true rfl) (Nat.le_of_ble_eq_true rfl) (lv2 := [some (.ref 0), some (.int (x1 + (1 : Int32))), some (.int x2), some (.int x3), some (.int (0 : Int32))]) rfl ?_
    exact bs_weak (bf_s1 (bf_s1 (bf_s1 (bf_s1 (bf_s1 bf_s0))))) (t_X9_named_27 C hR S ((x1 + (1 : Int32))) (x2) (x3) ((0 : Int32)) Q B14 hB14 h)
def wp_X9_named_14 (S : bT9) (x1 : Int32) (x2 : Int32) (x3 : Int32) (Q : Int32 → (bT9) → Prop) : Prop := ∃ I : Nat → Int32 → Int32 → Int32 → (bT9) → Prop, (∃ n : Nat, I n x1 x2 x3 S) ∧ ∀ (n : Nat) (x1 : Int32) (x2 : Int32) (x3 : Int32) (S : bT9), I n x1 x2 x3 S → wp_X9_named_14b S x1 x2 x3 Q (fun x1 x2 x3 S => ∃ n2 : Nat, n2 < n ∧ I n2 x1 x2 x3 S)
theorem t_X9_named_14 {X : bf_X} (C : bf_C X RX9 cX9_named 5 (some .int)) (hR : bf_Rm X 0 0) (S : bT9) (x1 : Int32) (x2 : Int32) (x3 : Int32) (Q : Int32 → (bT9) → Prop) (h : wp_X9_named_14 S x1 x2 x3 Q) : bf_A X (bf_Zi X bW9 Q) 5 14 [some (.ref 0), some (.int x1), some (.int x2), some (.int x3), none] [] (bW9 S) := by
  obtain ⟨I, ⟨n0, h0⟩, hI⟩ := h
  have key : ∀ (n : Nat) (x1 : Int32) (x2 : Int32) (x3 : Int32) (S : bT9), I n x1 x2 x3 S → bf_A X (bf_Zi X bW9 Q) 5 14 [some (.ref 0), some (.int x1), some (.int x2), some (.int x3), none] [] (bW9 S) := by
    intro n
    induction n using Nat.strongRecOn with
    | _ n ih =>
      intro x1 x2 x3 S hi
      exact t_X9_named_14b C hR S x1 x2 x3 Q _ (fun x1 x2 x3 S hb => by obtain ⟨n2, hn, hi2⟩ := hb; exact ih n2 hn x1 x2 x3 S hi2) (hI n x1 x2 x3 S hi)
  exact key n0 x1 x2 x3 S h0
def wp_X9_named (S : bT9) (Q : Int32 → (bT9) → Prop) : Prop := (∀ S1 : bT9, S1 = (b9s_taped S (0 : Int32)) → (wp_X9_named_14 S1 ((-1 : Int32)) ((b9g_taped S)) ((0 : Int32)) Q))
set_option maxRecDepth 20000 in
theorem t_X9_named {X : bf_X} (C : bf_C X RX9 cX9_named 5 (some .int)) (hR : bf_Rm X 0 0) (S : bT9) (Q : Int32 → (bT9) → Prop) (h : wp_X9_named S Q) : bf_A X (bf_Zi X bW9 Q) 5 0 [some (.ref 0), none, none, none, none] [] (bW9 S) := by
  unfold wp_X9_named at h
  refine bs_iconst C (bf_dk dd_X9_named 0 rfl) (-1 : Int32) (by decide) ?_
  refine bs_istore_n C (bf_dk dd_X9_named 1 rfl) rfl (Nat.le_of_ble_eq_true rfl) (Nat.le_of_ble_eq_true rfl) (lv2 := [some (.ref 0), some (.int (-1 : Int32)), none, none, none]) rfl ?_
  refine bs_aload_n C (bf_dk dd_X9_named 2 rfl) rfl ?_
  refine bs_get C (bf_dk dd_X9_named 3 rfl) cl_9 in_9 7 (Nat.le_of_ble_eq_true rfl) rfl f_9_146 (ge_bW9_0 S) rfl ?_
  refine bs_istore_n C (bf_dk dd_X9_named 4 rfl) rfl (Nat.le_of_ble_eq_true rfl) (Nat.le_of_ble_eq_true rfl) (lv2 := [some (.ref 0), some (.int (-1 : Int32)), some (.int (b9g_taped S)), none, none]) rfl ?_
  refine bs_iconst C (bf_dk dd_X9_named 5 rfl) (0 : Int32) (by decide) ?_
  refine bs_istore_n C (bf_dk dd_X9_named 6 rfl) rfl (Nat.le_of_ble_eq_true rfl) (Nat.le_of_ble_eq_true rfl) (lv2 := [some (.ref 0), some (.int (-1 : Int32)), some (.int (b9g_taped S)), some (.int (0 : Int32)), none]) rfl ?_
  refine bs_aload_n C (bf_dk dd_X9_named 7 rfl) rfl ?_
  refine bs_iconst C (bf_dk dd_X9_named 8 rfl) (0 : Int32) (by decide) ?_
  refine bs_put C (bf_dk dd_X9_named 9 rfl) tyX9_ok nmX9 cl_9 in_9 7 (Nat.le_of_ble_eq_true rfl) rfl f_9_146 rfl (ge_bW9_0 S) (Nat.le_of_ble_eq_true rfl) rfl rfl (pu_bW9_0_7 S (0 : Int32)) ?_
  refine bs_nameS bW9 (fun S1 eS1 => ?_)
  replace h := h S1 eS1
  exact bs_weak (bf_s1 (bf_s1 (bf_s1 (bf_s1 (bf_sn bf_s0))))) (t_X9_named_14 C hR S1 ((-1 : Int32)) ((b9g_taped S)) ((0 : Int32)) Q h)
theorem c_X9_named (l : Launch) (dC : Nat → ClassId) (dI : Nat → Nat → Nat) (ac : Nat → ClassId) (al : Nat → Nat) (S : bT9) (Q : Int32 → (bT9) → Prop) (h : wp_X9_named S Q) : bf_M l yX9_named cX9_named 5 (some .int) 0 0 dC dI ac al [.ref 0] (bW9 S) (bf_Ki dC dI ac al bW9 Q) := by
  refine bf_start [some (.ref 0), none, none, none, none] (by decide) (Nat.le_of_ble_eq_true rfl) (bf_s1 (bf_en 4)) ?_
  intro X hl C hR e1 e2 e3 e4
  subst e1; subst e2; subst e3; subst e4
  exact t_X9_named C hR S Q h
def wp_X9_mode (S : bT9) (Q : Int32 → (bT9) → Prop) : Prop := (∀ S1 : bT9, S1 = (b9s_told S (0 : Int32)) → (wp_X9_named S1 (fun r2 u3 => (wp_X9_isIn u3 (r2) ((0 : Int32)) ((3 : Int32)) (fun r4 => ((¬ r4 = 0 → (vp_in (6 : Int32) 23 ∧ (∀ S6 : bT9, S6 = (b9s_now u3 (upd (b9g_now u3) ((6 : Int32)).toNatClampNeg r2)) → (Q r2 S6)))) ∧ (r4 = 0 → (Q (-1 : Int32) u3))))))))
set_option maxRecDepth 20000 in
theorem t_X9_mode {X : bf_X} (C : bf_C X RX9 cX9_mode 2 (some .int)) (hR : bf_Rm X 1 24) (S : bT9) (Q : Int32 → (bT9) → Prop) (h : wp_X9_mode S Q) : bf_A X (bf_Zi X bW9 Q) 2 0 [some (.ref 0), none] [] (bW9 S) := by
  unfold wp_X9_mode at h
  refine bs_aload_n C (bf_dk dd_X9_mode 0 rfl) rfl ?_
  refine bs_iconst C (bf_dk dd_X9_mode 1 rfl) (0 : Int32) (by decide) ?_
  refine bs_put C (bf_dk dd_X9_mode 2 rfl) tyX9_ok nmX9 cl_9 in_9 0 (Nat.le_of_ble_eq_true rfl) rfl f_9_75 rfl (ge_bW9_0 S) (Nat.le_of_ble_eq_true rfl) rfl rfl (pu_bW9_0_0 S (0 : Int32)) ?_
  refine bs_nameS bW9 (fun S1 eS1 => ?_)
  replace h := h S1 eS1
  refine bs_aload_n C (bf_dk dd_X9_mode 3 rfl) rfl ?_
  refine bs_selfV_i C hR (c_X9_named _ _ _ _ _ S1 _ h) my_X9_named m_9_152 rfl cl_9 (ge_bW9_0 _) rfl (Nat.le_of_ble_eq_true rfl) (Nat.le_of_ble_eq_true rfl) (st := []) (Nat.le_of_ble_eq_true rfl) (bf_dk dd_X9_mode 4 rfl) rfl (len := 21) (fun _ => rfl) (fun r2 u3 h => ?_)
  refine bs_istore_n C (bf_dk dd_X9_mode 5 rfl) rfl (Nat.le_of_ble_eq_true rfl) (Nat.le_of_ble_eq_true rfl) (lv2 := [some (.ref 0), some (.int r2)]) rfl ?_
  refine bs_aload_n C (bf_dk dd_X9_mode 6 rfl) rfl ?_
  refine bs_iload_n C (bf_dk dd_X9_mode 7 rfl) rfl ?_
  refine bs_iconst C (bf_dk dd_X9_mode 8 rfl) (0 : Int32) (by decide) ?_
  refine bs_iconst C (bf_dk dd_X9_mode 9 rfl) (3 : Int32) (by decide) ?_
  refine bs_selfPV_i C hR (c_X9_isIn _ _ _ _ _ u3 (r2) ((0 : Int32)) ((3 : Int32)) _ h) my_X9_isIn m_9_82 rfl cl_9 (ge_bW9_0 _) rfl (Nat.le_of_ble_eq_true rfl) (Nat.le_of_ble_eq_true rfl) (st := []) (Nat.le_of_ble_eq_true rfl) (bf_dk dd_X9_mode 10 rfl) rfl (fun r4 h => ?_)
  refine bs_if_ne C (bf_dk dd_X9_mode 11 rfl) (tgt := 22) rfl (fun c => ?_) (fun c => ?_)
  · replace h := h.1 c
    refine bs_aload_n C (bf_dk dd_X9_mode 14 rfl) rfl ?_
    refine bs_get C (bf_dk dd_X9_mode 15 rfl) cl_9 in_9 1 (Nat.le_of_ble_eq_true rfl) rfl f_9_7 (ge_bW9_0 u3) rfl ?_
    refine bs_bipush C (bf_dk dd_X9_mode 16 rfl) (6 : Int32) (by decide) ?_
    refine bs_iload_n C (bf_dk dd_X9_mode 17 rfl) rfl ?_
    obtain ⟨hi, h⟩ := h
    refine bs_iast C (bf_dk dd_X9_mode 18 rfl) (ge_bW9_1 u3) hi (ar_bW9_1 u3 _) ?_
    refine bs_nameS bW9 (fun S6 eS6 => ?_)
    replace h := h S6 eS6
    refine bs_iload_n C (bf_dk dd_X9_mode 19 rfl) rfl ?_
    exact bs_iret (u := S6) C (bf_dk dd_X9_mode 20 rfl) rfl h
  · replace h := h.2 c
    refine bs_iconst C (bf_dk dd_X9_mode 12 rfl) (-1 : Int32) (by decide) ?_
    exact bs_iret (u := u3) C (bf_dk dd_X9_mode 13 rfl) rfl h
theorem c_X9_mode (l : Launch) (dC : Nat → ClassId) (dI : Nat → Nat → Nat) (ac : Nat → ClassId) (al : Nat → Nat) (S : bT9) (Q : Int32 → (bT9) → Prop) (h : wp_X9_mode S Q) : bf_M l yX9_mode cX9_mode 2 (some .int) 1 24 dC dI ac al [.ref 0] (bW9 S) (bf_Ki dC dI ac al bW9 Q) := by
  refine bf_start [some (.ref 0), none] (by decide) (Nat.le_of_ble_eq_true rfl) (bf_s1 (bf_en 1)) ?_
  intro X hl C hR e1 e2 e3 e4
  subst e1; subst e2; subst e3; subst e4
  exact t_X9_mode C hR S Q h
def wp_X9_row (S : bT9) (Q : Int32 → (bT9) → Prop) : Prop := (∀ S1 : bT9, S1 = (b9s_told S (0 : Int32)) → (wp_X9_named S1 (fun r2 u3 => (((4 : Int32) ≤ r2 → (∀ S4 : bT9, S4 = (b9s_chosen u3 (r2 - (4 : Int32))) → (Q (b9g_chosen S4) S4))) ∧ (¬ (4 : Int32) ≤ r2 → (Q (-1 : Int32) u3))))))
set_option maxRecDepth 20000 in
theorem t_X9_row {X : bf_X} (C : bf_C X RX9 cX9_row 2 (some .int)) (hR : bf_Rm X 1 24) (S : bT9) (Q : Int32 → (bT9) → Prop) (h : wp_X9_row S Q) : bf_A X (bf_Zi X bW9 Q) 2 0 [some (.ref 0), none] [] (bW9 S) := by
  unfold wp_X9_row at h
  refine bs_aload_n C (bf_dk dd_X9_row 0 rfl) rfl ?_
  refine bs_iconst C (bf_dk dd_X9_row 1 rfl) (0 : Int32) (by decide) ?_
  refine bs_put C (bf_dk dd_X9_row 2 rfl) tyX9_ok nmX9 cl_9 in_9 0 (Nat.le_of_ble_eq_true rfl) rfl f_9_75 rfl (ge_bW9_0 S) (Nat.le_of_ble_eq_true rfl) rfl rfl (pu_bW9_0_0 S (0 : Int32)) ?_
  refine bs_nameS bW9 (fun S1 eS1 => ?_)
  replace h := h S1 eS1
  refine bs_aload_n C (bf_dk dd_X9_row 3 rfl) rfl ?_
  refine bs_selfV_i C hR (c_X9_named _ _ _ _ _ S1 _ h) my_X9_named m_9_152 rfl cl_9 (ge_bW9_0 _) rfl (Nat.le_of_ble_eq_true rfl) (Nat.le_of_ble_eq_true rfl) (st := []) (Nat.le_of_ble_eq_true rfl) (bf_dk dd_X9_row 4 rfl) rfl (len := 21) (fun _ => rfl) (fun r2 u3 h => ?_)
  refine bs_istore_n C (bf_dk dd_X9_row 5 rfl) rfl (Nat.le_of_ble_eq_true rfl) (Nat.le_of_ble_eq_true rfl) (lv2 := [some (.ref 0), some (.int r2)]) rfl ?_
  refine bs_iload_n C (bf_dk dd_X9_row 6 rfl) rfl ?_
  refine bs_iconst C (bf_dk dd_X9_row 7 rfl) (4 : Int32) (by decide) ?_
  refine bs_icmp_ge C (bf_dk dd_X9_row 8 rfl) (tgt := 17) rfl (fun c => ?_) (fun c => ?_)
  · replace h := h.1 c
    refine bs_aload_n C (bf_dk dd_X9_row 11 rfl) rfl ?_
    refine bs_iload_n C (bf_dk dd_X9_row 12 rfl) rfl ?_
    refine bs_iconst C (bf_dk dd_X9_row 13 rfl) (4 : Int32) (by decide) ?_
    refine bs_isub C (bf_dk dd_X9_row 14 rfl) ?_
    refine bs_put C (bf_dk dd_X9_row 15 rfl) tyX9_ok nmX9 cl_9 in_9 9 (Nat.le_of_ble_eq_true rfl) rfl f_9_156 rfl (ge_bW9_0 u3) (Nat.le_of_ble_eq_true rfl) rfl rfl (pu_bW9_0_9 u3 (r2 - (4 : Int32))) ?_
    refine bs_nameS bW9 (fun S4 eS4 => ?_)
    replace h := h S4 eS4
    refine bs_aload_n C (bf_dk dd_X9_row 16 rfl) rfl ?_
    refine bs_get C (bf_dk dd_X9_row 17 rfl) cl_9 in_9 9 (Nat.le_of_ble_eq_true rfl) rfl f_9_156 (ge_bW9_0 S4) rfl ?_
    exact bs_iret (u := S4) C (bf_dk dd_X9_row 18 rfl) rfl h
  · replace h := h.2 c
    refine bs_iconst C (bf_dk dd_X9_row 9 rfl) (-1 : Int32) (by decide) ?_
    exact bs_iret (u := u3) C (bf_dk dd_X9_row 10 rfl) rfl h
theorem c_X9_row (l : Launch) (dC : Nat → ClassId) (dI : Nat → Nat → Nat) (ac : Nat → ClassId) (al : Nat → Nat) (S : bT9) (Q : Int32 → (bT9) → Prop) (h : wp_X9_row S Q) : bf_M l yX9_row cX9_row 2 (some .int) 1 24 dC dI ac al [.ref 0] (bW9 S) (bf_Ki dC dI ac al bW9 Q) := by
  refine bf_start [some (.ref 0), none] (by decide) (Nat.le_of_ble_eq_true rfl) (bf_s1 (bf_en 1)) ?_
  intro X hl C hR e1 e2 e3 e4
  subst e1; subst e2; subst e3; subst e4
  exact t_X9_row C hR S Q h
def wp_X9_tapedKey_5b (S : bT9) (x1 : Int32) (x2 : Int32) (x3 : Int64) (x5 : Int32) (Q : Int64 → Prop) (B5 : Int32 → Int32 → Int64 → Int32 → Prop) : Prop := ((x2 ≤ x5 → (Q x3)) ∧ (¬ x2 ≤ x5 → (vp_in (x1 + x5) 160 ∧ (∀ v1 : Int64, v1 = (x3 ||| ((((b9g_tape S) ((x1 + x5)).toNatClampNeg)).toInt64 <<< ((((56 : Int32) - ((8 : Int32) * x5))).toInt64 &&& 63))) → (B5 (x1) (x2) (v1) ((x5 + (1 : Int32))))))))
set_option maxRecDepth 20000 in
theorem t_X9_tapedKey_5b {X : bf_X} (C : bf_C X RX9 cX9_tapedKey 6 (some .long)) (hR : bf_Rm X 0 0) (S : bT9) (x1 : Int32) (x2 : Int32) (x3 : Int64) (x5 : Int32) (Q : Int64 → Prop) (B5 : Int32 → Int32 → Int64 → Int32 → Prop) (hB5 : ∀ (x1 : Int32) (x2 : Int32) (x3 : Int64) (x5 : Int32), B5 x1 x2 x3 x5 → bf_A X (bf_Zl X bW9 (fun r u => u = S ∧ Q r)) 6 5 [some (.ref 0), some (.int x1), some (.int x2), some (.long x3), none, some (.int x5)] [] (bW9 S)) (h : wp_X9_tapedKey_5b S x1 x2 x3 x5 Q B5) : bf_A X (bf_Zl X bW9 (fun r u => u = S ∧ Q r)) 6 5 [some (.ref 0), some (.int x1), some (.int x2), some (.long x3), none, some (.int x5)] [] (bW9 S) := by
  unfold wp_X9_tapedKey_5b at h
  refine bs_iload C (bf_dk dd_X9_tapedKey 4 rfl) rfl ?_
  refine bs_iload_n C (bf_dk dd_X9_tapedKey 5 rfl) rfl ?_
  refine bs_icmp_ge C (bf_dk dd_X9_tapedKey 6 rfl) (tgt := 39) rfl (fun c => ?_) (fun c => ?_)
  · replace h := h.1 c
    refine bs_lload_n C (bf_dk dd_X9_tapedKey 25 rfl) rfl ?_
    exact bs_lret (u := S) C (bf_dk dd_X9_tapedKey 26 rfl) rfl ⟨rfl, h⟩
  · replace h := h.2 c
    refine bs_lload_n C (bf_dk dd_X9_tapedKey 7 rfl) rfl ?_
    refine bs_aload_n C (bf_dk dd_X9_tapedKey 8 rfl) rfl ?_
    refine bs_get C (bf_dk dd_X9_tapedKey 9 rfl) cl_9 in_9 6 (Nat.le_of_ble_eq_true rfl) rfl f_9_20 (ge_bW9_0 S) rfl ?_
    refine bs_iload_n C (bf_dk dd_X9_tapedKey 10 rfl) rfl ?_
    refine bs_iload C (bf_dk dd_X9_tapedKey 11 rfl) rfl ?_
    refine bs_iadd C (bf_dk dd_X9_tapedKey 12 rfl) ?_
    obtain ⟨hi, h⟩ := h
    refine bs_iald C (bf_dk dd_X9_tapedKey 13 rfl) (ge_bW9_4 S) hi ?_
    refine bs_i2l C (bf_dk dd_X9_tapedKey 14 rfl) ?_
    refine bs_bipush C (bf_dk dd_X9_tapedKey 15 rfl) (56 : Int32) (by decide) ?_
    refine bs_bipush C (bf_dk dd_X9_tapedKey 16 rfl) (8 : Int32) (by decide) ?_
    refine bs_iload C (bf_dk dd_X9_tapedKey 17 rfl) rfl ?_
    refine bs_imul C (bf_dk dd_X9_tapedKey 18 rfl) ?_
    refine bs_isub C (bf_dk dd_X9_tapedKey 19 rfl) ?_
    refine bs_lshl C (bf_dk dd_X9_tapedKey 20 rfl) ?_
    refine bs_lor C (bf_dk dd_X9_tapedKey 21 rfl) ?_
    refine bs_nameL (fun v1 ev1 => ?_)
    replace h := h v1 ev1
    refine bs_lstore_n C (bf_dk dd_X9_tapedKey 22 rfl) rfl (Nat.le_of_ble_eq_true rfl) (Nat.le_of_ble_eq_true rfl) (lv2 := [some (.ref 0), some (.int x1), some (.int x2), some (.long v1), none, some (.int x5)]) rfl ?_
    refine bs_iinc C (bf_dk dd_X9_tapedKey 23 rfl) (x5 + (1 : Int32)) rfl rfl (Nat.le_of_ble_eq_true rfl) (Nat.le_of_ble_eq_true rfl) (lv2 := [some (.ref 0), some (.int x1), some (.int x2), some (.long v1), none, some (.int (x5 + (1 : Int32)))]) rfl ?_
    refine bs_goto C (bf_dk dd_X9_tapedKey 24 rfl) (tgt := 5) rfl ?_
    exact bs_weak (bf_s1 (bf_s1 (bf_s1 (bf_s1 (bf_sn (bf_s1 bf_s0)))))) (hB5 (x1) (x2) (v1) ((x5 + (1 : Int32))) h)
def wp_X9_tapedKey_5 (S : bT9) (x1 : Int32) (x2 : Int32) (x3 : Int64) (x5 : Int32) (Q : Int64 → Prop) : Prop := ∃ I : Nat → Int32 → Int32 → Int64 → Int32 → Prop, (∃ n : Nat, I n x1 x2 x3 x5) ∧ ∀ (n : Nat) (x1 : Int32) (x2 : Int32) (x3 : Int64) (x5 : Int32), I n x1 x2 x3 x5 → wp_X9_tapedKey_5b S x1 x2 x3 x5 Q (fun x1 x2 x3 x5 => ∃ n2 : Nat, n2 < n ∧ I n2 x1 x2 x3 x5)
theorem t_X9_tapedKey_5 {X : bf_X} (C : bf_C X RX9 cX9_tapedKey 6 (some .long)) (hR : bf_Rm X 0 0) (S : bT9) (x1 : Int32) (x2 : Int32) (x3 : Int64) (x5 : Int32) (Q : Int64 → Prop) (h : wp_X9_tapedKey_5 S x1 x2 x3 x5 Q) : bf_A X (bf_Zl X bW9 (fun r u => u = S ∧ Q r)) 6 5 [some (.ref 0), some (.int x1), some (.int x2), some (.long x3), none, some (.int x5)] [] (bW9 S) := by
  obtain ⟨I, ⟨n0, h0⟩, hI⟩ := h
  have key : ∀ (n : Nat) (x1 : Int32) (x2 : Int32) (x3 : Int64) (x5 : Int32), I n x1 x2 x3 x5 → bf_A X (bf_Zl X bW9 (fun r u => u = S ∧ Q r)) 6 5 [some (.ref 0), some (.int x1), some (.int x2), some (.long x3), none, some (.int x5)] [] (bW9 S) := by
    intro n
    induction n using Nat.strongRecOn with
    | _ n ih =>
      intro x1 x2 x3 x5 hi
      exact t_X9_tapedKey_5b C hR S x1 x2 x3 x5 Q _ (fun x1 x2 x3 x5 hb => by obtain ⟨n2, hn, hi2⟩ := hb; exact ih n2 hn x1 x2 x3 x5 hi2) (hI n x1 x2 x3 x5 hi)
  exact key n0 x1 x2 x3 x5 h0
def wp_X9_tapedKey (S : bT9) (a1 : Int32) (a2 : Int32) (Q : Int64 → Prop) : Prop := (wp_X9_tapedKey_5 S (a1) (a2) ((0 : Int64)) ((0 : Int32)) Q)
set_option maxRecDepth 20000 in
theorem t_X9_tapedKey {X : bf_X} (C : bf_C X RX9 cX9_tapedKey 6 (some .long)) (hR : bf_Rm X 0 0) (S : bT9) (a1 : Int32) (a2 : Int32) (Q : Int64 → Prop) (h : wp_X9_tapedKey S a1 a2 Q) : bf_A X (bf_Zl X bW9 (fun r u => u = S ∧ Q r)) 6 0 [some (.ref 0), some (.int a1), some (.int a2), none, none, none] [] (bW9 S) := by
  unfold wp_X9_tapedKey at h
  refine bs_lconst C (bf_dk dd_X9_tapedKey 0 rfl) (0 : Int64) (by decide) ?_
  refine bs_lstore_n C (bf_dk dd_X9_tapedKey 1 rfl) rfl (Nat.le_of_ble_eq_true rfl) (Nat.le_of_ble_eq_true rfl) (lv2 := [some (.ref 0), some (.int a1), some (.int a2), some (.long (0 : Int64)), none, none]) rfl ?_
  refine bs_iconst C (bf_dk dd_X9_tapedKey 2 rfl) (0 : Int32) (by decide) ?_
  refine bs_istore C (bf_dk dd_X9_tapedKey 3 rfl) (Nat.le_of_ble_eq_true rfl) (Nat.le_of_ble_eq_true rfl) (lv2 := [some (.ref 0), some (.int a1), some (.int a2), some (.long (0 : Int64)), none, some (.int (0 : Int32))]) rfl ?_
  exact bs_weak (bf_s1 (bf_s1 (bf_s1 (bf_s1 (bf_sn (bf_s1 bf_s0)))))) (t_X9_tapedKey_5 C hR S (a1) (a2) ((0 : Int64)) ((0 : Int32)) Q h)
theorem c_X9_tapedKey (l : Launch) (dC : Nat → ClassId) (dI : Nat → Nat → Nat) (ac : Nat → ClassId) (al : Nat → Nat) (S : bT9) (a1 : Int32) (a2 : Int32) (Q : Int64 → Prop) (h : wp_X9_tapedKey S a1 a2 Q) : bf_M l yX9_tapedKey cX9_tapedKey 6 (some .long) 0 0 dC dI ac al [.ref 0, .int a1, .int a2] (bW9 S) (bf_Kl dC dI ac al bW9 (fun r u => u = S ∧ Q r)) := by
  refine bf_start [some (.ref 0), some (.int a1), some (.int a2), none, none, none] (by decide) (Nat.le_of_ble_eq_true rfl) (bf_s1 (bf_s1 (bf_s1 (bf_en 3)))) ?_
  intro X hl C hR e1 e2 e3 e4
  subst e1; subst e2; subst e3; subst e4
  exact t_X9_tapedKey C hR S a1 a2 Q h
def wp_X9_areKeys_2b (S : bT9) (x1 : Int32) (x2 : Int32) (Q : Int32 → Prop) (B2 : Int32 → Int32 → Prop) : Prop := ((x1 ≤ x2 → ((¬ x2 = x1 → (bf_bool (0 : Int32) ∧ Q (0 : Int32))) ∧ (x2 = x1 → (bf_bool (1 : Int32) ∧ Q (1 : Int32))))) ∧ (¬ x1 ≤ x2 → (vp_in x2 160 ∧ (wp_X9_isKey S (((b9g_tape S) (x2).toNatClampNeg)) (fun r1 => ((¬ r1 = 0 → (vp_in x2 160 ∧ (B2 (x1) (((x2 + (1 : Int32)) + ((b9g_tape S) (x2).toNatClampNeg)))))) ∧ (r1 = 0 → (bf_bool (0 : Int32) ∧ Q (0 : Int32)))))))))
set_option maxRecDepth 20000 in
theorem t_X9_areKeys_2b {X : bf_X} (C : bf_C X RX9 cX9_areKeys 3 (some .boolean)) (hR : bf_Rm X 2 44) (S : bT9) (x1 : Int32) (x2 : Int32) (Q : Int32 → Prop) (B2 : Int32 → Int32 → Prop) (hB2 : ∀ (x1 : Int32) (x2 : Int32), B2 x1 x2 → bf_A X (bf_Zi X bW9 (fun r u => u = S ∧ Q r)) 3 2 [some (.ref 0), some (.int x1), some (.int x2)] [] (bW9 S)) (h : wp_X9_areKeys_2b S x1 x2 Q B2) : bf_A X (bf_Zi X bW9 (fun r u => u = S ∧ Q r)) 3 2 [some (.ref 0), some (.int x1), some (.int x2)] [] (bW9 S) := by
  unfold wp_X9_areKeys_2b at h
  refine bs_iload_n C (bf_dk dd_X9_areKeys 2 rfl) rfl ?_
  refine bs_iload_n C (bf_dk dd_X9_areKeys 3 rfl) rfl ?_
  refine bs_icmp_ge C (bf_dk dd_X9_areKeys 4 rfl) (tgt := 36) rfl (fun c => ?_) (fun c => ?_)
  · replace h := h.1 c
    refine bs_iload_n C (bf_dk dd_X9_areKeys 24 rfl) rfl ?_
    refine bs_iload_n C (bf_dk dd_X9_areKeys 25 rfl) rfl ?_
    refine bs_icmp_ne C (bf_dk dd_X9_areKeys 26 rfl) (tgt := 45) rfl (fun c => ?_) (fun c => ?_)
    · replace h := h.1 c
      refine bs_iconst C (bf_dk dd_X9_areKeys 29 rfl) (0 : Int32) (by decide) ?_
      obtain ⟨hi, h⟩ := h
      exact bs_zret (u := S) C (bf_dk dd_X9_areKeys 30 rfl) hi rfl ⟨rfl, h⟩
    · replace h := h.2 c
      refine bs_iconst C (bf_dk dd_X9_areKeys 27 rfl) (1 : Int32) (by decide) ?_
      refine bs_goto C (bf_dk dd_X9_areKeys 28 rfl) (tgt := 46) rfl ?_
      obtain ⟨hi, h⟩ := h
      exact bs_zret (u := S) C (bf_dk dd_X9_areKeys 30 rfl) hi rfl ⟨rfl, h⟩
  · replace h := h.2 c
    refine bs_aload_n C (bf_dk dd_X9_areKeys 5 rfl) rfl ?_
    refine bs_aload_n C (bf_dk dd_X9_areKeys 6 rfl) rfl ?_
    refine bs_get C (bf_dk dd_X9_areKeys 7 rfl) cl_9 in_9 6 (Nat.le_of_ble_eq_true rfl) rfl f_9_20 (ge_bW9_0 S) rfl ?_
    refine bs_iload_n C (bf_dk dd_X9_areKeys 8 rfl) rfl ?_
    obtain ⟨hi, h⟩ := h
    refine bs_iald C (bf_dk dd_X9_areKeys 9 rfl) (ge_bW9_4 S) hi ?_
    refine bs_selfPV_i C hR (c_X9_isKey _ _ _ _ _ S (((b9g_tape S) (x2).toNatClampNeg)) _ h) my_X9_isKey m_9_117 rfl cl_9 (ge_bW9_0 _) rfl (Nat.le_of_ble_eq_true rfl) (Nat.le_of_ble_eq_true rfl) (st := []) (Nat.le_of_ble_eq_true rfl) (bf_dk dd_X9_areKeys 10 rfl) rfl (fun r1 h => ?_)
    refine bs_if_ne C (bf_dk dd_X9_areKeys 11 rfl) (tgt := 22) rfl (fun c => ?_) (fun c => ?_)
    · replace h := h.1 c
      refine bs_iload_n C (bf_dk dd_X9_areKeys 14 rfl) rfl ?_
      refine bs_iconst C (bf_dk dd_X9_areKeys 15 rfl) (1 : Int32) (by decide) ?_
      refine bs_iadd C (bf_dk dd_X9_areKeys 16 rfl) ?_
      refine bs_aload_n C (bf_dk dd_X9_areKeys 17 rfl) rfl ?_
      refine bs_get C (bf_dk dd_X9_areKeys 18 rfl) cl_9 in_9 6 (Nat.le_of_ble_eq_true rfl) rfl f_9_20 (ge_bW9_0 S) rfl ?_
      refine bs_iload_n C (bf_dk dd_X9_areKeys 19 rfl) rfl ?_
      obtain ⟨hi, h⟩ := h
      refine bs_iald C (bf_dk dd_X9_areKeys 20 rfl) (ge_bW9_4 S) hi ?_
      refine bs_iadd C (bf_dk dd_X9_areKeys 21 rfl) ?_
      refine bs_istore_n C (bf_dk dd_X9_areKeys 22 rfl) rfl (Nat.le_of_ble_eq_true rfl) (Nat.le_of_ble_eq_true rfl) (lv2 := [some (.ref 0), some (.int x1), some (.int ((x2 + (1 : Int32)) + ((b9g_tape S) (x2).toNatClampNeg)))]) rfl ?_
      refine bs_goto C (bf_dk dd_X9_areKeys 23 rfl) (tgt := 2) rfl ?_
      exact bs_weak (bf_s1 (bf_s1 (bf_s1 bf_s0))) (hB2 (x1) (((x2 + (1 : Int32)) + ((b9g_tape S) (x2).toNatClampNeg))) h)
    · replace h := h.2 c
      refine bs_iconst C (bf_dk dd_X9_areKeys 12 rfl) (0 : Int32) (by decide) ?_
      obtain ⟨hi, h⟩ := h
      exact bs_zret (u := S) C (bf_dk dd_X9_areKeys 13 rfl) hi rfl ⟨rfl, h⟩
def wp_X9_areKeys_2 (S : bT9) (x1 : Int32) (x2 : Int32) (Q : Int32 → Prop) : Prop := ∃ I : Nat → Int32 → Int32 → Prop, (∃ n : Nat, I n x1 x2) ∧ ∀ (n : Nat) (x1 : Int32) (x2 : Int32), I n x1 x2 → wp_X9_areKeys_2b S x1 x2 Q (fun x1 x2 => ∃ n2 : Nat, n2 < n ∧ I n2 x1 x2)
theorem t_X9_areKeys_2 {X : bf_X} (C : bf_C X RX9 cX9_areKeys 3 (some .boolean)) (hR : bf_Rm X 2 44) (S : bT9) (x1 : Int32) (x2 : Int32) (Q : Int32 → Prop) (h : wp_X9_areKeys_2 S x1 x2 Q) : bf_A X (bf_Zi X bW9 (fun r u => u = S ∧ Q r)) 3 2 [some (.ref 0), some (.int x1), some (.int x2)] [] (bW9 S) := by
  obtain ⟨I, ⟨n0, h0⟩, hI⟩ := h
  have key : ∀ (n : Nat) (x1 : Int32) (x2 : Int32), I n x1 x2 → bf_A X (bf_Zi X bW9 (fun r u => u = S ∧ Q r)) 3 2 [some (.ref 0), some (.int x1), some (.int x2)] [] (bW9 S) := by
    intro n
    induction n using Nat.strongRecOn with
    | _ n ih =>
      intro x1 x2 hi
      exact t_X9_areKeys_2b C hR S x1 x2 Q _ (fun x1 x2 hb => by obtain ⟨n2, hn, hi2⟩ := hb; exact ih n2 hn x1 x2 hi2) (hI n x1 x2 hi)
  exact key n0 x1 x2 h0
def wp_X9_areKeys (S : bT9) (a1 : Int32) (Q : Int32 → Prop) : Prop := (wp_X9_areKeys_2 S (a1) ((0 : Int32)) Q)
set_option maxRecDepth 20000 in
theorem t_X9_areKeys {X : bf_X} (C : bf_C X RX9 cX9_areKeys 3 (some .boolean)) (hR : bf_Rm X 2 44) (S : bT9) (a1 : Int32) (Q : Int32 → Prop) (h : wp_X9_areKeys S a1 Q) : bf_A X (bf_Zi X bW9 (fun r u => u = S ∧ Q r)) 3 0 [some (.ref 0), some (.int a1), none] [] (bW9 S) := by
  unfold wp_X9_areKeys at h
  refine bs_iconst C (bf_dk dd_X9_areKeys 0 rfl) (0 : Int32) (by decide) ?_
  refine bs_istore_n C (bf_dk dd_X9_areKeys 1 rfl) rfl (Nat.le_of_ble_eq_true rfl) (Nat.le_of_ble_eq_true rfl) (lv2 := [some (.ref 0), some (.int a1), some (.int (0 : Int32))]) rfl ?_
  exact bs_weak (bf_s1 (bf_s1 (bf_s1 bf_s0))) (t_X9_areKeys_2 C hR S (a1) ((0 : Int32)) Q h)
theorem c_X9_areKeys (l : Launch) (dC : Nat → ClassId) (dI : Nat → Nat → Nat) (ac : Nat → ClassId) (al : Nat → Nat) (S : bT9) (a1 : Int32) (Q : Int32 → Prop) (h : wp_X9_areKeys S a1 Q) : bf_M l yX9_areKeys cX9_areKeys 3 (some .boolean) 2 44 dC dI ac al [.ref 0, .int a1] (bW9 S) (bf_Ki dC dI ac al bW9 (fun r u => u = S ∧ Q r)) := by
  refine bf_start [some (.ref 0), some (.int a1), none] (by decide) (Nat.le_of_ble_eq_true rfl) (bf_s1 (bf_s1 (bf_en 1))) ?_
  intro X hl C hR e1 e2 e3 e4
  subst e1; subst e2; subst e3; subst e4
  exact t_X9_areKeys C hR S a1 Q h
def wp_X9_comingFrom_40 (S : bT9) (x1 : Int32) (x2 : Int32) (x3 : Int32) (Q : Int32 → (bT9) → Prop) (B4 : Int32 → Int32 → Int32 → (bT9) → Prop) : Prop := (vp_in x3 160 ∧ (B4 (x1) (x2) (((x3 + (1 : Int32)) + ((b9g_tape S) (x3).toNatClampNeg))) S))
set_option maxRecDepth 20000 in
theorem t_X9_comingFrom_40 {X : bf_X} (C : bf_C X RX9 cX9_comingFrom 4 (some .int)) (hR : bf_Rm X 4 103) (S : bT9) (x1 : Int32) (x2 : Int32) (x3 : Int32) (Q : Int32 → (bT9) → Prop) (B4 : Int32 → Int32 → Int32 → (bT9) → Prop) (hB4 : ∀ (x1 : Int32) (x2 : Int32) (x3 : Int32) (S : bT9), B4 x1 x2 x3 S → bf_A X (bf_Zi X bW9 Q) 4 4 [some (.ref 0), some (.int x1), some (.int x2), some (.int x3)] [] (bW9 S)) (h : wp_X9_comingFrom_40 S x1 x2 x3 Q B4) : bf_A X (bf_Zi X bW9 Q) 4 40 [some (.ref 0), some (.int x1), some (.int x2), some (.int x3)] [] (bW9 S) := by
  unfold wp_X9_comingFrom_40 at h
  refine bs_iload_n C (bf_dk dd_X9_comingFrom 28 rfl) rfl ?_
  refine bs_iconst C (bf_dk dd_X9_comingFrom 29 rfl) (1 : Int32) (by decide) ?_
  refine bs_iadd C (bf_dk dd_X9_comingFrom 30 rfl) ?_
  refine bs_aload_n C (bf_dk dd_X9_comingFrom 31 rfl) rfl ?_
  refine bs_get C (bf_dk dd_X9_comingFrom 32 rfl) cl_9 in_9 6 (Nat.le_of_ble_eq_true rfl) rfl f_9_20 (ge_bW9_0 S) rfl ?_
  refine bs_iload_n C (bf_dk dd_X9_comingFrom 33 rfl) rfl ?_
  obtain ⟨hi, h⟩ := h
  refine bs_iald C (bf_dk dd_X9_comingFrom 34 rfl) (ge_bW9_4 S) hi ?_
  refine bs_iadd C (bf_dk dd_X9_comingFrom 35 rfl) ?_
  refine bs_istore_n C (bf_dk dd_X9_comingFrom 36 rfl) rfl (Nat.le_of_ble_eq_true rfl) (Nat.le_of_ble_eq_true rfl) (lv2 := [some (.ref 0), some (.int x1), some (.int x2), some (.int ((x3 + (1 : Int32)) + ((b9g_tape S) (x3).toNatClampNeg)))]) rfl ?_
  refine bs_goto C (bf_dk dd_X9_comingFrom 37 rfl) (tgt := 4) rfl ?_
  exact bs_weak (bf_s1 (bf_s1 (bf_s1 (bf_s1 bf_s0)))) (hB4 (x1) (x2) (((x3 + (1 : Int32)) + ((b9g_tape S) (x3).toNatClampNeg))) S h)
def wp_X9_comingFrom_4b (S : bT9) (x1 : Int32) (x2 : Int32) (x3 : Int32) (Q : Int32 → (bT9) → Prop) (B4 : Int32 → Int32 → Int32 → (bT9) → Prop) : Prop := ((x1 ≤ x3 → (Q x2 S)) ∧ (¬ x1 ≤ x3 → (vp_in x3 160 ∧ (wp_X9_tapedKey S ((x3 + (1 : Int32))) (((b9g_tape S) (x3).toNatClampNeg)) (fun r1 => (vp_in x3 160 ∧ (wp_X9_comes S (r1) (((b9g_tape S) (x3).toNatClampNeg)) (fun r3 u4 => ((r3 = (-1 : Int32) → (wp_X9_comingFrom_40 u4 (x1) (x2) (x3) Q B4)) ∧ (¬ r3 = (-1 : Int32) → (wp_X9_comingFrom_40 u4 (x1) ((x2 + (1 : Int32))) (x3) Q B4)))))))))))
set_option maxRecDepth 20000 in
theorem t_X9_comingFrom_4b {X : bf_X} (C : bf_C X RX9 cX9_comingFrom 4 (some .int)) (hR : bf_Rm X 4 103) (S : bT9) (x1 : Int32) (x2 : Int32) (x3 : Int32) (Q : Int32 → (bT9) → Prop) (B4 : Int32 → Int32 → Int32 → (bT9) → Prop) (hB4 : ∀ (x1 : Int32) (x2 : Int32) (x3 : Int32) (S : bT9), B4 x1 x2 x3 S → bf_A X (bf_Zi X bW9 Q) 4 4 [some (.ref 0), some (.int x1), some (.int x2), some (.int x3)] [] (bW9 S)) (h : wp_X9_comingFrom_4b S x1 x2 x3 Q B4) : bf_A X (bf_Zi X bW9 Q) 4 4 [some (.ref 0), some (.int x1), some (.int x2), some (.int x3)] [] (bW9 S) := by
  unfold wp_X9_comingFrom_4b at h
  refine bs_iload_n C (bf_dk dd_X9_comingFrom 4 rfl) rfl ?_
  refine bs_iload_n C (bf_dk dd_X9_comingFrom 5 rfl) rfl ?_
  refine bs_icmp_ge C (bf_dk dd_X9_comingFrom 6 rfl) (tgt := 54) rfl (fun c => ?_) (fun c => ?_)
  · replace h := h.1 c
    refine bs_iload_n C (bf_dk dd_X9_comingFrom 38 rfl) rfl ?_
    exact bs_iret (u := S) C (bf_dk dd_X9_comingFrom 39 rfl) rfl h
  · replace h := h.2 c
    refine bs_aload_n C (bf_dk dd_X9_comingFrom 7 rfl) rfl ?_
    refine bs_aload_n C (bf_dk dd_X9_comingFrom 8 rfl) rfl ?_
    refine bs_iload_n C (bf_dk dd_X9_comingFrom 9 rfl) rfl ?_
    refine bs_iconst C (bf_dk dd_X9_comingFrom 10 rfl) (1 : Int32) (by decide) ?_
    refine bs_iadd C (bf_dk dd_X9_comingFrom 11 rfl) ?_
    refine bs_aload_n C (bf_dk dd_X9_comingFrom 12 rfl) rfl ?_
    refine bs_get C (bf_dk dd_X9_comingFrom 13 rfl) cl_9 in_9 6 (Nat.le_of_ble_eq_true rfl) rfl f_9_20 (ge_bW9_0 S) rfl ?_
    refine bs_iload_n C (bf_dk dd_X9_comingFrom 14 rfl) rfl ?_
    obtain ⟨hi, h⟩ := h
    refine bs_iald C (bf_dk dd_X9_comingFrom 15 rfl) (ge_bW9_4 S) hi ?_
    refine bs_selfPV_l C hR (c_X9_tapedKey _ _ _ _ _ S ((x3 + (1 : Int32))) (((b9g_tape S) (x3).toNatClampNeg)) _ h) my_X9_tapedKey m_9_159 rfl cl_9 (ge_bW9_0 _) rfl (Nat.le_of_ble_eq_true rfl) (Nat.le_of_ble_eq_true rfl) (st := [.ref 0]) (Nat.le_of_ble_eq_true rfl) (bf_dk dd_X9_comingFrom 16 rfl) rfl (fun r1 h => ?_)
    refine bs_aload_n C (bf_dk dd_X9_comingFrom 17 rfl) rfl ?_
    refine bs_get C (bf_dk dd_X9_comingFrom 18 rfl) cl_9 in_9 6 (Nat.le_of_ble_eq_true rfl) rfl f_9_20 (ge_bW9_0 S) rfl ?_
    refine bs_iload_n C (bf_dk dd_X9_comingFrom 19 rfl) rfl ?_
    obtain ⟨hi, h⟩ := h
    refine bs_iald C (bf_dk dd_X9_comingFrom 20 rfl) (ge_bW9_4 S) hi ?_
    refine bs_selfV_i C hR (c_X9_comes _ _ _ _ _ S (r1) (((b9g_tape S) (x3).toNatClampNeg)) _ h) my_X9_comes m_9_125 rfl cl_9 (ge_bW9_0 _) rfl (Nat.le_of_ble_eq_true rfl) (Nat.le_of_ble_eq_true rfl) (st := []) (Nat.le_of_ble_eq_true rfl) (bf_dk dd_X9_comingFrom 21 rfl) rfl (len := 21) (fun _ => rfl) (fun r3 u4 h => ?_)
    refine bs_iconst C (bf_dk dd_X9_comingFrom 22 rfl) (-1 : Int32) (by decide) ?_
    refine bs_icmp_eq C (bf_dk dd_X9_comingFrom 23 rfl) (tgt := 40) rfl (fun c => ?_) (fun c => ?_)
    · replace h := h.1 c
      exact bs_weak (bf_s1 (bf_s1 (bf_s1 (bf_s1 bf_s0)))) (t_X9_comingFrom_40 C hR u4 (x1) (x2) (x3) Q B4 hB4 h)
    · replace h := h.2 c
      refine bs_iload_n C (bf_dk dd_X9_comingFrom 24 rfl) rfl ?_
      refine bs_iconst C (bf_dk dd_X9_comingFrom 25 rfl) (1 : Int32) (by decide) ?_
      refine bs_iadd C (bf_dk dd_X9_comingFrom 26 rfl) ?_
      refine bs_istore_n C (bf_dk dd_X9_comingFrom 27 rfl) rfl (Nat.le_of_ble_eq_true rfl) (Nat.le_of_ble_eq_true rfl) (lv2 := [some (.ref 0), some (.int x1), some (.int (x2 + (1 : Int32))), some (.int x3)]) rfl ?_
      exact bs_weak (bf_s1 (bf_s1 (bf_s1 (bf_s1 bf_s0)))) (t_X9_comingFrom_40 C hR u4 (x1) ((x2 + (1 : Int32))) (x3) Q B4 hB4 h)
def wp_X9_comingFrom_4 (S : bT9) (x1 : Int32) (x2 : Int32) (x3 : Int32) (Q : Int32 → (bT9) → Prop) : Prop := ∃ I : Nat → Int32 → Int32 → Int32 → (bT9) → Prop, (∃ n : Nat, I n x1 x2 x3 S) ∧ ∀ (n : Nat) (x1 : Int32) (x2 : Int32) (x3 : Int32) (S : bT9), I n x1 x2 x3 S → wp_X9_comingFrom_4b S x1 x2 x3 Q (fun x1 x2 x3 S => ∃ n2 : Nat, n2 < n ∧ I n2 x1 x2 x3 S)
theorem t_X9_comingFrom_4 {X : bf_X} (C : bf_C X RX9 cX9_comingFrom 4 (some .int)) (hR : bf_Rm X 4 103) (S : bT9) (x1 : Int32) (x2 : Int32) (x3 : Int32) (Q : Int32 → (bT9) → Prop) (h : wp_X9_comingFrom_4 S x1 x2 x3 Q) : bf_A X (bf_Zi X bW9 Q) 4 4 [some (.ref 0), some (.int x1), some (.int x2), some (.int x3)] [] (bW9 S) := by
  obtain ⟨I, ⟨n0, h0⟩, hI⟩ := h
  have key : ∀ (n : Nat) (x1 : Int32) (x2 : Int32) (x3 : Int32) (S : bT9), I n x1 x2 x3 S → bf_A X (bf_Zi X bW9 Q) 4 4 [some (.ref 0), some (.int x1), some (.int x2), some (.int x3)] [] (bW9 S) := by
    intro n
    induction n using Nat.strongRecOn with
    | _ n ih =>
      intro x1 x2 x3 S hi
      exact t_X9_comingFrom_4b C hR S x1 x2 x3 Q _ (fun x1 x2 x3 S hb => by obtain ⟨n2, hn, hi2⟩ := hb; exact ih n2 hn x1 x2 x3 S hi2) (hI n x1 x2 x3 S hi)
  exact key n0 x1 x2 x3 S h0
def wp_X9_comingFrom (S : bT9) (a1 : Int32) (Q : Int32 → (bT9) → Prop) : Prop := (wp_X9_comingFrom_4 S (a1) ((0 : Int32)) ((0 : Int32)) Q)
set_option maxRecDepth 20000 in
theorem t_X9_comingFrom {X : bf_X} (C : bf_C X RX9 cX9_comingFrom 4 (some .int)) (hR : bf_Rm X 4 103) (S : bT9) (a1 : Int32) (Q : Int32 → (bT9) → Prop) (h : wp_X9_comingFrom S a1 Q) : bf_A X (bf_Zi X bW9 Q) 4 0 [some (.ref 0), some (.int a1), none, none] [] (bW9 S) := by
  unfold wp_X9_comingFrom at h
  refine bs_iconst C (bf_dk dd_X9_comingFrom 0 rfl) (0 : Int32) (by decide) ?_
  refine bs_istore_n C (bf_dk dd_X9_comingFrom 1 rfl) rfl (Nat.le_of_ble_eq_true rfl) (Nat.le_of_ble_eq_true rfl) (lv2 := [some (.ref 0), some (.int a1), some (.int (0 : Int32)), none]) rfl ?_
  refine bs_iconst C (bf_dk dd_X9_comingFrom 2 rfl) (0 : Int32) (by decide) ?_
  refine bs_istore_n C (bf_dk dd_X9_comingFrom 3 rfl) rfl (Nat.le_of_ble_eq_true rfl) (Nat.le_of_ble_eq_true rfl) (lv2 := [some (.ref 0), some (.int a1), some (.int (0 : Int32)), some (.int (0 : Int32))]) rfl ?_
  exact bs_weak (bf_s1 (bf_s1 (bf_s1 (bf_s1 bf_s0)))) (t_X9_comingFrom_4 C hR S (a1) ((0 : Int32)) ((0 : Int32)) Q h)
theorem c_X9_comingFrom (l : Launch) (dC : Nat → ClassId) (dI : Nat → Nat → Nat) (ac : Nat → ClassId) (al : Nat → Nat) (S : bT9) (a1 : Int32) (Q : Int32 → (bT9) → Prop) (h : wp_X9_comingFrom S a1 Q) : bf_M l yX9_comingFrom cX9_comingFrom 4 (some .int) 4 103 dC dI ac al [.ref 0, .int a1] (bW9 S) (bf_Ki dC dI ac al bW9 Q) := by
  refine bf_start [some (.ref 0), some (.int a1), none, none] (by decide) (Nat.le_of_ble_eq_true rfl) (bf_s1 (bf_s1 (bf_en 2))) ?_
  intro X hl C hR e1 e2 e3 e4
  subst e1; subst e2; subst e3; subst e4
  exact t_X9_comingFrom C hR S a1 Q h
def wp_X9_newMany_146 (S : bT9) (x1 : Int32) (x2 : Int32) (x3 : Int32) (Q : Int32 → Prop) (B4 : Int32 → Int32 → Int32 → Prop) : Prop := (vp_in x3 160 ∧ (B4 (x1) (x2) (((x3 + (1 : Int32)) + ((b9g_tape S) (x3).toNatClampNeg)))))
set_option maxRecDepth 20000 in
theorem t_X9_newMany_146 {X : bf_X} (C : bf_C X RX9 cX9_newMany 6 (some .int)) (hR : bf_Rm X 3 78) (S : bT9) (x1 : Int32) (x2 : Int32) (x3 : Int32) (Q : Int32 → Prop) (B4 : Int32 → Int32 → Int32 → Prop) (hB4 : ∀ (x1 : Int32) (x2 : Int32) (x3 : Int32), B4 x1 x2 x3 → bf_A X (bf_Zi X bW9 (fun r u => u = S ∧ Q r)) 6 4 [some (.ref 0), some (.int x1), some (.int x2), some (.int x3), none, none] [] (bW9 S)) (h : wp_X9_newMany_146 S x1 x2 x3 Q B4) : bf_A X (bf_Zi X bW9 (fun r u => u = S ∧ Q r)) 6 146 [some (.ref 0), some (.int x1), some (.int x2), some (.int x3), none, none] [] (bW9 S) := by
  unfold wp_X9_newMany_146 at h
  refine bs_iload_n C (bf_dk dd_X9_newMany 89 rfl) rfl ?_
  refine bs_iconst C (bf_dk dd_X9_newMany 90 rfl) (1 : Int32) (by decide) ?_
  refine bs_iadd C (bf_dk dd_X9_newMany 91 rfl) ?_
  refine bs_aload_n C (bf_dk dd_X9_newMany 92 rfl) rfl ?_
  refine bs_get C (bf_dk dd_X9_newMany 93 rfl) cl_9 in_9 6 (Nat.le_of_ble_eq_true rfl) rfl f_9_20 (ge_bW9_0 S) rfl ?_
  refine bs_iload_n C (bf_dk dd_X9_newMany 94 rfl) rfl ?_
  obtain ⟨hi, h⟩ := h
  refine bs_iald C (bf_dk dd_X9_newMany 95 rfl) (ge_bW9_4 S) hi ?_
  refine bs_iadd C (bf_dk dd_X9_newMany 96 rfl) ?_
  refine bs_istore_n C (bf_dk dd_X9_newMany 97 rfl) rfl (Nat.le_of_ble_eq_true rfl) (Nat.le_of_ble_eq_true rfl) (lv2 := [some (.ref 0), some (.int x1), some (.int x2), some (.int ((x3 + (1 : Int32)) + ((b9g_tape S) (x3).toNatClampNeg))), none, none]) rfl ?_
  refine bs_goto C (bf_dk dd_X9_newMany 98 rfl) (tgt := 4) rfl ?_
  exact bs_weak (bf_s1 (bf_s1 (bf_s1 (bf_s1 (bf_sn (bf_sn bf_s0)))))) (hB4 (x1) (x2) (((x3 + (1 : Int32)) + ((b9g_tape S) (x3).toNatClampNeg))) h)
def wp_X9_newMany_118 (S : bT9) (x1 : Int32) (x2 : Int32) (x3 : Int32) (x5 : Int32) (t0 : Int32) (Q : Int32 → Prop) (B4 : Int32 → Int32 → Int32 → Prop) (B54 : Int32 → Int32 → Int32 → Int32 → Int32 → Prop) : Prop := (vp_in x5 160 ∧ (B54 (x1) (x2) (x3) (t0) (((x5 + (1 : Int32)) + ((b9g_tape S) (x5).toNatClampNeg)))))
set_option maxRecDepth 20000 in
theorem t_X9_newMany_118 {X : bf_X} (C : bf_C X RX9 cX9_newMany 6 (some .int)) (hR : bf_Rm X 3 78) (S : bT9) (x1 : Int32) (x2 : Int32) (x3 : Int32) (x5 : Int32) (t0 : Int32) (Q : Int32 → Prop) (B4 : Int32 → Int32 → Int32 → Prop) (B54 : Int32 → Int32 → Int32 → Int32 → Int32 → Prop) (hB4 : ∀ (x1 : Int32) (x2 : Int32) (x3 : Int32), B4 x1 x2 x3 → bf_A X (bf_Zi X bW9 (fun r u => u = S ∧ Q r)) 6 4 [some (.ref 0), some (.int x1), some (.int x2), some (.int x3), none, none] [] (bW9 S)) (hB54 : ∀ (x1 : Int32) (x2 : Int32) (x3 : Int32) (x4 : Int32) (x5 : Int32), B54 x1 x2 x3 x4 x5 → bf_A X (bf_Zi X bW9 (fun r u => u = S ∧ Q r)) 6 54 [some (.ref 0), some (.int x1), some (.int x2), some (.int x3), some (.int x4), some (.int x5)] [] (bW9 S)) (h : wp_X9_newMany_118 S x1 x2 x3 x5 t0 Q B4 B54) : bf_A X (bf_Zi X bW9 (fun r u => u = S ∧ Q r)) 6 118 [some (.ref 0), some (.int x1), some (.int x2), some (.int x3), none, some (.int x5)] [.int t0] (bW9 S) := by
  unfold wp_X9_newMany_118 at h
  refine bs_istore C (bf_dk dd_X9_newMany 72 rfl) (Nat.le_of_ble_eq_true rfl) (Nat.le_of_ble_eq_true rfl) (lv2 := [some (.ref 0), some (.int x1), some (.int x2), some (.int x3), some (.int t0), some (.int x5)]) rfl ?_
  refine bs_iload C (bf_dk dd_X9_newMany 73 rfl) rfl ?_
  refine bs_iconst C (bf_dk dd_X9_newMany 74 rfl) (1 : Int32) (by decide) ?_
  refine bs_iadd C (bf_dk dd_X9_newMany 75 rfl) ?_
  refine bs_aload_n C (bf_dk dd_X9_newMany 76 rfl) rfl ?_
  refine bs_get C (bf_dk dd_X9_newMany 77 rfl) cl_9 in_9 6 (Nat.le_of_ble_eq_true rfl) rfl f_9_20 (ge_bW9_0 S) rfl ?_
  refine bs_iload C (bf_dk dd_X9_newMany 78 rfl) rfl ?_
  obtain ⟨hi, h⟩ := h
  refine bs_iald C (bf_dk dd_X9_newMany 79 rfl) (ge_bW9_4 S) hi ?_
  refine bs_iadd C (bf_dk dd_X9_newMany 80 rfl) ?_
  refine bs_istore C (bf_dk dd_X9_newMany 81 rfl) (Nat.le_of_ble_eq_true rfl) (Nat.le_of_ble_eq_true rfl) (lv2 := [some (.ref 0), some (.int x1), some (.int x2), some (.int x3), some (.int t0), some (.int ((x5 + (1 : Int32)) + ((b9g_tape S) (x5).toNatClampNeg)))]) rfl ?_
  refine bs_goto C (bf_dk dd_X9_newMany 82 rfl) (tgt := 54) rfl ?_
  exact bs_weak (bf_s1 (bf_s1 (bf_s1 (bf_s1 (bf_s1 (bf_s1 bf_s0)))))) (hB54 (x1) (x2) (x3) (t0) (((x5 + (1 : Int32)) + ((b9g_tape S) (x5).toNatClampNeg))) h)
def wp_X9_newMany_117 (S : bT9) (x1 : Int32) (x2 : Int32) (x3 : Int32) (x5 : Int32) (Q : Int32 → Prop) (B4 : Int32 → Int32 → Int32 → Prop) (B54 : Int32 → Int32 → Int32 → Int32 → Int32 → Prop) : Prop := (wp_X9_newMany_118 S (x1) (x2) (x3) (x5) ((0 : Int32)) Q B4 B54)
set_option maxRecDepth 20000 in
theorem t_X9_newMany_117 {X : bf_X} (C : bf_C X RX9 cX9_newMany 6 (some .int)) (hR : bf_Rm X 3 78) (S : bT9) (x1 : Int32) (x2 : Int32) (x3 : Int32) (x5 : Int32) (Q : Int32 → Prop) (B4 : Int32 → Int32 → Int32 → Prop) (B54 : Int32 → Int32 → Int32 → Int32 → Int32 → Prop) (hB4 : ∀ (x1 : Int32) (x2 : Int32) (x3 : Int32), B4 x1 x2 x3 → bf_A X (bf_Zi X bW9 (fun r u => u = S ∧ Q r)) 6 4 [some (.ref 0), some (.int x1), some (.int x2), some (.int x3), none, none] [] (bW9 S)) (hB54 : ∀ (x1 : Int32) (x2 : Int32) (x3 : Int32) (x4 : Int32) (x5 : Int32), B54 x1 x2 x3 x4 x5 → bf_A X (bf_Zi X bW9 (fun r u => u = S ∧ Q r)) 6 54 [some (.ref 0), some (.int x1), some (.int x2), some (.int x3), some (.int x4), some (.int x5)] [] (bW9 S)) (h : wp_X9_newMany_117 S x1 x2 x3 x5 Q B4 B54) : bf_A X (bf_Zi X bW9 (fun r u => u = S ∧ Q r)) 6 117 [some (.ref 0), some (.int x1), some (.int x2), some (.int x3), none, some (.int x5)] [] (bW9 S) := by
  unfold wp_X9_newMany_117 at h
  refine bs_iconst C (bf_dk dd_X9_newMany 71 rfl) (0 : Int32) (by decide) ?_
  exact bs_weak (bf_s1 (bf_s1 (bf_s1 (bf_s1 (bf_sn (bf_s1 bf_s0)))))) (t_X9_newMany_118 C hR S (x1) (x2) (x3) (x5) ((0 : Int32)) Q B4 B54 hB4 hB54 h)
def wp_X9_newMany_113 (S : bT9) (x1 : Int32) (x2 : Int32) (x3 : Int32) (x5 : Int32) (Q : Int32 → Prop) (B4 : Int32 → Int32 → Int32 → Prop) (B54 : Int32 → Int32 → Int32 → Int32 → Int32 → Prop) : Prop := (wp_X9_newMany_118 S (x1) (x2) (x3) (x5) ((1 : Int32)) Q B4 B54)
set_option maxRecDepth 20000 in
theorem t_X9_newMany_113 {X : bf_X} (C : bf_C X RX9 cX9_newMany 6 (some .int)) (hR : bf_Rm X 3 78) (S : bT9) (x1 : Int32) (x2 : Int32) (x3 : Int32) (x5 : Int32) (Q : Int32 → Prop) (B4 : Int32 → Int32 → Int32 → Prop) (B54 : Int32 → Int32 → Int32 → Int32 → Int32 → Prop) (hB4 : ∀ (x1 : Int32) (x2 : Int32) (x3 : Int32), B4 x1 x2 x3 → bf_A X (bf_Zi X bW9 (fun r u => u = S ∧ Q r)) 6 4 [some (.ref 0), some (.int x1), some (.int x2), some (.int x3), none, none] [] (bW9 S)) (hB54 : ∀ (x1 : Int32) (x2 : Int32) (x3 : Int32) (x4 : Int32) (x5 : Int32), B54 x1 x2 x3 x4 x5 → bf_A X (bf_Zi X bW9 (fun r u => u = S ∧ Q r)) 6 54 [some (.ref 0), some (.int x1), some (.int x2), some (.int x3), some (.int x4), some (.int x5)] [] (bW9 S)) (h : wp_X9_newMany_113 S x1 x2 x3 x5 Q B4 B54) : bf_A X (bf_Zi X bW9 (fun r u => u = S ∧ Q r)) 6 113 [some (.ref 0), some (.int x1), some (.int x2), some (.int x3), none, some (.int x5)] [] (bW9 S) := by
  unfold wp_X9_newMany_113 at h
  refine bs_iconst C (bf_dk dd_X9_newMany 69 rfl) (1 : Int32) (by decide) ?_
  refine bs_goto C (bf_dk dd_X9_newMany 70 rfl) (tgt := 118) rfl ?_
  exact bs_weak (bf_s1 (bf_s1 (bf_s1 (bf_s1 (bf_sn (bf_s1 bf_s0)))))) (t_X9_newMany_118 C hR S (x1) (x2) (x3) (x5) ((1 : Int32)) Q B4 B54 hB4 hB54 h)
def wp_X9_newMany_54b (S : bT9) (x1 : Int32) (x2 : Int32) (x3 : Int32) (x4 : Int32) (x5 : Int32) (Q : Int32 → Prop) (B4 : Int32 → Int32 → Int32 → Prop) (B54 : Int32 → Int32 → Int32 → Int32 → Int32 → Prop) : Prop := ((x3 ≤ x5 → ((x4 = 0 → (wp_X9_newMany_146 S (x1) (x2) (x3) Q B4)) ∧ (¬ x4 = 0 → (wp_X9_newMany_146 S (x1) ((x2 + (1 : Int32))) (x3) Q B4)))) ∧ (¬ x3 ≤ x5 → ((x4 = 0 → (wp_X9_newMany_117 S (x1) (x2) (x3) (x5) Q B4 B54)) ∧ (¬ x4 = 0 → (vp_in x5 160 ∧ (vp_in x3 160 ∧ ((¬ ((b9g_tape S) (x5).toNatClampNeg) = ((b9g_tape S) (x3).toNatClampNeg) → (wp_X9_newMany_113 S (x1) (x2) (x3) (x5) Q B4 B54)) ∧ (((b9g_tape S) (x5).toNatClampNeg) = ((b9g_tape S) (x3).toNatClampNeg) → (vp_in x5 160 ∧ (wp_X9_tapedKey S ((x5 + (1 : Int32))) (((b9g_tape S) (x5).toNatClampNeg)) (fun r1 => (vp_in x3 160 ∧ (wp_X9_tapedKey S ((x3 + (1 : Int32))) (((b9g_tape S) (x3).toNatClampNeg)) (fun r3 => (((lg_cmp r1 r3) = 0 → (wp_X9_newMany_117 S (x1) (x2) (x3) (x5) Q B4 B54)) ∧ (¬ (lg_cmp r1 r3) = 0 → (wp_X9_newMany_113 S (x1) (x2) (x3) (x5) Q B4 B54)))))))))))))))))
set_option maxRecDepth 20000 in
theorem t_X9_newMany_54b {X : bf_X} (C : bf_C X RX9 cX9_newMany 6 (some .int)) (hR : bf_Rm X 3 78) (S : bT9) (x1 : Int32) (x2 : Int32) (x3 : Int32) (x4 : Int32) (x5 : Int32) (Q : Int32 → Prop) (B4 : Int32 → Int32 → Int32 → Prop) (B54 : Int32 → Int32 → Int32 → Int32 → Int32 → Prop) (hB4 : ∀ (x1 : Int32) (x2 : Int32) (x3 : Int32), B4 x1 x2 x3 → bf_A X (bf_Zi X bW9 (fun r u => u = S ∧ Q r)) 6 4 [some (.ref 0), some (.int x1), some (.int x2), some (.int x3), none, none] [] (bW9 S)) (hB54 : ∀ (x1 : Int32) (x2 : Int32) (x3 : Int32) (x4 : Int32) (x5 : Int32), B54 x1 x2 x3 x4 x5 → bf_A X (bf_Zi X bW9 (fun r u => u = S ∧ Q r)) 6 54 [some (.ref 0), some (.int x1), some (.int x2), some (.int x3), some (.int x4), some (.int x5)] [] (bW9 S)) (h : wp_X9_newMany_54b S x1 x2 x3 x4 x5 Q B4 B54) : bf_A X (bf_Zi X bW9 (fun r u => u = S ∧ Q r)) 6 54 [some (.ref 0), some (.int x1), some (.int x2), some (.int x3), some (.int x4), some (.int x5)] [] (bW9 S) := by
  unfold wp_X9_newMany_54b at h
  refine bs_iload C (bf_dk dd_X9_newMany 35 rfl) rfl ?_
  refine bs_iload_n C (bf_dk dd_X9_newMany 36 rfl) rfl ?_
  refine bs_icmp_ge C (bf_dk dd_X9_newMany 37 rfl) (tgt := 137) rfl (fun c => ?_) (fun c => ?_)
  · replace h := h.1 c
    refine bs_iload C (bf_dk dd_X9_newMany 83 rfl) rfl ?_
    refine bs_if_eq C (bf_dk dd_X9_newMany 84 rfl) (tgt := 146) rfl (fun c => ?_) (fun c => ?_)
    · replace h := h.1 c
      exact bs_weak (bf_s1 (bf_s1 (bf_s1 (bf_s1 (bf_sn (bf_sn bf_s0)))))) (t_X9_newMany_146 C hR S (x1) (x2) (x3) Q B4 hB4 h)
    · replace h := h.2 c
      refine bs_iload_n C (bf_dk dd_X9_newMany 85 rfl) rfl ?_
      refine bs_iconst C (bf_dk dd_X9_newMany 86 rfl) (1 : Int32) (by decide) ?_
      refine bs_iadd C (bf_dk dd_X9_newMany 87 rfl) ?_
      refine bs_istore_n C (bf_dk dd_X9_newMany 88 rfl) rfl (Nat.le_of_ble_eq_true rfl) (Nat.le_of_ble_eq_true rfl) (lv2 := [some (.ref 0), some (.int x1), some (.int (x2 + (1 : Int32))), some (.int x3), some (.int x4), some (.int x5)]) rfl ?_
      exact bs_weak (bf_s1 (bf_s1 (bf_s1 (bf_s1 (bf_sn (bf_sn bf_s0)))))) (t_X9_newMany_146 C hR S (x1) ((x2 + (1 : Int32))) (x3) Q B4 hB4 h)
  · replace h := h.2 c
    refine bs_iload C (bf_dk dd_X9_newMany 38 rfl) rfl ?_
    refine bs_if_eq C (bf_dk dd_X9_newMany 39 rfl) (tgt := 117) rfl (fun c => ?_) (fun c => ?_)
    · replace h := h.1 c
      exact bs_weak (bf_s1 (bf_s1 (bf_s1 (bf_s1 (bf_sn (bf_s1 bf_s0)))))) (t_X9_newMany_117 C hR S (x1) (x2) (x3) (x5) Q B4 B54 hB4 hB54 h)
    · replace h := h.2 c
      refine bs_aload_n C (bf_dk dd_X9_newMany 40 rfl) rfl ?_
      refine bs_get C (bf_dk dd_X9_newMany 41 rfl) cl_9 in_9 6 (Nat.le_of_ble_eq_true rfl) rfl f_9_20 (ge_bW9_0 S) rfl ?_
      refine bs_iload C (bf_dk dd_X9_newMany 42 rfl) rfl ?_
      obtain ⟨hi, h⟩ := h
      refine bs_iald C (bf_dk dd_X9_newMany 43 rfl) (ge_bW9_4 S) hi ?_
      refine bs_aload_n C (bf_dk dd_X9_newMany 44 rfl) rfl ?_
      refine bs_get C (bf_dk dd_X9_newMany 45 rfl) cl_9 in_9 6 (Nat.le_of_ble_eq_true rfl) rfl f_9_20 (ge_bW9_0 S) rfl ?_
      refine bs_iload_n C (bf_dk dd_X9_newMany 46 rfl) rfl ?_
      obtain ⟨hi, h⟩ := h
      refine bs_iald C (bf_dk dd_X9_newMany 47 rfl) (ge_bW9_4 S) hi ?_
      refine bs_icmp_ne C (bf_dk dd_X9_newMany 48 rfl) (tgt := 113) rfl (fun c => ?_) (fun c => ?_)
      · replace h := h.1 c
        exact bs_weak (bf_s1 (bf_s1 (bf_s1 (bf_s1 (bf_sn (bf_s1 bf_s0)))))) (t_X9_newMany_113 C hR S (x1) (x2) (x3) (x5) Q B4 B54 hB4 hB54 h)
      · replace h := h.2 c
        refine bs_aload_n C (bf_dk dd_X9_newMany 49 rfl) rfl ?_
        refine bs_iload C (bf_dk dd_X9_newMany 50 rfl) rfl ?_
        refine bs_iconst C (bf_dk dd_X9_newMany 51 rfl) (1 : Int32) (by decide) ?_
        refine bs_iadd C (bf_dk dd_X9_newMany 52 rfl) ?_
        refine bs_aload_n C (bf_dk dd_X9_newMany 53 rfl) rfl ?_
        refine bs_get C (bf_dk dd_X9_newMany 54 rfl) cl_9 in_9 6 (Nat.le_of_ble_eq_true rfl) rfl f_9_20 (ge_bW9_0 S) rfl ?_
        refine bs_iload C (bf_dk dd_X9_newMany 55 rfl) rfl ?_
        obtain ⟨hi, h⟩ := h
        refine bs_iald C (bf_dk dd_X9_newMany 56 rfl) (ge_bW9_4 S) hi ?_
        refine bs_selfPV_l C hR (c_X9_tapedKey _ _ _ _ _ S ((x5 + (1 : Int32))) (((b9g_tape S) (x5).toNatClampNeg)) _ h) my_X9_tapedKey m_9_159 rfl cl_9 (ge_bW9_0 _) rfl (Nat.le_of_ble_eq_true rfl) (Nat.le_of_ble_eq_true rfl) (st := []) (Nat.le_of_ble_eq_true rfl) (bf_dk dd_X9_newMany 57 rfl) rfl (fun r1 h => ?_)
        refine bs_aload_n C (bf_dk dd_X9_newMany 58 rfl) rfl ?_
        refine bs_iload_n C (bf_dk dd_X9_newMany 59 rfl) rfl ?_
        refine bs_iconst C (bf_dk dd_X9_newMany 60 rfl) (1 : Int32) (by decide) ?_
        refine bs_iadd C (bf_dk dd_X9_newMany 61 rfl) ?_
        refine bs_aload_n C (bf_dk dd_X9_newMany 62 rfl) rfl ?_
        refine bs_get C (bf_dk dd_X9_newMany 63 rfl) cl_9 in_9 6 (Nat.le_of_ble_eq_true rfl) rfl f_9_20 (ge_bW9_0 S) rfl ?_
        refine bs_iload_n C (bf_dk dd_X9_newMany 64 rfl) rfl ?_
        obtain ⟨hi, h⟩ := h
        refine bs_iald C (bf_dk dd_X9_newMany 65 rfl) (ge_bW9_4 S) hi ?_
        refine bs_selfPV_l C hR (c_X9_tapedKey _ _ _ _ _ S ((x3 + (1 : Int32))) (((b9g_tape S) (x3).toNatClampNeg)) _ h) my_X9_tapedKey m_9_159 rfl cl_9 (ge_bW9_0 _) rfl (Nat.le_of_ble_eq_true rfl) (Nat.le_of_ble_eq_true rfl) (st := [.long r1]) (Nat.le_of_ble_eq_true rfl) (bf_dk dd_X9_newMany 66 rfl) rfl (fun r3 h => ?_)
        refine bs_lcmp C (bf_dk dd_X9_newMany 67 rfl) ?_
        refine bs_if_eq C (bf_dk dd_X9_newMany 68 rfl) (tgt := 117) rfl (fun c => ?_) (fun c => ?_)
        · replace h := h.1 c
          exact bs_weak (bf_s1 (bf_s1 (bf_s1 (bf_s1 (bf_sn (bf_s1 bf_s0)))))) (t_X9_newMany_117 C hR S (x1) (x2) (x3) (x5) Q B4 B54 hB4 hB54 h)
        · replace h := h.2 c
          exact bs_weak (bf_s1 (bf_s1 (bf_s1 (bf_s1 (bf_sn (bf_s1 bf_s0)))))) (t_X9_newMany_113 C hR S (x1) (x2) (x3) (x5) Q B4 B54 hB4 hB54 h)
def wp_X9_newMany_54 (S : bT9) (x1 : Int32) (x2 : Int32) (x3 : Int32) (x4 : Int32) (x5 : Int32) (Q : Int32 → Prop) (B4 : Int32 → Int32 → Int32 → Prop) : Prop := ∃ I : Nat → Int32 → Int32 → Int32 → Int32 → Int32 → Prop, (∃ n : Nat, I n x1 x2 x3 x4 x5) ∧ ∀ (n : Nat) (x1 : Int32) (x2 : Int32) (x3 : Int32) (x4 : Int32) (x5 : Int32), I n x1 x2 x3 x4 x5 → wp_X9_newMany_54b S x1 x2 x3 x4 x5 Q B4 (fun x1 x2 x3 x4 x5 => ∃ n2 : Nat, n2 < n ∧ I n2 x1 x2 x3 x4 x5)
theorem t_X9_newMany_54 {X : bf_X} (C : bf_C X RX9 cX9_newMany 6 (some .int)) (hR : bf_Rm X 3 78) (S : bT9) (x1 : Int32) (x2 : Int32) (x3 : Int32) (x4 : Int32) (x5 : Int32) (Q : Int32 → Prop) (B4 : Int32 → Int32 → Int32 → Prop) (hB4 : ∀ (x1 : Int32) (x2 : Int32) (x3 : Int32), B4 x1 x2 x3 → bf_A X (bf_Zi X bW9 (fun r u => u = S ∧ Q r)) 6 4 [some (.ref 0), some (.int x1), some (.int x2), some (.int x3), none, none] [] (bW9 S)) (h : wp_X9_newMany_54 S x1 x2 x3 x4 x5 Q B4) : bf_A X (bf_Zi X bW9 (fun r u => u = S ∧ Q r)) 6 54 [some (.ref 0), some (.int x1), some (.int x2), some (.int x3), some (.int x4), some (.int x5)] [] (bW9 S) := by
  obtain ⟨I, ⟨n0, h0⟩, hI⟩ := h
  have key : ∀ (n : Nat) (x1 : Int32) (x2 : Int32) (x3 : Int32) (x4 : Int32) (x5 : Int32), I n x1 x2 x3 x4 x5 → bf_A X (bf_Zi X bW9 (fun r u => u = S ∧ Q r)) 6 54 [some (.ref 0), some (.int x1), some (.int x2), some (.int x3), some (.int x4), some (.int x5)] [] (bW9 S) := by
    intro n
    induction n using Nat.strongRecOn with
    | _ n ih =>
      intro x1 x2 x3 x4 x5 hi
      exact t_X9_newMany_54b C hR S x1 x2 x3 x4 x5 Q B4 _ hB4 (fun x1 x2 x3 x4 x5 hb => by obtain ⟨n2, hn, hi2⟩ := hb; exact ih n2 hn x1 x2 x3 x4 x5 hi2) (hI n x1 x2 x3 x4 x5 hi)
  exact key n0 x1 x2 x3 x4 x5 h0
def wp_X9_newMany_49 (S : bT9) (x1 : Int32) (x2 : Int32) (x3 : Int32) (t0 : Int32) (Q : Int32 → Prop) (B4 : Int32 → Int32 → Int32 → Prop) : Prop := (wp_X9_newMany_54 S (x1) (x2) (x3) (t0) ((0 : Int32)) Q B4)
set_option maxRecDepth 20000 in
theorem t_X9_newMany_49 {X : bf_X} (C : bf_C X RX9 cX9_newMany 6 (some .int)) (hR : bf_Rm X 3 78) (S : bT9) (x1 : Int32) (x2 : Int32) (x3 : Int32) (t0 : Int32) (Q : Int32 → Prop) (B4 : Int32 → Int32 → Int32 → Prop) (hB4 : ∀ (x1 : Int32) (x2 : Int32) (x3 : Int32), B4 x1 x2 x3 → bf_A X (bf_Zi X bW9 (fun r u => u = S ∧ Q r)) 6 4 [some (.ref 0), some (.int x1), some (.int x2), some (.int x3), none, none] [] (bW9 S)) (h : wp_X9_newMany_49 S x1 x2 x3 t0 Q B4) : bf_A X (bf_Zi X bW9 (fun r u => u = S ∧ Q r)) 6 49 [some (.ref 0), some (.int x1), some (.int x2), some (.int x3), none, none] [.int t0] (bW9 S) := by
  unfold wp_X9_newMany_49 at h
  refine bs_istore C (bf_dk dd_X9_newMany 32 rfl) (Nat.le_of_ble_eq_true rfl) (Nat.le_of_ble_eq_true rfl) (lv2 := [some (.ref 0), some (.int x1), some (.int x2), some (.int x3), some (.int t0), none]) rfl ?_
  refine bs_iconst C (bf_dk dd_X9_newMany 33 rfl) (0 : Int32) (by decide) ?_
  refine bs_istore C (bf_dk dd_X9_newMany 34 rfl) (Nat.le_of_ble_eq_true rfl) (Nat.le_of_ble_eq_true rfl) (lv2 := [some (.ref 0), some (.int x1), some (.int x2), some (.int x3), some (.int t0), some (.int (0 : Int32))]) rfl ?_
  exact bs_weak (bf_s1 (bf_s1 (bf_s1 (bf_s1 (bf_s1 (bf_s1 bf_s0)))))) (t_X9_newMany_54 C hR S (x1) (x2) (x3) (t0) ((0 : Int32)) Q B4 hB4 h)
def wp_X9_newMany_4b (S : bT9) (x1 : Int32) (x2 : Int32) (x3 : Int32) (Q : Int32 → Prop) (B4 : Int32 → Int32 → Int32 → Prop) : Prop := ((x1 ≤ x3 → (Q x2)) ∧ (¬ x1 ≤ x3 → (vp_in (8 : Int32) 23 ∧ (vp_in x3 160 ∧ (wp_X9_tapedKey S ((x3 + (1 : Int32))) (((b9g_tape S) (x3).toNatClampNeg)) (fun r5 => (vp_in x3 160 ∧ (wp_X9_find S ((0 : Int32)) (((b9g_now S) ((8 : Int32)).toNatClampNeg)) (r5) (((b9g_tape S) (x3).toNatClampNeg)) (fun r7 => ((¬ r7 = (-1 : Int32) → (wp_X9_newMany_49 S (x1) (x2) (x3) ((0 : Int32)) Q B4)) ∧ (r7 = (-1 : Int32) → (wp_X9_newMany_49 S (x1) (x2) (x3) ((1 : Int32)) Q B4))))))))))))
set_option maxRecDepth 20000 in
theorem t_X9_newMany_4b {X : bf_X} (C : bf_C X RX9 cX9_newMany 6 (some .int)) (hR : bf_Rm X 3 78) (S : bT9) (x1 : Int32) (x2 : Int32) (x3 : Int32) (Q : Int32 → Prop) (B4 : Int32 → Int32 → Int32 → Prop) (hB4 : ∀ (x1 : Int32) (x2 : Int32) (x3 : Int32), B4 x1 x2 x3 → bf_A X (bf_Zi X bW9 (fun r u => u = S ∧ Q r)) 6 4 [some (.ref 0), some (.int x1), some (.int x2), some (.int x3), none, none] [] (bW9 S)) (h : wp_X9_newMany_4b S x1 x2 x3 Q B4) : bf_A X (bf_Zi X bW9 (fun r u => u = S ∧ Q r)) 6 4 [some (.ref 0), some (.int x1), some (.int x2), some (.int x3), none, none] [] (bW9 S) := by
  unfold wp_X9_newMany_4b at h
  refine bs_iload_n C (bf_dk dd_X9_newMany 4 rfl) rfl ?_
  refine bs_iload_n C (bf_dk dd_X9_newMany 5 rfl) rfl ?_
  refine bs_icmp_ge C (bf_dk dd_X9_newMany 6 rfl) (tgt := 160) rfl (fun c => ?_) (fun c => ?_)
  · replace h := h.1 c
    refine bs_iload_n C (bf_dk dd_X9_newMany 99 rfl) rfl ?_
    exact bs_iret (u := S) C (bf_dk dd_X9_newMany 100 rfl) rfl ⟨rfl, h⟩
  · replace h := h.2 c
    refine bs_aload_n C (bf_dk dd_X9_newMany 7 rfl) rfl ?_
    refine bs_iconst C (bf_dk dd_X9_newMany 8 rfl) (0 : Int32) (by decide) ?_
    refine bs_aload_n C (bf_dk dd_X9_newMany 9 rfl) rfl ?_
    refine bs_get C (bf_dk dd_X9_newMany 10 rfl) cl_9 in_9 1 (Nat.le_of_ble_eq_true rfl) rfl f_9_7 (ge_bW9_0 S) rfl ?_
    refine bs_bipush C (bf_dk dd_X9_newMany 11 rfl) (8 : Int32) (by decide) ?_
    obtain ⟨hi, h⟩ := h
    refine bs_iald C (bf_dk dd_X9_newMany 12 rfl) (ge_bW9_1 S) hi ?_
    refine bs_aload_n C (bf_dk dd_X9_newMany 13 rfl) rfl ?_
    refine bs_iload_n C (bf_dk dd_X9_newMany 14 rfl) rfl ?_
    refine bs_iconst C (bf_dk dd_X9_newMany 15 rfl) (1 : Int32) (by decide) ?_
    refine bs_iadd C (bf_dk dd_X9_newMany 16 rfl) ?_
    refine bs_aload_n C (bf_dk dd_X9_newMany 17 rfl) rfl ?_
    refine bs_get C (bf_dk dd_X9_newMany 18 rfl) cl_9 in_9 6 (Nat.le_of_ble_eq_true rfl) rfl f_9_20 (ge_bW9_0 S) rfl ?_
    refine bs_iload_n C (bf_dk dd_X9_newMany 19 rfl) rfl ?_
    obtain ⟨hi, h⟩ := h
    refine bs_iald C (bf_dk dd_X9_newMany 20 rfl) (ge_bW9_4 S) hi ?_
    refine bs_selfPV_l C hR (c_X9_tapedKey _ _ _ _ _ S ((x3 + (1 : Int32))) (((b9g_tape S) (x3).toNatClampNeg)) _ h) my_X9_tapedKey m_9_159 rfl cl_9 (ge_bW9_0 _) rfl (Nat.le_of_ble_eq_true rfl) (Nat.le_of_ble_eq_true rfl) (st := [.int ((b9g_now S) ((8 : Int32)).toNatClampNeg), .int (0 : Int32), .ref 0]) (Nat.le_of_ble_eq_true rfl) (bf_dk dd_X9_newMany 21 rfl) rfl (fun r5 h => ?_)
    refine bs_aload_n C (bf_dk dd_X9_newMany 22 rfl) rfl ?_
    refine bs_get C (bf_dk dd_X9_newMany 23 rfl) cl_9 in_9 6 (Nat.le_of_ble_eq_true rfl) rfl f_9_20 (ge_bW9_0 S) rfl ?_
    refine bs_iload_n C (bf_dk dd_X9_newMany 24 rfl) rfl ?_
    obtain ⟨hi, h⟩ := h
    refine bs_iald C (bf_dk dd_X9_newMany 25 rfl) (ge_bW9_4 S) hi ?_
    refine bs_selfPV_i C hR (c_X9_find _ _ _ _ _ S ((0 : Int32)) (((b9g_now S) ((8 : Int32)).toNatClampNeg)) (r5) (((b9g_tape S) (x3).toNatClampNeg)) _ h) my_X9_find m_9_114 rfl cl_9 (ge_bW9_0 _) rfl (Nat.le_of_ble_eq_true rfl) (Nat.le_of_ble_eq_true rfl) (st := []) (Nat.le_of_ble_eq_true rfl) (bf_dk dd_X9_newMany 26 rfl) rfl (fun r7 h => ?_)
    refine bs_iconst C (bf_dk dd_X9_newMany 27 rfl) (-1 : Int32) (by decide) ?_
    refine bs_icmp_ne C (bf_dk dd_X9_newMany 28 rfl) (tgt := 48) rfl (fun c => ?_) (fun c => ?_)
    · replace h := h.1 c
      refine bs_iconst C (bf_dk dd_X9_newMany 31 rfl) (0 : Int32) (by decide) ?_
      exact bs_weak (bf_s1 (bf_s1 (bf_s1 (bf_s1 (bf_sn (bf_sn bf_s0)))))) (t_X9_newMany_49 C hR S (x1) (x2) (x3) ((0 : Int32)) Q B4 hB4 h)
    · replace h := h.2 c
      refine bs_iconst C (bf_dk dd_X9_newMany 29 rfl) (1 : Int32) (by decide) ?_
      refine bs_goto C (bf_dk dd_X9_newMany 30 rfl) (tgt := 49) rfl ?_
      exact bs_weak (bf_s1 (bf_s1 (bf_s1 (bf_s1 (bf_sn (bf_sn bf_s0)))))) (t_X9_newMany_49 C hR S (x1) (x2) (x3) ((1 : Int32)) Q B4 hB4 h)
def wp_X9_newMany_4 (S : bT9) (x1 : Int32) (x2 : Int32) (x3 : Int32) (Q : Int32 → Prop) : Prop := ∃ I : Nat → Int32 → Int32 → Int32 → Prop, (∃ n : Nat, I n x1 x2 x3) ∧ ∀ (n : Nat) (x1 : Int32) (x2 : Int32) (x3 : Int32), I n x1 x2 x3 → wp_X9_newMany_4b S x1 x2 x3 Q (fun x1 x2 x3 => ∃ n2 : Nat, n2 < n ∧ I n2 x1 x2 x3)
theorem t_X9_newMany_4 {X : bf_X} (C : bf_C X RX9 cX9_newMany 6 (some .int)) (hR : bf_Rm X 3 78) (S : bT9) (x1 : Int32) (x2 : Int32) (x3 : Int32) (Q : Int32 → Prop) (h : wp_X9_newMany_4 S x1 x2 x3 Q) : bf_A X (bf_Zi X bW9 (fun r u => u = S ∧ Q r)) 6 4 [some (.ref 0), some (.int x1), some (.int x2), some (.int x3), none, none] [] (bW9 S) := by
  obtain ⟨I, ⟨n0, h0⟩, hI⟩ := h
  have key : ∀ (n : Nat) (x1 : Int32) (x2 : Int32) (x3 : Int32), I n x1 x2 x3 → bf_A X (bf_Zi X bW9 (fun r u => u = S ∧ Q r)) 6 4 [some (.ref 0), some (.int x1), some (.int x2), some (.int x3), none, none] [] (bW9 S) := by
    intro n
    induction n using Nat.strongRecOn with
    | _ n ih =>
      intro x1 x2 x3 hi
      exact t_X9_newMany_4b C hR S x1 x2 x3 Q _ (fun x1 x2 x3 hb => by obtain ⟨n2, hn, hi2⟩ := hb; exact ih n2 hn x1 x2 x3 hi2) (hI n x1 x2 x3 hi)
  exact key n0 x1 x2 x3 h0
def wp_X9_newMany (S : bT9) (a1 : Int32) (Q : Int32 → Prop) : Prop := (wp_X9_newMany_4 S (a1) ((0 : Int32)) ((0 : Int32)) Q)
set_option maxRecDepth 20000 in
theorem t_X9_newMany {X : bf_X} (C : bf_C X RX9 cX9_newMany 6 (some .int)) (hR : bf_Rm X 3 78) (S : bT9) (a1 : Int32) (Q : Int32 → Prop) (h : wp_X9_newMany S a1 Q) : bf_A X (bf_Zi X bW9 (fun r u => u = S ∧ Q r)) 6 0 [some (.ref 0), some (.int a1), none, none, none, none] [] (bW9 S) := by
  unfold wp_X9_newMany at h
  refine bs_iconst C (bf_dk dd_X9_newMany 0 rfl) (0 : Int32) (by decide) ?_
  refine bs_istore_n C (bf_dk dd_X9_newMany 1 rfl) rfl (Nat.le_of_ble_eq_true rfl) (Nat.le_of_ble_eq_true rfl) (lv2 := [some (.ref 0), some (.int a1), some (.int (0 : Int32)), none, none, none]) rfl ?_
  refine bs_iconst C (bf_dk dd_X9_newMany 2 rfl) (0 : Int32) (by decide) ?_
  refine bs_istore_n C (bf_dk dd_X9_newMany 3 rfl) rfl (Nat.le_of_ble_eq_true rfl) (Nat.le_of_ble_eq_true rfl) (lv2 := [some (.ref 0), some (.int a1), some (.int (0 : Int32)), some (.int (0 : Int32)), none, none]) rfl ?_
  exact bs_weak (bf_s1 (bf_s1 (bf_s1 (bf_s1 (bf_sn (bf_sn bf_s0)))))) (t_X9_newMany_4 C hR S (a1) ((0 : Int32)) ((0 : Int32)) Q h)
theorem c_X9_newMany (l : Launch) (dC : Nat → ClassId) (dI : Nat → Nat → Nat) (ac : Nat → ClassId) (al : Nat → Nat) (S : bT9) (a1 : Int32) (Q : Int32 → Prop) (h : wp_X9_newMany S a1 Q) : bf_M l yX9_newMany cX9_newMany 6 (some .int) 3 78 dC dI ac al [.ref 0, .int a1] (bW9 S) (bf_Ki dC dI ac al bW9 (fun r u => u = S ∧ Q r)) := by
  refine bf_start [some (.ref 0), some (.int a1), none, none, none, none] (by decide) (Nat.le_of_ble_eq_true rfl) (bf_s1 (bf_s1 (bf_en 4))) ?_
  intro X hl C hR e1 e2 e3 e4
  subst e1; subst e2; subst e3; subst e4
  exact t_X9_newMany C hR S a1 Q h
def wp_X9_keys (S : bT9) (Q : Int32 → (bT9) → Prop) : Prop := (∀ S1 : bT9, S1 = (b9s_told S (0 : Int32)) → (∀ S2 : bT9, S2 = (b9s_taped S1 (0 : Int32)) → (wp_X9_areKeys S2 ((b9g_taped S1)) (fun r3 => ((r3 = 0 → (Q (-1 : Int32) S2)) ∧ (¬ r3 = 0 → (vp_in (8 : Int32) 23 ∧ (wp_X9_newMany S2 ((b9g_taped S1)) (fun r5 => (((((b9g_now S2) ((8 : Int32)).toNatClampNeg) + r5) ≤ (64 : Int32) → (wp_X9_comingFrom S2 ((b9g_taped S1)) (fun r7 u8 => (Q r7 u8)))) ∧ (¬ (((b9g_now S2) ((8 : Int32)).toNatClampNeg) + r5) ≤ (64 : Int32) → (Q (-1 : Int32) S2))))))))))))
set_option maxRecDepth 20000 in
theorem t_X9_keys {X : bf_X} (C : bf_C X RX9 cX9_keys 2 (some .int)) (hR : bf_Rm X 5 126) (S : bT9) (Q : Int32 → (bT9) → Prop) (h : wp_X9_keys S Q) : bf_A X (bf_Zi X bW9 Q) 2 0 [some (.ref 0), none] [] (bW9 S) := by
  unfold wp_X9_keys at h
  refine bs_aload_n C (bf_dk dd_X9_keys 0 rfl) rfl ?_
  refine bs_iconst C (bf_dk dd_X9_keys 1 rfl) (0 : Int32) (by decide) ?_
  refine bs_put C (bf_dk dd_X9_keys 2 rfl) tyX9_ok nmX9 cl_9 in_9 0 (Nat.le_of_ble_eq_true rfl) rfl f_9_75 rfl (ge_bW9_0 S) (Nat.le_of_ble_eq_true rfl) rfl rfl (pu_bW9_0_0 S (0 : Int32)) ?_
  refine bs_nameS bW9 (fun S1 eS1 => ?_)
  replace h := h S1 eS1
  refine bs_aload_n C (bf_dk dd_X9_keys 3 rfl) rfl ?_
  refine bs_get C (bf_dk dd_X9_keys 4 rfl) cl_9 in_9 7 (Nat.le_of_ble_eq_true rfl) rfl f_9_146 (ge_bW9_0 S1) rfl ?_
  refine bs_istore_n C (bf_dk dd_X9_keys 5 rfl) rfl (Nat.le_of_ble_eq_true rfl) (Nat.le_of_ble_eq_true rfl) (lv2 := [some (.ref 0), some (.int (b9g_taped S1))]) rfl ?_
  refine bs_aload_n C (bf_dk dd_X9_keys 6 rfl) rfl ?_
  refine bs_iconst C (bf_dk dd_X9_keys 7 rfl) (0 : Int32) (by decide) ?_
  refine bs_put C (bf_dk dd_X9_keys 8 rfl) tyX9_ok nmX9 cl_9 in_9 7 (Nat.le_of_ble_eq_true rfl) rfl f_9_146 rfl (ge_bW9_0 S1) (Nat.le_of_ble_eq_true rfl) rfl rfl (pu_bW9_0_7 S1 (0 : Int32)) ?_
  refine bs_nameS bW9 (fun S2 eS2 => ?_)
  replace h := h S2 eS2
  refine bs_aload_n C (bf_dk dd_X9_keys 9 rfl) rfl ?_
  refine bs_iload_n C (bf_dk dd_X9_keys 10 rfl) rfl ?_
  refine bs_selfPV_i C hR (c_X9_areKeys _ _ _ _ _ S2 ((b9g_taped S1)) _ h) my_X9_areKeys m_9_163 rfl cl_9 (ge_bW9_0 _) rfl (Nat.le_of_ble_eq_true rfl) (Nat.le_of_ble_eq_true rfl) (st := []) (Nat.le_of_ble_eq_true rfl) (bf_dk dd_X9_keys 11 rfl) rfl (fun r3 h => ?_)
  refine bs_if_eq C (bf_dk dd_X9_keys 12 rfl) (tgt := 41) rfl (fun c => ?_) (fun c => ?_)
  · replace h := h.1 c
    refine bs_iconst C (bf_dk dd_X9_keys 23 rfl) (-1 : Int32) (by decide) ?_
    exact bs_iret (u := S2) C (bf_dk dd_X9_keys 24 rfl) rfl h
  · replace h := h.2 c
    refine bs_aload_n C (bf_dk dd_X9_keys 13 rfl) rfl ?_
    refine bs_get C (bf_dk dd_X9_keys 14 rfl) cl_9 in_9 1 (Nat.le_of_ble_eq_true rfl) rfl f_9_7 (ge_bW9_0 S2) rfl ?_
    refine bs_bipush C (bf_dk dd_X9_keys 15 rfl) (8 : Int32) (by decide) ?_
    obtain ⟨hi, h⟩ := h
    refine bs_iald C (bf_dk dd_X9_keys 16 rfl) (ge_bW9_1 S2) hi ?_
    refine bs_aload_n C (bf_dk dd_X9_keys 17 rfl) rfl ?_
    refine bs_iload_n C (bf_dk dd_X9_keys 18 rfl) rfl ?_
    refine bs_selfPV_i C hR (c_X9_newMany _ _ _ _ _ S2 ((b9g_taped S1)) _ h) my_X9_newMany m_9_166 rfl cl_9 (ge_bW9_0 _) rfl (Nat.le_of_ble_eq_true rfl) (Nat.le_of_ble_eq_true rfl) (st := [.int ((b9g_now S2) ((8 : Int32)).toNatClampNeg)]) (Nat.le_of_ble_eq_true rfl) (bf_dk dd_X9_keys 19 rfl) rfl (fun r5 h => ?_)
    refine bs_iadd C (bf_dk dd_X9_keys 20 rfl) ?_
    refine bs_bipush C (bf_dk dd_X9_keys 21 rfl) (64 : Int32) (by decide) ?_
    refine bs_icmp_le C (bf_dk dd_X9_keys 22 rfl) (tgt := 43) rfl (fun c => ?_) (fun c => ?_)
    · replace h := h.1 c
      refine bs_aload_n C (bf_dk dd_X9_keys 25 rfl) rfl ?_
      refine bs_iload_n C (bf_dk dd_X9_keys 26 rfl) rfl ?_
      refine bs_selfV_i C hR (c_X9_comingFrom _ _ _ _ _ S2 ((b9g_taped S1)) _ h) my_X9_comingFrom m_9_169 rfl cl_9 (ge_bW9_0 _) rfl (Nat.le_of_ble_eq_true rfl) (Nat.le_of_ble_eq_true rfl) (st := []) (Nat.le_of_ble_eq_true rfl) (bf_dk dd_X9_keys 27 rfl) rfl (len := 21) (fun _ => rfl) (fun r7 u8 h => ?_)
      exact bs_iret (u := u8) C (bf_dk dd_X9_keys 28 rfl) rfl h
    · replace h := h.2 c
      refine bs_iconst C (bf_dk dd_X9_keys 23 rfl) (-1 : Int32) (by decide) ?_
      exact bs_iret (u := S2) C (bf_dk dd_X9_keys 24 rfl) rfl h
theorem c_X9_keys (l : Launch) (dC : Nat → ClassId) (dI : Nat → Nat → Nat) (ac : Nat → ClassId) (al : Nat → Nat) (S : bT9) (Q : Int32 → (bT9) → Prop) (h : wp_X9_keys S Q) : bf_M l yX9_keys cX9_keys 2 (some .int) 5 126 dC dI ac al [.ref 0] (bW9 S) (bf_Ki dC dI ac al bW9 Q) := by
  refine bf_start [some (.ref 0), none] (by decide) (Nat.le_of_ble_eq_true rfl) (bf_s1 (bf_en 1)) ?_
  intro X hl C hR e1 e2 e3 e4
  subst e1; subst e2; subst e3; subst e4
  exact t_X9_keys C hR S Q h
def wp_X9_key (S : bT9) (a1 : Int32) (Q : Int64 → Prop) : Prop := (vp_in ((64 : Int32) + a1) 144 ∧ (Q ((b9g_keys S) (((64 : Int32) + a1)).toNatClampNeg)))
set_option maxRecDepth 20000 in
theorem t_X9_key {X : bf_X} (C : bf_C X RX9 cX9_key 2 (some .long)) (hR : bf_Rm X 0 0) (S : bT9) (a1 : Int32) (Q : Int64 → Prop) (h : wp_X9_key S a1 Q) : bf_A X (bf_Zl X bW9 (fun r u => u = S ∧ Q r)) 2 0 [some (.ref 0), some (.int a1)] [] (bW9 S) := by
  unfold wp_X9_key at h
  refine bs_aload_n C (bf_dk dd_X9_key 0 rfl) rfl ?_
  refine bs_get C (bf_dk dd_X9_key 1 rfl) cl_9 in_9 2 (Nat.le_of_ble_eq_true rfl) rfl f_9_13 (ge_bW9_0 S) rfl ?_
  refine bs_bipush C (bf_dk dd_X9_key 2 rfl) (64 : Int32) (by decide) ?_
  refine bs_iload_n C (bf_dk dd_X9_key 3 rfl) rfl ?_
  refine bs_iadd C (bf_dk dd_X9_key 4 rfl) ?_
  obtain ⟨hi, h⟩ := h
  refine bs_lald C (bf_dk dd_X9_key 5 rfl) (ge_bW9_2 S) hi ?_
  exact bs_lret (u := S) C (bf_dk dd_X9_key 6 rfl) rfl ⟨rfl, h⟩
theorem c_X9_key (l : Launch) (dC : Nat → ClassId) (dI : Nat → Nat → Nat) (ac : Nat → ClassId) (al : Nat → Nat) (S : bT9) (a1 : Int32) (Q : Int64 → Prop) (h : wp_X9_key S a1 Q) : bf_M l yX9_key cX9_key 2 (some .long) 0 0 dC dI ac al [.ref 0, .int a1] (bW9 S) (bf_Kl dC dI ac al bW9 (fun r u => u = S ∧ Q r)) := by
  refine bf_start [some (.ref 0), some (.int a1)] (by decide) (Nat.le_of_ble_eq_true rfl) (bf_s1 (bf_s1 bf_s0)) ?_
  intro X hl C hR e1 e2 e3 e4
  subst e1; subst e2; subst e3; subst e4
  exact t_X9_key C hR S a1 Q h
def wp_X9_lengthOf (S : bT9) (a1 : Int32) (Q : Int32 → Prop) : Prop := (vp_in ((64 : Int32) + a1) 144 ∧ (Q ((b9g_lengths S) (((64 : Int32) + a1)).toNatClampNeg)))
set_option maxRecDepth 20000 in
theorem t_X9_lengthOf {X : bf_X} (C : bf_C X RX9 cX9_lengthOf 2 (some .int)) (hR : bf_Rm X 0 0) (S : bT9) (a1 : Int32) (Q : Int32 → Prop) (h : wp_X9_lengthOf S a1 Q) : bf_A X (bf_Zi X bW9 (fun r u => u = S ∧ Q r)) 2 0 [some (.ref 0), some (.int a1)] [] (bW9 S) := by
  unfold wp_X9_lengthOf at h
  refine bs_aload_n C (bf_dk dd_X9_lengthOf 0 rfl) rfl ?_
  refine bs_get C (bf_dk dd_X9_lengthOf 1 rfl) cl_9 in_9 3 (Nat.le_of_ble_eq_true rfl) rfl f_9_17 (ge_bW9_0 S) rfl ?_
  refine bs_bipush C (bf_dk dd_X9_lengthOf 2 rfl) (64 : Int32) (by decide) ?_
  refine bs_iload_n C (bf_dk dd_X9_lengthOf 3 rfl) rfl ?_
  refine bs_iadd C (bf_dk dd_X9_lengthOf 4 rfl) ?_
  obtain ⟨hi, h⟩ := h
  refine bs_iald C (bf_dk dd_X9_lengthOf 5 rfl) (ge_bW9_3 S) hi ?_
  exact bs_iret (u := S) C (bf_dk dd_X9_lengthOf 6 rfl) rfl ⟨rfl, h⟩
theorem c_X9_lengthOf (l : Launch) (dC : Nat → ClassId) (dI : Nat → Nat → Nat) (ac : Nat → ClassId) (al : Nat → Nat) (S : bT9) (a1 : Int32) (Q : Int32 → Prop) (h : wp_X9_lengthOf S a1 Q) : bf_M l yX9_lengthOf cX9_lengthOf 2 (some .int) 0 0 dC dI ac al [.ref 0, .int a1] (bW9 S) (bf_Ki dC dI ac al bW9 (fun r u => u = S ∧ Q r)) := by
  refine bf_start [some (.ref 0), some (.int a1)] (by decide) (Nat.le_of_ble_eq_true rfl) (bf_s1 (bf_s1 bf_s0)) ?_
  intro X hl C hR e1 e2 e3 e4
  subst e1; subst e2; subst e3; subst e4
  exact t_X9_lengthOf C hR S a1 Q h
def wp_X9_alike_19b (S : bT9) (x1 : Int32) (x2 : Int32) (x3 : Int32) (Q : Int32 → Prop) (B19 : Int32 → Int32 → Int32 → Prop) : Prop := (wp_X9_lengthOf S (x1) (fun r1 => ((r1 ≤ x3 → (Q x3)) ∧ (¬ r1 ≤ x3 → (wp_X9_lengthOf S (x2) (fun r3 => ((r3 ≤ x3 → (Q x3)) ∧ (¬ r3 ≤ x3 → (wp_X9_key S (x1) (fun r5 => (wp_X9_byteOf S (r5) (x3) (fun r7 => (wp_X9_key S (x2) (fun r9 => (wp_X9_byteOf S (r9) (x3) (fun r11 => ((¬ r7 = r11 → (Q x3)) ∧ (r7 = r11 → (B19 (x1) (x2) ((x3 + (1 : Int32))))))))))))))))))))))
set_option maxRecDepth 20000 in
theorem t_X9_alike_19b {X : bf_X} (C : bf_C X RX9 cX9_alike 4 (some .int)) (hR : bf_Rm X 1 23) (S : bT9) (x1 : Int32) (x2 : Int32) (x3 : Int32) (Q : Int32 → Prop) (B19 : Int32 → Int32 → Int32 → Prop) (hB19 : ∀ (x1 : Int32) (x2 : Int32) (x3 : Int32), B19 x1 x2 x3 → bf_A X (bf_Zi X bW9 (fun r u => u = S ∧ Q r)) 4 19 [some (.ref 0), some (.int x1), some (.int x2), some (.int x3)] [] (bW9 S)) (h : wp_X9_alike_19b S x1 x2 x3 Q B19) : bf_A X (bf_Zi X bW9 (fun r u => u = S ∧ Q r)) 4 19 [some (.ref 0), some (.int x1), some (.int x2), some (.int x3)] [] (bW9 S) := by
  unfold wp_X9_alike_19b at h
  refine bs_iload_n C (bf_dk dd_X9_alike 12 rfl) rfl ?_
  refine bs_aload_n C (bf_dk dd_X9_alike 13 rfl) rfl ?_
  refine bs_iload_n C (bf_dk dd_X9_alike 14 rfl) rfl ?_
  refine bs_selfPV_i C hR (c_X9_lengthOf _ _ _ _ _ S (x1) _ h) my_X9_lengthOf m_9_175 rfl cl_9 (ge_bW9_0 _) rfl (Nat.le_of_ble_eq_true rfl) (Nat.le_of_ble_eq_true rfl) (st := [.int x3]) (Nat.le_of_ble_eq_true rfl) (bf_dk dd_X9_alike 15 rfl) rfl (fun r1 h => ?_)
  refine bs_icmp_ge C (bf_dk dd_X9_alike 16 rfl) (tgt := 67) rfl (fun c => ?_) (fun c => ?_)
  · replace h := h.1 c
    refine bs_iload_n C (bf_dk dd_X9_alike 40 rfl) rfl ?_
    exact bs_iret (u := S) C (bf_dk dd_X9_alike 41 rfl) rfl ⟨rfl, h⟩
  · replace h := h.2 c
    refine bs_iload_n C (bf_dk dd_X9_alike 17 rfl) rfl ?_
    refine bs_aload_n C (bf_dk dd_X9_alike 18 rfl) rfl ?_
    refine bs_iload_n C (bf_dk dd_X9_alike 19 rfl) rfl ?_
    refine bs_selfPV_i C hR (c_X9_lengthOf _ _ _ _ _ S (x2) _ h) my_X9_lengthOf m_9_175 rfl cl_9 (ge_bW9_0 _) rfl (Nat.le_of_ble_eq_true rfl) (Nat.le_of_ble_eq_true rfl) (st := [.int x3]) (Nat.le_of_ble_eq_true rfl) (bf_dk dd_X9_alike 20 rfl) rfl (fun r3 h => ?_)
    refine bs_icmp_ge C (bf_dk dd_X9_alike 21 rfl) (tgt := 67) rfl (fun c => ?_) (fun c => ?_)
    · replace h := h.1 c
      refine bs_iload_n C (bf_dk dd_X9_alike 40 rfl) rfl ?_
      exact bs_iret (u := S) C (bf_dk dd_X9_alike 41 rfl) rfl ⟨rfl, h⟩
    · replace h := h.2 c
      refine bs_aload_n C (bf_dk dd_X9_alike 22 rfl) rfl ?_
      refine bs_aload_n C (bf_dk dd_X9_alike 23 rfl) rfl ?_
      refine bs_iload_n C (bf_dk dd_X9_alike 24 rfl) rfl ?_
      refine bs_selfPV_l C hR (c_X9_key _ _ _ _ _ S (x1) _ h) my_X9_key m_9_178 rfl cl_9 (ge_bW9_0 _) rfl (Nat.le_of_ble_eq_true rfl) (Nat.le_of_ble_eq_true rfl) (st := [.ref 0]) (Nat.le_of_ble_eq_true rfl) (bf_dk dd_X9_alike 25 rfl) rfl (fun r5 h => ?_)
      refine bs_iload_n C (bf_dk dd_X9_alike 26 rfl) rfl ?_
      refine bs_selfPV_i C hR (c_X9_byteOf _ _ _ _ _ S (r5) (x3) _ h) my_X9_byteOf m_9_181 rfl cl_9 (ge_bW9_0 _) rfl (Nat.le_of_ble_eq_true rfl) (Nat.le_of_ble_eq_true rfl) (st := []) (Nat.le_of_ble_eq_true rfl) (bf_dk dd_X9_alike 27 rfl) rfl (fun r7 h => ?_)
      refine bs_aload_n C (bf_dk dd_X9_alike 28 rfl) rfl ?_
      refine bs_aload_n C (bf_dk dd_X9_alike 29 rfl) rfl ?_
      refine bs_iload_n C (bf_dk dd_X9_alike 30 rfl) rfl ?_
      refine bs_selfPV_l C hR (c_X9_key _ _ _ _ _ S (x2) _ h) my_X9_key m_9_178 rfl cl_9 (ge_bW9_0 _) rfl (Nat.le_of_ble_eq_true rfl) (Nat.le_of_ble_eq_true rfl) (st := [.ref 0, .int r7]) (Nat.le_of_ble_eq_true rfl) (bf_dk dd_X9_alike 31 rfl) rfl (fun r9 h => ?_)
      refine bs_iload_n C (bf_dk dd_X9_alike 32 rfl) rfl ?_
      refine bs_selfPV_i C hR (c_X9_byteOf _ _ _ _ _ S (r9) (x3) _ h) my_X9_byteOf m_9_181 rfl cl_9 (ge_bW9_0 _) rfl (Nat.le_of_ble_eq_true rfl) (Nat.le_of_ble_eq_true rfl) (st := [.int r7]) (Nat.le_of_ble_eq_true rfl) (bf_dk dd_X9_alike 33 rfl) rfl (fun r11 h => ?_)
      refine bs_icmp_ne C (bf_dk dd_X9_alike 34 rfl) (tgt := 67) rfl (fun c => ?_) (fun c => ?_)
      · replace h := h.1 c
        refine bs_iload_n C (bf_dk dd_X9_alike 40 rfl) rfl ?_
        exact bs_iret (u := S) C (bf_dk dd_X9_alike 41 rfl) rfl ⟨rfl, h⟩
      · replace h := h.2 c
        refine bs_iload_n C (bf_dk dd_X9_alike 35 rfl) rfl ?_
        refine bs_iconst C (bf_dk dd_X9_alike 36 rfl) (1 : Int32) (by decide) ?_
        refine bs_iadd C (bf_dk dd_X9_alike 37 rfl) ?_
        refine bs_istore_n C (bf_dk dd_X9_alike 38 rfl) rfl (Nat.le_of_ble_eq_true rfl) (Nat.le_of_ble_eq_true rfl) (lv2 := [some (.ref 0), some (.int x1), some (.int x2), some (.int (x3 + (1 : Int32)))]) rfl ?_
        refine bs_goto C (bf_dk dd_X9_alike 39 rfl) (tgt := 19) rfl ?_
        exact bs_weak (bf_s1 (bf_s1 (bf_s1 (bf_s1 bf_s0)))) (hB19 (x1) (x2) ((x3 + (1 : Int32))) h)
def wp_X9_alike_19 (S : bT9) (x1 : Int32) (x2 : Int32) (x3 : Int32) (Q : Int32 → Prop) : Prop := ∃ I : Nat → Int32 → Int32 → Int32 → Prop, (∃ n : Nat, I n x1 x2 x3) ∧ ∀ (n : Nat) (x1 : Int32) (x2 : Int32) (x3 : Int32), I n x1 x2 x3 → wp_X9_alike_19b S x1 x2 x3 Q (fun x1 x2 x3 => ∃ n2 : Nat, n2 < n ∧ I n2 x1 x2 x3)
theorem t_X9_alike_19 {X : bf_X} (C : bf_C X RX9 cX9_alike 4 (some .int)) (hR : bf_Rm X 1 23) (S : bT9) (x1 : Int32) (x2 : Int32) (x3 : Int32) (Q : Int32 → Prop) (h : wp_X9_alike_19 S x1 x2 x3 Q) : bf_A X (bf_Zi X bW9 (fun r u => u = S ∧ Q r)) 4 19 [some (.ref 0), some (.int x1), some (.int x2), some (.int x3)] [] (bW9 S) := by
  obtain ⟨I, ⟨n0, h0⟩, hI⟩ := h
  have key : ∀ (n : Nat) (x1 : Int32) (x2 : Int32) (x3 : Int32), I n x1 x2 x3 → bf_A X (bf_Zi X bW9 (fun r u => u = S ∧ Q r)) 4 19 [some (.ref 0), some (.int x1), some (.int x2), some (.int x3)] [] (bW9 S) := by
    intro n
    induction n using Nat.strongRecOn with
    | _ n ih =>
      intro x1 x2 x3 hi
      exact t_X9_alike_19b C hR S x1 x2 x3 Q _ (fun x1 x2 x3 hb => by obtain ⟨n2, hn, hi2⟩ := hb; exact ih n2 hn x1 x2 x3 hi2) (hI n x1 x2 x3 hi)
  exact key n0 x1 x2 x3 h0
def wp_X9_alike (S : bT9) (a1 : Int32) (a2 : Int32) (Q : Int32 → Prop) : Prop := ((a1 < 0 → (Q (0 : Int32))) ∧ (¬ a1 < 0 → (vp_in (9 : Int32) 23 ∧ ((a2 < ((b9g_now S) ((9 : Int32)).toNatClampNeg) → (wp_X9_alike_19 S (a1) (a2) ((0 : Int32)) Q)) ∧ (¬ a2 < ((b9g_now S) ((9 : Int32)).toNatClampNeg) → (Q (0 : Int32)))))))
set_option maxRecDepth 20000 in
theorem t_X9_alike {X : bf_X} (C : bf_C X RX9 cX9_alike 4 (some .int)) (hR : bf_Rm X 1 23) (S : bT9) (a1 : Int32) (a2 : Int32) (Q : Int32 → Prop) (h : wp_X9_alike S a1 a2 Q) : bf_A X (bf_Zi X bW9 (fun r u => u = S ∧ Q r)) 4 0 [some (.ref 0), some (.int a1), some (.int a2), none] [] (bW9 S) := by
  unfold wp_X9_alike at h
  refine bs_iload_n C (bf_dk dd_X9_alike 0 rfl) rfl ?_
  refine bs_if_lt C (bf_dk dd_X9_alike 1 rfl) (tgt := 15) rfl (fun c => ?_) (fun c => ?_)
  · replace h := h.1 c
    refine bs_iconst C (bf_dk dd_X9_alike 8 rfl) (0 : Int32) (by decide) ?_
    exact bs_iret (u := S) C (bf_dk dd_X9_alike 9 rfl) rfl ⟨rfl, h⟩
  · replace h := h.2 c
    refine bs_iload_n C (bf_dk dd_X9_alike 2 rfl) rfl ?_
    refine bs_aload_n C (bf_dk dd_X9_alike 3 rfl) rfl ?_
    refine bs_get C (bf_dk dd_X9_alike 4 rfl) cl_9 in_9 1 (Nat.le_of_ble_eq_true rfl) rfl f_9_7 (ge_bW9_0 S) rfl ?_
    refine bs_bipush C (bf_dk dd_X9_alike 5 rfl) (9 : Int32) (by decide) ?_
    obtain ⟨hi, h⟩ := h
    refine bs_iald C (bf_dk dd_X9_alike 6 rfl) (ge_bW9_1 S) hi ?_
    refine bs_icmp_lt C (bf_dk dd_X9_alike 7 rfl) (tgt := 17) rfl (fun c => ?_) (fun c => ?_)
    · replace h := h.1 c
      refine bs_iconst C (bf_dk dd_X9_alike 10 rfl) (0 : Int32) (by decide) ?_
      refine bs_istore_n C (bf_dk dd_X9_alike 11 rfl) rfl (Nat.le_of_ble_eq_true rfl) (Nat.le_of_ble_eq_true rfl) (lv2 := [some (.ref 0), some (.int a1), some (.int a2), some (.int (0 : Int32))]) rfl ?_
      exact bs_weak (bf_s1 (bf_s1 (bf_s1 (bf_s1 bf_s0)))) (t_X9_alike_19 C hR S (a1) (a2) ((0 : Int32)) Q h)
    · replace h := h.2 c
      refine bs_iconst C (bf_dk dd_X9_alike 8 rfl) (0 : Int32) (by decide) ?_
      exact bs_iret (u := S) C (bf_dk dd_X9_alike 9 rfl) rfl ⟨rfl, h⟩
theorem c_X9_alike (l : Launch) (dC : Nat → ClassId) (dI : Nat → Nat → Nat) (ac : Nat → ClassId) (al : Nat → Nat) (S : bT9) (a1 : Int32) (a2 : Int32) (Q : Int32 → Prop) (h : wp_X9_alike S a1 a2 Q) : bf_M l yX9_alike cX9_alike 4 (some .int) 1 23 dC dI ac al [.ref 0, .int a1, .int a2] (bW9 S) (bf_Ki dC dI ac al bW9 (fun r u => u = S ∧ Q r)) := by
  refine bf_start [some (.ref 0), some (.int a1), some (.int a2), none] (by decide) (Nat.le_of_ble_eq_true rfl) (bf_s1 (bf_s1 (bf_s1 (bf_en 1)))) ?_
  intro X hl C hR e1 e2 e3 e4
  subst e1; subst e2; subst e3; subst e4
  exact t_X9_alike C hR S a1 a2 Q h
def wp_X9_laysBeginnings_96 (S : bT9) (x1 : Int32) (t1 : Int32) (t2 : Int32) (Q : (bT9) → Prop) (B15 : Int32 → (bT9) → Prop) : Prop := (vp_in t1 64 ∧ (∀ S1 : bT9, S1 = (b9s_beginning S (upd (b9g_beginning S) (t1).toNatClampNeg t2)) → (B15 ((x1 + (1 : Int32))) S1)))
set_option maxRecDepth 20000 in
theorem t_X9_laysBeginnings_96 {X : bf_X} (C : bf_C X RX9 cX9_laysBeginnings 4 none) (hR : bf_Rm X 2 46) (S : bT9) (x1 : Int32) (t1 : Int32) (t2 : Int32) (Q : (bT9) → Prop) (B15 : Int32 → (bT9) → Prop) (hB15 : ∀ (x1 : Int32) (S : bT9), B15 x1 S → bf_A X (bf_Zv X bW9 Q) 4 15 [some (.ref 0), some (.int x1), none, none] [] (bW9 S)) (h : wp_X9_laysBeginnings_96 S x1 t1 t2 Q B15) : bf_A X (bf_Zv X bW9 Q) 4 96 [some (.ref 0), some (.int x1), none, none] [.int t2, .int t1, .ref 7] (bW9 S) := by
  unfold wp_X9_laysBeginnings_96 at h
  obtain ⟨hi, h⟩ := h
  refine bs_iast C (bf_dk dd_X9_laysBeginnings 61 rfl) (ge_bW9_7 S) hi (ar_bW9_7 S _) ?_
  refine bs_nameS bW9 (fun S1 eS1 => ?_)
  replace h := h S1 eS1
  refine bs_iinc C (bf_dk dd_X9_laysBeginnings 62 rfl) (x1 + (1 : Int32)) rfl rfl (Nat.le_of_ble_eq_true rfl) (Nat.le_of_ble_eq_true rfl) (lv2 := [some (.ref 0), some (.int (x1 + (1 : Int32))), none, none]) rfl ?_
  refine bs_goto C (bf_dk dd_X9_laysBeginnings 63 rfl) (tgt := 15) rfl ?_
  exact bs_weak (bf_s1 (bf_s1 (bf_sn (bf_sn bf_s0)))) (hB15 ((x1 + (1 : Int32))) S1 h)
def wp_X9_laysBeginnings_59 (S : bT9) (x1 : Int32) (t1 : Int32) (t2 : Int32) (Q : (bT9) → Prop) (B15 : Int32 → (bT9) → Prop) : Prop := (vp_in t1 64 ∧ (∀ S2 : bT9, S2 = (b9s_common S (upd (b9g_common S) (t1).toNatClampNeg t2)) → (vp_in x1 64 ∧ (wp_X9_lengthOf S2 (x1) (fun r3 => ((¬ ((b9g_common S2) (x1).toNatClampNeg) = r3 → (vp_in x1 64 ∧ (wp_X9_laysBeginnings_96 S2 (x1) (x1) ((((b9g_common S2) (x1).toNatClampNeg) + (1 : Int32))) Q B15))) ∧ (((b9g_common S2) (x1).toNatClampNeg) = r3 → (vp_in x1 64 ∧ (wp_X9_laysBeginnings_96 S2 (x1) (x1) (((b9g_common S2) (x1).toNatClampNeg)) Q B15)))))))))
set_option maxRecDepth 20000 in
theorem t_X9_laysBeginnings_59 {X : bf_X} (C : bf_C X RX9 cX9_laysBeginnings 4 none) (hR : bf_Rm X 2 46) (S : bT9) (x1 : Int32) (t1 : Int32) (t2 : Int32) (Q : (bT9) → Prop) (B15 : Int32 → (bT9) → Prop) (hB15 : ∀ (x1 : Int32) (S : bT9), B15 x1 S → bf_A X (bf_Zv X bW9 Q) 4 15 [some (.ref 0), some (.int x1), none, none] [] (bW9 S)) (h : wp_X9_laysBeginnings_59 S x1 t1 t2 Q B15) : bf_A X (bf_Zv X bW9 Q) 4 59 [some (.ref 0), some (.int x1), none, none] [.int t2, .int t1, .ref 6] (bW9 S) := by
  unfold wp_X9_laysBeginnings_59 at h
  obtain ⟨hi, h⟩ := h
  refine bs_iast C (bf_dk dd_X9_laysBeginnings 38 rfl) (ge_bW9_6 S) hi (ar_bW9_6 S _) ?_
  refine bs_nameS bW9 (fun S2 eS2 => ?_)
  replace h := h S2 eS2
  refine bs_aload_n C (bf_dk dd_X9_laysBeginnings 39 rfl) rfl ?_
  refine bs_get C (bf_dk dd_X9_laysBeginnings 40 rfl) cl_9 in_9 11 (Nat.le_of_ble_eq_true rfl) rfl f_9_29 (ge_bW9_0 S2) rfl ?_
  refine bs_iload_n C (bf_dk dd_X9_laysBeginnings 41 rfl) rfl ?_
  refine bs_aload_n C (bf_dk dd_X9_laysBeginnings 42 rfl) rfl ?_
  refine bs_get C (bf_dk dd_X9_laysBeginnings 43 rfl) cl_9 in_9 10 (Nat.le_of_ble_eq_true rfl) rfl f_9_26 (ge_bW9_0 S2) rfl ?_
  refine bs_iload_n C (bf_dk dd_X9_laysBeginnings 44 rfl) rfl ?_
  obtain ⟨hi, h⟩ := h
  refine bs_iald C (bf_dk dd_X9_laysBeginnings 45 rfl) (ge_bW9_6 S2) hi ?_
  refine bs_aload_n C (bf_dk dd_X9_laysBeginnings 46 rfl) rfl ?_
  refine bs_iload_n C (bf_dk dd_X9_laysBeginnings 47 rfl) rfl ?_
  refine bs_selfPV_i C hR (c_X9_lengthOf _ _ _ _ _ S2 (x1) _ h) my_X9_lengthOf m_9_175 rfl cl_9 (ge_bW9_0 _) rfl (Nat.le_of_ble_eq_true rfl) (Nat.le_of_ble_eq_true rfl) (st := [.int ((b9g_common S2) (x1).toNatClampNeg), .int x1, .ref 7]) (Nat.le_of_ble_eq_true rfl) (bf_dk dd_X9_laysBeginnings 48 rfl) rfl (fun r3 h => ?_)
  refine bs_icmp_ne C (bf_dk dd_X9_laysBeginnings 49 rfl) (tgt := 88) rfl (fun c => ?_) (fun c => ?_)
  · replace h := h.1 c
    refine bs_aload_n C (bf_dk dd_X9_laysBeginnings 55 rfl) rfl ?_
    refine bs_get C (bf_dk dd_X9_laysBeginnings 56 rfl) cl_9 in_9 10 (Nat.le_of_ble_eq_true rfl) rfl f_9_26 (ge_bW9_0 S2) rfl ?_
    refine bs_iload_n C (bf_dk dd_X9_laysBeginnings 57 rfl) rfl ?_
    obtain ⟨hi, h⟩ := h
    refine bs_iald C (bf_dk dd_X9_laysBeginnings 58 rfl) (ge_bW9_6 S2) hi ?_
    refine bs_iconst C (bf_dk dd_X9_laysBeginnings 59 rfl) (1 : Int32) (by decide) ?_
    refine bs_iadd C (bf_dk dd_X9_laysBeginnings 60 rfl) ?_
    exact bs_weak (bf_s1 (bf_s1 (bf_sn (bf_sn bf_s0)))) (t_X9_laysBeginnings_96 C hR S2 (x1) (x1) ((((b9g_common S2) (x1).toNatClampNeg) + (1 : Int32))) Q B15 hB15 h)
  · replace h := h.2 c
    refine bs_aload_n C (bf_dk dd_X9_laysBeginnings 50 rfl) rfl ?_
    refine bs_get C (bf_dk dd_X9_laysBeginnings 51 rfl) cl_9 in_9 10 (Nat.le_of_ble_eq_true rfl) rfl f_9_26 (ge_bW9_0 S2) rfl ?_
    refine bs_iload_n C (bf_dk dd_X9_laysBeginnings 52 rfl) rfl ?_
    obtain ⟨hi, h⟩ := h
    refine bs_iald C (bf_dk dd_X9_laysBeginnings 53 rfl) (ge_bW9_6 S2) hi ?_
    refine bs_goto C (bf_dk dd_X9_laysBeginnings 54 rfl) (tgt := 96) rfl ?_
    exact bs_weak (bf_s1 (bf_s1 (bf_sn (bf_sn bf_s0)))) (t_X9_laysBeginnings_96 C hR S2 (x1) (x1) (((b9g_common S2) (x1).toNatClampNeg)) Q B15 hB15 h)
def wp_X9_laysBeginnings_15b (S : bT9) (x1 : Int32) (Q : (bT9) → Prop) (B15 : Int32 → (bT9) → Prop) : Prop := (vp_in (9 : Int32) 23 ∧ ((((b9g_now S) ((9 : Int32)).toNatClampNeg) ≤ x1 → (Q S)) ∧ (¬ ((b9g_now S) ((9 : Int32)).toNatClampNeg) ≤ x1 → (wp_X9_alike S ((x1 - (1 : Int32))) (x1) (fun r5 => (wp_X9_alike S (x1) ((x1 + (1 : Int32))) (fun r7 => ((r5 ≤ r7 → (wp_X9_laysBeginnings_59 S (x1) (x1) (r7) Q B15)) ∧ (¬ r5 ≤ r7 → (wp_X9_laysBeginnings_59 S (x1) (x1) (r5) Q B15))))))))))
set_option maxRecDepth 20000 in
theorem t_X9_laysBeginnings_15b {X : bf_X} (C : bf_C X RX9 cX9_laysBeginnings 4 none) (hR : bf_Rm X 2 46) (S : bT9) (x1 : Int32) (Q : (bT9) → Prop) (B15 : Int32 → (bT9) → Prop) (hB15 : ∀ (x1 : Int32) (S : bT9), B15 x1 S → bf_A X (bf_Zv X bW9 Q) 4 15 [some (.ref 0), some (.int x1), none, none] [] (bW9 S)) (h : wp_X9_laysBeginnings_15b S x1 Q B15) : bf_A X (bf_Zv X bW9 Q) 4 15 [some (.ref 0), some (.int x1), none, none] [] (bW9 S) := by
  unfold wp_X9_laysBeginnings_15b at h
  refine bs_iload_n C (bf_dk dd_X9_laysBeginnings 9 rfl) rfl ?_
  refine bs_aload_n C (bf_dk dd_X9_laysBeginnings 10 rfl) rfl ?_
  refine bs_get C (bf_dk dd_X9_laysBeginnings 11 rfl) cl_9 in_9 1 (Nat.le_of_ble_eq_true rfl) rfl f_9_7 (ge_bW9_0 S) rfl ?_
  refine bs_bipush C (bf_dk dd_X9_laysBeginnings 12 rfl) (9 : Int32) (by decide) ?_
  obtain ⟨hi, h⟩ := h
  refine bs_iald C (bf_dk dd_X9_laysBeginnings 13 rfl) (ge_bW9_1 S) hi ?_
  refine bs_icmp_ge C (bf_dk dd_X9_laysBeginnings 14 rfl) (tgt := 103) rfl (fun c => ?_) (fun c => ?_)
  · replace h := h.1 c
    exact bs_vret (u := S) C (bf_dk dd_X9_laysBeginnings 64 rfl) rfl h
  · replace h := h.2 c
    refine bs_aload_n C (bf_dk dd_X9_laysBeginnings 15 rfl) rfl ?_
    refine bs_iload_n C (bf_dk dd_X9_laysBeginnings 16 rfl) rfl ?_
    refine bs_iconst C (bf_dk dd_X9_laysBeginnings 17 rfl) (1 : Int32) (by decide) ?_
    refine bs_isub C (bf_dk dd_X9_laysBeginnings 18 rfl) ?_
    refine bs_iload_n C (bf_dk dd_X9_laysBeginnings 19 rfl) rfl ?_
    refine bs_selfPV_i C hR (c_X9_alike _ _ _ _ _ S ((x1 - (1 : Int32))) (x1) _ h) my_X9_alike m_9_188 rfl cl_9 (ge_bW9_0 _) rfl (Nat.le_of_ble_eq_true rfl) (Nat.le_of_ble_eq_true rfl) (st := []) (Nat.le_of_ble_eq_true rfl) (bf_dk dd_X9_laysBeginnings 20 rfl) rfl (fun r5 h => ?_)
    refine bs_istore_n C (bf_dk dd_X9_laysBeginnings 21 rfl) rfl (Nat.le_of_ble_eq_true rfl) (Nat.le_of_ble_eq_true rfl) (lv2 := [some (.ref 0), some (.int x1), some (.int r5), none]) rfl ?_
    refine bs_aload_n C (bf_dk dd_X9_laysBeginnings 22 rfl) rfl ?_
    refine bs_iload_n C (bf_dk dd_X9_laysBeginnings 23 rfl) rfl ?_
    refine bs_iload_n C (bf_dk dd_X9_laysBeginnings 24 rfl) rfl ?_
    refine bs_iconst C (bf_dk dd_X9_laysBeginnings 25 rfl) (1 : Int32) (by decide) ?_
    refine bs_iadd C (bf_dk dd_X9_laysBeginnings 26 rfl) ?_
    refine bs_selfPV_i C hR (c_X9_alike _ _ _ _ _ S (x1) ((x1 + (1 : Int32))) _ h) my_X9_alike m_9_188 rfl cl_9 (ge_bW9_0 _) rfl (Nat.le_of_ble_eq_true rfl) (Nat.le_of_ble_eq_true rfl) (st := []) (Nat.le_of_ble_eq_true rfl) (bf_dk dd_X9_laysBeginnings 27 rfl) rfl (fun r7 h => ?_)
    refine bs_istore_n C (bf_dk dd_X9_laysBeginnings 28 rfl) rfl (Nat.le_of_ble_eq_true rfl) (Nat.le_of_ble_eq_true rfl) (lv2 := [some (.ref 0), some (.int x1), some (.int r5), some (.int r7)]) rfl ?_
    refine bs_aload_n C (bf_dk dd_X9_laysBeginnings 29 rfl) rfl ?_
    refine bs_get C (bf_dk dd_X9_laysBeginnings 30 rfl) cl_9 in_9 10 (Nat.le_of_ble_eq_true rfl) rfl f_9_26 (ge_bW9_0 S) rfl ?_
    refine bs_iload_n C (bf_dk dd_X9_laysBeginnings 31 rfl) rfl ?_
    refine bs_iload_n C (bf_dk dd_X9_laysBeginnings 32 rfl) rfl ?_
    refine bs_iload_n C (bf_dk dd_X9_laysBeginnings 33 rfl) rfl ?_
    refine bs_icmp_le C (bf_dk dd_X9_laysBeginnings 34 rfl) (tgt := 58) rfl (fun c => ?_) (fun c => ?_)
    · replace h := h.1 c
      refine bs_iload_n C (bf_dk dd_X9_laysBeginnings 37 rfl) rfl ?_
      exact bs_weak (bf_s1 (bf_s1 (bf_sn (bf_sn bf_s0)))) (t_X9_laysBeginnings_59 C hR S (x1) (x1) (r7) Q B15 hB15 h)
    · replace h := h.2 c
      refine bs_iload_n C (bf_dk dd_X9_laysBeginnings 35 rfl) rfl ?_
      refine bs_goto C (bf_dk dd_X9_laysBeginnings 36 rfl) (tgt := 59) rfl ?_
      exact bs_weak (bf_s1 (bf_s1 (bf_sn (bf_sn bf_s0)))) (t_X9_laysBeginnings_59 C hR S (x1) (x1) (r5) Q B15 hB15 h)
def wp_X9_laysBeginnings_15 (S : bT9) (x1 : Int32) (Q : (bT9) → Prop) : Prop := ∃ I : Nat → Int32 → (bT9) → Prop, (∃ n : Nat, I n x1 S) ∧ ∀ (n : Nat) (x1 : Int32) (S : bT9), I n x1 S → wp_X9_laysBeginnings_15b S x1 Q (fun x1 S => ∃ n2 : Nat, n2 < n ∧ I n2 x1 S)
theorem t_X9_laysBeginnings_15 {X : bf_X} (C : bf_C X RX9 cX9_laysBeginnings 4 none) (hR : bf_Rm X 2 46) (S : bT9) (x1 : Int32) (Q : (bT9) → Prop) (h : wp_X9_laysBeginnings_15 S x1 Q) : bf_A X (bf_Zv X bW9 Q) 4 15 [some (.ref 0), some (.int x1), none, none] [] (bW9 S) := by
  obtain ⟨I, ⟨n0, h0⟩, hI⟩ := h
  have key : ∀ (n : Nat) (x1 : Int32) (S : bT9), I n x1 S → bf_A X (bf_Zv X bW9 Q) 4 15 [some (.ref 0), some (.int x1), none, none] [] (bW9 S) := by
    intro n
    induction n using Nat.strongRecOn with
    | _ n ih =>
      intro x1 S hi
      exact t_X9_laysBeginnings_15b C hR S x1 Q _ (fun x1 S hb => by obtain ⟨n2, hn, hi2⟩ := hb; exact ih n2 hn x1 S hi2) (hI n x1 S hi)
  exact key n0 x1 S h0
def wp_X9_laysBeginnings (S : bT9) (Q : (bT9) → Prop) : Prop := (((b9g_isLaid S) = 0 → (∀ S9 : bT9, S9 = (b9s_isLaid S (1 : Int32)) → (wp_X9_laysBeginnings_15 S9 ((0 : Int32)) Q))) ∧ (¬ (b9g_isLaid S) = 0 → (Q S)))
set_option maxRecDepth 20000 in
theorem t_X9_laysBeginnings {X : bf_X} (C : bf_C X RX9 cX9_laysBeginnings 4 none) (hR : bf_Rm X 2 46) (S : bT9) (Q : (bT9) → Prop) (h : wp_X9_laysBeginnings S Q) : bf_A X (bf_Zv X bW9 Q) 4 0 [some (.ref 0), none, none, none] [] (bW9 S) := by
  unfold wp_X9_laysBeginnings at h
  refine bs_aload_n C (bf_dk dd_X9_laysBeginnings 0 rfl) rfl ?_
  refine bs_get C (bf_dk dd_X9_laysBeginnings 1 rfl) cl_9 in_9 12 (Nat.le_of_ble_eq_true rfl) rfl f_9_184 (ge_bW9_0 S) rfl ?_
  refine bs_if_eq C (bf_dk dd_X9_laysBeginnings 2 rfl) (tgt := 8) rfl (fun c => ?_) (fun c => ?_)
  · replace h := h.1 c
    refine bs_aload_n C (bf_dk dd_X9_laysBeginnings 4 rfl) rfl ?_
    refine bs_iconst C (bf_dk dd_X9_laysBeginnings 5 rfl) (1 : Int32) (by decide) ?_
    refine bs_put C (bf_dk dd_X9_laysBeginnings 6 rfl) tyX9_ok nmX9 cl_9 in_9 12 (Nat.le_of_ble_eq_true rfl) rfl f_9_184 rfl (ge_bW9_0 S) (Nat.le_of_ble_eq_true rfl) rfl rfl (pu_bW9_0_12 S (1 : Int32)) ?_
    refine bs_nameS bW9 (fun S9 eS9 => ?_)
    replace h := h S9 eS9
    refine bs_iconst C (bf_dk dd_X9_laysBeginnings 7 rfl) (0 : Int32) (by decide) ?_
    refine bs_istore_n C (bf_dk dd_X9_laysBeginnings 8 rfl) rfl (Nat.le_of_ble_eq_true rfl) (Nat.le_of_ble_eq_true rfl) (lv2 := [some (.ref 0), some (.int (0 : Int32)), none, none]) rfl ?_
    exact bs_weak (bf_s1 (bf_s1 (bf_sn (bf_sn bf_s0)))) (t_X9_laysBeginnings_15 C hR S9 ((0 : Int32)) Q h)
  · replace h := h.2 c
    exact bs_vret (u := S) C (bf_dk dd_X9_laysBeginnings 3 rfl) rfl h
theorem c_X9_laysBeginnings (l : Launch) (dC : Nat → ClassId) (dI : Nat → Nat → Nat) (ac : Nat → ClassId) (al : Nat → Nat) (S : bT9) (Q : (bT9) → Prop) (h : wp_X9_laysBeginnings S Q) : bf_M l yX9_laysBeginnings cX9_laysBeginnings 4 none 2 46 dC dI ac al [.ref 0] (bW9 S) (bf_Kv dC dI ac al bW9 Q) := by
  refine bf_start [some (.ref 0), none, none, none] (by decide) (Nat.le_of_ble_eq_true rfl) (bf_s1 (bf_en 3)) ?_
  intro X hl C hR e1 e2 e3 e4
  subst e1; subst e2; subst e3; subst e4
  exact t_X9_laysBeginnings C hR S Q h
def wp_X9_leaves (S : bT9) (Q : Int32 → (bT9) → Prop) : Prop := (wp_X9_laysBeginnings S (fun u2 => (vp_in (9 : Int32) 23 ∧ (Q ((b9g_now u2) ((9 : Int32)).toNatClampNeg) u2))))
set_option maxRecDepth 20000 in
theorem t_X9_leaves {X : bf_X} (C : bf_C X RX9 cX9_leaves 1 (some .int)) (hR : bf_Rm X 3 69) (S : bT9) (Q : Int32 → (bT9) → Prop) (h : wp_X9_leaves S Q) : bf_A X (bf_Zi X bW9 Q) 1 0 [some (.ref 0)] [] (bW9 S) := by
  unfold wp_X9_leaves at h
  refine bs_aload_n C (bf_dk dd_X9_leaves 0 rfl) rfl ?_
  refine bs_selfV_v C hR (c_X9_laysBeginnings _ _ _ _ _ S _ h) my_X9_laysBeginnings m_9_172 rfl cl_9 (ge_bW9_0 _) rfl (Nat.le_of_ble_eq_true rfl) (Nat.le_of_ble_eq_true rfl) (st := []) (Nat.le_of_ble_eq_true rfl) (bf_dk dd_X9_leaves 1 rfl) rfl (len := 21) (fun _ => rfl) (fun u2 h => ?_)
  refine bs_aload_n C (bf_dk dd_X9_leaves 2 rfl) rfl ?_
  refine bs_get C (bf_dk dd_X9_leaves 3 rfl) cl_9 in_9 1 (Nat.le_of_ble_eq_true rfl) rfl f_9_7 (ge_bW9_0 u2) rfl ?_
  refine bs_bipush C (bf_dk dd_X9_leaves 4 rfl) (9 : Int32) (by decide) ?_
  obtain ⟨hi, h⟩ := h
  refine bs_iald C (bf_dk dd_X9_leaves 5 rfl) (ge_bW9_1 u2) hi ?_
  exact bs_iret (u := u2) C (bf_dk dd_X9_leaves 6 rfl) rfl h
theorem c_X9_leaves (l : Launch) (dC : Nat → ClassId) (dI : Nat → Nat → Nat) (ac : Nat → ClassId) (al : Nat → Nat) (S : bT9) (Q : Int32 → (bT9) → Prop) (h : wp_X9_leaves S Q) : bf_M l yX9_leaves cX9_leaves 1 (some .int) 3 69 dC dI ac al [.ref 0] (bW9 S) (bf_Ki dC dI ac al bW9 Q) := by
  refine bf_start [some (.ref 0)] (by decide) (Nat.le_of_ble_eq_true rfl) (bf_s1 bf_s0) ?_
  intro X hl C hR e1 e2 e3 e4
  subst e1; subst e2; subst e3; subst e4
  exact t_X9_leaves C hR S Q h
def wp_X9_isEnded (S : bT9) (a1 : Int32) (Q : Int32 → Prop) : Prop := (vp_in a1 64 ∧ (wp_X9_lengthOf S (a1) (fun r1 => ((¬ ((b9g_common S) (a1).toNatClampNeg) = r1 → (bf_bool (0 : Int32) ∧ Q (0 : Int32))) ∧ (((b9g_common S) (a1).toNatClampNeg) = r1 → (bf_bool (1 : Int32) ∧ Q (1 : Int32)))))))
set_option maxRecDepth 20000 in
theorem t_X9_isEnded {X : bf_X} (C : bf_C X RX9 cX9_isEnded 2 (some .boolean)) (hR : bf_Rm X 1 21) (S : bT9) (a1 : Int32) (Q : Int32 → Prop) (h : wp_X9_isEnded S a1 Q) : bf_A X (bf_Zi X bW9 (fun r u => u = S ∧ Q r)) 2 0 [some (.ref 0), some (.int a1)] [] (bW9 S) := by
  unfold wp_X9_isEnded at h
  refine bs_aload_n C (bf_dk dd_X9_isEnded 0 rfl) rfl ?_
  refine bs_get C (bf_dk dd_X9_isEnded 1 rfl) cl_9 in_9 10 (Nat.le_of_ble_eq_true rfl) rfl f_9_26 (ge_bW9_0 S) rfl ?_
  refine bs_iload_n C (bf_dk dd_X9_isEnded 2 rfl) rfl ?_
  obtain ⟨hi, h⟩ := h
  refine bs_iald C (bf_dk dd_X9_isEnded 3 rfl) (ge_bW9_6 S) hi ?_
  refine bs_aload_n C (bf_dk dd_X9_isEnded 4 rfl) rfl ?_
  refine bs_iload_n C (bf_dk dd_X9_isEnded 5 rfl) rfl ?_
  refine bs_selfPV_i C hR (c_X9_lengthOf _ _ _ _ _ S (a1) _ h) my_X9_lengthOf m_9_175 rfl cl_9 (ge_bW9_0 _) rfl (Nat.le_of_ble_eq_true rfl) (Nat.le_of_ble_eq_true rfl) (st := [.int ((b9g_common S) (a1).toNatClampNeg)]) (Nat.le_of_ble_eq_true rfl) (bf_dk dd_X9_isEnded 6 rfl) rfl (fun r1 h => ?_)
  refine bs_icmp_ne C (bf_dk dd_X9_isEnded 7 rfl) (tgt := 18) rfl (fun c => ?_) (fun c => ?_)
  · replace h := h.1 c
    refine bs_iconst C (bf_dk dd_X9_isEnded 10 rfl) (0 : Int32) (by decide) ?_
    obtain ⟨hi, h⟩ := h
    exact bs_zret (u := S) C (bf_dk dd_X9_isEnded 11 rfl) hi rfl ⟨rfl, h⟩
  · replace h := h.2 c
    refine bs_iconst C (bf_dk dd_X9_isEnded 8 rfl) (1 : Int32) (by decide) ?_
    refine bs_goto C (bf_dk dd_X9_isEnded 9 rfl) (tgt := 19) rfl ?_
    obtain ⟨hi, h⟩ := h
    exact bs_zret (u := S) C (bf_dk dd_X9_isEnded 11 rfl) hi rfl ⟨rfl, h⟩
theorem c_X9_isEnded (l : Launch) (dC : Nat → ClassId) (dI : Nat → Nat → Nat) (ac : Nat → ClassId) (al : Nat → Nat) (S : bT9) (a1 : Int32) (Q : Int32 → Prop) (h : wp_X9_isEnded S a1 Q) : bf_M l yX9_isEnded cX9_isEnded 2 (some .boolean) 1 21 dC dI ac al [.ref 0, .int a1] (bW9 S) (bf_Ki dC dI ac al bW9 (fun r u => u = S ∧ Q r)) := by
  refine bf_start [some (.ref 0), some (.int a1)] (by decide) (Nat.le_of_ble_eq_true rfl) (bf_s1 (bf_s1 bf_s0)) ?_
  intro X hl C hR e1 e2 e3 e4
  subst e1; subst e2; subst e3; subst e4
  exact t_X9_isEnded C hR S a1 Q h
def wp_X9_build_7b (S : bT9) (x1 : Int32) (Q : Int32 → (bT9) → Prop) (B7 : Int32 → (bT9) → Prop) : Prop := (vp_in (8 : Int32) 23 ∧ ((((b9g_now S) ((8 : Int32)).toNatClampNeg) ≤ x1 → (vp_in (8 : Int32) 23 ∧ (vp_in (9 : Int32) 23 ∧ (∀ S1 : bT9, S1 = (b9s_now S (upd (b9g_now S) ((9 : Int32)).toNatClampNeg ((b9g_now S) ((8 : Int32)).toNatClampNeg))) → (wp_X9_settingOf S1 ((0 : Int32)) (fun r2 => (vp_in (11 : Int32) 23 ∧ (∀ S4 : bT9, S4 = (b9s_now S1 (upd (b9g_now S1) ((11 : Int32)).toNatClampNeg r2)) → (wp_X9_settingOf S4 ((1 : Int32)) (fun r5 => (vp_in (12 : Int32) 23 ∧ (∀ S7 : bT9, S7 = (b9s_now S4 (upd (b9g_now S4) ((12 : Int32)).toNatClampNeg r5)) → (wp_X9_settingOf S7 ((2 : Int32)) (fun r8 => (vp_in (13 : Int32) 23 ∧ (∀ S10 : bT9, S10 = (b9s_now S7 (upd (b9g_now S7) ((13 : Int32)).toNatClampNeg (r8 + (1 : Int32)))) → (wp_X9_settingOf S10 ((3 : Int32)) (fun r11 => (vp_in (14 : Int32) 23 ∧ (∀ S13 : bT9, S13 = (b9s_now S10 (upd (b9g_now S10) ((14 : Int32)).toNatClampNeg r11)) → (vp_in (6 : Int32) 23 ∧ (vp_in (15 : Int32) 23 ∧ (∀ S14 : bT9, S14 = (b9s_now S13 (upd (b9g_now S13) ((15 : Int32)).toNatClampNeg ((b9g_now S13) ((6 : Int32)).toNatClampNeg))) → (vp_in (5 : Int32) 23 ∧ (vp_in (16 : Int32) 23 ∧ (∀ S15 : bT9, S15 = (b9s_now S14 (upd (b9g_now S14) ((16 : Int32)).toNatClampNeg ((b9g_now S14) ((5 : Int32)).toNatClampNeg))) → (∀ S16 : bT9, S16 = (b9s_isLaid S15 (0 : Int32)) → (∀ S17 : bT9, S17 = (b9s_areNodesLaid S16 (0 : Int32)) → (vp_in (9 : Int32) 23 ∧ (Q ((b9g_now S17) ((9 : Int32)).toNatClampNeg) S17)))))))))))))))))))))))))))))) ∧ (¬ ((b9g_now S) ((8 : Int32)).toNatClampNeg) ≤ x1 → (vp_in x1 144 ∧ (vp_in ((64 : Int32) + x1) 144 ∧ (∀ S18 : bT9, S18 = (b9s_keys S (vp_updL (b9g_keys S) (((64 : Int32) + x1)).toNatClampNeg ((b9g_keys S) (x1).toNatClampNeg))) → (vp_in x1 144 ∧ (vp_in ((64 : Int32) + x1) 144 ∧ (∀ S19 : bT9, S19 = (b9s_lengths S18 (upd (b9g_lengths S18) (((64 : Int32) + x1)).toNatClampNeg ((b9g_lengths S18) (x1).toNatClampNeg))) → (B7 ((x1 + (1 : Int32))) S19))))))))))
set_option maxRecDepth 20000 in
theorem t_X9_build_7b {X : bf_X} (C : bf_C X RX9 cX9_build 2 (some .int)) (hR : bf_Rm X 2 42) (S : bT9) (x1 : Int32) (Q : Int32 → (bT9) → Prop) (B7 : Int32 → (bT9) → Prop) (hB7 : ∀ (x1 : Int32) (S : bT9), B7 x1 S → bf_A X (bf_Zi X bW9 Q) 2 7 [some (.ref 0), some (.int x1)] [] (bW9 S)) (h : wp_X9_build_7b S x1 Q B7) : bf_A X (bf_Zi X bW9 Q) 2 7 [some (.ref 0), some (.int x1)] [] (bW9 S) := by
  unfold wp_X9_build_7b at h
  refine bs_iload_n C (bf_dk dd_X9_build 5 rfl) rfl ?_
  refine bs_aload_n C (bf_dk dd_X9_build 6 rfl) rfl ?_
  refine bs_get C (bf_dk dd_X9_build 7 rfl) cl_9 in_9 1 (Nat.le_of_ble_eq_true rfl) rfl f_9_7 (ge_bW9_0 S) rfl ?_
  refine bs_bipush C (bf_dk dd_X9_build 8 rfl) (8 : Int32) (by decide) ?_
  obtain ⟨hi, h⟩ := h
  refine bs_iald C (bf_dk dd_X9_build 9 rfl) (ge_bW9_1 S) hi ?_
  refine bs_icmp_ge C (bf_dk dd_X9_build 10 rfl) (tgt := 54) rfl (fun c => ?_) (fun c => ?_)
  · replace h := h.1 c
    refine bs_aload_n C (bf_dk dd_X9_build 33 rfl) rfl ?_
    refine bs_get C (bf_dk dd_X9_build 34 rfl) cl_9 in_9 1 (Nat.le_of_ble_eq_true rfl) rfl f_9_7 (ge_bW9_0 S) rfl ?_
    refine bs_bipush C (bf_dk dd_X9_build 35 rfl) (9 : Int32) (by decide) ?_
    refine bs_aload_n C (bf_dk dd_X9_build 36 rfl) rfl ?_
    refine bs_get C (bf_dk dd_X9_build 37 rfl) cl_9 in_9 1 (Nat.le_of_ble_eq_true rfl) rfl f_9_7 (ge_bW9_0 S) rfl ?_
    refine bs_bipush C (bf_dk dd_X9_build 38 rfl) (8 : Int32) (by decide) ?_
    obtain ⟨hi, h⟩ := h
    refine bs_iald C (bf_dk dd_X9_build 39 rfl) (ge_bW9_1 S) hi ?_
    obtain ⟨hi, h⟩ := h
    refine bs_iast C (bf_dk dd_X9_build 40 rfl) (ge_bW9_1 S) hi (ar_bW9_1 S _) ?_
    refine bs_nameS bW9 (fun S1 eS1 => ?_)
    replace h := h S1 eS1
    refine bs_aload_n C (bf_dk dd_X9_build 41 rfl) rfl ?_
    refine bs_get C (bf_dk dd_X9_build 42 rfl) cl_9 in_9 1 (Nat.le_of_ble_eq_true rfl) rfl f_9_7 (ge_bW9_0 S1) rfl ?_
    refine bs_bipush C (bf_dk dd_X9_build 43 rfl) (11 : Int32) (by decide) ?_
    refine bs_aload_n C (bf_dk dd_X9_build 44 rfl) rfl ?_
    refine bs_iconst C (bf_dk dd_X9_build 45 rfl) (0 : Int32) (by decide) ?_
    refine bs_selfPV_i C hR (c_X9_settingOf _ _ _ _ _ S1 ((0 : Int32)) _ h) my_X9_settingOf m_9_139 rfl cl_9 (ge_bW9_0 _) rfl (Nat.le_of_ble_eq_true rfl) (Nat.le_of_ble_eq_true rfl) (st := [.int (11 : Int32), .ref 1]) (Nat.le_of_ble_eq_true rfl) (bf_dk dd_X9_build 46 rfl) rfl (fun r2 h => ?_)
    obtain ⟨hi, h⟩ := h
    refine bs_iast C (bf_dk dd_X9_build 47 rfl) (ge_bW9_1 S1) hi (ar_bW9_1 S1 _) ?_
    refine bs_nameS bW9 (fun S4 eS4 => ?_)
    replace h := h S4 eS4
    refine bs_aload_n C (bf_dk dd_X9_build 48 rfl) rfl ?_
    refine bs_get C (bf_dk dd_X9_build 49 rfl) cl_9 in_9 1 (Nat.le_of_ble_eq_true rfl) rfl f_9_7 (ge_bW9_0 S4) rfl ?_
    refine bs_bipush C (bf_dk dd_X9_build 50 rfl) (12 : Int32) (by decide) ?_
    refine bs_aload_n C (bf_dk dd_X9_build 51 rfl) rfl ?_
    refine bs_iconst C (bf_dk dd_X9_build 52 rfl) (1 : Int32) (by decide) ?_
    refine bs_selfPV_i C hR (c_X9_settingOf _ _ _ _ _ S4 ((1 : Int32)) _ h) my_X9_settingOf m_9_139 rfl cl_9 (ge_bW9_0 _) rfl (Nat.le_of_ble_eq_true rfl) (Nat.le_of_ble_eq_true rfl) (st := [.int (12 : Int32), .ref 1]) (Nat.le_of_ble_eq_true rfl) (bf_dk dd_X9_build 53 rfl) rfl (fun r5 h => ?_)
    obtain ⟨hi, h⟩ := h
    refine bs_iast C (bf_dk dd_X9_build 54 rfl) (ge_bW9_1 S4) hi (ar_bW9_1 S4 _) ?_
    refine bs_nameS bW9 (fun S7 eS7 => ?_)
    replace h := h S7 eS7
    refine bs_aload_n C (bf_dk dd_X9_build 55 rfl) rfl ?_
    refine bs_get C (bf_dk dd_X9_build 56 rfl) cl_9 in_9 1 (Nat.le_of_ble_eq_true rfl) rfl f_9_7 (ge_bW9_0 S7) rfl ?_
    refine bs_bipush C (bf_dk dd_X9_build 57 rfl) (13 : Int32) (by decide) ?_
    refine bs_aload_n C (bf_dk dd_X9_build 58 rfl) rfl ?_
    refine bs_iconst C (bf_dk dd_X9_build 59 rfl) (2 : Int32) (by decide) ?_
    refine bs_selfPV_i C hR (c_X9_settingOf _ _ _ _ _ S7 ((2 : Int32)) _ h) my_X9_settingOf m_9_139 rfl cl_9 (ge_bW9_0 _) rfl (Nat.le_of_ble_eq_true rfl) (Nat.le_of_ble_eq_true rfl) (st := [.int (13 : Int32), .ref 1]) (Nat.le_of_ble_eq_true rfl) (bf_dk dd_X9_build 60 rfl) rfl (fun r8 h => ?_)
    refine bs_iconst C (bf_dk dd_X9_build 61 rfl) (1 : Int32) (by decide) ?_
    refine bs_iadd C (bf_dk dd_X9_build 62 rfl) ?_
    obtain ⟨hi, h⟩ := h
    refine bs_iast C (bf_dk dd_X9_build 63 rfl) (ge_bW9_1 S7) hi (ar_bW9_1 S7 _) ?_
    refine bs_nameS bW9 (fun S10 eS10 => ?_)
    replace h := h S10 eS10
    refine bs_aload_n C (bf_dk dd_X9_build 64 rfl) rfl ?_
    refine bs_get C (bf_dk dd_X9_build 65 rfl) cl_9 in_9 1 (Nat.le_of_ble_eq_true rfl) rfl f_9_7 (ge_bW9_0 S10) rfl ?_
    refine bs_bipush C (bf_dk dd_X9_build 66 rfl) (14 : Int32) (by decide) ?_
    refine bs_aload_n C (bf_dk dd_X9_build 67 rfl) rfl ?_
    refine bs_iconst C (bf_dk dd_X9_build 68 rfl) (3 : Int32) (by decide) ?_
    refine bs_selfPV_i C hR (c_X9_settingOf _ _ _ _ _ S10 ((3 : Int32)) _ h) my_X9_settingOf m_9_139 rfl cl_9 (ge_bW9_0 _) rfl (Nat.le_of_ble_eq_true rfl) (Nat.le_of_ble_eq_true rfl) (st := [.int (14 : Int32), .ref 1]) (Nat.le_of_ble_eq_true rfl) (bf_dk dd_X9_build 69 rfl) rfl (fun r11 h => ?_)
    obtain ⟨hi, h⟩ := h
    refine bs_iast C (bf_dk dd_X9_build 70 rfl) (ge_bW9_1 S10) hi (ar_bW9_1 S10 _) ?_
    refine bs_nameS bW9 (fun S13 eS13 => ?_)
    replace h := h S13 eS13
    refine bs_aload_n C (bf_dk dd_X9_build 71 rfl) rfl ?_
    refine bs_get C (bf_dk dd_X9_build 72 rfl) cl_9 in_9 1 (Nat.le_of_ble_eq_true rfl) rfl f_9_7 (ge_bW9_0 S13) rfl ?_
    refine bs_bipush C (bf_dk dd_X9_build 73 rfl) (15 : Int32) (by decide) ?_
    refine bs_aload_n C (bf_dk dd_X9_build 74 rfl) rfl ?_
    refine bs_get C (bf_dk dd_X9_build 75 rfl) cl_9 in_9 1 (Nat.le_of_ble_eq_true rfl) rfl f_9_7 (ge_bW9_0 S13) rfl ?_
    refine bs_bipush C (bf_dk dd_X9_build 76 rfl) (6 : Int32) (by decide) ?_
    obtain ⟨hi, h⟩ := h
    refine bs_iald C (bf_dk dd_X9_build 77 rfl) (ge_bW9_1 S13) hi ?_
    obtain ⟨hi, h⟩ := h
    refine bs_iast C (bf_dk dd_X9_build 78 rfl) (ge_bW9_1 S13) hi (ar_bW9_1 S13 _) ?_
    refine bs_nameS bW9 (fun S14 eS14 => ?_)
    replace h := h S14 eS14
    refine bs_aload_n C (bf_dk dd_X9_build 79 rfl) rfl ?_
    refine bs_get C (bf_dk dd_X9_build 80 rfl) cl_9 in_9 1 (Nat.le_of_ble_eq_true rfl) rfl f_9_7 (ge_bW9_0 S14) rfl ?_
    refine bs_bipush C (bf_dk dd_X9_build 81 rfl) (16 : Int32) (by decide) ?_
    refine bs_aload_n C (bf_dk dd_X9_build 82 rfl) rfl ?_
    refine bs_get C (bf_dk dd_X9_build 83 rfl) cl_9 in_9 1 (Nat.le_of_ble_eq_true rfl) rfl f_9_7 (ge_bW9_0 S14) rfl ?_
    refine bs_iconst C (bf_dk dd_X9_build 84 rfl) (5 : Int32) (by decide) ?_
    obtain ⟨hi, h⟩ := h
    refine bs_iald C (bf_dk dd_X9_build 85 rfl) (ge_bW9_1 S14) hi ?_
    obtain ⟨hi, h⟩ := h
    refine bs_iast C (bf_dk dd_X9_build 86 rfl) (ge_bW9_1 S14) hi (ar_bW9_1 S14 _) ?_
    refine bs_nameS bW9 (fun S15 eS15 => ?_)
    replace h := h S15 eS15
    refine bs_aload_n C (bf_dk dd_X9_build 87 rfl) rfl ?_
    refine bs_iconst C (bf_dk dd_X9_build 88 rfl) (0 : Int32) (by decide) ?_
    refine bs_put C (bf_dk dd_X9_build 89 rfl) tyX9_ok nmX9 cl_9 in_9 12 (Nat.le_of_ble_eq_true rfl) rfl f_9_184 rfl (ge_bW9_0 S15) (Nat.le_of_ble_eq_true rfl) rfl rfl (pu_bW9_0_12 S15 (0 : Int32)) ?_
    refine bs_nameS bW9 (fun S16 eS16 => ?_)
    replace h := h S16 eS16
    refine bs_aload_n C (bf_dk dd_X9_build 90 rfl) rfl ?_
    refine bs_iconst C (bf_dk dd_X9_build 91 rfl) (0 : Int32) (by decide) ?_
    refine bs_put C (bf_dk dd_X9_build 92 rfl) tyX9_ok nmX9 cl_9 in_9 20 (Nat.le_of_ble_eq_true rfl) rfl f_9_192 rfl (ge_bW9_0 S16) (Nat.le_of_ble_eq_true rfl) rfl rfl (pu_bW9_0_20 S16 (0 : Int32)) ?_
    refine bs_nameS bW9 (fun S17 eS17 => ?_)
    replace h := h S17 eS17
    refine bs_aload_n C (bf_dk dd_X9_build 93 rfl) rfl ?_
    refine bs_get C (bf_dk dd_X9_build 94 rfl) cl_9 in_9 1 (Nat.le_of_ble_eq_true rfl) rfl f_9_7 (ge_bW9_0 S17) rfl ?_
    refine bs_bipush C (bf_dk dd_X9_build 95 rfl) (9 : Int32) (by decide) ?_
    obtain ⟨hi, h⟩ := h
    refine bs_iald C (bf_dk dd_X9_build 96 rfl) (ge_bW9_1 S17) hi ?_
    exact bs_iret (u := S17) C (bf_dk dd_X9_build 97 rfl) rfl h
  · replace h := h.2 c
    refine bs_aload_n C (bf_dk dd_X9_build 11 rfl) rfl ?_
    refine bs_get C (bf_dk dd_X9_build 12 rfl) cl_9 in_9 2 (Nat.le_of_ble_eq_true rfl) rfl f_9_13 (ge_bW9_0 S) rfl ?_
    refine bs_bipush C (bf_dk dd_X9_build 13 rfl) (64 : Int32) (by decide) ?_
    refine bs_iload_n C (bf_dk dd_X9_build 14 rfl) rfl ?_
    refine bs_iadd C (bf_dk dd_X9_build 15 rfl) ?_
    refine bs_aload_n C (bf_dk dd_X9_build 16 rfl) rfl ?_
    refine bs_get C (bf_dk dd_X9_build 17 rfl) cl_9 in_9 2 (Nat.le_of_ble_eq_true rfl) rfl f_9_13 (ge_bW9_0 S) rfl ?_
    refine bs_iload_n C (bf_dk dd_X9_build 18 rfl) rfl ?_
    obtain ⟨hi, h⟩ := h
    refine bs_lald C (bf_dk dd_X9_build 19 rfl) (ge_bW9_2 S) hi ?_
    obtain ⟨hi, h⟩ := h
    refine bs_last C (bf_dk dd_X9_build 20 rfl) (ge_bW9_2 S) hi (ar_bW9_2 S _) ?_
    refine bs_nameS bW9 (fun S18 eS18 => ?_)
    replace h := h S18 eS18
    refine bs_aload_n C (bf_dk dd_X9_build 21 rfl) rfl ?_
    refine bs_get C (bf_dk dd_X9_build 22 rfl) cl_9 in_9 3 (Nat.le_of_ble_eq_true rfl) rfl f_9_17 (ge_bW9_0 S18) rfl ?_
    refine bs_bipush C (bf_dk dd_X9_build 23 rfl) (64 : Int32) (by decide) ?_
    refine bs_iload_n C (bf_dk dd_X9_build 24 rfl) rfl ?_
    refine bs_iadd C (bf_dk dd_X9_build 25 rfl) ?_
    refine bs_aload_n C (bf_dk dd_X9_build 26 rfl) rfl ?_
    refine bs_get C (bf_dk dd_X9_build 27 rfl) cl_9 in_9 3 (Nat.le_of_ble_eq_true rfl) rfl f_9_17 (ge_bW9_0 S18) rfl ?_
    refine bs_iload_n C (bf_dk dd_X9_build 28 rfl) rfl ?_
    obtain ⟨hi, h⟩ := h
    refine bs_iald C (bf_dk dd_X9_build 29 rfl) (ge_bW9_3 S18) hi ?_
    obtain ⟨hi, h⟩ := h
    refine bs_iast C (bf_dk dd_X9_build 30 rfl) (ge_bW9_3 S18) hi (ar_bW9_3 S18 _) ?_
    refine bs_nameS bW9 (fun S19 eS19 => ?_)
    replace h := h S19 eS19
    refine bs_iinc C (bf_dk dd_X9_build 31 rfl) (x1 + (1 : Int32)) rfl rfl (Nat.le_of_ble_eq_true rfl) (Nat.le_of_ble_eq_true rfl) (lv2 := [some (.ref 0), some (.int (x1 + (1 : Int32)))]) rfl ?_
    refine bs_goto C (bf_dk dd_X9_build 32 rfl) (tgt := 7) rfl ?_
    exact bs_weak (bf_s1 (bf_s1 bf_s0)) (hB7 ((x1 + (1 : Int32))) S19 h)
def wp_X9_build_7 (S : bT9) (x1 : Int32) (Q : Int32 → (bT9) → Prop) : Prop := ∃ I : Nat → Int32 → (bT9) → Prop, (∃ n : Nat, I n x1 S) ∧ ∀ (n : Nat) (x1 : Int32) (S : bT9), I n x1 S → wp_X9_build_7b S x1 Q (fun x1 S => ∃ n2 : Nat, n2 < n ∧ I n2 x1 S)
theorem t_X9_build_7 {X : bf_X} (C : bf_C X RX9 cX9_build 2 (some .int)) (hR : bf_Rm X 2 42) (S : bT9) (x1 : Int32) (Q : Int32 → (bT9) → Prop) (h : wp_X9_build_7 S x1 Q) : bf_A X (bf_Zi X bW9 Q) 2 7 [some (.ref 0), some (.int x1)] [] (bW9 S) := by
  obtain ⟨I, ⟨n0, h0⟩, hI⟩ := h
  have key : ∀ (n : Nat) (x1 : Int32) (S : bT9), I n x1 S → bf_A X (bf_Zi X bW9 Q) 2 7 [some (.ref 0), some (.int x1)] [] (bW9 S) := by
    intro n
    induction n using Nat.strongRecOn with
    | _ n ih =>
      intro x1 S hi
      exact t_X9_build_7b C hR S x1 Q _ (fun x1 S hb => by obtain ⟨n2, hn, hi2⟩ := hb; exact ih n2 hn x1 S hi2) (hI n x1 S hi)
  exact key n0 x1 S h0
def wp_X9_build (S : bT9) (Q : Int32 → (bT9) → Prop) : Prop := (∀ S20 : bT9, S20 = (b9s_told S (0 : Int32)) → (wp_X9_build_7 S20 ((0 : Int32)) Q))
set_option maxRecDepth 20000 in
theorem t_X9_build {X : bf_X} (C : bf_C X RX9 cX9_build 2 (some .int)) (hR : bf_Rm X 2 42) (S : bT9) (Q : Int32 → (bT9) → Prop) (h : wp_X9_build S Q) : bf_A X (bf_Zi X bW9 Q) 2 0 [some (.ref 0), none] [] (bW9 S) := by
  unfold wp_X9_build at h
  refine bs_aload_n C (bf_dk dd_X9_build 0 rfl) rfl ?_
  refine bs_iconst C (bf_dk dd_X9_build 1 rfl) (0 : Int32) (by decide) ?_
  refine bs_put C (bf_dk dd_X9_build 2 rfl) tyX9_ok nmX9 cl_9 in_9 0 (Nat.le_of_ble_eq_true rfl) rfl f_9_75 rfl (ge_bW9_0 S) (Nat.le_of_ble_eq_true rfl) rfl rfl (pu_bW9_0_0 S (0 : Int32)) ?_
  refine bs_nameS bW9 (fun S20 eS20 => ?_)
  replace h := h S20 eS20
  refine bs_iconst C (bf_dk dd_X9_build 3 rfl) (0 : Int32) (by decide) ?_
  refine bs_istore_n C (bf_dk dd_X9_build 4 rfl) rfl (Nat.le_of_ble_eq_true rfl) (Nat.le_of_ble_eq_true rfl) (lv2 := [some (.ref 0), some (.int (0 : Int32))]) rfl ?_
  exact bs_weak (bf_s1 (bf_s1 bf_s0)) (t_X9_build_7 C hR S20 ((0 : Int32)) Q h)
theorem c_X9_build (l : Launch) (dC : Nat → ClassId) (dI : Nat → Nat → Nat) (ac : Nat → ClassId) (al : Nat → Nat) (S : bT9) (Q : Int32 → (bT9) → Prop) (h : wp_X9_build S Q) : bf_M l yX9_build cX9_build 2 (some .int) 2 42 dC dI ac al [.ref 0] (bW9 S) (bf_Ki dC dI ac al bW9 Q) := by
  refine bf_start [some (.ref 0), none] (by decide) (Nat.le_of_ble_eq_true rfl) (bf_s1 (bf_en 1)) ?_
  intro X hl C hR e1 e2 e3 e4
  subst e1; subst e2; subst e3; subst e4
  exact t_X9_build C hR S Q h
def wp_X9_hashBits (S : bT9) (Q : Int32 → Prop) : Prop := (vp_in (15 : Int32) 23 ∧ (¬ (2 : Int32) = 0 ∧ ((¬ (((b9g_now S) ((15 : Int32)).toNatClampNeg) - ((b9g_now S) ((15 : Int32)).toNatClampNeg) / (2 : Int32) * (2 : Int32)) = (1 : Int32) → (Q (0 : Int32))) ∧ ((((b9g_now S) ((15 : Int32)).toNatClampNeg) - ((b9g_now S) ((15 : Int32)).toNatClampNeg) / (2 : Int32) * (2 : Int32)) = (1 : Int32) → (vp_in (11 : Int32) 23 ∧ (Q ((b9g_now S) ((11 : Int32)).toNatClampNeg)))))))
set_option maxRecDepth 20000 in
theorem t_X9_hashBits {X : bf_X} (C : bf_C X RX9 cX9_hashBits 1 (some .int)) (hR : bf_Rm X 0 0) (S : bT9) (Q : Int32 → Prop) (h : wp_X9_hashBits S Q) : bf_A X (bf_Zi X bW9 (fun r u => u = S ∧ Q r)) 1 0 [some (.ref 0)] [] (bW9 S) := by
  unfold wp_X9_hashBits at h
  refine bs_aload_n C (bf_dk dd_X9_hashBits 0 rfl) rfl ?_
  refine bs_get C (bf_dk dd_X9_hashBits 1 rfl) cl_9 in_9 1 (Nat.le_of_ble_eq_true rfl) rfl f_9_7 (ge_bW9_0 S) rfl ?_
  refine bs_bipush C (bf_dk dd_X9_hashBits 2 rfl) (15 : Int32) (by decide) ?_
  obtain ⟨hi, h⟩ := h
  refine bs_iald C (bf_dk dd_X9_hashBits 3 rfl) (ge_bW9_1 S) hi ?_
  refine bs_iconst C (bf_dk dd_X9_hashBits 4 rfl) (2 : Int32) (by decide) ?_
  obtain ⟨hi, h⟩ := h
  refine bs_irem C (bf_dk dd_X9_hashBits 5 rfl) hi ?_
  refine bs_iconst C (bf_dk dd_X9_hashBits 6 rfl) (1 : Int32) (by decide) ?_
  refine bs_icmp_ne C (bf_dk dd_X9_hashBits 7 rfl) (tgt := 23) rfl (fun c => ?_) (fun c => ?_)
  · replace h := h.1 c
    refine bs_iconst C (bf_dk dd_X9_hashBits 13 rfl) (0 : Int32) (by decide) ?_
    exact bs_iret (u := S) C (bf_dk dd_X9_hashBits 14 rfl) rfl ⟨rfl, h⟩
  · replace h := h.2 c
    refine bs_aload_n C (bf_dk dd_X9_hashBits 8 rfl) rfl ?_
    refine bs_get C (bf_dk dd_X9_hashBits 9 rfl) cl_9 in_9 1 (Nat.le_of_ble_eq_true rfl) rfl f_9_7 (ge_bW9_0 S) rfl ?_
    refine bs_bipush C (bf_dk dd_X9_hashBits 10 rfl) (11 : Int32) (by decide) ?_
    obtain ⟨hi, h⟩ := h
    refine bs_iald C (bf_dk dd_X9_hashBits 11 rfl) (ge_bW9_1 S) hi ?_
    refine bs_goto C (bf_dk dd_X9_hashBits 12 rfl) (tgt := 24) rfl ?_
    exact bs_iret (u := S) C (bf_dk dd_X9_hashBits 14 rfl) rfl ⟨rfl, h⟩
theorem c_X9_hashBits (l : Launch) (dC : Nat → ClassId) (dI : Nat → Nat → Nat) (ac : Nat → ClassId) (al : Nat → Nat) (S : bT9) (Q : Int32 → Prop) (h : wp_X9_hashBits S Q) : bf_M l yX9_hashBits cX9_hashBits 1 (some .int) 0 0 dC dI ac al [.ref 0] (bW9 S) (bf_Ki dC dI ac al bW9 (fun r u => u = S ∧ Q r)) := by
  refine bf_start [some (.ref 0)] (by decide) (Nat.le_of_ble_eq_true rfl) (bf_s1 bf_s0) ?_
  intro X hl C hR e1 e2 e3 e4
  subst e1; subst e2; subst e3; subst e4
  exact t_X9_hashBits C hR S Q h
def wp_X9_nextBits (S : bT9) (Q : Int32 → Prop) : Prop := (vp_in (15 : Int32) 23 ∧ ((((b9g_now S) ((15 : Int32)).toNatClampNeg) ≤ (1 : Int32) → (Q (0 : Int32))) ∧ (¬ ((b9g_now S) ((15 : Int32)).toNatClampNeg) ≤ (1 : Int32) → (vp_in (12 : Int32) 23 ∧ (Q ((b9g_now S) ((12 : Int32)).toNatClampNeg))))))
set_option maxRecDepth 20000 in
theorem t_X9_nextBits {X : bf_X} (C : bf_C X RX9 cX9_nextBits 1 (some .int)) (hR : bf_Rm X 0 0) (S : bT9) (Q : Int32 → Prop) (h : wp_X9_nextBits S Q) : bf_A X (bf_Zi X bW9 (fun r u => u = S ∧ Q r)) 1 0 [some (.ref 0)] [] (bW9 S) := by
  unfold wp_X9_nextBits at h
  refine bs_aload_n C (bf_dk dd_X9_nextBits 0 rfl) rfl ?_
  refine bs_get C (bf_dk dd_X9_nextBits 1 rfl) cl_9 in_9 1 (Nat.le_of_ble_eq_true rfl) rfl f_9_7 (ge_bW9_0 S) rfl ?_
  refine bs_bipush C (bf_dk dd_X9_nextBits 2 rfl) (15 : Int32) (by decide) ?_
  obtain ⟨hi, h⟩ := h
  refine bs_iald C (bf_dk dd_X9_nextBits 3 rfl) (ge_bW9_1 S) hi ?_
  refine bs_iconst C (bf_dk dd_X9_nextBits 4 rfl) (1 : Int32) (by decide) ?_
  refine bs_icmp_le C (bf_dk dd_X9_nextBits 5 rfl) (tgt := 21) rfl (fun c => ?_) (fun c => ?_)
  · replace h := h.1 c
    refine bs_iconst C (bf_dk dd_X9_nextBits 11 rfl) (0 : Int32) (by decide) ?_
    exact bs_iret (u := S) C (bf_dk dd_X9_nextBits 12 rfl) rfl ⟨rfl, h⟩
  · replace h := h.2 c
    refine bs_aload_n C (bf_dk dd_X9_nextBits 6 rfl) rfl ?_
    refine bs_get C (bf_dk dd_X9_nextBits 7 rfl) cl_9 in_9 1 (Nat.le_of_ble_eq_true rfl) rfl f_9_7 (ge_bW9_0 S) rfl ?_
    refine bs_bipush C (bf_dk dd_X9_nextBits 8 rfl) (12 : Int32) (by decide) ?_
    obtain ⟨hi, h⟩ := h
    refine bs_iald C (bf_dk dd_X9_nextBits 9 rfl) (ge_bW9_1 S) hi ?_
    refine bs_goto C (bf_dk dd_X9_nextBits 10 rfl) (tgt := 22) rfl ?_
    exact bs_iret (u := S) C (bf_dk dd_X9_nextBits 12 rfl) rfl ⟨rfl, h⟩
theorem c_X9_nextBits (l : Launch) (dC : Nat → ClassId) (dI : Nat → Nat → Nat) (ac : Nat → ClassId) (al : Nat → Nat) (S : bT9) (Q : Int32 → Prop) (h : wp_X9_nextBits S Q) : bf_M l yX9_nextBits cX9_nextBits 1 (some .int) 0 0 dC dI ac al [.ref 0] (bW9 S) (bf_Ki dC dI ac al bW9 (fun r u => u = S ∧ Q r)) := by
  refine bf_start [some (.ref 0)] (by decide) (Nat.le_of_ble_eq_true rfl) (bf_s1 bf_s0) ?_
  intro X hl C hR e1 e2 e3 e4
  subst e1; subst e2; subst e3; subst e4
  exact t_X9_nextBits C hR S Q h
def wp_X9_isAlike (S : bT9) (a1 : Int32) (a2 : Int32) (a3 : Int32) (Q : Int32 → Prop) : Prop := (wp_X9_key S (a1) (fun r1 => (wp_X9_cut S (r1) (a3) (fun r3 => (wp_X9_key S (a2) (fun r5 => (wp_X9_cut S (r5) (a3) (fun r7 => ((¬ (lg_cmp r3 r7) = 0 → (bf_bool (0 : Int32) ∧ Q (0 : Int32))) ∧ ((lg_cmp r3 r7) = 0 → (bf_bool (1 : Int32) ∧ Q (1 : Int32))))))))))))
set_option maxRecDepth 20000 in
theorem t_X9_isAlike {X : bf_X} (C : bf_C X RX9 cX9_isAlike 4 (some .boolean)) (hR : bf_Rm X 1 23) (S : bT9) (a1 : Int32) (a2 : Int32) (a3 : Int32) (Q : Int32 → Prop) (h : wp_X9_isAlike S a1 a2 a3 Q) : bf_A X (bf_Zi X bW9 (fun r u => u = S ∧ Q r)) 4 0 [some (.ref 0), some (.int a1), some (.int a2), some (.int a3)] [] (bW9 S) := by
  unfold wp_X9_isAlike at h
  refine bs_aload_n C (bf_dk dd_X9_isAlike 0 rfl) rfl ?_
  refine bs_aload_n C (bf_dk dd_X9_isAlike 1 rfl) rfl ?_
  refine bs_iload_n C (bf_dk dd_X9_isAlike 2 rfl) rfl ?_
  refine bs_selfPV_l C hR (c_X9_key _ _ _ _ _ S (a1) _ h) my_X9_key m_9_178 rfl cl_9 (ge_bW9_0 _) rfl (Nat.le_of_ble_eq_true rfl) (Nat.le_of_ble_eq_true rfl) (st := [.ref 0]) (Nat.le_of_ble_eq_true rfl) (bf_dk dd_X9_isAlike 3 rfl) rfl (fun r1 h => ?_)
  refine bs_iload_n C (bf_dk dd_X9_isAlike 4 rfl) rfl ?_
  refine bs_selfPV_l C hR (c_X9_cut _ _ _ _ _ S (r1) (a3) _ h) my_X9_cut m_9_98 rfl cl_9 (ge_bW9_0 _) rfl (Nat.le_of_ble_eq_true rfl) (Nat.le_of_ble_eq_true rfl) (st := []) (Nat.le_of_ble_eq_true rfl) (bf_dk dd_X9_isAlike 5 rfl) rfl (fun r3 h => ?_)
  refine bs_aload_n C (bf_dk dd_X9_isAlike 6 rfl) rfl ?_
  refine bs_aload_n C (bf_dk dd_X9_isAlike 7 rfl) rfl ?_
  refine bs_iload_n C (bf_dk dd_X9_isAlike 8 rfl) rfl ?_
  refine bs_selfPV_l C hR (c_X9_key _ _ _ _ _ S (a2) _ h) my_X9_key m_9_178 rfl cl_9 (ge_bW9_0 _) rfl (Nat.le_of_ble_eq_true rfl) (Nat.le_of_ble_eq_true rfl) (st := [.ref 0, .long r3]) (Nat.le_of_ble_eq_true rfl) (bf_dk dd_X9_isAlike 9 rfl) rfl (fun r5 h => ?_)
  refine bs_iload_n C (bf_dk dd_X9_isAlike 10 rfl) rfl ?_
  refine bs_selfPV_l C hR (c_X9_cut _ _ _ _ _ S (r5) (a3) _ h) my_X9_cut m_9_98 rfl cl_9 (ge_bW9_0 _) rfl (Nat.le_of_ble_eq_true rfl) (Nat.le_of_ble_eq_true rfl) (st := [.long r3]) (Nat.le_of_ble_eq_true rfl) (bf_dk dd_X9_isAlike 11 rfl) rfl (fun r7 h => ?_)
  refine bs_lcmp C (bf_dk dd_X9_isAlike 12 rfl) ?_
  refine bs_if_ne C (bf_dk dd_X9_isAlike 13 rfl) (tgt := 28) rfl (fun c => ?_) (fun c => ?_)
  · replace h := h.1 c
    refine bs_iconst C (bf_dk dd_X9_isAlike 16 rfl) (0 : Int32) (by decide) ?_
    obtain ⟨hi, h⟩ := h
    exact bs_zret (u := S) C (bf_dk dd_X9_isAlike 17 rfl) hi rfl ⟨rfl, h⟩
  · replace h := h.2 c
    refine bs_iconst C (bf_dk dd_X9_isAlike 14 rfl) (1 : Int32) (by decide) ?_
    refine bs_goto C (bf_dk dd_X9_isAlike 15 rfl) (tgt := 29) rfl ?_
    obtain ⟨hi, h⟩ := h
    exact bs_zret (u := S) C (bf_dk dd_X9_isAlike 17 rfl) hi rfl ⟨rfl, h⟩
theorem c_X9_isAlike (l : Launch) (dC : Nat → ClassId) (dI : Nat → Nat → Nat) (ac : Nat → ClassId) (al : Nat → Nat) (S : bT9) (a1 : Int32) (a2 : Int32) (a3 : Int32) (Q : Int32 → Prop) (h : wp_X9_isAlike S a1 a2 a3 Q) : bf_M l yX9_isAlike cX9_isAlike 4 (some .boolean) 1 23 dC dI ac al [.ref 0, .int a1, .int a2, .int a3] (bW9 S) (bf_Ki dC dI ac al bW9 (fun r u => u = S ∧ Q r)) := by
  refine bf_start [some (.ref 0), some (.int a1), some (.int a2), some (.int a3)] (by decide) (Nat.le_of_ble_eq_true rfl) (bf_s1 (bf_s1 (bf_s1 (bf_s1 bf_s0)))) ?_
  intro X hl C hR e1 e2 e3 e4
  subst e1; subst e2; subst e3; subst e4
  exact t_X9_isAlike C hR S a1 a2 a3 Q h
def wp_X9_firstLike_2b (S : bT9) (x1 : Int32) (x2 : Int32) (x3 : Int32) (Q : Int32 → Prop) (B2 : Int32 → Int32 → Int32 → Prop) : Prop := ((x3 ≤ 0 → (Q x3)) ∧ (¬ x3 ≤ 0 → (vp_in (x3 - (1 : Int32)) 64 ∧ ((((b9g_beginning S) ((x3 - (1 : Int32))).toNatClampNeg) < x2 → (Q x3)) ∧ (¬ ((b9g_beginning S) ((x3 - (1 : Int32))).toNatClampNeg) < x2 → (wp_X9_isAlike S ((x3 - (1 : Int32))) (x1) (x2) (fun r1 => ((r1 = 0 → (Q x3)) ∧ (¬ r1 = 0 → (B2 (x1) (x2) ((x3 - (1 : Int32)))))))))))))
set_option maxRecDepth 20000 in
theorem t_X9_firstLike_2b {X : bf_X} (C : bf_C X RX9 cX9_firstLike 4 (some .int)) (hR : bf_Rm X 2 46) (S : bT9) (x1 : Int32) (x2 : Int32) (x3 : Int32) (Q : Int32 → Prop) (B2 : Int32 → Int32 → Int32 → Prop) (hB2 : ∀ (x1 : Int32) (x2 : Int32) (x3 : Int32), B2 x1 x2 x3 → bf_A X (bf_Zi X bW9 (fun r u => u = S ∧ Q r)) 4 2 [some (.ref 0), some (.int x1), some (.int x2), some (.int x3)] [] (bW9 S)) (h : wp_X9_firstLike_2b S x1 x2 x3 Q B2) : bf_A X (bf_Zi X bW9 (fun r u => u = S ∧ Q r)) 4 2 [some (.ref 0), some (.int x1), some (.int x2), some (.int x3)] [] (bW9 S) := by
  unfold wp_X9_firstLike_2b at h
  refine bs_iload_n C (bf_dk dd_X9_firstLike 2 rfl) rfl ?_
  refine bs_if_le C (bf_dk dd_X9_firstLike 3 rfl) (tgt := 37) rfl (fun c => ?_) (fun c => ?_)
  · replace h := h.1 c
    refine bs_iload_n C (bf_dk dd_X9_firstLike 25 rfl) rfl ?_
    exact bs_iret (u := S) C (bf_dk dd_X9_firstLike 26 rfl) rfl ⟨rfl, h⟩
  · replace h := h.2 c
    refine bs_aload_n C (bf_dk dd_X9_firstLike 4 rfl) rfl ?_
    refine bs_get C (bf_dk dd_X9_firstLike 5 rfl) cl_9 in_9 11 (Nat.le_of_ble_eq_true rfl) rfl f_9_29 (ge_bW9_0 S) rfl ?_
    refine bs_iload_n C (bf_dk dd_X9_firstLike 6 rfl) rfl ?_
    refine bs_iconst C (bf_dk dd_X9_firstLike 7 rfl) (1 : Int32) (by decide) ?_
    refine bs_isub C (bf_dk dd_X9_firstLike 8 rfl) ?_
    obtain ⟨hi, h⟩ := h
    refine bs_iald C (bf_dk dd_X9_firstLike 9 rfl) (ge_bW9_7 S) hi ?_
    refine bs_iload_n C (bf_dk dd_X9_firstLike 10 rfl) rfl ?_
    refine bs_icmp_lt C (bf_dk dd_X9_firstLike 11 rfl) (tgt := 37) rfl (fun c => ?_) (fun c => ?_)
    · replace h := h.1 c
      refine bs_iload_n C (bf_dk dd_X9_firstLike 25 rfl) rfl ?_
      exact bs_iret (u := S) C (bf_dk dd_X9_firstLike 26 rfl) rfl ⟨rfl, h⟩
    · replace h := h.2 c
      refine bs_aload_n C (bf_dk dd_X9_firstLike 12 rfl) rfl ?_
      refine bs_iload_n C (bf_dk dd_X9_firstLike 13 rfl) rfl ?_
      refine bs_iconst C (bf_dk dd_X9_firstLike 14 rfl) (1 : Int32) (by decide) ?_
      refine bs_isub C (bf_dk dd_X9_firstLike 15 rfl) ?_
      refine bs_iload_n C (bf_dk dd_X9_firstLike 16 rfl) rfl ?_
      refine bs_iload_n C (bf_dk dd_X9_firstLike 17 rfl) rfl ?_
      refine bs_selfPV_i C hR (c_X9_isAlike _ _ _ _ _ S ((x3 - (1 : Int32))) (x1) (x2) _ h) my_X9_isAlike m_9_195 rfl cl_9 (ge_bW9_0 _) rfl (Nat.le_of_ble_eq_true rfl) (Nat.le_of_ble_eq_true rfl) (st := []) (Nat.le_of_ble_eq_true rfl) (bf_dk dd_X9_firstLike 18 rfl) rfl (fun r1 h => ?_)
      refine bs_if_eq C (bf_dk dd_X9_firstLike 19 rfl) (tgt := 37) rfl (fun c => ?_) (fun c => ?_)
      · replace h := h.1 c
        refine bs_iload_n C (bf_dk dd_X9_firstLike 25 rfl) rfl ?_
        exact bs_iret (u := S) C (bf_dk dd_X9_firstLike 26 rfl) rfl ⟨rfl, h⟩
      · replace h := h.2 c
        refine bs_iload_n C (bf_dk dd_X9_firstLike 20 rfl) rfl ?_
        refine bs_iconst C (bf_dk dd_X9_firstLike 21 rfl) (1 : Int32) (by decide) ?_
        refine bs_isub C (bf_dk dd_X9_firstLike 22 rfl) ?_
        refine bs_istore_n C (bf_dk dd_X9_firstLike 23 rfl) rfl (Nat.le_of_ble_eq_true rfl) (Nat.le_of_ble_eq_true rfl) (lv2 := [some (.ref 0), some (.int x1), some (.int x2), some (.int (x3 - (1 : Int32)))]) rfl ?_
        refine bs_goto C (bf_dk dd_X9_firstLike 24 rfl) (tgt := 2) rfl ?_
        exact bs_weak (bf_s1 (bf_s1 (bf_s1 (bf_s1 bf_s0)))) (hB2 (x1) (x2) ((x3 - (1 : Int32))) h)
def wp_X9_firstLike_2 (S : bT9) (x1 : Int32) (x2 : Int32) (x3 : Int32) (Q : Int32 → Prop) : Prop := ∃ I : Nat → Int32 → Int32 → Int32 → Prop, (∃ n : Nat, I n x1 x2 x3) ∧ ∀ (n : Nat) (x1 : Int32) (x2 : Int32) (x3 : Int32), I n x1 x2 x3 → wp_X9_firstLike_2b S x1 x2 x3 Q (fun x1 x2 x3 => ∃ n2 : Nat, n2 < n ∧ I n2 x1 x2 x3)
theorem t_X9_firstLike_2 {X : bf_X} (C : bf_C X RX9 cX9_firstLike 4 (some .int)) (hR : bf_Rm X 2 46) (S : bT9) (x1 : Int32) (x2 : Int32) (x3 : Int32) (Q : Int32 → Prop) (h : wp_X9_firstLike_2 S x1 x2 x3 Q) : bf_A X (bf_Zi X bW9 (fun r u => u = S ∧ Q r)) 4 2 [some (.ref 0), some (.int x1), some (.int x2), some (.int x3)] [] (bW9 S) := by
  obtain ⟨I, ⟨n0, h0⟩, hI⟩ := h
  have key : ∀ (n : Nat) (x1 : Int32) (x2 : Int32) (x3 : Int32), I n x1 x2 x3 → bf_A X (bf_Zi X bW9 (fun r u => u = S ∧ Q r)) 4 2 [some (.ref 0), some (.int x1), some (.int x2), some (.int x3)] [] (bW9 S) := by
    intro n
    induction n using Nat.strongRecOn with
    | _ n ih =>
      intro x1 x2 x3 hi
      exact t_X9_firstLike_2b C hR S x1 x2 x3 Q _ (fun x1 x2 x3 hb => by obtain ⟨n2, hn, hi2⟩ := hb; exact ih n2 hn x1 x2 x3 hi2) (hI n x1 x2 x3 hi)
  exact key n0 x1 x2 x3 h0
def wp_X9_firstLike (S : bT9) (a1 : Int32) (a2 : Int32) (Q : Int32 → Prop) : Prop := (wp_X9_firstLike_2 S (a1) (a2) (a1) Q)
set_option maxRecDepth 20000 in
theorem t_X9_firstLike {X : bf_X} (C : bf_C X RX9 cX9_firstLike 4 (some .int)) (hR : bf_Rm X 2 46) (S : bT9) (a1 : Int32) (a2 : Int32) (Q : Int32 → Prop) (h : wp_X9_firstLike S a1 a2 Q) : bf_A X (bf_Zi X bW9 (fun r u => u = S ∧ Q r)) 4 0 [some (.ref 0), some (.int a1), some (.int a2), none] [] (bW9 S) := by
  unfold wp_X9_firstLike at h
  refine bs_iload_n C (bf_dk dd_X9_firstLike 0 rfl) rfl ?_
  refine bs_istore_n C (bf_dk dd_X9_firstLike 1 rfl) rfl (Nat.le_of_ble_eq_true rfl) (Nat.le_of_ble_eq_true rfl) (lv2 := [some (.ref 0), some (.int a1), some (.int a2), some (.int a1)]) rfl ?_
  exact bs_weak (bf_s1 (bf_s1 (bf_s1 (bf_s1 bf_s0)))) (t_X9_firstLike_2 C hR S (a1) (a2) (a1) Q h)
theorem c_X9_firstLike (l : Launch) (dC : Nat → ClassId) (dI : Nat → Nat → Nat) (ac : Nat → ClassId) (al : Nat → Nat) (S : bT9) (a1 : Int32) (a2 : Int32) (Q : Int32 → Prop) (h : wp_X9_firstLike S a1 a2 Q) : bf_M l yX9_firstLike cX9_firstLike 4 (some .int) 2 46 dC dI ac al [.ref 0, .int a1, .int a2] (bW9 S) (bf_Ki dC dI ac al bW9 (fun r u => u = S ∧ Q r)) := by
  refine bf_start [some (.ref 0), some (.int a1), some (.int a2), none] (by decide) (Nat.le_of_ble_eq_true rfl) (bf_s1 (bf_s1 (bf_s1 (bf_en 1)))) ?_
  intro X hl C hR e1 e2 e3 e4
  subst e1; subst e2; subst e3; subst e4
  exact t_X9_firstLike C hR S a1 a2 Q h
def wp_X9_manyLike_2b (S : bT9) (x1 : Int32) (x2 : Int32) (x3 : Int32) (Q : Int32 → Prop) (B2 : Int32 → Int32 → Int32 → Prop) : Prop := (vp_in (9 : Int32) 23 ∧ ((((b9g_now S) ((9 : Int32)).toNatClampNeg) ≤ x3 → (Q (x3 - x1))) ∧ (¬ ((b9g_now S) ((9 : Int32)).toNatClampNeg) ≤ x3 → (vp_in x3 64 ∧ ((((b9g_beginning S) (x3).toNatClampNeg) < x2 → (Q (x3 - x1))) ∧ (¬ ((b9g_beginning S) (x3).toNatClampNeg) < x2 → (wp_X9_isAlike S (x3) (x1) (x2) (fun r1 => ((r1 = 0 → (Q (x3 - x1))) ∧ (¬ r1 = 0 → (B2 (x1) (x2) ((x3 + (1 : Int32))))))))))))))
set_option maxRecDepth 20000 in
theorem t_X9_manyLike_2b {X : bf_X} (C : bf_C X RX9 cX9_manyLike 4 (some .int)) (hR : bf_Rm X 2 46) (S : bT9) (x1 : Int32) (x2 : Int32) (x3 : Int32) (Q : Int32 → Prop) (B2 : Int32 → Int32 → Int32 → Prop) (hB2 : ∀ (x1 : Int32) (x2 : Int32) (x3 : Int32), B2 x1 x2 x3 → bf_A X (bf_Zi X bW9 (fun r u => u = S ∧ Q r)) 4 2 [some (.ref 0), some (.int x1), some (.int x2), some (.int x3)] [] (bW9 S)) (h : wp_X9_manyLike_2b S x1 x2 x3 Q B2) : bf_A X (bf_Zi X bW9 (fun r u => u = S ∧ Q r)) 4 2 [some (.ref 0), some (.int x1), some (.int x2), some (.int x3)] [] (bW9 S) := by
  unfold wp_X9_manyLike_2b at h
  refine bs_iload_n C (bf_dk dd_X9_manyLike 2 rfl) rfl ?_
  refine bs_aload_n C (bf_dk dd_X9_manyLike 3 rfl) rfl ?_
  refine bs_get C (bf_dk dd_X9_manyLike 4 rfl) cl_9 in_9 1 (Nat.le_of_ble_eq_true rfl) rfl f_9_7 (ge_bW9_0 S) rfl ?_
  refine bs_bipush C (bf_dk dd_X9_manyLike 5 rfl) (9 : Int32) (by decide) ?_
  obtain ⟨hi, h⟩ := h
  refine bs_iald C (bf_dk dd_X9_manyLike 6 rfl) (ge_bW9_1 S) hi ?_
  refine bs_icmp_ge C (bf_dk dd_X9_manyLike 7 rfl) (tgt := 40) rfl (fun c => ?_) (fun c => ?_)
  · replace h := h.1 c
    refine bs_iload_n C (bf_dk dd_X9_manyLike 25 rfl) rfl ?_
    refine bs_iload_n C (bf_dk dd_X9_manyLike 26 rfl) rfl ?_
    refine bs_isub C (bf_dk dd_X9_manyLike 27 rfl) ?_
    exact bs_iret (u := S) C (bf_dk dd_X9_manyLike 28 rfl) rfl ⟨rfl, h⟩
  · replace h := h.2 c
    refine bs_aload_n C (bf_dk dd_X9_manyLike 8 rfl) rfl ?_
    refine bs_get C (bf_dk dd_X9_manyLike 9 rfl) cl_9 in_9 11 (Nat.le_of_ble_eq_true rfl) rfl f_9_29 (ge_bW9_0 S) rfl ?_
    refine bs_iload_n C (bf_dk dd_X9_manyLike 10 rfl) rfl ?_
    obtain ⟨hi, h⟩ := h
    refine bs_iald C (bf_dk dd_X9_manyLike 11 rfl) (ge_bW9_7 S) hi ?_
    refine bs_iload_n C (bf_dk dd_X9_manyLike 12 rfl) rfl ?_
    refine bs_icmp_lt C (bf_dk dd_X9_manyLike 13 rfl) (tgt := 40) rfl (fun c => ?_) (fun c => ?_)
    · replace h := h.1 c
      refine bs_iload_n C (bf_dk dd_X9_manyLike 25 rfl) rfl ?_
      refine bs_iload_n C (bf_dk dd_X9_manyLike 26 rfl) rfl ?_
      refine bs_isub C (bf_dk dd_X9_manyLike 27 rfl) ?_
      exact bs_iret (u := S) C (bf_dk dd_X9_manyLike 28 rfl) rfl ⟨rfl, h⟩
    · replace h := h.2 c
      refine bs_aload_n C (bf_dk dd_X9_manyLike 14 rfl) rfl ?_
      refine bs_iload_n C (bf_dk dd_X9_manyLike 15 rfl) rfl ?_
      refine bs_iload_n C (bf_dk dd_X9_manyLike 16 rfl) rfl ?_
      refine bs_iload_n C (bf_dk dd_X9_manyLike 17 rfl) rfl ?_
      refine bs_selfPV_i C hR (c_X9_isAlike _ _ _ _ _ S (x3) (x1) (x2) _ h) my_X9_isAlike m_9_195 rfl cl_9 (ge_bW9_0 _) rfl (Nat.le_of_ble_eq_true rfl) (Nat.le_of_ble_eq_true rfl) (st := []) (Nat.le_of_ble_eq_true rfl) (bf_dk dd_X9_manyLike 18 rfl) rfl (fun r1 h => ?_)
      refine bs_if_eq C (bf_dk dd_X9_manyLike 19 rfl) (tgt := 40) rfl (fun c => ?_) (fun c => ?_)
      · replace h := h.1 c
        refine bs_iload_n C (bf_dk dd_X9_manyLike 25 rfl) rfl ?_
        refine bs_iload_n C (bf_dk dd_X9_manyLike 26 rfl) rfl ?_
        refine bs_isub C (bf_dk dd_X9_manyLike 27 rfl) ?_
        exact bs_iret (u := S) C (bf_dk dd_X9_manyLike 28 rfl) rfl ⟨rfl, h⟩
      · replace h := h.2 c
        refine bs_iload_n C (bf_dk dd_X9_manyLike 20 rfl) rfl ?_
        refine bs_iconst C (bf_dk dd_X9_manyLike 21 rfl) (1 : Int32) (by decide) ?_
        refine bs_iadd C (bf_dk dd_X9_manyLike 22 rfl) ?_
        refine bs_istore_n C (bf_dk dd_X9_manyLike 23 rfl) rfl (Nat.le_of_ble_eq_true rfl) (Nat.le_of_ble_eq_true rfl) (lv2 := [some (.ref 0), some (.int x1), some (.int x2), some (.int (x3 + (1 : Int32)))]) rfl ?_
        refine bs_goto C (bf_dk dd_X9_manyLike 24 rfl) (tgt := 2) rfl ?_
        exact bs_weak (bf_s1 (bf_s1 (bf_s1 (bf_s1 bf_s0)))) (hB2 (x1) (x2) ((x3 + (1 : Int32))) h)
def wp_X9_manyLike_2 (S : bT9) (x1 : Int32) (x2 : Int32) (x3 : Int32) (Q : Int32 → Prop) : Prop := ∃ I : Nat → Int32 → Int32 → Int32 → Prop, (∃ n : Nat, I n x1 x2 x3) ∧ ∀ (n : Nat) (x1 : Int32) (x2 : Int32) (x3 : Int32), I n x1 x2 x3 → wp_X9_manyLike_2b S x1 x2 x3 Q (fun x1 x2 x3 => ∃ n2 : Nat, n2 < n ∧ I n2 x1 x2 x3)
theorem t_X9_manyLike_2 {X : bf_X} (C : bf_C X RX9 cX9_manyLike 4 (some .int)) (hR : bf_Rm X 2 46) (S : bT9) (x1 : Int32) (x2 : Int32) (x3 : Int32) (Q : Int32 → Prop) (h : wp_X9_manyLike_2 S x1 x2 x3 Q) : bf_A X (bf_Zi X bW9 (fun r u => u = S ∧ Q r)) 4 2 [some (.ref 0), some (.int x1), some (.int x2), some (.int x3)] [] (bW9 S) := by
  obtain ⟨I, ⟨n0, h0⟩, hI⟩ := h
  have key : ∀ (n : Nat) (x1 : Int32) (x2 : Int32) (x3 : Int32), I n x1 x2 x3 → bf_A X (bf_Zi X bW9 (fun r u => u = S ∧ Q r)) 4 2 [some (.ref 0), some (.int x1), some (.int x2), some (.int x3)] [] (bW9 S) := by
    intro n
    induction n using Nat.strongRecOn with
    | _ n ih =>
      intro x1 x2 x3 hi
      exact t_X9_manyLike_2b C hR S x1 x2 x3 Q _ (fun x1 x2 x3 hb => by obtain ⟨n2, hn, hi2⟩ := hb; exact ih n2 hn x1 x2 x3 hi2) (hI n x1 x2 x3 hi)
  exact key n0 x1 x2 x3 h0
def wp_X9_manyLike (S : bT9) (a1 : Int32) (a2 : Int32) (Q : Int32 → Prop) : Prop := (wp_X9_manyLike_2 S (a1) (a2) (a1) Q)
set_option maxRecDepth 20000 in
theorem t_X9_manyLike {X : bf_X} (C : bf_C X RX9 cX9_manyLike 4 (some .int)) (hR : bf_Rm X 2 46) (S : bT9) (a1 : Int32) (a2 : Int32) (Q : Int32 → Prop) (h : wp_X9_manyLike S a1 a2 Q) : bf_A X (bf_Zi X bW9 (fun r u => u = S ∧ Q r)) 4 0 [some (.ref 0), some (.int a1), some (.int a2), none] [] (bW9 S) := by
  unfold wp_X9_manyLike at h
  refine bs_iload_n C (bf_dk dd_X9_manyLike 0 rfl) rfl ?_
  refine bs_istore_n C (bf_dk dd_X9_manyLike 1 rfl) rfl (Nat.le_of_ble_eq_true rfl) (Nat.le_of_ble_eq_true rfl) (lv2 := [some (.ref 0), some (.int a1), some (.int a2), some (.int a1)]) rfl ?_
  exact bs_weak (bf_s1 (bf_s1 (bf_s1 (bf_s1 bf_s0)))) (t_X9_manyLike_2 C hR S (a1) (a2) (a1) Q h)
theorem c_X9_manyLike (l : Launch) (dC : Nat → ClassId) (dI : Nat → Nat → Nat) (ac : Nat → ClassId) (al : Nat → Nat) (S : bT9) (a1 : Int32) (a2 : Int32) (Q : Int32 → Prop) (h : wp_X9_manyLike S a1 a2 Q) : bf_M l yX9_manyLike cX9_manyLike 4 (some .int) 2 46 dC dI ac al [.ref 0, .int a1, .int a2] (bW9 S) (bf_Ki dC dI ac al bW9 (fun r u => u = S ∧ Q r)) := by
  refine bf_start [some (.ref 0), some (.int a1), some (.int a2), none] (by decide) (Nat.le_of_ble_eq_true rfl) (bf_s1 (bf_s1 (bf_s1 (bf_en 1)))) ?_
  intro X hl C hR e1 e2 e3 e4
  subst e1; subst e2; subst e3; subst e4
  exact t_X9_manyLike C hR S a1 a2 Q h
def wp_X9_childAt_59 (S : bT9) (x2 : Int32) (x3 : Int32) (x4 : Int32) (Q : Int32 → Prop) (B14 : Int32 → Int32 → Int32 → Prop) : Prop := (B14 (x2) (x3) ((x4 + (1 : Int32))))
set_option maxRecDepth 20000 in
theorem t_X9_childAt_59 {X : bf_X} (C : bf_C X RX9 cX9_childAt 5 (some .int)) (hR : bf_Rm X 0 0) (S : bT9) (x2 : Int32) (x3 : Int32) (x4 : Int32) (Q : Int32 → Prop) (B14 : Int32 → Int32 → Int32 → Prop) (hB14 : ∀ (x2 : Int32) (x3 : Int32) (x4 : Int32), B14 x2 x3 x4 → bf_A X (bf_Zi X bW9 (fun r u => u = S ∧ Q r)) 5 14 [some (.ref 0), none, some (.int x2), some (.int x3), some (.int x4)] [] (bW9 S)) (h : wp_X9_childAt_59 S x2 x3 x4 Q B14) : bf_A X (bf_Zi X bW9 (fun r u => u = S ∧ Q r)) 5 59 [some (.ref 0), none, some (.int x2), some (.int x3), some (.int x4)] [] (bW9 S) := by
  unfold wp_X9_childAt_59 at h
  refine bs_iinc C (bf_dk dd_X9_childAt 35 rfl) (x4 + (1 : Int32)) rfl rfl (Nat.le_of_ble_eq_true rfl) (Nat.le_of_ble_eq_true rfl) (lv2 := [some (.ref 0), none, some (.int x2), some (.int x3), some (.int (x4 + (1 : Int32)))]) rfl ?_
  refine bs_goto C (bf_dk dd_X9_childAt 36 rfl) (tgt := 14) rfl ?_
  exact bs_weak (bf_s1 (bf_sn (bf_s1 (bf_s1 (bf_s1 bf_s0))))) (hB14 (x2) (x3) ((x4 + (1 : Int32))) h)
def wp_X9_childAt_14b (S : bT9) (x2 : Int32) (x3 : Int32) (x4 : Int32) (Q : Int32 → Prop) (B14 : Int32 → Int32 → Int32 → Prop) : Prop := (((b9g_nodeMany S) ≤ x4 → (Q (-1 : Int32))) ∧ (¬ (b9g_nodeMany S) ≤ x4 → (vp_in x4 512 ∧ ((x3 < ((b9g_nodeLevel S) (x4).toNatClampNeg) → (Q (-1 : Int32))) ∧ (¬ x3 < ((b9g_nodeLevel S) (x4).toNatClampNeg) → (vp_in x4 512 ∧ ((¬ ((b9g_nodeLevel S) (x4).toNatClampNeg) = x3 → (wp_X9_childAt_59 S (x2) (x3) (x4) Q B14)) ∧ (((b9g_nodeLevel S) (x4).toNatClampNeg) = x3 → (vp_in x4 512 ∧ ((¬ ((b9g_nodeLeaf S) (x4).toNatClampNeg) = x2 → (wp_X9_childAt_59 S (x2) (x3) (x4) Q B14)) ∧ (((b9g_nodeLeaf S) (x4).toNatClampNeg) = x2 → (Q x4))))))))))))
set_option maxRecDepth 20000 in
theorem t_X9_childAt_14b {X : bf_X} (C : bf_C X RX9 cX9_childAt 5 (some .int)) (hR : bf_Rm X 0 0) (S : bT9) (x2 : Int32) (x3 : Int32) (x4 : Int32) (Q : Int32 → Prop) (B14 : Int32 → Int32 → Int32 → Prop) (hB14 : ∀ (x2 : Int32) (x3 : Int32) (x4 : Int32), B14 x2 x3 x4 → bf_A X (bf_Zi X bW9 (fun r u => u = S ∧ Q r)) 5 14 [some (.ref 0), none, some (.int x2), some (.int x3), some (.int x4)] [] (bW9 S)) (h : wp_X9_childAt_14b S x2 x3 x4 Q B14) : bf_A X (bf_Zi X bW9 (fun r u => u = S ∧ Q r)) 5 14 [some (.ref 0), none, some (.int x2), some (.int x3), some (.int x4)] [] (bW9 S) := by
  unfold wp_X9_childAt_14b at h
  refine bs_iload C (bf_dk dd_X9_childAt 11 rfl) rfl ?_
  refine bs_aload_n C (bf_dk dd_X9_childAt 12 rfl) rfl ?_
  refine bs_get C (bf_dk dd_X9_childAt 13 rfl) cl_9 in_9 16 (Nat.le_of_ble_eq_true rfl) rfl f_9_198 (ge_bW9_0 S) rfl ?_
  refine bs_icmp_ge C (bf_dk dd_X9_childAt 14 rfl) (tgt := 65) rfl (fun c => ?_) (fun c => ?_)
  · replace h := h.1 c
    refine bs_iconst C (bf_dk dd_X9_childAt 37 rfl) (-1 : Int32) (by decide) ?_
    exact bs_iret (u := S) C (bf_dk dd_X9_childAt 38 rfl) rfl ⟨rfl, h⟩
  · replace h := h.2 c
    refine bs_aload_n C (bf_dk dd_X9_childAt 15 rfl) rfl ?_
    refine bs_get C (bf_dk dd_X9_childAt 16 rfl) cl_9 in_9 13 (Nat.le_of_ble_eq_true rfl) rfl f_9_32 (ge_bW9_0 S) rfl ?_
    refine bs_iload C (bf_dk dd_X9_childAt 17 rfl) rfl ?_
    obtain ⟨hi, h⟩ := h
    refine bs_iald C (bf_dk dd_X9_childAt 18 rfl) (ge_bW9_8 S) hi ?_
    refine bs_iload_n C (bf_dk dd_X9_childAt 19 rfl) rfl ?_
    refine bs_icmp_gt C (bf_dk dd_X9_childAt 20 rfl) (tgt := 65) rfl (fun c => ?_) (fun c => ?_)
    · replace h := h.1 c
      refine bs_iconst C (bf_dk dd_X9_childAt 37 rfl) (-1 : Int32) (by decide) ?_
      exact bs_iret (u := S) C (bf_dk dd_X9_childAt 38 rfl) rfl ⟨rfl, h⟩
    · replace h := h.2 c
      refine bs_aload_n C (bf_dk dd_X9_childAt 21 rfl) rfl ?_
      refine bs_get C (bf_dk dd_X9_childAt 22 rfl) cl_9 in_9 13 (Nat.le_of_ble_eq_true rfl) rfl f_9_32 (ge_bW9_0 S) rfl ?_
      refine bs_iload C (bf_dk dd_X9_childAt 23 rfl) rfl ?_
      obtain ⟨hi, h⟩ := h
      refine bs_iald C (bf_dk dd_X9_childAt 24 rfl) (ge_bW9_8 S) hi ?_
      refine bs_iload_n C (bf_dk dd_X9_childAt 25 rfl) rfl ?_
      refine bs_icmp_ne C (bf_dk dd_X9_childAt 26 rfl) (tgt := 59) rfl (fun c => ?_) (fun c => ?_)
      · replace h := h.1 c
        exact bs_weak (bf_s1 (bf_sn (bf_s1 (bf_s1 (bf_s1 bf_s0))))) (t_X9_childAt_59 C hR S (x2) (x3) (x4) Q B14 hB14 h)
      · replace h := h.2 c
        refine bs_aload_n C (bf_dk dd_X9_childAt 27 rfl) rfl ?_
        refine bs_get C (bf_dk dd_X9_childAt 28 rfl) cl_9 in_9 14 (Nat.le_of_ble_eq_true rfl) rfl f_9_35 (ge_bW9_0 S) rfl ?_
        refine bs_iload C (bf_dk dd_X9_childAt 29 rfl) rfl ?_
        obtain ⟨hi, h⟩ := h
        refine bs_iald C (bf_dk dd_X9_childAt 30 rfl) (ge_bW9_9 S) hi ?_
        refine bs_iload_n C (bf_dk dd_X9_childAt 31 rfl) rfl ?_
        refine bs_icmp_ne C (bf_dk dd_X9_childAt 32 rfl) (tgt := 59) rfl (fun c => ?_) (fun c => ?_)
        · replace h := h.1 c
          exact bs_weak (bf_s1 (bf_sn (bf_s1 (bf_s1 (bf_s1 bf_s0))))) (t_X9_childAt_59 C hR S (x2) (x3) (x4) Q B14 hB14 h)
        · replace h := h.2 c
          refine bs_iload C (bf_dk dd_X9_childAt 33 rfl) rfl ?_
          exact bs_iret (u := S) C (bf_dk dd_X9_childAt 34 rfl) rfl ⟨rfl, h⟩
def wp_X9_childAt_14 (S : bT9) (x2 : Int32) (x3 : Int32) (x4 : Int32) (Q : Int32 → Prop) : Prop := ∃ I : Nat → Int32 → Int32 → Int32 → Prop, (∃ n : Nat, I n x2 x3 x4) ∧ ∀ (n : Nat) (x2 : Int32) (x3 : Int32) (x4 : Int32), I n x2 x3 x4 → wp_X9_childAt_14b S x2 x3 x4 Q (fun x2 x3 x4 => ∃ n2 : Nat, n2 < n ∧ I n2 x2 x3 x4)
theorem t_X9_childAt_14 {X : bf_X} (C : bf_C X RX9 cX9_childAt 5 (some .int)) (hR : bf_Rm X 0 0) (S : bT9) (x2 : Int32) (x3 : Int32) (x4 : Int32) (Q : Int32 → Prop) (h : wp_X9_childAt_14 S x2 x3 x4 Q) : bf_A X (bf_Zi X bW9 (fun r u => u = S ∧ Q r)) 5 14 [some (.ref 0), none, some (.int x2), some (.int x3), some (.int x4)] [] (bW9 S) := by
  obtain ⟨I, ⟨n0, h0⟩, hI⟩ := h
  have key : ∀ (n : Nat) (x2 : Int32) (x3 : Int32) (x4 : Int32), I n x2 x3 x4 → bf_A X (bf_Zi X bW9 (fun r u => u = S ∧ Q r)) 5 14 [some (.ref 0), none, some (.int x2), some (.int x3), some (.int x4)] [] (bW9 S) := by
    intro n
    induction n using Nat.strongRecOn with
    | _ n ih =>
      intro x2 x3 x4 hi
      exact t_X9_childAt_14b C hR S x2 x3 x4 Q _ (fun x2 x3 x4 hb => by obtain ⟨n2, hn, hi2⟩ := hb; exact ih n2 hn x2 x3 x4 hi2) (hI n x2 x3 x4 hi)
  exact key n0 x2 x3 x4 h0
def wp_X9_childAt (S : bT9) (a1 : Int32) (a2 : Int32) (Q : Int32 → Prop) : Prop := (vp_in a1 512 ∧ (wp_X9_childAt_14 S (a2) ((((b9g_nodeLevel S) (a1).toNatClampNeg) + (1 : Int32))) ((a1 + (1 : Int32))) Q))
set_option maxRecDepth 20000 in
theorem t_X9_childAt {X : bf_X} (C : bf_C X RX9 cX9_childAt 5 (some .int)) (hR : bf_Rm X 0 0) (S : bT9) (a1 : Int32) (a2 : Int32) (Q : Int32 → Prop) (h : wp_X9_childAt S a1 a2 Q) : bf_A X (bf_Zi X bW9 (fun r u => u = S ∧ Q r)) 5 0 [some (.ref 0), some (.int a1), some (.int a2), none, none] [] (bW9 S) := by
  unfold wp_X9_childAt at h
  refine bs_aload_n C (bf_dk dd_X9_childAt 0 rfl) rfl ?_
  refine bs_get C (bf_dk dd_X9_childAt 1 rfl) cl_9 in_9 13 (Nat.le_of_ble_eq_true rfl) rfl f_9_32 (ge_bW9_0 S) rfl ?_
  refine bs_iload_n C (bf_dk dd_X9_childAt 2 rfl) rfl ?_
  obtain ⟨hi, h⟩ := h
  refine bs_iald C (bf_dk dd_X9_childAt 3 rfl) (ge_bW9_8 S) hi ?_
  refine bs_iconst C (bf_dk dd_X9_childAt 4 rfl) (1 : Int32) (by decide) ?_
  refine bs_iadd C (bf_dk dd_X9_childAt 5 rfl) ?_
  refine bs_istore_n C (bf_dk dd_X9_childAt 6 rfl) rfl (Nat.le_of_ble_eq_true rfl) (Nat.le_of_ble_eq_true rfl) (lv2 := [some (.ref 0), some (.int a1), some (.int a2), some (.int (((b9g_nodeLevel S) (a1).toNatClampNeg) + (1 : Int32))), none]) rfl ?_
  refine bs_iload_n C (bf_dk dd_X9_childAt 7 rfl) rfl ?_
  refine bs_iconst C (bf_dk dd_X9_childAt 8 rfl) (1 : Int32) (by decide) ?_
  refine bs_iadd C (bf_dk dd_X9_childAt 9 rfl) ?_
  refine bs_istore C (bf_dk dd_X9_childAt 10 rfl) (Nat.le_of_ble_eq_true rfl) (Nat.le_of_ble_eq_true rfl) (lv2 := [some (.ref 0), some (.int a1), some (.int a2), some (.int (((b9g_nodeLevel S) (a1).toNatClampNeg) + (1 : Int32))), some (.int (a1 + (1 : Int32)))]) rfl ?_
  exact bs_weak (bf_s1 (bf_sn (bf_s1 (bf_s1 (bf_s1 bf_s0))))) (t_X9_childAt_14 C hR S (a2) ((((b9g_nodeLevel S) (a1).toNatClampNeg) + (1 : Int32))) ((a1 + (1 : Int32))) Q h)
theorem c_X9_childAt (l : Launch) (dC : Nat → ClassId) (dI : Nat → Nat → Nat) (ac : Nat → ClassId) (al : Nat → Nat) (S : bT9) (a1 : Int32) (a2 : Int32) (Q : Int32 → Prop) (h : wp_X9_childAt S a1 a2 Q) : bf_M l yX9_childAt cX9_childAt 5 (some .int) 0 0 dC dI ac al [.ref 0, .int a1, .int a2] (bW9 S) (bf_Ki dC dI ac al bW9 (fun r u => u = S ∧ Q r)) := by
  refine bf_start [some (.ref 0), some (.int a1), some (.int a2), none, none] (by decide) (Nat.le_of_ble_eq_true rfl) (bf_s1 (bf_s1 (bf_s1 (bf_en 2)))) ?_
  intro X hl C hR e1 e2 e3 e4
  subst e1; subst e2; subst e3; subst e4
  exact t_X9_childAt C hR S a1 a2 Q h
def wp_X9_isBranch_53 (S : bT9) (Q : Int32 → Prop) : Prop := (bf_bool (1 : Int32) ∧ Q (1 : Int32))
set_option maxRecDepth 20000 in
theorem t_X9_isBranch_53 {X : bf_X} (C : bf_C X RX9 cX9_isBranch 4 (some .boolean)) (hR : bf_Rm X 2 46) (S : bT9) (Q : Int32 → Prop) (h : wp_X9_isBranch_53 S Q) : bf_A X (bf_Zi X bW9 (fun r u => u = S ∧ Q r)) 4 53 [none, none, none, none] [] (bW9 S) := by
  unfold wp_X9_isBranch_53 at h
  refine bs_iconst C (bf_dk dd_X9_isBranch 35 rfl) (1 : Int32) (by decide) ?_
  refine bs_goto C (bf_dk dd_X9_isBranch 36 rfl) (tgt := 58) rfl ?_
  obtain ⟨hi, h⟩ := h
  exact bs_zret (u := S) C (bf_dk dd_X9_isBranch 38 rfl) hi rfl ⟨rfl, h⟩
def wp_X9_isBranch (S : bT9) (a1 : Int32) (a2 : Int32) (Q : Int32 → Prop) : Prop := (vp_in a1 512 ∧ (vp_in a2 64 ∧ ((((b9g_beginning S) (a2).toNatClampNeg) ≤ ((b9g_nodeLevel S) (a1).toNatClampNeg) → (bf_bool (0 : Int32) ∧ Q (0 : Int32))) ∧ (¬ ((b9g_beginning S) (a2).toNatClampNeg) ≤ ((b9g_nodeLevel S) (a1).toNatClampNeg) → (vp_in a1 512 ∧ ((a2 = ((b9g_nodeLeaf S) (a1).toNatClampNeg) → (wp_X9_isBranch_53 S Q)) ∧ (¬ a2 = ((b9g_nodeLeaf S) (a1).toNatClampNeg) → (vp_in (a2 - (1 : Int32)) 64 ∧ ((((b9g_beginning S) ((a2 - (1 : Int32))).toNatClampNeg) ≤ ((b9g_nodeLevel S) (a1).toNatClampNeg) → (wp_X9_isBranch_53 S Q)) ∧ (¬ ((b9g_beginning S) ((a2 - (1 : Int32))).toNatClampNeg) ≤ ((b9g_nodeLevel S) (a1).toNatClampNeg) → (wp_X9_isAlike S ((a2 - (1 : Int32))) (a2) ((((b9g_nodeLevel S) (a1).toNatClampNeg) + (1 : Int32))) (fun r1 => ((¬ r1 = 0 → (bf_bool (0 : Int32) ∧ Q (0 : Int32))) ∧ (r1 = 0 → (wp_X9_isBranch_53 S Q)))))))))))))))
set_option maxRecDepth 20000 in
theorem t_X9_isBranch {X : bf_X} (C : bf_C X RX9 cX9_isBranch 4 (some .boolean)) (hR : bf_Rm X 2 46) (S : bT9) (a1 : Int32) (a2 : Int32) (Q : Int32 → Prop) (h : wp_X9_isBranch S a1 a2 Q) : bf_A X (bf_Zi X bW9 (fun r u => u = S ∧ Q r)) 4 0 [some (.ref 0), some (.int a1), some (.int a2), none] [] (bW9 S) := by
  unfold wp_X9_isBranch at h
  refine bs_aload_n C (bf_dk dd_X9_isBranch 0 rfl) rfl ?_
  refine bs_get C (bf_dk dd_X9_isBranch 1 rfl) cl_9 in_9 13 (Nat.le_of_ble_eq_true rfl) rfl f_9_32 (ge_bW9_0 S) rfl ?_
  refine bs_iload_n C (bf_dk dd_X9_isBranch 2 rfl) rfl ?_
  obtain ⟨hi, h⟩ := h
  refine bs_iald C (bf_dk dd_X9_isBranch 3 rfl) (ge_bW9_8 S) hi ?_
  refine bs_istore_n C (bf_dk dd_X9_isBranch 4 rfl) rfl (Nat.le_of_ble_eq_true rfl) (Nat.le_of_ble_eq_true rfl) (lv2 := [some (.ref 0), some (.int a1), some (.int a2), some (.int ((b9g_nodeLevel S) (a1).toNatClampNeg))]) rfl ?_
  refine bs_aload_n C (bf_dk dd_X9_isBranch 5 rfl) rfl ?_
  refine bs_get C (bf_dk dd_X9_isBranch 6 rfl) cl_9 in_9 11 (Nat.le_of_ble_eq_true rfl) rfl f_9_29 (ge_bW9_0 S) rfl ?_
  refine bs_iload_n C (bf_dk dd_X9_isBranch 7 rfl) rfl ?_
  obtain ⟨hi, h⟩ := h
  refine bs_iald C (bf_dk dd_X9_isBranch 8 rfl) (ge_bW9_7 S) hi ?_
  refine bs_iload_n C (bf_dk dd_X9_isBranch 9 rfl) rfl ?_
  refine bs_icmp_le C (bf_dk dd_X9_isBranch 10 rfl) (tgt := 57) rfl (fun c => ?_) (fun c => ?_)
  · replace h := h.1 c
    refine bs_iconst C (bf_dk dd_X9_isBranch 37 rfl) (0 : Int32) (by decide) ?_
    obtain ⟨hi, h⟩ := h
    exact bs_zret (u := S) C (bf_dk dd_X9_isBranch 38 rfl) hi rfl ⟨rfl, h⟩
  · replace h := h.2 c
    refine bs_iload_n C (bf_dk dd_X9_isBranch 11 rfl) rfl ?_
    refine bs_aload_n C (bf_dk dd_X9_isBranch 12 rfl) rfl ?_
    refine bs_get C (bf_dk dd_X9_isBranch 13 rfl) cl_9 in_9 14 (Nat.le_of_ble_eq_true rfl) rfl f_9_35 (ge_bW9_0 S) rfl ?_
    refine bs_iload_n C (bf_dk dd_X9_isBranch 14 rfl) rfl ?_
    obtain ⟨hi, h⟩ := h
    refine bs_iald C (bf_dk dd_X9_isBranch 15 rfl) (ge_bW9_9 S) hi ?_
    refine bs_icmp_eq C (bf_dk dd_X9_isBranch 16 rfl) (tgt := 53) rfl (fun c => ?_) (fun c => ?_)
    · replace h := h.1 c
      exact bs_weak (bf_sn (bf_sn (bf_sn (bf_sn bf_s0)))) (t_X9_isBranch_53 C hR S Q h)
    · replace h := h.2 c
      refine bs_aload_n C (bf_dk dd_X9_isBranch 17 rfl) rfl ?_
      refine bs_get C (bf_dk dd_X9_isBranch 18 rfl) cl_9 in_9 11 (Nat.le_of_ble_eq_true rfl) rfl f_9_29 (ge_bW9_0 S) rfl ?_
      refine bs_iload_n C (bf_dk dd_X9_isBranch 19 rfl) rfl ?_
      refine bs_iconst C (bf_dk dd_X9_isBranch 20 rfl) (1 : Int32) (by decide) ?_
      refine bs_isub C (bf_dk dd_X9_isBranch 21 rfl) ?_
      obtain ⟨hi, h⟩ := h
      refine bs_iald C (bf_dk dd_X9_isBranch 22 rfl) (ge_bW9_7 S) hi ?_
      refine bs_iload_n C (bf_dk dd_X9_isBranch 23 rfl) rfl ?_
      refine bs_icmp_le C (bf_dk dd_X9_isBranch 24 rfl) (tgt := 53) rfl (fun c => ?_) (fun c => ?_)
      · replace h := h.1 c
        exact bs_weak (bf_sn (bf_sn (bf_sn (bf_sn bf_s0)))) (t_X9_isBranch_53 C hR S Q h)
      · replace h := h.2 c
        refine bs_aload_n C (bf_dk dd_X9_isBranch 25 rfl) rfl ?_
        refine bs_iload_n C (bf_dk dd_X9_isBranch 26 rfl) rfl ?_
        refine bs_iconst C (bf_dk dd_X9_isBranch 27 rfl) (1 : Int32) (by decide) ?_
        refine bs_isub C (bf_dk dd_X9_isBranch 28 rfl) ?_
        refine bs_iload_n C (bf_dk dd_X9_isBranch 29 rfl) rfl ?_
        refine bs_iload_n C (bf_dk dd_X9_isBranch 30 rfl) rfl ?_
        refine bs_iconst C (bf_dk dd_X9_isBranch 31 rfl) (1 : Int32) (by decide) ?_
        refine bs_iadd C (bf_dk dd_X9_isBranch 32 rfl) ?_
        refine bs_selfPV_i C hR (c_X9_isAlike _ _ _ _ _ S ((a2 - (1 : Int32))) (a2) ((((b9g_nodeLevel S) (a1).toNatClampNeg) + (1 : Int32))) _ h) my_X9_isAlike m_9_195 rfl cl_9 (ge_bW9_0 _) rfl (Nat.le_of_ble_eq_true rfl) (Nat.le_of_ble_eq_true rfl) (st := []) (Nat.le_of_ble_eq_true rfl) (bf_dk dd_X9_isBranch 33 rfl) rfl (fun r1 h => ?_)
        refine bs_if_ne C (bf_dk dd_X9_isBranch 34 rfl) (tgt := 57) rfl (fun c => ?_) (fun c => ?_)
        · replace h := h.1 c
          refine bs_iconst C (bf_dk dd_X9_isBranch 37 rfl) (0 : Int32) (by decide) ?_
          obtain ⟨hi, h⟩ := h
          exact bs_zret (u := S) C (bf_dk dd_X9_isBranch 38 rfl) hi rfl ⟨rfl, h⟩
        · replace h := h.2 c
          exact bs_weak (bf_sn (bf_sn (bf_sn (bf_sn bf_s0)))) (t_X9_isBranch_53 C hR S Q h)
theorem c_X9_isBranch (l : Launch) (dC : Nat → ClassId) (dI : Nat → Nat → Nat) (ac : Nat → ClassId) (al : Nat → Nat) (S : bT9) (a1 : Int32) (a2 : Int32) (Q : Int32 → Prop) (h : wp_X9_isBranch S a1 a2 Q) : bf_M l yX9_isBranch cX9_isBranch 4 (some .boolean) 2 46 dC dI ac al [.ref 0, .int a1, .int a2] (bW9 S) (bf_Ki dC dI ac al bW9 (fun r u => u = S ∧ Q r)) := by
  refine bf_start [some (.ref 0), some (.int a1), some (.int a2), none] (by decide) (Nat.le_of_ble_eq_true rfl) (bf_s1 (bf_s1 (bf_s1 (bf_en 1)))) ?_
  intro X hl C hR e1 e2 e3 e4
  subst e1; subst e2; subst e3; subst e4
  exact t_X9_isBranch C hR S a1 a2 Q h
def wp_X9_isNodeEnd (S : bT9) (a1 : Int32) (Q : Int32 → Prop) : Prop := (vp_in a1 512 ∧ (vp_in ((b9g_nodeLeaf S) (a1).toNatClampNeg) 64 ∧ (vp_in a1 512 ∧ ((¬ ((b9g_beginning S) (((b9g_nodeLeaf S) (a1).toNatClampNeg)).toNatClampNeg) = ((b9g_nodeLevel S) (a1).toNatClampNeg) → (bf_bool (0 : Int32) ∧ Q (0 : Int32))) ∧ (((b9g_beginning S) (((b9g_nodeLeaf S) (a1).toNatClampNeg)).toNatClampNeg) = ((b9g_nodeLevel S) (a1).toNatClampNeg) → (bf_bool (1 : Int32) ∧ Q (1 : Int32)))))))
set_option maxRecDepth 20000 in
theorem t_X9_isNodeEnd {X : bf_X} (C : bf_C X RX9 cX9_isNodeEnd 2 (some .boolean)) (hR : bf_Rm X 0 0) (S : bT9) (a1 : Int32) (Q : Int32 → Prop) (h : wp_X9_isNodeEnd S a1 Q) : bf_A X (bf_Zi X bW9 (fun r u => u = S ∧ Q r)) 2 0 [some (.ref 0), some (.int a1)] [] (bW9 S) := by
  unfold wp_X9_isNodeEnd at h
  refine bs_aload_n C (bf_dk dd_X9_isNodeEnd 0 rfl) rfl ?_
  refine bs_get C (bf_dk dd_X9_isNodeEnd 1 rfl) cl_9 in_9 11 (Nat.le_of_ble_eq_true rfl) rfl f_9_29 (ge_bW9_0 S) rfl ?_
  refine bs_aload_n C (bf_dk dd_X9_isNodeEnd 2 rfl) rfl ?_
  refine bs_get C (bf_dk dd_X9_isNodeEnd 3 rfl) cl_9 in_9 14 (Nat.le_of_ble_eq_true rfl) rfl f_9_35 (ge_bW9_0 S) rfl ?_
  refine bs_iload_n C (bf_dk dd_X9_isNodeEnd 4 rfl) rfl ?_
  obtain ⟨hi, h⟩ := h
  refine bs_iald C (bf_dk dd_X9_isNodeEnd 5 rfl) (ge_bW9_9 S) hi ?_
  obtain ⟨hi, h⟩ := h
  refine bs_iald C (bf_dk dd_X9_isNodeEnd 6 rfl) (ge_bW9_7 S) hi ?_
  refine bs_aload_n C (bf_dk dd_X9_isNodeEnd 7 rfl) rfl ?_
  refine bs_get C (bf_dk dd_X9_isNodeEnd 8 rfl) cl_9 in_9 13 (Nat.le_of_ble_eq_true rfl) rfl f_9_32 (ge_bW9_0 S) rfl ?_
  refine bs_iload_n C (bf_dk dd_X9_isNodeEnd 9 rfl) rfl ?_
  obtain ⟨hi, h⟩ := h
  refine bs_iald C (bf_dk dd_X9_isNodeEnd 10 rfl) (ge_bW9_8 S) hi ?_
  refine bs_icmp_ne C (bf_dk dd_X9_isNodeEnd 11 rfl) (tgt := 24) rfl (fun c => ?_) (fun c => ?_)
  · replace h := h.1 c
    refine bs_iconst C (bf_dk dd_X9_isNodeEnd 14 rfl) (0 : Int32) (by decide) ?_
    obtain ⟨hi, h⟩ := h
    exact bs_zret (u := S) C (bf_dk dd_X9_isNodeEnd 15 rfl) hi rfl ⟨rfl, h⟩
  · replace h := h.2 c
    refine bs_iconst C (bf_dk dd_X9_isNodeEnd 12 rfl) (1 : Int32) (by decide) ?_
    refine bs_goto C (bf_dk dd_X9_isNodeEnd 13 rfl) (tgt := 25) rfl ?_
    obtain ⟨hi, h⟩ := h
    exact bs_zret (u := S) C (bf_dk dd_X9_isNodeEnd 15 rfl) hi rfl ⟨rfl, h⟩
theorem c_X9_isNodeEnd (l : Launch) (dC : Nat → ClassId) (dI : Nat → Nat → Nat) (ac : Nat → ClassId) (al : Nat → Nat) (S : bT9) (a1 : Int32) (Q : Int32 → Prop) (h : wp_X9_isNodeEnd S a1 Q) : bf_M l yX9_isNodeEnd cX9_isNodeEnd 2 (some .boolean) 0 0 dC dI ac al [.ref 0, .int a1] (bW9 S) (bf_Ki dC dI ac al bW9 (fun r u => u = S ∧ Q r)) := by
  refine bf_start [some (.ref 0), some (.int a1)] (by decide) (Nat.le_of_ble_eq_true rfl) (bf_s1 (bf_s1 bf_s0)) ?_
  intro X hl C hR e1 e2 e3 e4
  subst e1; subst e2; subst e3; subst e4
  exact t_X9_isNodeEnd C hR S a1 Q h
def wp_X9_lastOf (S : bT9) (a1 : Int32) (Q : Int32 → Prop) : Prop := (vp_in a1 512 ∧ (vp_in a1 512 ∧ (Q ((((b9g_nodeLeaf S) (a1).toNatClampNeg) + ((b9g_nodeLeaves S) (a1).toNatClampNeg)) - (1 : Int32)))))
set_option maxRecDepth 20000 in
theorem t_X9_lastOf {X : bf_X} (C : bf_C X RX9 cX9_lastOf 2 (some .int)) (hR : bf_Rm X 0 0) (S : bT9) (a1 : Int32) (Q : Int32 → Prop) (h : wp_X9_lastOf S a1 Q) : bf_A X (bf_Zi X bW9 (fun r u => u = S ∧ Q r)) 2 0 [some (.ref 0), some (.int a1)] [] (bW9 S) := by
  unfold wp_X9_lastOf at h
  refine bs_aload_n C (bf_dk dd_X9_lastOf 0 rfl) rfl ?_
  refine bs_get C (bf_dk dd_X9_lastOf 1 rfl) cl_9 in_9 14 (Nat.le_of_ble_eq_true rfl) rfl f_9_35 (ge_bW9_0 S) rfl ?_
  refine bs_iload_n C (bf_dk dd_X9_lastOf 2 rfl) rfl ?_
  obtain ⟨hi, h⟩ := h
  refine bs_iald C (bf_dk dd_X9_lastOf 3 rfl) (ge_bW9_9 S) hi ?_
  refine bs_aload_n C (bf_dk dd_X9_lastOf 4 rfl) rfl ?_
  refine bs_get C (bf_dk dd_X9_lastOf 5 rfl) cl_9 in_9 15 (Nat.le_of_ble_eq_true rfl) rfl f_9_38 (ge_bW9_0 S) rfl ?_
  refine bs_iload_n C (bf_dk dd_X9_lastOf 6 rfl) rfl ?_
  obtain ⟨hi, h⟩ := h
  refine bs_iald C (bf_dk dd_X9_lastOf 7 rfl) (ge_bW9_10 S) hi ?_
  refine bs_iadd C (bf_dk dd_X9_lastOf 8 rfl) ?_
  refine bs_iconst C (bf_dk dd_X9_lastOf 9 rfl) (1 : Int32) (by decide) ?_
  refine bs_isub C (bf_dk dd_X9_lastOf 10 rfl) ?_
  exact bs_iret (u := S) C (bf_dk dd_X9_lastOf 11 rfl) rfl ⟨rfl, h⟩
theorem c_X9_lastOf (l : Launch) (dC : Nat → ClassId) (dI : Nat → Nat → Nat) (ac : Nat → ClassId) (al : Nat → Nat) (S : bT9) (a1 : Int32) (Q : Int32 → Prop) (h : wp_X9_lastOf S a1 Q) : bf_M l yX9_lastOf cX9_lastOf 2 (some .int) 0 0 dC dI ac al [.ref 0, .int a1] (bW9 S) (bf_Ki dC dI ac al bW9 (fun r u => u = S ∧ Q r)) := by
  refine bf_start [some (.ref 0), some (.int a1)] (by decide) (Nat.le_of_ble_eq_true rfl) (bf_s1 (bf_s1 bf_s0)) ?_
  intro X hl C hR e1 e2 e3 e4
  subst e1; subst e2; subst e3; subst e4
  exact t_X9_lastOf C hR S a1 Q h
def wp_X9_laysItem (S : bT9) (a1 : Int32) (a2 : Int32) (a3 : Int32) (Q : (bT9) → Prop) : Prop := (vp_in (b9g_itemMany S) 700 ∧ (∀ S1 : bT9, S1 = (b9s_itemNode S (upd (b9g_itemNode S) ((b9g_itemMany S)).toNatClampNeg a1)) → (vp_in (b9g_itemMany S1) 700 ∧ (∀ S2 : bT9, S2 = (b9s_itemByte S1 (upd (b9g_itemByte S1) ((b9g_itemMany S1)).toNatClampNeg a2)) → (vp_in (b9g_itemMany S2) 700 ∧ (∀ S3 : bT9, S3 = (b9s_itemChild S2 (upd (b9g_itemChild S2) ((b9g_itemMany S2)).toNatClampNeg a3)) → (∀ S4 : bT9, S4 = (b9s_itemMany S3 ((b9g_itemMany S3) + (1 : Int32))) → (Q S4))))))))
set_option maxRecDepth 20000 in
theorem t_X9_laysItem {X : bf_X} (C : bf_C X RX9 cX9_laysItem 4 none) (hR : bf_Rm X 0 0) (S : bT9) (a1 : Int32) (a2 : Int32) (a3 : Int32) (Q : (bT9) → Prop) (h : wp_X9_laysItem S a1 a2 a3 Q) : bf_A X (bf_Zv X bW9 Q) 4 0 [some (.ref 0), some (.int a1), some (.int a2), some (.int a3)] [] (bW9 S) := by
  unfold wp_X9_laysItem at h
  refine bs_aload_n C (bf_dk dd_X9_laysItem 0 rfl) rfl ?_
  refine bs_get C (bf_dk dd_X9_laysItem 1 rfl) cl_9 in_9 21 (Nat.le_of_ble_eq_true rfl) rfl f_9_41 (ge_bW9_0 S) rfl ?_
  refine bs_aload_n C (bf_dk dd_X9_laysItem 2 rfl) rfl ?_
  refine bs_get C (bf_dk dd_X9_laysItem 3 rfl) cl_9 in_9 24 (Nat.le_of_ble_eq_true rfl) rfl f_9_250 (ge_bW9_0 S) rfl ?_
  refine bs_iload_n C (bf_dk dd_X9_laysItem 4 rfl) rfl ?_
  obtain ⟨hi, h⟩ := h
  refine bs_iast C (bf_dk dd_X9_laysItem 5 rfl) (ge_bW9_11 S) hi (ar_bW9_11 S _) ?_
  refine bs_nameS bW9 (fun S1 eS1 => ?_)
  replace h := h S1 eS1
  refine bs_aload_n C (bf_dk dd_X9_laysItem 6 rfl) rfl ?_
  refine bs_get C (bf_dk dd_X9_laysItem 7 rfl) cl_9 in_9 22 (Nat.le_of_ble_eq_true rfl) rfl f_9_44 (ge_bW9_0 S1) rfl ?_
  refine bs_aload_n C (bf_dk dd_X9_laysItem 8 rfl) rfl ?_
  refine bs_get C (bf_dk dd_X9_laysItem 9 rfl) cl_9 in_9 24 (Nat.le_of_ble_eq_true rfl) rfl f_9_250 (ge_bW9_0 S1) rfl ?_
  refine bs_iload_n C (bf_dk dd_X9_laysItem 10 rfl) rfl ?_
  obtain ⟨hi, h⟩ := h
  refine bs_iast C (bf_dk dd_X9_laysItem 11 rfl) (ge_bW9_12 S1) hi (ar_bW9_12 S1 _) ?_
  refine bs_nameS bW9 (fun S2 eS2 => ?_)
  replace h := h S2 eS2
  refine bs_aload_n C (bf_dk dd_X9_laysItem 12 rfl) rfl ?_
  refine bs_get C (bf_dk dd_X9_laysItem 13 rfl) cl_9 in_9 23 (Nat.le_of_ble_eq_true rfl) rfl f_9_47 (ge_bW9_0 S2) rfl ?_
  refine bs_aload_n C (bf_dk dd_X9_laysItem 14 rfl) rfl ?_
  refine bs_get C (bf_dk dd_X9_laysItem 15 rfl) cl_9 in_9 24 (Nat.le_of_ble_eq_true rfl) rfl f_9_250 (ge_bW9_0 S2) rfl ?_
  refine bs_iload_n C (bf_dk dd_X9_laysItem 16 rfl) rfl ?_
  obtain ⟨hi, h⟩ := h
  refine bs_iast C (bf_dk dd_X9_laysItem 17 rfl) (ge_bW9_13 S2) hi (ar_bW9_13 S2 _) ?_
  refine bs_nameS bW9 (fun S3 eS3 => ?_)
  replace h := h S3 eS3
  refine bs_aload_n C (bf_dk dd_X9_laysItem 18 rfl) rfl ?_
  refine bs_aload_n C (bf_dk dd_X9_laysItem 19 rfl) rfl ?_
  refine bs_get C (bf_dk dd_X9_laysItem 20 rfl) cl_9 in_9 24 (Nat.le_of_ble_eq_true rfl) rfl f_9_250 (ge_bW9_0 S3) rfl ?_
  refine bs_iconst C (bf_dk dd_X9_laysItem 21 rfl) (1 : Int32) (by decide) ?_
  refine bs_iadd C (bf_dk dd_X9_laysItem 22 rfl) ?_
  refine bs_put C (bf_dk dd_X9_laysItem 23 rfl) tyX9_ok nmX9 cl_9 in_9 24 (Nat.le_of_ble_eq_true rfl) rfl f_9_250 rfl (ge_bW9_0 S3) (Nat.le_of_ble_eq_true rfl) rfl rfl (pu_bW9_0_24 S3 ((b9g_itemMany S3) + (1 : Int32))) ?_
  refine bs_nameS bW9 (fun S4 eS4 => ?_)
  replace h := h S4 eS4
  exact bs_vret (u := S4) C (bf_dk dd_X9_laysItem 24 rfl) rfl h
theorem c_X9_laysItem (l : Launch) (dC : Nat → ClassId) (dI : Nat → Nat → Nat) (ac : Nat → ClassId) (al : Nat → Nat) (S : bT9) (a1 : Int32) (a2 : Int32) (a3 : Int32) (Q : (bT9) → Prop) (h : wp_X9_laysItem S a1 a2 a3 Q) : bf_M l yX9_laysItem cX9_laysItem 4 none 0 0 dC dI ac al [.ref 0, .int a1, .int a2, .int a3] (bW9 S) (bf_Kv dC dI ac al bW9 Q) := by
  refine bf_start [some (.ref 0), some (.int a1), some (.int a2), some (.int a3)] (by decide) (Nat.le_of_ble_eq_true rfl) (bf_s1 (bf_s1 (bf_s1 (bf_s1 bf_s0)))) ?_
  intro X hl C hR e1 e2 e3 e4
  subst e1; subst e2; subst e3; subst e4
  exact t_X9_laysItem C hR S a1 a2 a3 Q h
def wp_X9_places (S : bT9) (a1 : Int32) (Q : (bT9) → Prop) : Prop := (vp_in a1 64 ∧ (∀ S1 : bT9, S1 = (b9s_placeOf S (upd (b9g_placeOf S) (a1).toNatClampNeg (b9g_places S))) → (vp_in (b9g_places S1) 64 ∧ (∀ S2 : bT9, S2 = (b9s_leafOfPlace S1 (upd (b9g_leafOfPlace S1) ((b9g_places S1)).toNatClampNeg a1)) → (∀ S3 : bT9, S3 = (b9s_places S2 ((b9g_places S2) + (1 : Int32))) → (Q S3))))))
set_option maxRecDepth 20000 in
theorem t_X9_places {X : bf_X} (C : bf_C X RX9 cX9_places 2 none) (hR : bf_Rm X 0 0) (S : bT9) (a1 : Int32) (Q : (bT9) → Prop) (h : wp_X9_places S a1 Q) : bf_A X (bf_Zv X bW9 Q) 2 0 [some (.ref 0), some (.int a1)] [] (bW9 S) := by
  unfold wp_X9_places at h
  refine bs_aload_n C (bf_dk dd_X9_places 0 rfl) rfl ?_
  refine bs_get C (bf_dk dd_X9_places 1 rfl) cl_9 in_9 25 (Nat.le_of_ble_eq_true rfl) rfl f_9_50 (ge_bW9_0 S) rfl ?_
  refine bs_iload_n C (bf_dk dd_X9_places 2 rfl) rfl ?_
  refine bs_aload_n C (bf_dk dd_X9_places 3 rfl) rfl ?_
  refine bs_get C (bf_dk dd_X9_places 4 rfl) cl_9 in_9 27 (Nat.le_of_ble_eq_true rfl) rfl f_9_247 (ge_bW9_0 S) rfl ?_
  obtain ⟨hi, h⟩ := h
  refine bs_iast C (bf_dk dd_X9_places 5 rfl) (ge_bW9_14 S) hi (ar_bW9_14 S _) ?_
  refine bs_nameS bW9 (fun S1 eS1 => ?_)
  replace h := h S1 eS1
  refine bs_aload_n C (bf_dk dd_X9_places 6 rfl) rfl ?_
  refine bs_get C (bf_dk dd_X9_places 7 rfl) cl_9 in_9 26 (Nat.le_of_ble_eq_true rfl) rfl f_9_53 (ge_bW9_0 S1) rfl ?_
  refine bs_aload_n C (bf_dk dd_X9_places 8 rfl) rfl ?_
  refine bs_get C (bf_dk dd_X9_places 9 rfl) cl_9 in_9 27 (Nat.le_of_ble_eq_true rfl) rfl f_9_247 (ge_bW9_0 S1) rfl ?_
  refine bs_iload_n C (bf_dk dd_X9_places 10 rfl) rfl ?_
  obtain ⟨hi, h⟩ := h
  refine bs_iast C (bf_dk dd_X9_places 11 rfl) (ge_bW9_15 S1) hi (ar_bW9_15 S1 _) ?_
  refine bs_nameS bW9 (fun S2 eS2 => ?_)
  replace h := h S2 eS2
  refine bs_aload_n C (bf_dk dd_X9_places 12 rfl) rfl ?_
  refine bs_aload_n C (bf_dk dd_X9_places 13 rfl) rfl ?_
  refine bs_get C (bf_dk dd_X9_places 14 rfl) cl_9 in_9 27 (Nat.le_of_ble_eq_true rfl) rfl f_9_247 (ge_bW9_0 S2) rfl ?_
  refine bs_iconst C (bf_dk dd_X9_places 15 rfl) (1 : Int32) (by decide) ?_
  refine bs_iadd C (bf_dk dd_X9_places 16 rfl) ?_
  refine bs_put C (bf_dk dd_X9_places 17 rfl) tyX9_ok nmX9 cl_9 in_9 27 (Nat.le_of_ble_eq_true rfl) rfl f_9_247 rfl (ge_bW9_0 S2) (Nat.le_of_ble_eq_true rfl) rfl rfl (pu_bW9_0_27 S2 ((b9g_places S2) + (1 : Int32))) ?_
  refine bs_nameS bW9 (fun S3 eS3 => ?_)
  replace h := h S3 eS3
  exact bs_vret (u := S3) C (bf_dk dd_X9_places 18 rfl) rfl h
theorem c_X9_places (l : Launch) (dC : Nat → ClassId) (dI : Nat → Nat → Nat) (ac : Nat → ClassId) (al : Nat → Nat) (S : bT9) (a1 : Int32) (Q : (bT9) → Prop) (h : wp_X9_places S a1 Q) : bf_M l yX9_places cX9_places 2 none 0 0 dC dI ac al [.ref 0, .int a1] (bW9 S) (bf_Kv dC dI ac al bW9 Q) := by
  refine bf_start [some (.ref 0), some (.int a1)] (by decide) (Nat.le_of_ble_eq_true rfl) (bf_s1 (bf_s1 bf_s0)) ?_
  intro X hl C hR e1 e2 e3 e4
  subst e1; subst e2; subst e3; subst e4
  exact t_X9_places C hR S a1 Q h
def wp_X9_laysNode_116 (S : bT9) (x1 : Int32) (x2 : Int32) (x3 : Int32) (Q : (bT9) → Prop) (B50 : Int32 → Int32 → Int32 → (bT9) → Prop) : Prop := (B50 (x1) (x2) ((x3 + (1 : Int32))) S)
set_option maxRecDepth 20000 in
theorem t_X9_laysNode_116 {X : bf_X} (C : bf_C X RX9 cX9_laysNode 5 none) (hR : bf_Rm X 3 69) (S : bT9) (x1 : Int32) (x2 : Int32) (x3 : Int32) (Q : (bT9) → Prop) (B50 : Int32 → Int32 → Int32 → (bT9) → Prop) (hB50 : ∀ (x1 : Int32) (x2 : Int32) (x3 : Int32) (S : bT9), B50 x1 x2 x3 S → bf_A X (bf_Zv X bW9 Q) 5 50 [some (.ref 0), some (.int x1), some (.int x2), some (.int x3), none] [] (bW9 S)) (h : wp_X9_laysNode_116 S x1 x2 x3 Q B50) : bf_A X (bf_Zv X bW9 Q) 5 116 [some (.ref 0), some (.int x1), some (.int x2), some (.int x3), none] [] (bW9 S) := by
  unfold wp_X9_laysNode_116 at h
  refine bs_iinc C (bf_dk dd_X9_laysNode 67 rfl) (x3 + (1 : Int32)) rfl rfl (Nat.le_of_ble_eq_true rfl) (Nat.le_of_ble_eq_true rfl) (lv2 := [some (.ref 0), some (.int x1), some (.int x2), some (.int (x3 + (1 : Int32))), none]) rfl ?_
  refine bs_goto C (bf_dk dd_X9_laysNode 68 rfl) (tgt := 50) rfl ?_
  exact bs_weak (bf_s1 (bf_s1 (bf_s1 (bf_s1 (bf_sn bf_s0))))) (hB50 (x1) (x2) ((x3 + (1 : Int32))) S h)
def wp_X9_laysNode_90 (S : bT9) (x1 : Int32) (x2 : Int32) (x3 : Int32) (x4 : Int32) (Q : (bT9) → Prop) (B50 : Int32 → Int32 → Int32 → (bT9) → Prop) : Prop := ((x2 = 0 → (wp_X9_laysNode_116 S (x1) (x2) (x3) Q B50)) ∧ (¬ x2 = 0 → (wp_X9_key S (x3) (fun r1 => (vp_in x1 512 ∧ (wp_X9_byteOf S (r1) (((b9g_nodeLevel S) (x1).toNatClampNeg)) (fun r3 => (wp_X9_laysItem S (x1) (r3) (x4) (fun u6 => (wp_X9_laysNode_116 u6 (x1) (x2) (x3) Q B50))))))))))
set_option maxRecDepth 20000 in
theorem t_X9_laysNode_90 {X : bf_X} (C : bf_C X RX9 cX9_laysNode 5 none) (hR : bf_Rm X 3 69) (S : bT9) (x1 : Int32) (x2 : Int32) (x3 : Int32) (x4 : Int32) (Q : (bT9) → Prop) (B50 : Int32 → Int32 → Int32 → (bT9) → Prop) (hB50 : ∀ (x1 : Int32) (x2 : Int32) (x3 : Int32) (S : bT9), B50 x1 x2 x3 S → bf_A X (bf_Zv X bW9 Q) 5 50 [some (.ref 0), some (.int x1), some (.int x2), some (.int x3), none] [] (bW9 S)) (h : wp_X9_laysNode_90 S x1 x2 x3 x4 Q B50) : bf_A X (bf_Zv X bW9 Q) 5 90 [some (.ref 0), some (.int x1), some (.int x2), some (.int x3), some (.int x4)] [] (bW9 S) := by
  unfold wp_X9_laysNode_90 at h
  refine bs_iload_n C (bf_dk dd_X9_laysNode 52 rfl) rfl ?_
  refine bs_if_eq C (bf_dk dd_X9_laysNode 53 rfl) (tgt := 116) rfl (fun c => ?_) (fun c => ?_)
  · replace h := h.1 c
    exact bs_weak (bf_s1 (bf_s1 (bf_s1 (bf_s1 (bf_sn bf_s0))))) (t_X9_laysNode_116 C hR S (x1) (x2) (x3) Q B50 hB50 h)
  · replace h := h.2 c
    refine bs_aload_n C (bf_dk dd_X9_laysNode 54 rfl) rfl ?_
    refine bs_iload_n C (bf_dk dd_X9_laysNode 55 rfl) rfl ?_
    refine bs_aload_n C (bf_dk dd_X9_laysNode 56 rfl) rfl ?_
    refine bs_aload_n C (bf_dk dd_X9_laysNode 57 rfl) rfl ?_
    refine bs_iload_n C (bf_dk dd_X9_laysNode 58 rfl) rfl ?_
    refine bs_selfPV_l C hR (c_X9_key _ _ _ _ _ S (x3) _ h) my_X9_key m_9_178 rfl cl_9 (ge_bW9_0 _) rfl (Nat.le_of_ble_eq_true rfl) (Nat.le_of_ble_eq_true rfl) (st := [.ref 0, .int x1, .ref 0]) (Nat.le_of_ble_eq_true rfl) (bf_dk dd_X9_laysNode 59 rfl) rfl (fun r1 h => ?_)
    refine bs_aload_n C (bf_dk dd_X9_laysNode 60 rfl) rfl ?_
    refine bs_get C (bf_dk dd_X9_laysNode 61 rfl) cl_9 in_9 13 (Nat.le_of_ble_eq_true rfl) rfl f_9_32 (ge_bW9_0 S) rfl ?_
    refine bs_iload_n C (bf_dk dd_X9_laysNode 62 rfl) rfl ?_
    obtain ⟨hi, h⟩ := h
    refine bs_iald C (bf_dk dd_X9_laysNode 63 rfl) (ge_bW9_8 S) hi ?_
    refine bs_selfPV_i C hR (c_X9_byteOf _ _ _ _ _ S (r1) (((b9g_nodeLevel S) (x1).toNatClampNeg)) _ h) my_X9_byteOf m_9_181 rfl cl_9 (ge_bW9_0 _) rfl (Nat.le_of_ble_eq_true rfl) (Nat.le_of_ble_eq_true rfl) (st := [.int x1, .ref 0]) (Nat.le_of_ble_eq_true rfl) (bf_dk dd_X9_laysNode 64 rfl) rfl (fun r3 h => ?_)
    refine bs_iload C (bf_dk dd_X9_laysNode 65 rfl) rfl ?_
    refine bs_selfV_v C hR (c_X9_laysItem _ _ _ _ _ S (x1) (r3) (x4) _ h) my_X9_laysItem m_9_255 rfl cl_9 (ge_bW9_0 _) rfl (Nat.le_of_ble_eq_true rfl) (Nat.le_of_ble_eq_true rfl) (st := []) (Nat.le_of_ble_eq_true rfl) (bf_dk dd_X9_laysNode 66 rfl) rfl (len := 21) (fun _ => rfl) (fun u6 h => ?_)
    exact bs_weak (bf_s1 (bf_s1 (bf_s1 (bf_s1 (bf_sn bf_s0))))) (t_X9_laysNode_116 C hR u6 (x1) (x2) (x3) Q B50 hB50 h)
def wp_X9_laysNode_50b (S : bT9) (x1 : Int32) (x2 : Int32) (x3 : Int32) (Q : (bT9) → Prop) (B50 : Int32 → Int32 → Int32 → (bT9) → Prop) : Prop := (wp_X9_lastOf S (x1) (fun r7 => ((r7 < x3 → (Q S)) ∧ (¬ r7 < x3 → (wp_X9_isBranch S (x1) (x3) (fun r9 => ((¬ r9 = 0 → (wp_X9_childAt S (x1) (x3) (fun r11 => ((¬ r11 = (-1 : Int32) → (wp_X9_laysNode_90 S (x1) (x2) (x3) (r11) Q B50)) ∧ (r11 = (-1 : Int32) → (wp_X9_places S (x3) (fun u14 => (wp_X9_laysNode_90 u14 (x1) (x2) (x3) (r11) Q B50)))))))) ∧ (r9 = 0 → (wp_X9_laysNode_116 S (x1) (x2) (x3) Q B50)))))))))
set_option maxRecDepth 20000 in
theorem t_X9_laysNode_50b {X : bf_X} (C : bf_C X RX9 cX9_laysNode 5 none) (hR : bf_Rm X 3 69) (S : bT9) (x1 : Int32) (x2 : Int32) (x3 : Int32) (Q : (bT9) → Prop) (B50 : Int32 → Int32 → Int32 → (bT9) → Prop) (hB50 : ∀ (x1 : Int32) (x2 : Int32) (x3 : Int32) (S : bT9), B50 x1 x2 x3 S → bf_A X (bf_Zv X bW9 Q) 5 50 [some (.ref 0), some (.int x1), some (.int x2), some (.int x3), none] [] (bW9 S)) (h : wp_X9_laysNode_50b S x1 x2 x3 Q B50) : bf_A X (bf_Zv X bW9 Q) 5 50 [some (.ref 0), some (.int x1), some (.int x2), some (.int x3), none] [] (bW9 S) := by
  unfold wp_X9_laysNode_50b at h
  refine bs_iload_n C (bf_dk dd_X9_laysNode 30 rfl) rfl ?_
  refine bs_aload_n C (bf_dk dd_X9_laysNode 31 rfl) rfl ?_
  refine bs_iload_n C (bf_dk dd_X9_laysNode 32 rfl) rfl ?_
  refine bs_selfPV_i C hR (c_X9_lastOf _ _ _ _ _ S (x1) _ h) my_X9_lastOf m_9_222 rfl cl_9 (ge_bW9_0 _) rfl (Nat.le_of_ble_eq_true rfl) (Nat.le_of_ble_eq_true rfl) (st := [.int x3]) (Nat.le_of_ble_eq_true rfl) (bf_dk dd_X9_laysNode 33 rfl) rfl (fun r7 h => ?_)
  refine bs_icmp_gt C (bf_dk dd_X9_laysNode 34 rfl) (tgt := 122) rfl (fun c => ?_) (fun c => ?_)
  · replace h := h.1 c
    exact bs_vret (u := S) C (bf_dk dd_X9_laysNode 69 rfl) rfl h
  · replace h := h.2 c
    refine bs_aload_n C (bf_dk dd_X9_laysNode 35 rfl) rfl ?_
    refine bs_iload_n C (bf_dk dd_X9_laysNode 36 rfl) rfl ?_
    refine bs_iload_n C (bf_dk dd_X9_laysNode 37 rfl) rfl ?_
    refine bs_selfPV_i C hR (c_X9_isBranch _ _ _ _ _ S (x1) (x3) _ h) my_X9_isBranch m_9_225 rfl cl_9 (ge_bW9_0 _) rfl (Nat.le_of_ble_eq_true rfl) (Nat.le_of_ble_eq_true rfl) (st := []) (Nat.le_of_ble_eq_true rfl) (bf_dk dd_X9_laysNode 38 rfl) rfl (fun r9 h => ?_)
    refine bs_if_ne C (bf_dk dd_X9_laysNode 39 rfl) (tgt := 71) rfl (fun c => ?_) (fun c => ?_)
    · replace h := h.1 c
      refine bs_aload_n C (bf_dk dd_X9_laysNode 41 rfl) rfl ?_
      refine bs_iload_n C (bf_dk dd_X9_laysNode 42 rfl) rfl ?_
      refine bs_iload_n C (bf_dk dd_X9_laysNode 43 rfl) rfl ?_
      refine bs_selfPV_i C hR (c_X9_childAt _ _ _ _ _ S (x1) (x3) _ h) my_X9_childAt m_9_228 rfl cl_9 (ge_bW9_0 _) rfl (Nat.le_of_ble_eq_true rfl) (Nat.le_of_ble_eq_true rfl) (st := []) (Nat.le_of_ble_eq_true rfl) (bf_dk dd_X9_laysNode 44 rfl) rfl (fun r11 h => ?_)
      refine bs_istore C (bf_dk dd_X9_laysNode 45 rfl) (Nat.le_of_ble_eq_true rfl) (Nat.le_of_ble_eq_true rfl) (lv2 := [some (.ref 0), some (.int x1), some (.int x2), some (.int x3), some (.int r11)]) rfl ?_
      refine bs_iload C (bf_dk dd_X9_laysNode 46 rfl) rfl ?_
      refine bs_iconst C (bf_dk dd_X9_laysNode 47 rfl) (-1 : Int32) (by decide) ?_
      refine bs_icmp_ne C (bf_dk dd_X9_laysNode 48 rfl) (tgt := 90) rfl (fun c => ?_) (fun c => ?_)
      · replace h := h.1 c
        exact bs_weak (bf_s1 (bf_s1 (bf_s1 (bf_s1 (bf_s1 bf_s0))))) (t_X9_laysNode_90 C hR S (x1) (x2) (x3) (r11) Q B50 hB50 h)
      · replace h := h.2 c
        refine bs_aload_n C (bf_dk dd_X9_laysNode 49 rfl) rfl ?_
        refine bs_iload_n C (bf_dk dd_X9_laysNode 50 rfl) rfl ?_
        refine bs_selfV_v C hR (c_X9_places _ _ _ _ _ S (x3) _ h) my_X9_places m_9_253 rfl cl_9 (ge_bW9_0 _) rfl (Nat.le_of_ble_eq_true rfl) (Nat.le_of_ble_eq_true rfl) (st := []) (Nat.le_of_ble_eq_true rfl) (bf_dk dd_X9_laysNode 51 rfl) rfl (len := 21) (fun _ => rfl) (fun u14 h => ?_)
        exact bs_weak (bf_s1 (bf_s1 (bf_s1 (bf_s1 (bf_s1 bf_s0))))) (t_X9_laysNode_90 C hR u14 (x1) (x2) (x3) (r11) Q B50 hB50 h)
    · replace h := h.2 c
      refine bs_goto C (bf_dk dd_X9_laysNode 40 rfl) (tgt := 116) rfl ?_
      exact bs_weak (bf_s1 (bf_s1 (bf_s1 (bf_s1 (bf_sn bf_s0))))) (t_X9_laysNode_116 C hR S (x1) (x2) (x3) Q B50 hB50 h)
def wp_X9_laysNode_50 (S : bT9) (x1 : Int32) (x2 : Int32) (x3 : Int32) (Q : (bT9) → Prop) : Prop := ∃ I : Nat → Int32 → Int32 → Int32 → (bT9) → Prop, (∃ n : Nat, I n x1 x2 x3 S) ∧ ∀ (n : Nat) (x1 : Int32) (x2 : Int32) (x3 : Int32) (S : bT9), I n x1 x2 x3 S → wp_X9_laysNode_50b S x1 x2 x3 Q (fun x1 x2 x3 S => ∃ n2 : Nat, n2 < n ∧ I n2 x1 x2 x3 S)
theorem t_X9_laysNode_50 {X : bf_X} (C : bf_C X RX9 cX9_laysNode 5 none) (hR : bf_Rm X 3 69) (S : bT9) (x1 : Int32) (x2 : Int32) (x3 : Int32) (Q : (bT9) → Prop) (h : wp_X9_laysNode_50 S x1 x2 x3 Q) : bf_A X (bf_Zv X bW9 Q) 5 50 [some (.ref 0), some (.int x1), some (.int x2), some (.int x3), none] [] (bW9 S) := by
  obtain ⟨I, ⟨n0, h0⟩, hI⟩ := h
  have key : ∀ (n : Nat) (x1 : Int32) (x2 : Int32) (x3 : Int32) (S : bT9), I n x1 x2 x3 S → bf_A X (bf_Zv X bW9 Q) 5 50 [some (.ref 0), some (.int x1), some (.int x2), some (.int x3), none] [] (bW9 S) := by
    intro n
    induction n using Nat.strongRecOn with
    | _ n ih =>
      intro x1 x2 x3 S hi
      exact t_X9_laysNode_50b C hR S x1 x2 x3 Q _ (fun x1 x2 x3 S hb => by obtain ⟨n2, hn, hi2⟩ := hb; exact ih n2 hn x1 x2 x3 S hi2) (hI n x1 x2 x3 S hi)
  exact key n0 x1 x2 x3 S h0
def wp_X9_laysNode_43 (S : bT9) (x1 : Int32) (x2 : Int32) (Q : (bT9) → Prop) : Prop := (vp_in x1 512 ∧ (wp_X9_laysNode_50 S (x1) (x2) (((b9g_nodeLeaf S) (x1).toNatClampNeg)) Q))
set_option maxRecDepth 20000 in
theorem t_X9_laysNode_43 {X : bf_X} (C : bf_C X RX9 cX9_laysNode 5 none) (hR : bf_Rm X 3 69) (S : bT9) (x1 : Int32) (x2 : Int32) (Q : (bT9) → Prop) (h : wp_X9_laysNode_43 S x1 x2 Q) : bf_A X (bf_Zv X bW9 Q) 5 43 [some (.ref 0), some (.int x1), some (.int x2), none, none] [] (bW9 S) := by
  unfold wp_X9_laysNode_43 at h
  refine bs_aload_n C (bf_dk dd_X9_laysNode 25 rfl) rfl ?_
  refine bs_get C (bf_dk dd_X9_laysNode 26 rfl) cl_9 in_9 14 (Nat.le_of_ble_eq_true rfl) rfl f_9_35 (ge_bW9_0 S) rfl ?_
  refine bs_iload_n C (bf_dk dd_X9_laysNode 27 rfl) rfl ?_
  obtain ⟨hi, h⟩ := h
  refine bs_iald C (bf_dk dd_X9_laysNode 28 rfl) (ge_bW9_9 S) hi ?_
  refine bs_istore_n C (bf_dk dd_X9_laysNode 29 rfl) rfl (Nat.le_of_ble_eq_true rfl) (Nat.le_of_ble_eq_true rfl) (lv2 := [some (.ref 0), some (.int x1), some (.int x2), some (.int ((b9g_nodeLeaf S) (x1).toNatClampNeg)), none]) rfl ?_
  exact bs_weak (bf_s1 (bf_s1 (bf_s1 (bf_s1 (bf_sn bf_s0))))) (t_X9_laysNode_50 C hR S (x1) (x2) (((b9g_nodeLeaf S) (x1).toNatClampNeg)) Q h)
def wp_X9_laysNode_13 (S : bT9) (x1 : Int32) (t0 : Int32) (Q : (bT9) → Prop) : Prop := (wp_X9_isNodeEnd S (x1) (fun r15 => ((r15 = 0 → (wp_X9_laysNode_43 S (x1) (t0) Q)) ∧ (¬ r15 = 0 → (vp_in x1 512 ∧ (wp_X9_places S (((b9g_nodeLeaf S) (x1).toNatClampNeg)) (fun u18 => ((t0 = 0 → (wp_X9_laysNode_43 u18 (x1) (t0) Q)) ∧ (¬ t0 = 0 → (wp_X9_laysItem u18 (x1) ((-1 : Int32)) ((-1 : Int32)) (fun u20 => (wp_X9_laysNode_43 u20 (x1) (t0) Q))))))))))))
set_option maxRecDepth 20000 in
theorem t_X9_laysNode_13 {X : bf_X} (C : bf_C X RX9 cX9_laysNode 5 none) (hR : bf_Rm X 3 69) (S : bT9) (x1 : Int32) (t0 : Int32) (Q : (bT9) → Prop) (h : wp_X9_laysNode_13 S x1 t0 Q) : bf_A X (bf_Zv X bW9 Q) 5 13 [some (.ref 0), some (.int x1), none, none, none] [.int t0] (bW9 S) := by
  unfold wp_X9_laysNode_13 at h
  refine bs_istore_n C (bf_dk dd_X9_laysNode 7 rfl) rfl (Nat.le_of_ble_eq_true rfl) (Nat.le_of_ble_eq_true rfl) (lv2 := [some (.ref 0), some (.int x1), some (.int t0), none, none]) rfl ?_
  refine bs_aload_n C (bf_dk dd_X9_laysNode 8 rfl) rfl ?_
  refine bs_iload_n C (bf_dk dd_X9_laysNode 9 rfl) rfl ?_
  refine bs_selfPV_i C hR (c_X9_isNodeEnd _ _ _ _ _ S (x1) _ h) my_X9_isNodeEnd m_9_234 rfl cl_9 (ge_bW9_0 _) rfl (Nat.le_of_ble_eq_true rfl) (Nat.le_of_ble_eq_true rfl) (st := []) (Nat.le_of_ble_eq_true rfl) (bf_dk dd_X9_laysNode 10 rfl) rfl (fun r15 h => ?_)
  refine bs_if_eq C (bf_dk dd_X9_laysNode 11 rfl) (tgt := 43) rfl (fun c => ?_) (fun c => ?_)
  · replace h := h.1 c
    exact bs_weak (bf_s1 (bf_s1 (bf_s1 (bf_sn (bf_sn bf_s0))))) (t_X9_laysNode_43 C hR S (x1) (t0) Q h)
  · replace h := h.2 c
    refine bs_aload_n C (bf_dk dd_X9_laysNode 12 rfl) rfl ?_
    refine bs_aload_n C (bf_dk dd_X9_laysNode 13 rfl) rfl ?_
    refine bs_get C (bf_dk dd_X9_laysNode 14 rfl) cl_9 in_9 14 (Nat.le_of_ble_eq_true rfl) rfl f_9_35 (ge_bW9_0 S) rfl ?_
    refine bs_iload_n C (bf_dk dd_X9_laysNode 15 rfl) rfl ?_
    obtain ⟨hi, h⟩ := h
    refine bs_iald C (bf_dk dd_X9_laysNode 16 rfl) (ge_bW9_9 S) hi ?_
    refine bs_selfV_v C hR (c_X9_places _ _ _ _ _ S (((b9g_nodeLeaf S) (x1).toNatClampNeg)) _ h) my_X9_places m_9_253 rfl cl_9 (ge_bW9_0 _) rfl (Nat.le_of_ble_eq_true rfl) (Nat.le_of_ble_eq_true rfl) (st := []) (Nat.le_of_ble_eq_true rfl) (bf_dk dd_X9_laysNode 17 rfl) rfl (len := 21) (fun _ => rfl) (fun u18 h => ?_)
    refine bs_iload_n C (bf_dk dd_X9_laysNode 18 rfl) rfl ?_
    refine bs_if_eq C (bf_dk dd_X9_laysNode 19 rfl) (tgt := 43) rfl (fun c => ?_) (fun c => ?_)
    · replace h := h.1 c
      exact bs_weak (bf_s1 (bf_s1 (bf_s1 (bf_sn (bf_sn bf_s0))))) (t_X9_laysNode_43 C hR u18 (x1) (t0) Q h)
    · replace h := h.2 c
      refine bs_aload_n C (bf_dk dd_X9_laysNode 20 rfl) rfl ?_
      refine bs_iload_n C (bf_dk dd_X9_laysNode 21 rfl) rfl ?_
      refine bs_iconst C (bf_dk dd_X9_laysNode 22 rfl) (-1 : Int32) (by decide) ?_
      refine bs_iconst C (bf_dk dd_X9_laysNode 23 rfl) (-1 : Int32) (by decide) ?_
      refine bs_selfV_v C hR (c_X9_laysItem _ _ _ _ _ u18 (x1) ((-1 : Int32)) ((-1 : Int32)) _ h) my_X9_laysItem m_9_255 rfl cl_9 (ge_bW9_0 _) rfl (Nat.le_of_ble_eq_true rfl) (Nat.le_of_ble_eq_true rfl) (st := []) (Nat.le_of_ble_eq_true rfl) (bf_dk dd_X9_laysNode 24 rfl) rfl (len := 21) (fun _ => rfl) (fun u20 h => ?_)
      exact bs_weak (bf_s1 (bf_s1 (bf_s1 (bf_sn (bf_sn bf_s0))))) (t_X9_laysNode_43 C hR u20 (x1) (t0) Q h)
def wp_X9_laysNode (S : bT9) (a1 : Int32) (Q : (bT9) → Prop) : Prop := ((a1 < (b9g_upperNodes S) → (wp_X9_laysNode_13 S (a1) ((0 : Int32)) Q)) ∧ (¬ a1 < (b9g_upperNodes S) → (wp_X9_laysNode_13 S (a1) ((1 : Int32)) Q)))
set_option maxRecDepth 20000 in
theorem t_X9_laysNode {X : bf_X} (C : bf_C X RX9 cX9_laysNode 5 none) (hR : bf_Rm X 3 69) (S : bT9) (a1 : Int32) (Q : (bT9) → Prop) (h : wp_X9_laysNode S a1 Q) : bf_A X (bf_Zv X bW9 Q) 5 0 [some (.ref 0), some (.int a1), none, none, none] [] (bW9 S) := by
  unfold wp_X9_laysNode at h
  refine bs_iload_n C (bf_dk dd_X9_laysNode 0 rfl) rfl ?_
  refine bs_aload_n C (bf_dk dd_X9_laysNode 1 rfl) rfl ?_
  refine bs_get C (bf_dk dd_X9_laysNode 2 rfl) cl_9 in_9 19 (Nat.le_of_ble_eq_true rfl) rfl f_9_216 (ge_bW9_0 S) rfl ?_
  refine bs_icmp_lt C (bf_dk dd_X9_laysNode 3 rfl) (tgt := 12) rfl (fun c => ?_) (fun c => ?_)
  · replace h := h.1 c
    refine bs_iconst C (bf_dk dd_X9_laysNode 6 rfl) (0 : Int32) (by decide) ?_
    exact bs_weak (bf_s1 (bf_s1 (bf_sn (bf_sn (bf_sn bf_s0))))) (t_X9_laysNode_13 C hR S (a1) ((0 : Int32)) Q h)
  · replace h := h.2 c
    refine bs_iconst C (bf_dk dd_X9_laysNode 4 rfl) (1 : Int32) (by decide) ?_
    refine bs_goto C (bf_dk dd_X9_laysNode 5 rfl) (tgt := 13) rfl ?_
    exact bs_weak (bf_s1 (bf_s1 (bf_sn (bf_sn (bf_sn bf_s0))))) (t_X9_laysNode_13 C hR S (a1) ((1 : Int32)) Q h)
theorem c_X9_laysNode (l : Launch) (dC : Nat → ClassId) (dI : Nat → Nat → Nat) (ac : Nat → ClassId) (al : Nat → Nat) (S : bT9) (a1 : Int32) (Q : (bT9) → Prop) (h : wp_X9_laysNode S a1 Q) : bf_M l yX9_laysNode cX9_laysNode 5 none 3 69 dC dI ac al [.ref 0, .int a1] (bW9 S) (bf_Kv dC dI ac al bW9 Q) := by
  refine bf_start [some (.ref 0), some (.int a1), none, none, none] (by decide) (Nat.le_of_ble_eq_true rfl) (bf_s1 (bf_s1 (bf_en 3))) ?_
  intro X hl C hR e1 e2 e3 e4
  subst e1; subst e2; subst e3; subst e4
  exact t_X9_laysNode C hR S a1 Q h
def wp_X9_laysItems_12b (S : bT9) (x1 : Int32) (Q : (bT9) → Prop) (B12 : Int32 → (bT9) → Prop) : Prop := (((b9g_nodeMany S) ≤ x1 → (Q S)) ∧ (¬ (b9g_nodeMany S) ≤ x1 → (wp_X9_laysNode S (x1) (fun u2 => (B12 ((x1 + (1 : Int32))) u2)))))
set_option maxRecDepth 20000 in
theorem t_X9_laysItems_12b {X : bf_X} (C : bf_C X RX9 cX9_laysItems 2 none) (hR : bf_Rm X 4 93) (S : bT9) (x1 : Int32) (Q : (bT9) → Prop) (B12 : Int32 → (bT9) → Prop) (hB12 : ∀ (x1 : Int32) (S : bT9), B12 x1 S → bf_A X (bf_Zv X bW9 Q) 2 12 [some (.ref 0), some (.int x1)] [] (bW9 S)) (h : wp_X9_laysItems_12b S x1 Q B12) : bf_A X (bf_Zv X bW9 Q) 2 12 [some (.ref 0), some (.int x1)] [] (bW9 S) := by
  unfold wp_X9_laysItems_12b at h
  refine bs_iload_n C (bf_dk dd_X9_laysItems 8 rfl) rfl ?_
  refine bs_aload_n C (bf_dk dd_X9_laysItems 9 rfl) rfl ?_
  refine bs_get C (bf_dk dd_X9_laysItems 10 rfl) cl_9 in_9 16 (Nat.le_of_ble_eq_true rfl) rfl f_9_198 (ge_bW9_0 S) rfl ?_
  refine bs_icmp_ge C (bf_dk dd_X9_laysItems 11 rfl) (tgt := 31) rfl (fun c => ?_) (fun c => ?_)
  · replace h := h.1 c
    exact bs_vret (u := S) C (bf_dk dd_X9_laysItems 17 rfl) rfl h
  · replace h := h.2 c
    refine bs_aload_n C (bf_dk dd_X9_laysItems 12 rfl) rfl ?_
    refine bs_iload_n C (bf_dk dd_X9_laysItems 13 rfl) rfl ?_
    refine bs_selfV_v C hR (c_X9_laysNode _ _ _ _ _ S (x1) _ h) my_X9_laysNode m_9_259 rfl cl_9 (ge_bW9_0 _) rfl (Nat.le_of_ble_eq_true rfl) (Nat.le_of_ble_eq_true rfl) (st := []) (Nat.le_of_ble_eq_true rfl) (bf_dk dd_X9_laysItems 14 rfl) rfl (len := 21) (fun _ => rfl) (fun u2 h => ?_)
    refine bs_iinc C (bf_dk dd_X9_laysItems 15 rfl) (x1 + (1 : Int32)) rfl rfl (Nat.le_of_ble_eq_true rfl) (Nat.le_of_ble_eq_true rfl) (lv2 := [some (.ref 0), some (.int (x1 + (1 : Int32)))]) rfl ?_
    refine bs_goto C (bf_dk dd_X9_laysItems 16 rfl) (tgt := 12) rfl ?_
    exact bs_weak (bf_s1 (bf_s1 bf_s0)) (hB12 ((x1 + (1 : Int32))) u2 h)
def wp_X9_laysItems_12 (S : bT9) (x1 : Int32) (Q : (bT9) → Prop) : Prop := ∃ I : Nat → Int32 → (bT9) → Prop, (∃ n : Nat, I n x1 S) ∧ ∀ (n : Nat) (x1 : Int32) (S : bT9), I n x1 S → wp_X9_laysItems_12b S x1 Q (fun x1 S => ∃ n2 : Nat, n2 < n ∧ I n2 x1 S)
theorem t_X9_laysItems_12 {X : bf_X} (C : bf_C X RX9 cX9_laysItems 2 none) (hR : bf_Rm X 4 93) (S : bT9) (x1 : Int32) (Q : (bT9) → Prop) (h : wp_X9_laysItems_12 S x1 Q) : bf_A X (bf_Zv X bW9 Q) 2 12 [some (.ref 0), some (.int x1)] [] (bW9 S) := by
  obtain ⟨I, ⟨n0, h0⟩, hI⟩ := h
  have key : ∀ (n : Nat) (x1 : Int32) (S : bT9), I n x1 S → bf_A X (bf_Zv X bW9 Q) 2 12 [some (.ref 0), some (.int x1)] [] (bW9 S) := by
    intro n
    induction n using Nat.strongRecOn with
    | _ n ih =>
      intro x1 S hi
      exact t_X9_laysItems_12b C hR S x1 Q _ (fun x1 S hb => by obtain ⟨n2, hn, hi2⟩ := hb; exact ih n2 hn x1 S hi2) (hI n x1 S hi)
  exact key n0 x1 S h0
def wp_X9_laysItems (S : bT9) (Q : (bT9) → Prop) : Prop := (∀ S3 : bT9, S3 = (b9s_itemMany S (0 : Int32)) → (∀ S4 : bT9, S4 = (b9s_places S3 (0 : Int32)) → (wp_X9_laysItems_12 S4 ((0 : Int32)) Q)))
set_option maxRecDepth 20000 in
theorem t_X9_laysItems {X : bf_X} (C : bf_C X RX9 cX9_laysItems 2 none) (hR : bf_Rm X 4 93) (S : bT9) (Q : (bT9) → Prop) (h : wp_X9_laysItems S Q) : bf_A X (bf_Zv X bW9 Q) 2 0 [some (.ref 0), none] [] (bW9 S) := by
  unfold wp_X9_laysItems at h
  refine bs_aload_n C (bf_dk dd_X9_laysItems 0 rfl) rfl ?_
  refine bs_iconst C (bf_dk dd_X9_laysItems 1 rfl) (0 : Int32) (by decide) ?_
  refine bs_put C (bf_dk dd_X9_laysItems 2 rfl) tyX9_ok nmX9 cl_9 in_9 24 (Nat.le_of_ble_eq_true rfl) rfl f_9_250 rfl (ge_bW9_0 S) (Nat.le_of_ble_eq_true rfl) rfl rfl (pu_bW9_0_24 S (0 : Int32)) ?_
  refine bs_nameS bW9 (fun S3 eS3 => ?_)
  replace h := h S3 eS3
  refine bs_aload_n C (bf_dk dd_X9_laysItems 3 rfl) rfl ?_
  refine bs_iconst C (bf_dk dd_X9_laysItems 4 rfl) (0 : Int32) (by decide) ?_
  refine bs_put C (bf_dk dd_X9_laysItems 5 rfl) tyX9_ok nmX9 cl_9 in_9 27 (Nat.le_of_ble_eq_true rfl) rfl f_9_247 rfl (ge_bW9_0 S3) (Nat.le_of_ble_eq_true rfl) rfl rfl (pu_bW9_0_27 S3 (0 : Int32)) ?_
  refine bs_nameS bW9 (fun S4 eS4 => ?_)
  replace h := h S4 eS4
  refine bs_iconst C (bf_dk dd_X9_laysItems 6 rfl) (0 : Int32) (by decide) ?_
  refine bs_istore_n C (bf_dk dd_X9_laysItems 7 rfl) rfl (Nat.le_of_ble_eq_true rfl) (Nat.le_of_ble_eq_true rfl) (lv2 := [some (.ref 0), some (.int (0 : Int32))]) rfl ?_
  exact bs_weak (bf_s1 (bf_s1 bf_s0)) (t_X9_laysItems_12 C hR S4 ((0 : Int32)) Q h)
theorem c_X9_laysItems (l : Launch) (dC : Nat → ClassId) (dI : Nat → Nat → Nat) (ac : Nat → ClassId) (al : Nat → Nat) (S : bT9) (Q : (bT9) → Prop) (h : wp_X9_laysItems S Q) : bf_M l yX9_laysItems cX9_laysItems 2 none 4 93 dC dI ac al [.ref 0] (bW9 S) (bf_Kv dC dI ac al bW9 Q) := by
  refine bf_start [some (.ref 0), none] (by decide) (Nat.le_of_ble_eq_true rfl) (bf_s1 (bf_en 1)) ?_
  intro X hl C hR e1 e2 e3 e4
  subst e1; subst e2; subst e3; subst e4
  exact t_X9_laysItems C hR S Q h
def wp_X9_bitsAbove_28 (S : bT9) (x1 : Int32) (x2 : Int32) (x3 : Int32) (Q : Int32 → Prop) (B4 : Int32 → Int32 → Int32 → Prop) : Prop := (B4 (x1) (x2) ((x3 + (1 : Int32))))
set_option maxRecDepth 20000 in
theorem t_X9_bitsAbove_28 {X : bf_X} (C : bf_C X RX9 cX9_bitsAbove 4 (some .int)) (hR : bf_Rm X 0 0) (S : bT9) (x1 : Int32) (x2 : Int32) (x3 : Int32) (Q : Int32 → Prop) (B4 : Int32 → Int32 → Int32 → Prop) (hB4 : ∀ (x1 : Int32) (x2 : Int32) (x3 : Int32), B4 x1 x2 x3 → bf_A X (bf_Zi X bW9 (fun r u => u = S ∧ Q r)) 4 4 [some (.ref 0), some (.int x1), some (.int x2), some (.int x3)] [] (bW9 S)) (h : wp_X9_bitsAbove_28 S x1 x2 x3 Q B4) : bf_A X (bf_Zi X bW9 (fun r u => u = S ∧ Q r)) 4 28 [some (.ref 0), some (.int x1), some (.int x2), some (.int x3)] [] (bW9 S) := by
  unfold wp_X9_bitsAbove_28 at h
  refine bs_iinc C (bf_dk dd_X9_bitsAbove 18 rfl) (x3 + (1 : Int32)) rfl rfl (Nat.le_of_ble_eq_true rfl) (Nat.le_of_ble_eq_true rfl) (lv2 := [some (.ref 0), some (.int x1), some (.int x2), some (.int (x3 + (1 : Int32)))]) rfl ?_
  refine bs_goto C (bf_dk dd_X9_bitsAbove 19 rfl) (tgt := 4) rfl ?_
  exact bs_weak (bf_s1 (bf_s1 (bf_s1 (bf_s1 bf_s0)))) (hB4 (x1) (x2) ((x3 + (1 : Int32))) h)
def wp_X9_bitsAbove_4b (S : bT9) (x1 : Int32) (x2 : Int32) (x3 : Int32) (Q : Int32 → Prop) (B4 : Int32 → Int32 → Int32 → Prop) : Prop := (((b9g_nodeMany S) ≤ x3 → (Q x2)) ∧ (¬ (b9g_nodeMany S) ≤ x3 → (vp_in x3 512 ∧ ((x1 ≤ ((b9g_nodeLevel S) (x3).toNatClampNeg) → (wp_X9_bitsAbove_28 S (x1) (x2) (x3) Q B4)) ∧ (¬ x1 ≤ ((b9g_nodeLevel S) (x3).toNatClampNeg) → (∀ v1 : Int32, v1 = (x2 + (513 : Int32)) → (wp_X9_bitsAbove_28 S (x1) (v1) (x3) Q B4)))))))
set_option maxRecDepth 20000 in
theorem t_X9_bitsAbove_4b {X : bf_X} (C : bf_C X RX9 cX9_bitsAbove 4 (some .int)) (hR : bf_Rm X 0 0) (S : bT9) (x1 : Int32) (x2 : Int32) (x3 : Int32) (Q : Int32 → Prop) (B4 : Int32 → Int32 → Int32 → Prop) (hB4 : ∀ (x1 : Int32) (x2 : Int32) (x3 : Int32), B4 x1 x2 x3 → bf_A X (bf_Zi X bW9 (fun r u => u = S ∧ Q r)) 4 4 [some (.ref 0), some (.int x1), some (.int x2), some (.int x3)] [] (bW9 S)) (h : wp_X9_bitsAbove_4b S x1 x2 x3 Q B4) : bf_A X (bf_Zi X bW9 (fun r u => u = S ∧ Q r)) 4 4 [some (.ref 0), some (.int x1), some (.int x2), some (.int x3)] [] (bW9 S) := by
  unfold wp_X9_bitsAbove_4b at h
  refine bs_iload_n C (bf_dk dd_X9_bitsAbove 4 rfl) rfl ?_
  refine bs_aload_n C (bf_dk dd_X9_bitsAbove 5 rfl) rfl ?_
  refine bs_get C (bf_dk dd_X9_bitsAbove 6 rfl) cl_9 in_9 16 (Nat.le_of_ble_eq_true rfl) rfl f_9_198 (ge_bW9_0 S) rfl ?_
  refine bs_icmp_ge C (bf_dk dd_X9_bitsAbove 7 rfl) (tgt := 34) rfl (fun c => ?_) (fun c => ?_)
  · replace h := h.1 c
    refine bs_iload_n C (bf_dk dd_X9_bitsAbove 20 rfl) rfl ?_
    exact bs_iret (u := S) C (bf_dk dd_X9_bitsAbove 21 rfl) rfl ⟨rfl, h⟩
  · replace h := h.2 c
    refine bs_aload_n C (bf_dk dd_X9_bitsAbove 8 rfl) rfl ?_
    refine bs_get C (bf_dk dd_X9_bitsAbove 9 rfl) cl_9 in_9 13 (Nat.le_of_ble_eq_true rfl) rfl f_9_32 (ge_bW9_0 S) rfl ?_
    refine bs_iload_n C (bf_dk dd_X9_bitsAbove 10 rfl) rfl ?_
    obtain ⟨hi, h⟩ := h
    refine bs_iald C (bf_dk dd_X9_bitsAbove 11 rfl) (ge_bW9_8 S) hi ?_
    refine bs_iload_n C (bf_dk dd_X9_bitsAbove 12 rfl) rfl ?_
    refine bs_icmp_ge C (bf_dk dd_X9_bitsAbove 13 rfl) (tgt := 28) rfl (fun c => ?_) (fun c => ?_)
    · replace h := h.1 c
      exact bs_weak (bf_s1 (bf_s1 (bf_s1 (bf_s1 bf_s0)))) (t_X9_bitsAbove_28 C hR S (x1) (x2) (x3) Q B4 hB4 h)
    · replace h := h.2 c
      refine bs_iload_n C (bf_dk dd_X9_bitsAbove 14 rfl) rfl ?_
      refine bs_sipush C (bf_dk dd_X9_bitsAbove 15 rfl) (513 : Int32) (by decide) ?_
      refine bs_iadd C (bf_dk dd_X9_bitsAbove 16 rfl) ?_
      refine bs_name (fun v1 ev1 => ?_)
      replace h := h v1 ev1
      refine bs_istore_n C (bf_dk dd_X9_bitsAbove 17 rfl) rfl (Nat.le_of_ble_eq_true rfl) (Nat.le_of_ble_eq_true rfl) (lv2 := [some (.ref 0), some (.int x1), some (.int v1), some (.int x3)]) rfl ?_
      exact bs_weak (bf_s1 (bf_s1 (bf_s1 (bf_s1 bf_s0)))) (t_X9_bitsAbove_28 C hR S (x1) (v1) (x3) Q B4 hB4 h)
def wp_X9_bitsAbove_4 (S : bT9) (x1 : Int32) (x2 : Int32) (x3 : Int32) (Q : Int32 → Prop) : Prop := ∃ I : Nat → Int32 → Int32 → Int32 → Prop, (∃ n : Nat, I n x1 x2 x3) ∧ ∀ (n : Nat) (x1 : Int32) (x2 : Int32) (x3 : Int32), I n x1 x2 x3 → wp_X9_bitsAbove_4b S x1 x2 x3 Q (fun x1 x2 x3 => ∃ n2 : Nat, n2 < n ∧ I n2 x1 x2 x3)
theorem t_X9_bitsAbove_4 {X : bf_X} (C : bf_C X RX9 cX9_bitsAbove 4 (some .int)) (hR : bf_Rm X 0 0) (S : bT9) (x1 : Int32) (x2 : Int32) (x3 : Int32) (Q : Int32 → Prop) (h : wp_X9_bitsAbove_4 S x1 x2 x3 Q) : bf_A X (bf_Zi X bW9 (fun r u => u = S ∧ Q r)) 4 4 [some (.ref 0), some (.int x1), some (.int x2), some (.int x3)] [] (bW9 S) := by
  obtain ⟨I, ⟨n0, h0⟩, hI⟩ := h
  have key : ∀ (n : Nat) (x1 : Int32) (x2 : Int32) (x3 : Int32), I n x1 x2 x3 → bf_A X (bf_Zi X bW9 (fun r u => u = S ∧ Q r)) 4 4 [some (.ref 0), some (.int x1), some (.int x2), some (.int x3)] [] (bW9 S) := by
    intro n
    induction n using Nat.strongRecOn with
    | _ n ih =>
      intro x1 x2 x3 hi
      exact t_X9_bitsAbove_4b C hR S x1 x2 x3 Q _ (fun x1 x2 x3 hb => by obtain ⟨n2, hn, hi2⟩ := hb; exact ih n2 hn x1 x2 x3 hi2) (hI n x1 x2 x3 hi)
  exact key n0 x1 x2 x3 h0
def wp_X9_bitsAbove (S : bT9) (a1 : Int32) (Q : Int32 → Prop) : Prop := (wp_X9_bitsAbove_4 S (a1) ((0 : Int32)) ((0 : Int32)) Q)
set_option maxRecDepth 20000 in
theorem t_X9_bitsAbove {X : bf_X} (C : bf_C X RX9 cX9_bitsAbove 4 (some .int)) (hR : bf_Rm X 0 0) (S : bT9) (a1 : Int32) (Q : Int32 → Prop) (h : wp_X9_bitsAbove S a1 Q) : bf_A X (bf_Zi X bW9 (fun r u => u = S ∧ Q r)) 4 0 [some (.ref 0), some (.int a1), none, none] [] (bW9 S) := by
  unfold wp_X9_bitsAbove at h
  refine bs_iconst C (bf_dk dd_X9_bitsAbove 0 rfl) (0 : Int32) (by decide) ?_
  refine bs_istore_n C (bf_dk dd_X9_bitsAbove 1 rfl) rfl (Nat.le_of_ble_eq_true rfl) (Nat.le_of_ble_eq_true rfl) (lv2 := [some (.ref 0), some (.int a1), some (.int (0 : Int32)), none]) rfl ?_
  refine bs_iconst C (bf_dk dd_X9_bitsAbove 2 rfl) (0 : Int32) (by decide) ?_
  refine bs_istore_n C (bf_dk dd_X9_bitsAbove 3 rfl) rfl (Nat.le_of_ble_eq_true rfl) (Nat.le_of_ble_eq_true rfl) (lv2 := [some (.ref 0), some (.int a1), some (.int (0 : Int32)), some (.int (0 : Int32))]) rfl ?_
  exact bs_weak (bf_s1 (bf_s1 (bf_s1 (bf_s1 bf_s0)))) (t_X9_bitsAbove_4 C hR S (a1) ((0 : Int32)) ((0 : Int32)) Q h)
theorem c_X9_bitsAbove (l : Launch) (dC : Nat → ClassId) (dI : Nat → Nat → Nat) (ac : Nat → ClassId) (al : Nat → Nat) (S : bT9) (a1 : Int32) (Q : Int32 → Prop) (h : wp_X9_bitsAbove S a1 Q) : bf_M l yX9_bitsAbove cX9_bitsAbove 4 (some .int) 0 0 dC dI ac al [.ref 0, .int a1] (bW9 S) (bf_Ki dC dI ac al bW9 (fun r u => u = S ∧ Q r)) := by
  refine bf_start [some (.ref 0), some (.int a1), none, none] (by decide) (Nat.le_of_ble_eq_true rfl) (bf_s1 (bf_s1 (bf_en 2))) ?_
  intro X hl C hR e1 e2 e3 e4
  subst e1; subst e2; subst e3; subst e4
  exact t_X9_bitsAbove C hR S a1 Q h
def wp_X9_branchMany_31 (S : bT9) (x1 : Int32) (x2 : Int32) (x3 : Int32) (Q : Int32 → Prop) (B9 : Int32 → Int32 → Int32 → Prop) : Prop := (B9 (x1) (x2) ((x3 + (1 : Int32))))
set_option maxRecDepth 20000 in
theorem t_X9_branchMany_31 {X : bf_X} (C : bf_C X RX9 cX9_branchMany 4 (some .int)) (hR : bf_Rm X 3 69) (S : bT9) (x1 : Int32) (x2 : Int32) (x3 : Int32) (Q : Int32 → Prop) (B9 : Int32 → Int32 → Int32 → Prop) (hB9 : ∀ (x1 : Int32) (x2 : Int32) (x3 : Int32), B9 x1 x2 x3 → bf_A X (bf_Zi X bW9 (fun r u => u = S ∧ Q r)) 4 9 [some (.ref 0), some (.int x1), some (.int x2), some (.int x3)] [] (bW9 S)) (h : wp_X9_branchMany_31 S x1 x2 x3 Q B9) : bf_A X (bf_Zi X bW9 (fun r u => u = S ∧ Q r)) 4 31 [some (.ref 0), some (.int x1), some (.int x2), some (.int x3)] [] (bW9 S) := by
  unfold wp_X9_branchMany_31 at h
  refine bs_iinc C (bf_dk dd_X9_branchMany 21 rfl) (x3 + (1 : Int32)) rfl rfl (Nat.le_of_ble_eq_true rfl) (Nat.le_of_ble_eq_true rfl) (lv2 := [some (.ref 0), some (.int x1), some (.int x2), some (.int (x3 + (1 : Int32)))]) rfl ?_
  refine bs_goto C (bf_dk dd_X9_branchMany 22 rfl) (tgt := 9) rfl ?_
  exact bs_weak (bf_s1 (bf_s1 (bf_s1 (bf_s1 bf_s0)))) (hB9 (x1) (x2) ((x3 + (1 : Int32))) h)
def wp_X9_branchMany_9b (S : bT9) (x1 : Int32) (x2 : Int32) (x3 : Int32) (Q : Int32 → Prop) (B9 : Int32 → Int32 → Int32 → Prop) : Prop := (wp_X9_lastOf S (x1) (fun r1 => ((r1 < x3 → (Q x2)) ∧ (¬ r1 < x3 → (wp_X9_isBranch S (x1) (x3) (fun r3 => ((r3 = 0 → (wp_X9_branchMany_31 S (x1) (x2) (x3) Q B9)) ∧ (¬ r3 = 0 → (wp_X9_branchMany_31 S (x1) ((x2 + (1 : Int32))) (x3) Q B9)))))))))
set_option maxRecDepth 20000 in
theorem t_X9_branchMany_9b {X : bf_X} (C : bf_C X RX9 cX9_branchMany 4 (some .int)) (hR : bf_Rm X 3 69) (S : bT9) (x1 : Int32) (x2 : Int32) (x3 : Int32) (Q : Int32 → Prop) (B9 : Int32 → Int32 → Int32 → Prop) (hB9 : ∀ (x1 : Int32) (x2 : Int32) (x3 : Int32), B9 x1 x2 x3 → bf_A X (bf_Zi X bW9 (fun r u => u = S ∧ Q r)) 4 9 [some (.ref 0), some (.int x1), some (.int x2), some (.int x3)] [] (bW9 S)) (h : wp_X9_branchMany_9b S x1 x2 x3 Q B9) : bf_A X (bf_Zi X bW9 (fun r u => u = S ∧ Q r)) 4 9 [some (.ref 0), some (.int x1), some (.int x2), some (.int x3)] [] (bW9 S) := by
  unfold wp_X9_branchMany_9b at h
  refine bs_iload_n C (bf_dk dd_X9_branchMany 7 rfl) rfl ?_
  refine bs_aload_n C (bf_dk dd_X9_branchMany 8 rfl) rfl ?_
  refine bs_iload_n C (bf_dk dd_X9_branchMany 9 rfl) rfl ?_
  refine bs_selfPV_i C hR (c_X9_lastOf _ _ _ _ _ S (x1) _ h) my_X9_lastOf m_9_222 rfl cl_9 (ge_bW9_0 _) rfl (Nat.le_of_ble_eq_true rfl) (Nat.le_of_ble_eq_true rfl) (st := [.int x3]) (Nat.le_of_ble_eq_true rfl) (bf_dk dd_X9_branchMany 10 rfl) rfl (fun r1 h => ?_)
  refine bs_icmp_gt C (bf_dk dd_X9_branchMany 11 rfl) (tgt := 37) rfl (fun c => ?_) (fun c => ?_)
  · replace h := h.1 c
    refine bs_iload_n C (bf_dk dd_X9_branchMany 23 rfl) rfl ?_
    exact bs_iret (u := S) C (bf_dk dd_X9_branchMany 24 rfl) rfl ⟨rfl, h⟩
  · replace h := h.2 c
    refine bs_aload_n C (bf_dk dd_X9_branchMany 12 rfl) rfl ?_
    refine bs_iload_n C (bf_dk dd_X9_branchMany 13 rfl) rfl ?_
    refine bs_iload_n C (bf_dk dd_X9_branchMany 14 rfl) rfl ?_
    refine bs_selfPV_i C hR (c_X9_isBranch _ _ _ _ _ S (x1) (x3) _ h) my_X9_isBranch m_9_225 rfl cl_9 (ge_bW9_0 _) rfl (Nat.le_of_ble_eq_true rfl) (Nat.le_of_ble_eq_true rfl) (st := []) (Nat.le_of_ble_eq_true rfl) (bf_dk dd_X9_branchMany 15 rfl) rfl (fun r3 h => ?_)
    refine bs_if_eq C (bf_dk dd_X9_branchMany 16 rfl) (tgt := 31) rfl (fun c => ?_) (fun c => ?_)
    · replace h := h.1 c
      exact bs_weak (bf_s1 (bf_s1 (bf_s1 (bf_s1 bf_s0)))) (t_X9_branchMany_31 C hR S (x1) (x2) (x3) Q B9 hB9 h)
    · replace h := h.2 c
      refine bs_iload_n C (bf_dk dd_X9_branchMany 17 rfl) rfl ?_
      refine bs_iconst C (bf_dk dd_X9_branchMany 18 rfl) (1 : Int32) (by decide) ?_
      refine bs_iadd C (bf_dk dd_X9_branchMany 19 rfl) ?_
      refine bs_istore_n C (bf_dk dd_X9_branchMany 20 rfl) rfl (Nat.le_of_ble_eq_true rfl) (Nat.le_of_ble_eq_true rfl) (lv2 := [some (.ref 0), some (.int x1), some (.int (x2 + (1 : Int32))), some (.int x3)]) rfl ?_
      exact bs_weak (bf_s1 (bf_s1 (bf_s1 (bf_s1 bf_s0)))) (t_X9_branchMany_31 C hR S (x1) ((x2 + (1 : Int32))) (x3) Q B9 hB9 h)
def wp_X9_branchMany_9 (S : bT9) (x1 : Int32) (x2 : Int32) (x3 : Int32) (Q : Int32 → Prop) : Prop := ∃ I : Nat → Int32 → Int32 → Int32 → Prop, (∃ n : Nat, I n x1 x2 x3) ∧ ∀ (n : Nat) (x1 : Int32) (x2 : Int32) (x3 : Int32), I n x1 x2 x3 → wp_X9_branchMany_9b S x1 x2 x3 Q (fun x1 x2 x3 => ∃ n2 : Nat, n2 < n ∧ I n2 x1 x2 x3)
theorem t_X9_branchMany_9 {X : bf_X} (C : bf_C X RX9 cX9_branchMany 4 (some .int)) (hR : bf_Rm X 3 69) (S : bT9) (x1 : Int32) (x2 : Int32) (x3 : Int32) (Q : Int32 → Prop) (h : wp_X9_branchMany_9 S x1 x2 x3 Q) : bf_A X (bf_Zi X bW9 (fun r u => u = S ∧ Q r)) 4 9 [some (.ref 0), some (.int x1), some (.int x2), some (.int x3)] [] (bW9 S) := by
  obtain ⟨I, ⟨n0, h0⟩, hI⟩ := h
  have key : ∀ (n : Nat) (x1 : Int32) (x2 : Int32) (x3 : Int32), I n x1 x2 x3 → bf_A X (bf_Zi X bW9 (fun r u => u = S ∧ Q r)) 4 9 [some (.ref 0), some (.int x1), some (.int x2), some (.int x3)] [] (bW9 S) := by
    intro n
    induction n using Nat.strongRecOn with
    | _ n ih =>
      intro x1 x2 x3 hi
      exact t_X9_branchMany_9b C hR S x1 x2 x3 Q _ (fun x1 x2 x3 hb => by obtain ⟨n2, hn, hi2⟩ := hb; exact ih n2 hn x1 x2 x3 hi2) (hI n x1 x2 x3 hi)
  exact key n0 x1 x2 x3 h0
def wp_X9_branchMany (S : bT9) (a1 : Int32) (Q : Int32 → Prop) : Prop := (vp_in a1 512 ∧ (wp_X9_branchMany_9 S (a1) ((0 : Int32)) (((b9g_nodeLeaf S) (a1).toNatClampNeg)) Q))
set_option maxRecDepth 20000 in
theorem t_X9_branchMany {X : bf_X} (C : bf_C X RX9 cX9_branchMany 4 (some .int)) (hR : bf_Rm X 3 69) (S : bT9) (a1 : Int32) (Q : Int32 → Prop) (h : wp_X9_branchMany S a1 Q) : bf_A X (bf_Zi X bW9 (fun r u => u = S ∧ Q r)) 4 0 [some (.ref 0), some (.int a1), none, none] [] (bW9 S) := by
  unfold wp_X9_branchMany at h
  refine bs_iconst C (bf_dk dd_X9_branchMany 0 rfl) (0 : Int32) (by decide) ?_
  refine bs_istore_n C (bf_dk dd_X9_branchMany 1 rfl) rfl (Nat.le_of_ble_eq_true rfl) (Nat.le_of_ble_eq_true rfl) (lv2 := [some (.ref 0), some (.int a1), some (.int (0 : Int32)), none]) rfl ?_
  refine bs_aload_n C (bf_dk dd_X9_branchMany 2 rfl) rfl ?_
  refine bs_get C (bf_dk dd_X9_branchMany 3 rfl) cl_9 in_9 14 (Nat.le_of_ble_eq_true rfl) rfl f_9_35 (ge_bW9_0 S) rfl ?_
  refine bs_iload_n C (bf_dk dd_X9_branchMany 4 rfl) rfl ?_
  obtain ⟨hi, h⟩ := h
  refine bs_iald C (bf_dk dd_X9_branchMany 5 rfl) (ge_bW9_9 S) hi ?_
  refine bs_istore_n C (bf_dk dd_X9_branchMany 6 rfl) rfl (Nat.le_of_ble_eq_true rfl) (Nat.le_of_ble_eq_true rfl) (lv2 := [some (.ref 0), some (.int a1), some (.int (0 : Int32)), some (.int ((b9g_nodeLeaf S) (a1).toNatClampNeg))]) rfl ?_
  exact bs_weak (bf_s1 (bf_s1 (bf_s1 (bf_s1 bf_s0)))) (t_X9_branchMany_9 C hR S (a1) ((0 : Int32)) (((b9g_nodeLeaf S) (a1).toNatClampNeg)) Q h)
theorem c_X9_branchMany (l : Launch) (dC : Nat → ClassId) (dI : Nat → Nat → Nat) (ac : Nat → ClassId) (al : Nat → Nat) (S : bT9) (a1 : Int32) (Q : Int32 → Prop) (h : wp_X9_branchMany S a1 Q) : bf_M l yX9_branchMany cX9_branchMany 4 (some .int) 3 69 dC dI ac al [.ref 0, .int a1] (bW9 S) (bf_Ki dC dI ac al bW9 (fun r u => u = S ∧ Q r)) := by
  refine bf_start [some (.ref 0), some (.int a1), none, none] (by decide) (Nat.le_of_ble_eq_true rfl) (bf_s1 (bf_s1 (bf_en 2))) ?_
  intro X hl C hR e1 e2 e3 e4
  subst e1; subst e2; subst e3; subst e4
  exact t_X9_branchMany C hR S a1 Q h
def wp_X9_bitsOf (S : bT9) (a1 : Int32) (a2 : Int32) (Q : Int32 → Prop) : Prop := ((a2 = 0 → (wp_X9_branchMany S (a1) (fun r1 => (wp_X9_isNodeEnd S (a1) (fun r3 => ((r3 = 0 → (Q ((11 : Int32) * (r1 + (0 : Int32))))) ∧ (¬ r3 = 0 → (Q ((11 : Int32) * (r1 + (1 : Int32))))))))))) ∧ (¬ a2 = 0 → (Q (513 : Int32))))
set_option maxRecDepth 20000 in
theorem t_X9_bitsOf {X : bf_X} (C : bf_C X RX9 cX9_bitsOf 3 (some .int)) (hR : bf_Rm X 4 92) (S : bT9) (a1 : Int32) (a2 : Int32) (Q : Int32 → Prop) (h : wp_X9_bitsOf S a1 a2 Q) : bf_A X (bf_Zi X bW9 (fun r u => u = S ∧ Q r)) 3 0 [some (.ref 0), some (.int a1), some (.int a2)] [] (bW9 S) := by
  unfold wp_X9_bitsOf at h
  refine bs_iload_n C (bf_dk dd_X9_bitsOf 0 rfl) rfl ?_
  refine bs_if_eq C (bf_dk dd_X9_bitsOf 1 rfl) (tgt := 10) rfl (fun c => ?_) (fun c => ?_)
  · replace h := h.1 c
    refine bs_bipush C (bf_dk dd_X9_bitsOf 4 rfl) (11 : Int32) (by decide) ?_
    refine bs_aload_n C (bf_dk dd_X9_bitsOf 5 rfl) rfl ?_
    refine bs_iload_n C (bf_dk dd_X9_bitsOf 6 rfl) rfl ?_
    refine bs_selfPV_i C hR (c_X9_branchMany _ _ _ _ _ S (a1) _ h) my_X9_branchMany m_9_231 rfl cl_9 (ge_bW9_0 _) rfl (Nat.le_of_ble_eq_true rfl) (Nat.le_of_ble_eq_true rfl) (st := [.int (11 : Int32)]) (Nat.le_of_ble_eq_true rfl) (bf_dk dd_X9_bitsOf 7 rfl) rfl (fun r1 h => ?_)
    refine bs_aload_n C (bf_dk dd_X9_bitsOf 8 rfl) rfl ?_
    refine bs_iload_n C (bf_dk dd_X9_bitsOf 9 rfl) rfl ?_
    refine bs_selfPV_i C hR (c_X9_isNodeEnd _ _ _ _ _ S (a1) _ h) my_X9_isNodeEnd m_9_234 rfl cl_9 (ge_bW9_0 _) rfl (Nat.le_of_ble_eq_true rfl) (Nat.le_of_ble_eq_true rfl) (st := [.int r1, .int (11 : Int32)]) (Nat.le_of_ble_eq_true rfl) (bf_dk dd_X9_bitsOf 10 rfl) rfl (fun r3 h => ?_)
    refine bs_if_eq C (bf_dk dd_X9_bitsOf 11 rfl) (tgt := 29) rfl (fun c => ?_) (fun c => ?_)
    · replace h := h.1 c
      refine bs_iconst C (bf_dk dd_X9_bitsOf 14 rfl) (0 : Int32) (by decide) ?_
      refine bs_iadd C (bf_dk dd_X9_bitsOf 15 rfl) ?_
      refine bs_imul C (bf_dk dd_X9_bitsOf 16 rfl) ?_
      exact bs_iret (u := S) C (bf_dk dd_X9_bitsOf 17 rfl) rfl ⟨rfl, h⟩
    · replace h := h.2 c
      refine bs_iconst C (bf_dk dd_X9_bitsOf 12 rfl) (1 : Int32) (by decide) ?_
      refine bs_goto C (bf_dk dd_X9_bitsOf 13 rfl) (tgt := 30) rfl ?_
      refine bs_iadd C (bf_dk dd_X9_bitsOf 15 rfl) ?_
      refine bs_imul C (bf_dk dd_X9_bitsOf 16 rfl) ?_
      exact bs_iret (u := S) C (bf_dk dd_X9_bitsOf 17 rfl) rfl ⟨rfl, h⟩
  · replace h := h.2 c
    refine bs_sipush C (bf_dk dd_X9_bitsOf 2 rfl) (513 : Int32) (by decide) ?_
    refine bs_goto C (bf_dk dd_X9_bitsOf 3 rfl) (tgt := 32) rfl ?_
    exact bs_iret (u := S) C (bf_dk dd_X9_bitsOf 17 rfl) rfl ⟨rfl, h⟩
theorem c_X9_bitsOf (l : Launch) (dC : Nat → ClassId) (dI : Nat → Nat → Nat) (ac : Nat → ClassId) (al : Nat → Nat) (S : bT9) (a1 : Int32) (a2 : Int32) (Q : Int32 → Prop) (h : wp_X9_bitsOf S a1 a2 Q) : bf_M l yX9_bitsOf cX9_bitsOf 3 (some .int) 4 92 dC dI ac al [.ref 0, .int a1, .int a2] (bW9 S) (bf_Ki dC dI ac al bW9 (fun r u => u = S ∧ Q r)) := by
  refine bf_start [some (.ref 0), some (.int a1), some (.int a2)] (by decide) (Nat.le_of_ble_eq_true rfl) (bf_s1 (bf_s1 (bf_s1 bf_s0))) ?_
  intro X hl C hR e1 e2 e3 e4
  subst e1; subst e2; subst e3; subst e4
  exact t_X9_bitsOf C hR S a1 a2 Q h
def wp_X9_bitsBelow_31 (S : bT9) (x1 : Int32) (x2 : Int32) (x3 : Int32) (Q : Int32 → Prop) (B4 : Int32 → Int32 → Int32 → Prop) : Prop := (B4 (x1) (x2) ((x3 + (1 : Int32))))
set_option maxRecDepth 20000 in
theorem t_X9_bitsBelow_31 {X : bf_X} (C : bf_C X RX9 cX9_bitsBelow 4 (some .int)) (hR : bf_Rm X 5 114) (S : bT9) (x1 : Int32) (x2 : Int32) (x3 : Int32) (Q : Int32 → Prop) (B4 : Int32 → Int32 → Int32 → Prop) (hB4 : ∀ (x1 : Int32) (x2 : Int32) (x3 : Int32), B4 x1 x2 x3 → bf_A X (bf_Zi X bW9 (fun r u => u = S ∧ Q r)) 4 4 [some (.ref 0), some (.int x1), some (.int x2), some (.int x3)] [] (bW9 S)) (h : wp_X9_bitsBelow_31 S x1 x2 x3 Q B4) : bf_A X (bf_Zi X bW9 (fun r u => u = S ∧ Q r)) 4 31 [some (.ref 0), some (.int x1), some (.int x2), some (.int x3)] [] (bW9 S) := by
  unfold wp_X9_bitsBelow_31 at h
  refine bs_iinc C (bf_dk dd_X9_bitsBelow 21 rfl) (x3 + (1 : Int32)) rfl rfl (Nat.le_of_ble_eq_true rfl) (Nat.le_of_ble_eq_true rfl) (lv2 := [some (.ref 0), some (.int x1), some (.int x2), some (.int (x3 + (1 : Int32)))]) rfl ?_
  refine bs_goto C (bf_dk dd_X9_bitsBelow 22 rfl) (tgt := 4) rfl ?_
  exact bs_weak (bf_s1 (bf_s1 (bf_s1 (bf_s1 bf_s0)))) (hB4 (x1) (x2) ((x3 + (1 : Int32))) h)
def wp_X9_bitsBelow_4b (S : bT9) (x1 : Int32) (x2 : Int32) (x3 : Int32) (Q : Int32 → Prop) (B4 : Int32 → Int32 → Int32 → Prop) : Prop := (((b9g_nodeMany S) ≤ x3 → (Q x2)) ∧ (¬ (b9g_nodeMany S) ≤ x3 → (vp_in x3 512 ∧ ((((b9g_nodeLevel S) (x3).toNatClampNeg) < x1 → (wp_X9_bitsBelow_31 S (x1) (x2) (x3) Q B4)) ∧ (¬ ((b9g_nodeLevel S) (x3).toNatClampNeg) < x1 → (wp_X9_bitsOf S (x3) ((0 : Int32)) (fun r1 => (wp_X9_bitsBelow_31 S (x1) ((x2 + r1)) (x3) Q B4))))))))
set_option maxRecDepth 20000 in
theorem t_X9_bitsBelow_4b {X : bf_X} (C : bf_C X RX9 cX9_bitsBelow 4 (some .int)) (hR : bf_Rm X 5 114) (S : bT9) (x1 : Int32) (x2 : Int32) (x3 : Int32) (Q : Int32 → Prop) (B4 : Int32 → Int32 → Int32 → Prop) (hB4 : ∀ (x1 : Int32) (x2 : Int32) (x3 : Int32), B4 x1 x2 x3 → bf_A X (bf_Zi X bW9 (fun r u => u = S ∧ Q r)) 4 4 [some (.ref 0), some (.int x1), some (.int x2), some (.int x3)] [] (bW9 S)) (h : wp_X9_bitsBelow_4b S x1 x2 x3 Q B4) : bf_A X (bf_Zi X bW9 (fun r u => u = S ∧ Q r)) 4 4 [some (.ref 0), some (.int x1), some (.int x2), some (.int x3)] [] (bW9 S) := by
  unfold wp_X9_bitsBelow_4b at h
  refine bs_iload_n C (bf_dk dd_X9_bitsBelow 4 rfl) rfl ?_
  refine bs_aload_n C (bf_dk dd_X9_bitsBelow 5 rfl) rfl ?_
  refine bs_get C (bf_dk dd_X9_bitsBelow 6 rfl) cl_9 in_9 16 (Nat.le_of_ble_eq_true rfl) rfl f_9_198 (ge_bW9_0 S) rfl ?_
  refine bs_icmp_ge C (bf_dk dd_X9_bitsBelow 7 rfl) (tgt := 37) rfl (fun c => ?_) (fun c => ?_)
  · replace h := h.1 c
    refine bs_iload_n C (bf_dk dd_X9_bitsBelow 23 rfl) rfl ?_
    exact bs_iret (u := S) C (bf_dk dd_X9_bitsBelow 24 rfl) rfl ⟨rfl, h⟩
  · replace h := h.2 c
    refine bs_aload_n C (bf_dk dd_X9_bitsBelow 8 rfl) rfl ?_
    refine bs_get C (bf_dk dd_X9_bitsBelow 9 rfl) cl_9 in_9 13 (Nat.le_of_ble_eq_true rfl) rfl f_9_32 (ge_bW9_0 S) rfl ?_
    refine bs_iload_n C (bf_dk dd_X9_bitsBelow 10 rfl) rfl ?_
    obtain ⟨hi, h⟩ := h
    refine bs_iald C (bf_dk dd_X9_bitsBelow 11 rfl) (ge_bW9_8 S) hi ?_
    refine bs_iload_n C (bf_dk dd_X9_bitsBelow 12 rfl) rfl ?_
    refine bs_icmp_lt C (bf_dk dd_X9_bitsBelow 13 rfl) (tgt := 31) rfl (fun c => ?_) (fun c => ?_)
    · replace h := h.1 c
      exact bs_weak (bf_s1 (bf_s1 (bf_s1 (bf_s1 bf_s0)))) (t_X9_bitsBelow_31 C hR S (x1) (x2) (x3) Q B4 hB4 h)
    · replace h := h.2 c
      refine bs_iload_n C (bf_dk dd_X9_bitsBelow 14 rfl) rfl ?_
      refine bs_aload_n C (bf_dk dd_X9_bitsBelow 15 rfl) rfl ?_
      refine bs_iload_n C (bf_dk dd_X9_bitsBelow 16 rfl) rfl ?_
      refine bs_iconst C (bf_dk dd_X9_bitsBelow 17 rfl) (0 : Int32) (by decide) ?_
      refine bs_selfPV_i C hR (c_X9_bitsOf _ _ _ _ _ S (x3) ((0 : Int32)) _ h) my_X9_bitsOf m_9_237 rfl cl_9 (ge_bW9_0 _) rfl (Nat.le_of_ble_eq_true rfl) (Nat.le_of_ble_eq_true rfl) (st := [.int x2]) (Nat.le_of_ble_eq_true rfl) (bf_dk dd_X9_bitsBelow 18 rfl) rfl (fun r1 h => ?_)
      refine bs_iadd C (bf_dk dd_X9_bitsBelow 19 rfl) ?_
      refine bs_istore_n C (bf_dk dd_X9_bitsBelow 20 rfl) rfl (Nat.le_of_ble_eq_true rfl) (Nat.le_of_ble_eq_true rfl) (lv2 := [some (.ref 0), some (.int x1), some (.int (x2 + r1)), some (.int x3)]) rfl ?_
      exact bs_weak (bf_s1 (bf_s1 (bf_s1 (bf_s1 bf_s0)))) (t_X9_bitsBelow_31 C hR S (x1) ((x2 + r1)) (x3) Q B4 hB4 h)
def wp_X9_bitsBelow_4 (S : bT9) (x1 : Int32) (x2 : Int32) (x3 : Int32) (Q : Int32 → Prop) : Prop := ∃ I : Nat → Int32 → Int32 → Int32 → Prop, (∃ n : Nat, I n x1 x2 x3) ∧ ∀ (n : Nat) (x1 : Int32) (x2 : Int32) (x3 : Int32), I n x1 x2 x3 → wp_X9_bitsBelow_4b S x1 x2 x3 Q (fun x1 x2 x3 => ∃ n2 : Nat, n2 < n ∧ I n2 x1 x2 x3)
theorem t_X9_bitsBelow_4 {X : bf_X} (C : bf_C X RX9 cX9_bitsBelow 4 (some .int)) (hR : bf_Rm X 5 114) (S : bT9) (x1 : Int32) (x2 : Int32) (x3 : Int32) (Q : Int32 → Prop) (h : wp_X9_bitsBelow_4 S x1 x2 x3 Q) : bf_A X (bf_Zi X bW9 (fun r u => u = S ∧ Q r)) 4 4 [some (.ref 0), some (.int x1), some (.int x2), some (.int x3)] [] (bW9 S) := by
  obtain ⟨I, ⟨n0, h0⟩, hI⟩ := h
  have key : ∀ (n : Nat) (x1 : Int32) (x2 : Int32) (x3 : Int32), I n x1 x2 x3 → bf_A X (bf_Zi X bW9 (fun r u => u = S ∧ Q r)) 4 4 [some (.ref 0), some (.int x1), some (.int x2), some (.int x3)] [] (bW9 S) := by
    intro n
    induction n using Nat.strongRecOn with
    | _ n ih =>
      intro x1 x2 x3 hi
      exact t_X9_bitsBelow_4b C hR S x1 x2 x3 Q _ (fun x1 x2 x3 hb => by obtain ⟨n2, hn, hi2⟩ := hb; exact ih n2 hn x1 x2 x3 hi2) (hI n x1 x2 x3 hi)
  exact key n0 x1 x2 x3 h0
def wp_X9_bitsBelow (S : bT9) (a1 : Int32) (Q : Int32 → Prop) : Prop := (wp_X9_bitsBelow_4 S (a1) ((0 : Int32)) ((0 : Int32)) Q)
set_option maxRecDepth 20000 in
theorem t_X9_bitsBelow {X : bf_X} (C : bf_C X RX9 cX9_bitsBelow 4 (some .int)) (hR : bf_Rm X 5 114) (S : bT9) (a1 : Int32) (Q : Int32 → Prop) (h : wp_X9_bitsBelow S a1 Q) : bf_A X (bf_Zi X bW9 (fun r u => u = S ∧ Q r)) 4 0 [some (.ref 0), some (.int a1), none, none] [] (bW9 S) := by
  unfold wp_X9_bitsBelow at h
  refine bs_iconst C (bf_dk dd_X9_bitsBelow 0 rfl) (0 : Int32) (by decide) ?_
  refine bs_istore_n C (bf_dk dd_X9_bitsBelow 1 rfl) rfl (Nat.le_of_ble_eq_true rfl) (Nat.le_of_ble_eq_true rfl) (lv2 := [some (.ref 0), some (.int a1), some (.int (0 : Int32)), none]) rfl ?_
  refine bs_iconst C (bf_dk dd_X9_bitsBelow 2 rfl) (0 : Int32) (by decide) ?_
  refine bs_istore_n C (bf_dk dd_X9_bitsBelow 3 rfl) rfl (Nat.le_of_ble_eq_true rfl) (Nat.le_of_ble_eq_true rfl) (lv2 := [some (.ref 0), some (.int a1), some (.int (0 : Int32)), some (.int (0 : Int32))]) rfl ?_
  exact bs_weak (bf_s1 (bf_s1 (bf_s1 (bf_s1 bf_s0)))) (t_X9_bitsBelow_4 C hR S (a1) ((0 : Int32)) ((0 : Int32)) Q h)
theorem c_X9_bitsBelow (l : Launch) (dC : Nat → ClassId) (dI : Nat → Nat → Nat) (ac : Nat → ClassId) (al : Nat → Nat) (S : bT9) (a1 : Int32) (Q : Int32 → Prop) (h : wp_X9_bitsBelow S a1 Q) : bf_M l yX9_bitsBelow cX9_bitsBelow 4 (some .int) 5 114 dC dI ac al [.ref 0, .int a1] (bW9 S) (bf_Ki dC dI ac al bW9 (fun r u => u = S ∧ Q r)) := by
  refine bf_start [some (.ref 0), some (.int a1), none, none] (by decide) (Nat.le_of_ble_eq_true rfl) (bf_s1 (bf_s1 (bf_en 2))) ?_
  intro X hl C hR e1 e2 e3 e4
  subst e1; subst e2; subst e3; subst e4
  exact t_X9_bitsBelow C hR S a1 Q h
def wp_X9_upperBy_37b (S : bT9) (x2 : Int32) (Q : Int32 → Prop) (B37 : Int32 → Prop) : Prop := (vp_in (14 : Int32) 23 ∧ (wp_X9_bitsAbove S (x2) (fun r1 => (wp_X9_bitsBelow S (x2) (fun r3 => (((((b9g_now S) ((14 : Int32)).toNatClampNeg) * r1) ≤ r3 → (Q x2)) ∧ (¬ (((b9g_now S) ((14 : Int32)).toNatClampNeg) * r1) ≤ r3 → (B37 ((x2 - (1 : Int32)))))))))))
set_option maxRecDepth 20000 in
theorem t_X9_upperBy_37b {X : bf_X} (C : bf_C X RX9 cX9_upperBy 3 (some .int)) (hR : bf_Rm X 6 137) (S : bT9) (x2 : Int32) (Q : Int32 → Prop) (B37 : Int32 → Prop) (hB37 : ∀ (x2 : Int32), B37 x2 → bf_A X (bf_Zi X bW9 (fun r u => u = S ∧ Q r)) 3 37 [some (.ref 0), none, some (.int x2)] [] (bW9 S)) (h : wp_X9_upperBy_37b S x2 Q B37) : bf_A X (bf_Zi X bW9 (fun r u => u = S ∧ Q r)) 3 37 [some (.ref 0), none, some (.int x2)] [] (bW9 S) := by
  unfold wp_X9_upperBy_37b at h
  refine bs_aload_n C (bf_dk dd_X9_upperBy 20 rfl) rfl ?_
  refine bs_get C (bf_dk dd_X9_upperBy 21 rfl) cl_9 in_9 1 (Nat.le_of_ble_eq_true rfl) rfl f_9_7 (ge_bW9_0 S) rfl ?_
  refine bs_bipush C (bf_dk dd_X9_upperBy 22 rfl) (14 : Int32) (by decide) ?_
  obtain ⟨hi, h⟩ := h
  refine bs_iald C (bf_dk dd_X9_upperBy 23 rfl) (ge_bW9_1 S) hi ?_
  refine bs_aload_n C (bf_dk dd_X9_upperBy 24 rfl) rfl ?_
  refine bs_iload_n C (bf_dk dd_X9_upperBy 25 rfl) rfl ?_
  refine bs_selfPV_i C hR (c_X9_bitsAbove _ _ _ _ _ S (x2) _ h) my_X9_bitsAbove m_9_241 rfl cl_9 (ge_bW9_0 _) rfl (Nat.le_of_ble_eq_true rfl) (Nat.le_of_ble_eq_true rfl) (st := [.int ((b9g_now S) ((14 : Int32)).toNatClampNeg)]) (Nat.le_of_ble_eq_true rfl) (bf_dk dd_X9_upperBy 26 rfl) rfl (fun r1 h => ?_)
  refine bs_imul C (bf_dk dd_X9_upperBy 27 rfl) ?_
  refine bs_aload_n C (bf_dk dd_X9_upperBy 28 rfl) rfl ?_
  refine bs_iload_n C (bf_dk dd_X9_upperBy 29 rfl) rfl ?_
  refine bs_selfPV_i C hR (c_X9_bitsBelow _ _ _ _ _ S (x2) _ h) my_X9_bitsBelow m_9_244 rfl cl_9 (ge_bW9_0 _) rfl (Nat.le_of_ble_eq_true rfl) (Nat.le_of_ble_eq_true rfl) (st := [.int (((b9g_now S) ((14 : Int32)).toNatClampNeg) * r1)]) (Nat.le_of_ble_eq_true rfl) (bf_dk dd_X9_upperBy 30 rfl) rfl (fun r3 h => ?_)
  refine bs_icmp_le C (bf_dk dd_X9_upperBy 31 rfl) (tgt := 65) rfl (fun c => ?_) (fun c => ?_)
  · replace h := h.1 c
    refine bs_iload_n C (bf_dk dd_X9_upperBy 37 rfl) rfl ?_
    exact bs_iret (u := S) C (bf_dk dd_X9_upperBy 38 rfl) rfl ⟨rfl, h⟩
  · replace h := h.2 c
    refine bs_iload_n C (bf_dk dd_X9_upperBy 32 rfl) rfl ?_
    refine bs_iconst C (bf_dk dd_X9_upperBy 33 rfl) (1 : Int32) (by decide) ?_
    refine bs_isub C (bf_dk dd_X9_upperBy 34 rfl) ?_
    refine bs_istore_n C (bf_dk dd_X9_upperBy 35 rfl) rfl (Nat.le_of_ble_eq_true rfl) (Nat.le_of_ble_eq_true rfl) (lv2 := [some (.ref 0), none, some (.int (x2 - (1 : Int32)))]) rfl ?_
    refine bs_goto C (bf_dk dd_X9_upperBy 36 rfl) (tgt := 37) rfl ?_
    exact bs_weak (bf_s1 (bf_sn (bf_s1 bf_s0))) (hB37 ((x2 - (1 : Int32))) h)
def wp_X9_upperBy_37 (S : bT9) (x2 : Int32) (Q : Int32 → Prop) : Prop := ∃ I : Nat → Int32 → Prop, (∃ n : Nat, I n x2) ∧ ∀ (n : Nat) (x2 : Int32), I n x2 → wp_X9_upperBy_37b S x2 Q (fun x2 => ∃ n2 : Nat, n2 < n ∧ I n2 x2)
theorem t_X9_upperBy_37 {X : bf_X} (C : bf_C X RX9 cX9_upperBy 3 (some .int)) (hR : bf_Rm X 6 137) (S : bT9) (x2 : Int32) (Q : Int32 → Prop) (h : wp_X9_upperBy_37 S x2 Q) : bf_A X (bf_Zi X bW9 (fun r u => u = S ∧ Q r)) 3 37 [some (.ref 0), none, some (.int x2)] [] (bW9 S) := by
  obtain ⟨I, ⟨n0, h0⟩, hI⟩ := h
  have key : ∀ (n : Nat) (x2 : Int32), I n x2 → bf_A X (bf_Zi X bW9 (fun r u => u = S ∧ Q r)) 3 37 [some (.ref 0), none, some (.int x2)] [] (bW9 S) := by
    intro n
    induction n using Nat.strongRecOn with
    | _ n ih =>
      intro x2 hi
      exact t_X9_upperBy_37b C hR S x2 Q _ (fun x2 hb => by obtain ⟨n2, hn, hi2⟩ := hb; exact ih n2 hn x2 hi2) (hI n x2 hi)
  exact key n0 x2 h0
def wp_X9_upperBy (S : bT9) (a1 : Int32) (Q : Int32 → Prop) : Prop := ((¬ (b9g_levelMany S) = 0 → (((9 : Int32) ≤ a1 → (wp_X9_upperBy_37 S ((b9g_levelMany S)) Q)) ∧ (¬ (9 : Int32) ≤ a1 → (((b9g_levelMany S) ≤ a1 → (Q (b9g_levelMany S))) ∧ (¬ (b9g_levelMany S) ≤ a1 → (Q a1)))))) ∧ ((b9g_levelMany S) = 0 → (Q (0 : Int32))))
set_option maxRecDepth 20000 in
theorem t_X9_upperBy {X : bf_X} (C : bf_C X RX9 cX9_upperBy 3 (some .int)) (hR : bf_Rm X 6 137) (S : bT9) (a1 : Int32) (Q : Int32 → Prop) (h : wp_X9_upperBy S a1 Q) : bf_A X (bf_Zi X bW9 (fun r u => u = S ∧ Q r)) 3 0 [some (.ref 0), some (.int a1), none] [] (bW9 S) := by
  unfold wp_X9_upperBy at h
  refine bs_aload_n C (bf_dk dd_X9_upperBy 0 rfl) rfl ?_
  refine bs_get C (bf_dk dd_X9_upperBy 1 rfl) cl_9 in_9 17 (Nat.le_of_ble_eq_true rfl) rfl f_9_201 (ge_bW9_0 S) rfl ?_
  refine bs_if_ne C (bf_dk dd_X9_upperBy 2 rfl) (tgt := 9) rfl (fun c => ?_) (fun c => ?_)
  · replace h := h.1 c
    refine bs_iload_n C (bf_dk dd_X9_upperBy 5 rfl) rfl ?_
    refine bs_bipush C (bf_dk dd_X9_upperBy 6 rfl) (9 : Int32) (by decide) ?_
    refine bs_icmp_ge C (bf_dk dd_X9_upperBy 7 rfl) (tgt := 32) rfl (fun c => ?_) (fun c => ?_)
    · replace h := h.1 c
      refine bs_aload_n C (bf_dk dd_X9_upperBy 17 rfl) rfl ?_
      refine bs_get C (bf_dk dd_X9_upperBy 18 rfl) cl_9 in_9 17 (Nat.le_of_ble_eq_true rfl) rfl f_9_201 (ge_bW9_0 S) rfl ?_
      refine bs_istore_n C (bf_dk dd_X9_upperBy 19 rfl) rfl (Nat.le_of_ble_eq_true rfl) (Nat.le_of_ble_eq_true rfl) (lv2 := [some (.ref 0), some (.int a1), some (.int (b9g_levelMany S))]) rfl ?_
      exact bs_weak (bf_s1 (bf_sn (bf_s1 bf_s0))) (t_X9_upperBy_37 C hR S ((b9g_levelMany S)) Q h)
    · replace h := h.2 c
      refine bs_iload_n C (bf_dk dd_X9_upperBy 8 rfl) rfl ?_
      refine bs_aload_n C (bf_dk dd_X9_upperBy 9 rfl) rfl ?_
      refine bs_get C (bf_dk dd_X9_upperBy 10 rfl) cl_9 in_9 17 (Nat.le_of_ble_eq_true rfl) rfl f_9_201 (ge_bW9_0 S) rfl ?_
      refine bs_icmp_ge C (bf_dk dd_X9_upperBy 11 rfl) (tgt := 27) rfl (fun c => ?_) (fun c => ?_)
      · replace h := h.1 c
        refine bs_aload_n C (bf_dk dd_X9_upperBy 14 rfl) rfl ?_
        refine bs_get C (bf_dk dd_X9_upperBy 15 rfl) cl_9 in_9 17 (Nat.le_of_ble_eq_true rfl) rfl f_9_201 (ge_bW9_0 S) rfl ?_
        exact bs_iret (u := S) C (bf_dk dd_X9_upperBy 16 rfl) rfl ⟨rfl, h⟩
      · replace h := h.2 c
        refine bs_iload_n C (bf_dk dd_X9_upperBy 12 rfl) rfl ?_
        refine bs_goto C (bf_dk dd_X9_upperBy 13 rfl) (tgt := 31) rfl ?_
        exact bs_iret (u := S) C (bf_dk dd_X9_upperBy 16 rfl) rfl ⟨rfl, h⟩
  · replace h := h.2 c
    refine bs_iconst C (bf_dk dd_X9_upperBy 3 rfl) (0 : Int32) (by decide) ?_
    exact bs_iret (u := S) C (bf_dk dd_X9_upperBy 4 rfl) rfl ⟨rfl, h⟩
theorem c_X9_upperBy (l : Launch) (dC : Nat → ClassId) (dI : Nat → Nat → Nat) (ac : Nat → ClassId) (al : Nat → Nat) (S : bT9) (a1 : Int32) (Q : Int32 → Prop) (h : wp_X9_upperBy S a1 Q) : bf_M l yX9_upperBy cX9_upperBy 3 (some .int) 6 137 dC dI ac al [.ref 0, .int a1] (bW9 S) (bf_Ki dC dI ac al bW9 (fun r u => u = S ∧ Q r)) := by
  refine bf_start [some (.ref 0), some (.int a1), none] (by decide) (Nat.le_of_ble_eq_true rfl) (bf_s1 (bf_s1 (bf_en 1))) ?_
  intro X hl C hR e1 e2 e3 e4
  subst e1; subst e2; subst e3; subst e4
  exact t_X9_upperBy C hR S a1 Q h
def wp_X9_laysNodes_232 (S : bT9) (Q : (bT9) → Prop) : Prop := (wp_X9_laysItems S (fun u2 => (Q u2)))
set_option maxRecDepth 20000 in
theorem t_X9_laysNodes_232 {X : bf_X} (C : bf_C X RX9 cX9_laysNodes 4 none) (hR : bf_Rm X 7 159) (S : bT9) (Q : (bT9) → Prop) (h : wp_X9_laysNodes_232 S Q) : bf_A X (bf_Zv X bW9 Q) 4 232 [some (.ref 0), none, none, none] [] (bW9 S) := by
  unfold wp_X9_laysNodes_232 at h
  refine bs_aload_n C (bf_dk dd_X9_laysNodes 131 rfl) rfl ?_
  refine bs_selfV_v C hR (c_X9_laysItems _ _ _ _ _ S _ h) my_X9_laysItems m_9_219 rfl cl_9 (ge_bW9_0 _) rfl (Nat.le_of_ble_eq_true rfl) (Nat.le_of_ble_eq_true rfl) (st := []) (Nat.le_of_ble_eq_true rfl) (bf_dk dd_X9_laysNodes 132 rfl) rfl (len := 21) (fun _ => rfl) (fun u2 h => ?_)
  exact bs_vret (u := u2) C (bf_dk dd_X9_laysNodes 133 rfl) rfl h
def wp_X9_laysNodes_192b (S : bT9) (Q : (bT9) → Prop) (B192 : (bT9) → Prop) : Prop := (((b9g_nodeMany S) ≤ (b9g_upperNodes S) → (wp_X9_laysNodes_232 S Q)) ∧ (¬ (b9g_nodeMany S) ≤ (b9g_upperNodes S) → (vp_in (b9g_upperNodes S) 512 ∧ (((b9g_upper S) ≤ ((b9g_nodeLevel S) ((b9g_upperNodes S)).toNatClampNeg) → (wp_X9_laysNodes_232 S Q)) ∧ (¬ (b9g_upper S) ≤ ((b9g_nodeLevel S) ((b9g_upperNodes S)).toNatClampNeg) → (∀ S3 : bT9, S3 = (b9s_upperNodes S ((b9g_upperNodes S) + (1 : Int32))) → (B192 S3)))))))
set_option maxRecDepth 20000 in
theorem t_X9_laysNodes_192b {X : bf_X} (C : bf_C X RX9 cX9_laysNodes 4 none) (hR : bf_Rm X 7 159) (S : bT9) (Q : (bT9) → Prop) (B192 : (bT9) → Prop) (hB192 : ∀  (S : bT9), B192 S → bf_A X (bf_Zv X bW9 Q) 4 192 [some (.ref 0), none, none, none] [] (bW9 S)) (h : wp_X9_laysNodes_192b S Q B192) : bf_A X (bf_Zv X bW9 Q) 4 192 [some (.ref 0), none, none, none] [] (bW9 S) := by
  unfold wp_X9_laysNodes_192b at h
  refine bs_aload_n C (bf_dk dd_X9_laysNodes 111 rfl) rfl ?_
  refine bs_get C (bf_dk dd_X9_laysNodes 112 rfl) cl_9 in_9 19 (Nat.le_of_ble_eq_true rfl) rfl f_9_216 (ge_bW9_0 S) rfl ?_
  refine bs_aload_n C (bf_dk dd_X9_laysNodes 113 rfl) rfl ?_
  refine bs_get C (bf_dk dd_X9_laysNodes 114 rfl) cl_9 in_9 16 (Nat.le_of_ble_eq_true rfl) rfl f_9_198 (ge_bW9_0 S) rfl ?_
  refine bs_icmp_ge C (bf_dk dd_X9_laysNodes 115 rfl) (tgt := 232) rfl (fun c => ?_) (fun c => ?_)
  · replace h := h.1 c
    exact bs_weak (bf_s1 (bf_sn (bf_sn (bf_sn bf_s0)))) (t_X9_laysNodes_232 C hR S Q h)
  · replace h := h.2 c
    refine bs_aload_n C (bf_dk dd_X9_laysNodes 116 rfl) rfl ?_
    refine bs_get C (bf_dk dd_X9_laysNodes 117 rfl) cl_9 in_9 13 (Nat.le_of_ble_eq_true rfl) rfl f_9_32 (ge_bW9_0 S) rfl ?_
    refine bs_aload_n C (bf_dk dd_X9_laysNodes 118 rfl) rfl ?_
    refine bs_get C (bf_dk dd_X9_laysNodes 119 rfl) cl_9 in_9 19 (Nat.le_of_ble_eq_true rfl) rfl f_9_216 (ge_bW9_0 S) rfl ?_
    obtain ⟨hi, h⟩ := h
    refine bs_iald C (bf_dk dd_X9_laysNodes 120 rfl) (ge_bW9_8 S) hi ?_
    refine bs_aload_n C (bf_dk dd_X9_laysNodes 121 rfl) rfl ?_
    refine bs_get C (bf_dk dd_X9_laysNodes 122 rfl) cl_9 in_9 18 (Nat.le_of_ble_eq_true rfl) rfl f_9_213 (ge_bW9_0 S) rfl ?_
    refine bs_icmp_ge C (bf_dk dd_X9_laysNodes 123 rfl) (tgt := 232) rfl (fun c => ?_) (fun c => ?_)
    · replace h := h.1 c
      exact bs_weak (bf_s1 (bf_sn (bf_sn (bf_sn bf_s0)))) (t_X9_laysNodes_232 C hR S Q h)
    · replace h := h.2 c
      refine bs_aload_n C (bf_dk dd_X9_laysNodes 124 rfl) rfl ?_
      refine bs_aload_n C (bf_dk dd_X9_laysNodes 125 rfl) rfl ?_
      refine bs_get C (bf_dk dd_X9_laysNodes 126 rfl) cl_9 in_9 19 (Nat.le_of_ble_eq_true rfl) rfl f_9_216 (ge_bW9_0 S) rfl ?_
      refine bs_iconst C (bf_dk dd_X9_laysNodes 127 rfl) (1 : Int32) (by decide) ?_
      refine bs_iadd C (bf_dk dd_X9_laysNodes 128 rfl) ?_
      refine bs_put C (bf_dk dd_X9_laysNodes 129 rfl) tyX9_ok nmX9 cl_9 in_9 19 (Nat.le_of_ble_eq_true rfl) rfl f_9_216 rfl (ge_bW9_0 S) (Nat.le_of_ble_eq_true rfl) rfl rfl (pu_bW9_0_19 S ((b9g_upperNodes S) + (1 : Int32))) ?_
      refine bs_nameS bW9 (fun S3 eS3 => ?_)
      replace h := h S3 eS3
      refine bs_goto C (bf_dk dd_X9_laysNodes 130 rfl) (tgt := 192) rfl ?_
      exact bs_weak (bf_s1 (bf_sn (bf_sn (bf_sn bf_s0)))) (hB192 S3 h)
def wp_X9_laysNodes_192 (S : bT9) (Q : (bT9) → Prop) : Prop := ∃ I : Nat → (bT9) → Prop, (∃ n : Nat, I n S) ∧ ∀ (n : Nat)  (S : bT9), I n S → wp_X9_laysNodes_192b S Q (fun  S => ∃ n2 : Nat, n2 < n ∧ I n2 S)
theorem t_X9_laysNodes_192 {X : bf_X} (C : bf_C X RX9 cX9_laysNodes 4 none) (hR : bf_Rm X 7 159) (S : bT9) (Q : (bT9) → Prop) (h : wp_X9_laysNodes_192 S Q) : bf_A X (bf_Zv X bW9 Q) 4 192 [some (.ref 0), none, none, none] [] (bW9 S) := by
  obtain ⟨I, ⟨n0, h0⟩, hI⟩ := h
  have key : ∀ (n : Nat)  (S : bT9), I n S → bf_A X (bf_Zv X bW9 Q) 4 192 [some (.ref 0), none, none, none] [] (bW9 S) := by
    intro n
    induction n using Nat.strongRecOn with
    | _ n ih =>
      intro S hi
      exact t_X9_laysNodes_192b C hR S Q _ (fun  S hb => by obtain ⟨n2, hn, hi2⟩ := hb; exact ih n2 hn S hi2) (hI n S hi)
  exact key n0 S h0
def wp_X9_laysNodes_158 (S : bT9) (x1 : Int32) (x2 : Int32) (x3 : Int32) (Q : (bT9) → Prop) (B34 : Int32 → (bT9) → Prop) (B44 : Int32 → Int32 → Int32 → (bT9) → Prop) : Prop := (B44 (x1) (x2) ((x3 + (1 : Int32))) S)
set_option maxRecDepth 20000 in
theorem t_X9_laysNodes_158 {X : bf_X} (C : bf_C X RX9 cX9_laysNodes 4 none) (hR : bf_Rm X 7 159) (S : bT9) (x1 : Int32) (x2 : Int32) (x3 : Int32) (Q : (bT9) → Prop) (B34 : Int32 → (bT9) → Prop) (B44 : Int32 → Int32 → Int32 → (bT9) → Prop) (hB34 : ∀ (x1 : Int32) (S : bT9), B34 x1 S → bf_A X (bf_Zv X bW9 Q) 4 34 [some (.ref 0), some (.int x1), none, none] [] (bW9 S)) (hB44 : ∀ (x1 : Int32) (x2 : Int32) (x3 : Int32) (S : bT9), B44 x1 x2 x3 S → bf_A X (bf_Zv X bW9 Q) 4 44 [some (.ref 0), some (.int x1), some (.int x2), some (.int x3)] [] (bW9 S)) (h : wp_X9_laysNodes_158 S x1 x2 x3 Q B34 B44) : bf_A X (bf_Zv X bW9 Q) 4 158 [some (.ref 0), some (.int x1), some (.int x2), some (.int x3)] [] (bW9 S) := by
  unfold wp_X9_laysNodes_158 at h
  refine bs_iinc C (bf_dk dd_X9_laysNodes 94 rfl) (x3 + (1 : Int32)) rfl rfl (Nat.le_of_ble_eq_true rfl) (Nat.le_of_ble_eq_true rfl) (lv2 := [some (.ref 0), some (.int x1), some (.int x2), some (.int (x3 + (1 : Int32)))]) rfl ?_
  refine bs_goto C (bf_dk dd_X9_laysNodes 95 rfl) (tgt := 44) rfl ?_
  exact bs_weak (bf_s1 (bf_s1 (bf_s1 (bf_s1 bf_s0)))) (hB44 (x1) (x2) ((x3 + (1 : Int32))) S h)
def wp_X9_laysNodes_44b (S : bT9) (x1 : Int32) (x2 : Int32) (x3 : Int32) (Q : (bT9) → Prop) (B34 : Int32 → (bT9) → Prop) (B44 : Int32 → Int32 → Int32 → (bT9) → Prop) : Prop := (vp_in (9 : Int32) 23 ∧ ((((b9g_now S) ((9 : Int32)).toNatClampNeg) ≤ x3 → (B34 ((x1 + (1 : Int32))) S)) ∧ (¬ ((b9g_now S) ((9 : Int32)).toNatClampNeg) ≤ x3 → (vp_in x3 64 ∧ ((((b9g_beginning S) (x3).toNatClampNeg) ≤ x1 → (wp_X9_laysNodes_158 S (x1) (x2) (x3) Q B34 B44)) ∧ (¬ ((b9g_beginning S) (x3).toNatClampNeg) ≤ x1 → ((x2 ≤ x3 → (vp_in (b9g_nodeMany S) 512 ∧ (∀ S4 : bT9, S4 = (b9s_nodeLevel S (upd (b9g_nodeLevel S) ((b9g_nodeMany S)).toNatClampNeg x1)) → (wp_X9_firstLike S4 (x3) (x1) (fun r5 => (vp_in (b9g_nodeMany S4) 512 ∧ (∀ S7 : bT9, S7 = (b9s_nodeLeaf S4 (upd (b9g_nodeLeaf S4) ((b9g_nodeMany S4)).toNatClampNeg r5)) → (vp_in (b9g_nodeMany S7) 512 ∧ (wp_X9_manyLike S7 (((b9g_nodeLeaf S7) ((b9g_nodeMany S7)).toNatClampNeg)) (x1) (fun r8 => (vp_in (b9g_nodeMany S7) 512 ∧ (∀ S10 : bT9, S10 = (b9s_nodeLeaves S7 (upd (b9g_nodeLeaves S7) ((b9g_nodeMany S7)).toNatClampNeg r8)) → (vp_in (b9g_nodeMany S10) 512 ∧ (vp_in (b9g_nodeMany S10) 512 ∧ (∀ v11 : Int32, v11 = (((b9g_nodeLeaf S10) ((b9g_nodeMany S10)).toNatClampNeg) + ((b9g_nodeLeaves S10) ((b9g_nodeMany S10)).toNatClampNeg)) → (∀ S12 : bT9, S12 = (b9s_nodeMany S10 ((b9g_nodeMany S10) + (1 : Int32))) → (∀ S13 : bT9, S13 = (b9s_levelMany S12 (x1 + (1 : Int32))) → (wp_X9_laysNodes_158 S13 (x1) (v11) (x3) Q B34 B44)))))))))))))))))) ∧ (¬ x2 ≤ x3 → (wp_X9_laysNodes_158 S (x1) (x2) (x3) Q B34 B44)))))))))
set_option maxRecDepth 20000 in
theorem t_X9_laysNodes_44b {X : bf_X} (C : bf_C X RX9 cX9_laysNodes 4 none) (hR : bf_Rm X 7 159) (S : bT9) (x1 : Int32) (x2 : Int32) (x3 : Int32) (Q : (bT9) → Prop) (B34 : Int32 → (bT9) → Prop) (B44 : Int32 → Int32 → Int32 → (bT9) → Prop) (hB34 : ∀ (x1 : Int32) (S : bT9), B34 x1 S → bf_A X (bf_Zv X bW9 Q) 4 34 [some (.ref 0), some (.int x1), none, none] [] (bW9 S)) (hB44 : ∀ (x1 : Int32) (x2 : Int32) (x3 : Int32) (S : bT9), B44 x1 x2 x3 S → bf_A X (bf_Zv X bW9 Q) 4 44 [some (.ref 0), some (.int x1), some (.int x2), some (.int x3)] [] (bW9 S)) (h : wp_X9_laysNodes_44b S x1 x2 x3 Q B34 B44) : bf_A X (bf_Zv X bW9 Q) 4 44 [some (.ref 0), some (.int x1), some (.int x2), some (.int x3)] [] (bW9 S) := by
  unfold wp_X9_laysNodes_44b at h
  refine bs_iload_n C (bf_dk dd_X9_laysNodes 27 rfl) rfl ?_
  refine bs_aload_n C (bf_dk dd_X9_laysNodes 28 rfl) rfl ?_
  refine bs_get C (bf_dk dd_X9_laysNodes 29 rfl) cl_9 in_9 1 (Nat.le_of_ble_eq_true rfl) rfl f_9_7 (ge_bW9_0 S) rfl ?_
  refine bs_bipush C (bf_dk dd_X9_laysNodes 30 rfl) (9 : Int32) (by decide) ?_
  obtain ⟨hi, h⟩ := h
  refine bs_iald C (bf_dk dd_X9_laysNodes 31 rfl) (ge_bW9_1 S) hi ?_
  refine bs_icmp_ge C (bf_dk dd_X9_laysNodes 32 rfl) (tgt := 164) rfl (fun c => ?_) (fun c => ?_)
  · replace h := h.1 c
    refine bs_iinc C (bf_dk dd_X9_laysNodes 96 rfl) (x1 + (1 : Int32)) rfl rfl (Nat.le_of_ble_eq_true rfl) (Nat.le_of_ble_eq_true rfl) (lv2 := [some (.ref 0), some (.int (x1 + (1 : Int32))), some (.int x2), some (.int x3)]) rfl ?_
    refine bs_goto C (bf_dk dd_X9_laysNodes 97 rfl) (tgt := 34) rfl ?_
    exact bs_weak (bf_s1 (bf_s1 (bf_sn (bf_sn bf_s0)))) (hB34 ((x1 + (1 : Int32))) S h)
  · replace h := h.2 c
    refine bs_aload_n C (bf_dk dd_X9_laysNodes 33 rfl) rfl ?_
    refine bs_get C (bf_dk dd_X9_laysNodes 34 rfl) cl_9 in_9 11 (Nat.le_of_ble_eq_true rfl) rfl f_9_29 (ge_bW9_0 S) rfl ?_
    refine bs_iload_n C (bf_dk dd_X9_laysNodes 35 rfl) rfl ?_
    obtain ⟨hi, h⟩ := h
    refine bs_iald C (bf_dk dd_X9_laysNodes 36 rfl) (ge_bW9_7 S) hi ?_
    refine bs_iload_n C (bf_dk dd_X9_laysNodes 37 rfl) rfl ?_
    refine bs_icmp_le C (bf_dk dd_X9_laysNodes 38 rfl) (tgt := 158) rfl (fun c => ?_) (fun c => ?_)
    · replace h := h.1 c
      exact bs_weak (bf_s1 (bf_s1 (bf_s1 (bf_s1 bf_s0)))) (t_X9_laysNodes_158 C hR S (x1) (x2) (x3) Q B34 B44 hB34 hB44 h)
    · replace h := h.2 c
      refine bs_iload_n C (bf_dk dd_X9_laysNodes 39 rfl) rfl ?_
      refine bs_iload_n C (bf_dk dd_X9_laysNodes 40 rfl) rfl ?_
      refine bs_icmp_ge C (bf_dk dd_X9_laysNodes 41 rfl) (tgt := 73) rfl (fun c => ?_) (fun c => ?_)
      · replace h := h.1 c
        refine bs_aload_n C (bf_dk dd_X9_laysNodes 43 rfl) rfl ?_
        refine bs_get C (bf_dk dd_X9_laysNodes 44 rfl) cl_9 in_9 13 (Nat.le_of_ble_eq_true rfl) rfl f_9_32 (ge_bW9_0 S) rfl ?_
        refine bs_aload_n C (bf_dk dd_X9_laysNodes 45 rfl) rfl ?_
        refine bs_get C (bf_dk dd_X9_laysNodes 46 rfl) cl_9 in_9 16 (Nat.le_of_ble_eq_true rfl) rfl f_9_198 (ge_bW9_0 S) rfl ?_
        refine bs_iload_n C (bf_dk dd_X9_laysNodes 47 rfl) rfl ?_
        obtain ⟨hi, h⟩ := h
        refine bs_iast C (bf_dk dd_X9_laysNodes 48 rfl) (ge_bW9_8 S) hi (ar_bW9_8 S _) ?_
        refine bs_nameS bW9 (fun S4 eS4 => ?_)
        replace h := h S4 eS4
        refine bs_aload_n C (bf_dk dd_X9_laysNodes 49 rfl) rfl ?_
        refine bs_get C (bf_dk dd_X9_laysNodes 50 rfl) cl_9 in_9 14 (Nat.le_of_ble_eq_true rfl) rfl f_9_35 (ge_bW9_0 S4) rfl ?_
        refine bs_aload_n C (bf_dk dd_X9_laysNodes 51 rfl) rfl ?_
        refine bs_get C (bf_dk dd_X9_laysNodes 52 rfl) cl_9 in_9 16 (Nat.le_of_ble_eq_true rfl) rfl f_9_198 (ge_bW9_0 S4) rfl ?_
        refine bs_aload_n C (bf_dk dd_X9_laysNodes 53 rfl) rfl ?_
        refine bs_iload_n C (bf_dk dd_X9_laysNodes 54 rfl) rfl ?_
        refine bs_iload_n C (bf_dk dd_X9_laysNodes 55 rfl) rfl ?_
        refine bs_selfPV_i C hR (c_X9_firstLike _ _ _ _ _ S4 (x3) (x1) _ h) my_X9_firstLike m_9_204 rfl cl_9 (ge_bW9_0 _) rfl (Nat.le_of_ble_eq_true rfl) (Nat.le_of_ble_eq_true rfl) (st := [.int (b9g_nodeMany S4), .ref 9]) (Nat.le_of_ble_eq_true rfl) (bf_dk dd_X9_laysNodes 56 rfl) rfl (fun r5 h => ?_)
        obtain ⟨hi, h⟩ := h
        refine bs_iast C (bf_dk dd_X9_laysNodes 57 rfl) (ge_bW9_9 S4) hi (ar_bW9_9 S4 _) ?_
        refine bs_nameS bW9 (fun S7 eS7 => ?_)
        replace h := h S7 eS7
        refine bs_aload_n C (bf_dk dd_X9_laysNodes 58 rfl) rfl ?_
        refine bs_get C (bf_dk dd_X9_laysNodes 59 rfl) cl_9 in_9 15 (Nat.le_of_ble_eq_true rfl) rfl f_9_38 (ge_bW9_0 S7) rfl ?_
        refine bs_aload_n C (bf_dk dd_X9_laysNodes 60 rfl) rfl ?_
        refine bs_get C (bf_dk dd_X9_laysNodes 61 rfl) cl_9 in_9 16 (Nat.le_of_ble_eq_true rfl) rfl f_9_198 (ge_bW9_0 S7) rfl ?_
        refine bs_aload_n C (bf_dk dd_X9_laysNodes 62 rfl) rfl ?_
        refine bs_aload_n C (bf_dk dd_X9_laysNodes 63 rfl) rfl ?_
        refine bs_get C (bf_dk dd_X9_laysNodes 64 rfl) cl_9 in_9 14 (Nat.le_of_ble_eq_true rfl) rfl f_9_35 (ge_bW9_0 S7) rfl ?_
        refine bs_aload_n C (bf_dk dd_X9_laysNodes 65 rfl) rfl ?_
        refine bs_get C (bf_dk dd_X9_laysNodes 66 rfl) cl_9 in_9 16 (Nat.le_of_ble_eq_true rfl) rfl f_9_198 (ge_bW9_0 S7) rfl ?_
        obtain ⟨hi, h⟩ := h
        refine bs_iald C (bf_dk dd_X9_laysNodes 67 rfl) (ge_bW9_9 S7) hi ?_
        refine bs_iload_n C (bf_dk dd_X9_laysNodes 68 rfl) rfl ?_
        refine bs_selfPV_i C hR (c_X9_manyLike _ _ _ _ _ S7 (((b9g_nodeLeaf S7) ((b9g_nodeMany S7)).toNatClampNeg)) (x1) _ h) my_X9_manyLike m_9_207 rfl cl_9 (ge_bW9_0 _) rfl (Nat.le_of_ble_eq_true rfl) (Nat.le_of_ble_eq_true rfl) (st := [.int (b9g_nodeMany S7), .ref 10]) (Nat.le_of_ble_eq_true rfl) (bf_dk dd_X9_laysNodes 69 rfl) rfl (fun r8 h => ?_)
        obtain ⟨hi, h⟩ := h
        refine bs_iast C (bf_dk dd_X9_laysNodes 70 rfl) (ge_bW9_10 S7) hi (ar_bW9_10 S7 _) ?_
        refine bs_nameS bW9 (fun S10 eS10 => ?_)
        replace h := h S10 eS10
        refine bs_aload_n C (bf_dk dd_X9_laysNodes 71 rfl) rfl ?_
        refine bs_get C (bf_dk dd_X9_laysNodes 72 rfl) cl_9 in_9 14 (Nat.le_of_ble_eq_true rfl) rfl f_9_35 (ge_bW9_0 S10) rfl ?_
        refine bs_aload_n C (bf_dk dd_X9_laysNodes 73 rfl) rfl ?_
        refine bs_get C (bf_dk dd_X9_laysNodes 74 rfl) cl_9 in_9 16 (Nat.le_of_ble_eq_true rfl) rfl f_9_198 (ge_bW9_0 S10) rfl ?_
        obtain ⟨hi, h⟩ := h
        refine bs_iald C (bf_dk dd_X9_laysNodes 75 rfl) (ge_bW9_9 S10) hi ?_
        refine bs_aload_n C (bf_dk dd_X9_laysNodes 76 rfl) rfl ?_
        refine bs_get C (bf_dk dd_X9_laysNodes 77 rfl) cl_9 in_9 15 (Nat.le_of_ble_eq_true rfl) rfl f_9_38 (ge_bW9_0 S10) rfl ?_
        refine bs_aload_n C (bf_dk dd_X9_laysNodes 78 rfl) rfl ?_
        refine bs_get C (bf_dk dd_X9_laysNodes 79 rfl) cl_9 in_9 16 (Nat.le_of_ble_eq_true rfl) rfl f_9_198 (ge_bW9_0 S10) rfl ?_
        obtain ⟨hi, h⟩ := h
        refine bs_iald C (bf_dk dd_X9_laysNodes 80 rfl) (ge_bW9_10 S10) hi ?_
        refine bs_iadd C (bf_dk dd_X9_laysNodes 81 rfl) ?_
        refine bs_name (fun v11 ev11 => ?_)
        replace h := h v11 ev11
        refine bs_istore_n C (bf_dk dd_X9_laysNodes 82 rfl) rfl (Nat.le_of_ble_eq_true rfl) (Nat.le_of_ble_eq_true rfl) (lv2 := [some (.ref 0), some (.int x1), some (.int v11), some (.int x3)]) rfl ?_
        refine bs_aload_n C (bf_dk dd_X9_laysNodes 83 rfl) rfl ?_
        refine bs_aload_n C (bf_dk dd_X9_laysNodes 84 rfl) rfl ?_
        refine bs_get C (bf_dk dd_X9_laysNodes 85 rfl) cl_9 in_9 16 (Nat.le_of_ble_eq_true rfl) rfl f_9_198 (ge_bW9_0 S10) rfl ?_
        refine bs_iconst C (bf_dk dd_X9_laysNodes 86 rfl) (1 : Int32) (by decide) ?_
        refine bs_iadd C (bf_dk dd_X9_laysNodes 87 rfl) ?_
        refine bs_put C (bf_dk dd_X9_laysNodes 88 rfl) tyX9_ok nmX9 cl_9 in_9 16 (Nat.le_of_ble_eq_true rfl) rfl f_9_198 rfl (ge_bW9_0 S10) (Nat.le_of_ble_eq_true rfl) rfl rfl (pu_bW9_0_16 S10 ((b9g_nodeMany S10) + (1 : Int32))) ?_
        refine bs_nameS bW9 (fun S12 eS12 => ?_)
        replace h := h S12 eS12
        refine bs_aload_n C (bf_dk dd_X9_laysNodes 89 rfl) rfl ?_
        refine bs_iload_n C (bf_dk dd_X9_laysNodes 90 rfl) rfl ?_
        refine bs_iconst C (bf_dk dd_X9_laysNodes 91 rfl) (1 : Int32) (by decide) ?_
        refine bs_iadd C (bf_dk dd_X9_laysNodes 92 rfl) ?_
        refine bs_put C (bf_dk dd_X9_laysNodes 93 rfl) tyX9_ok nmX9 cl_9 in_9 17 (Nat.le_of_ble_eq_true rfl) rfl f_9_201 rfl (ge_bW9_0 S12) (Nat.le_of_ble_eq_true rfl) rfl rfl (pu_bW9_0_17 S12 (x1 + (1 : Int32))) ?_
        refine bs_nameS bW9 (fun S13 eS13 => ?_)
        replace h := h S13 eS13
        exact bs_weak (bf_s1 (bf_s1 (bf_s1 (bf_s1 bf_s0)))) (t_X9_laysNodes_158 C hR S13 (x1) (v11) (x3) Q B34 B44 hB34 hB44 h)
      · replace h := h.2 c
        refine bs_goto C (bf_dk dd_X9_laysNodes 42 rfl) (tgt := 158) rfl ?_
        exact bs_weak (bf_s1 (bf_s1 (bf_s1 (bf_s1 bf_s0)))) (t_X9_laysNodes_158 C hR S (x1) (x2) (x3) Q B34 B44 hB34 hB44 h)
def wp_X9_laysNodes_44 (S : bT9) (x1 : Int32) (x2 : Int32) (x3 : Int32) (Q : (bT9) → Prop) (B34 : Int32 → (bT9) → Prop) : Prop := ∃ I : Nat → Int32 → Int32 → Int32 → (bT9) → Prop, (∃ n : Nat, I n x1 x2 x3 S) ∧ ∀ (n : Nat) (x1 : Int32) (x2 : Int32) (x3 : Int32) (S : bT9), I n x1 x2 x3 S → wp_X9_laysNodes_44b S x1 x2 x3 Q B34 (fun x1 x2 x3 S => ∃ n2 : Nat, n2 < n ∧ I n2 x1 x2 x3 S)
theorem t_X9_laysNodes_44 {X : bf_X} (C : bf_C X RX9 cX9_laysNodes 4 none) (hR : bf_Rm X 7 159) (S : bT9) (x1 : Int32) (x2 : Int32) (x3 : Int32) (Q : (bT9) → Prop) (B34 : Int32 → (bT9) → Prop) (hB34 : ∀ (x1 : Int32) (S : bT9), B34 x1 S → bf_A X (bf_Zv X bW9 Q) 4 34 [some (.ref 0), some (.int x1), none, none] [] (bW9 S)) (h : wp_X9_laysNodes_44 S x1 x2 x3 Q B34) : bf_A X (bf_Zv X bW9 Q) 4 44 [some (.ref 0), some (.int x1), some (.int x2), some (.int x3)] [] (bW9 S) := by
  obtain ⟨I, ⟨n0, h0⟩, hI⟩ := h
  have key : ∀ (n : Nat) (x1 : Int32) (x2 : Int32) (x3 : Int32) (S : bT9), I n x1 x2 x3 S → bf_A X (bf_Zv X bW9 Q) 4 44 [some (.ref 0), some (.int x1), some (.int x2), some (.int x3)] [] (bW9 S) := by
    intro n
    induction n using Nat.strongRecOn with
    | _ n ih =>
      intro x1 x2 x3 S hi
      exact t_X9_laysNodes_44b C hR S x1 x2 x3 Q B34 _ hB34 (fun x1 x2 x3 S hb => by obtain ⟨n2, hn, hi2⟩ := hb; exact ih n2 hn x1 x2 x3 S hi2) (hI n x1 x2 x3 S hi)
  exact key n0 x1 x2 x3 S h0
def wp_X9_laysNodes_34b (S : bT9) (x1 : Int32) (Q : (bT9) → Prop) (B34 : Int32 → (bT9) → Prop) : Prop := (((8 : Int32) ≤ x1 → (vp_in (13 : Int32) 23 ∧ (wp_X9_upperBy S ((((b9g_now S) ((13 : Int32)).toNatClampNeg) - (1 : Int32))) (fun r14 => (∀ S16 : bT9, S16 = (b9s_upper S r14) → (∀ S17 : bT9, S17 = (b9s_upperNodes S16 (0 : Int32)) → (wp_X9_laysNodes_192 S17 Q))))))) ∧ (¬ (8 : Int32) ≤ x1 → (wp_X9_laysNodes_44 S (x1) ((0 : Int32)) ((0 : Int32)) Q B34)))
set_option maxRecDepth 20000 in
theorem t_X9_laysNodes_34b {X : bf_X} (C : bf_C X RX9 cX9_laysNodes 4 none) (hR : bf_Rm X 7 159) (S : bT9) (x1 : Int32) (Q : (bT9) → Prop) (B34 : Int32 → (bT9) → Prop) (hB34 : ∀ (x1 : Int32) (S : bT9), B34 x1 S → bf_A X (bf_Zv X bW9 Q) 4 34 [some (.ref 0), some (.int x1), none, none] [] (bW9 S)) (h : wp_X9_laysNodes_34b S x1 Q B34) : bf_A X (bf_Zv X bW9 Q) 4 34 [some (.ref 0), some (.int x1), none, none] [] (bW9 S) := by
  unfold wp_X9_laysNodes_34b at h
  refine bs_iload_n C (bf_dk dd_X9_laysNodes 20 rfl) rfl ?_
  refine bs_bipush C (bf_dk dd_X9_laysNodes 21 rfl) (8 : Int32) (by decide) ?_
  refine bs_icmp_ge C (bf_dk dd_X9_laysNodes 22 rfl) (tgt := 170) rfl (fun c => ?_) (fun c => ?_)
  · replace h := h.1 c
    refine bs_aload_n C (bf_dk dd_X9_laysNodes 98 rfl) rfl ?_
    refine bs_aload_n C (bf_dk dd_X9_laysNodes 99 rfl) rfl ?_
    refine bs_aload_n C (bf_dk dd_X9_laysNodes 100 rfl) rfl ?_
    refine bs_get C (bf_dk dd_X9_laysNodes 101 rfl) cl_9 in_9 1 (Nat.le_of_ble_eq_true rfl) rfl f_9_7 (ge_bW9_0 S) rfl ?_
    refine bs_bipush C (bf_dk dd_X9_laysNodes 102 rfl) (13 : Int32) (by decide) ?_
    obtain ⟨hi, h⟩ := h
    refine bs_iald C (bf_dk dd_X9_laysNodes 103 rfl) (ge_bW9_1 S) hi ?_
    refine bs_iconst C (bf_dk dd_X9_laysNodes 104 rfl) (1 : Int32) (by decide) ?_
    refine bs_isub C (bf_dk dd_X9_laysNodes 105 rfl) ?_
    refine bs_selfPV_i C hR (c_X9_upperBy _ _ _ _ _ S ((((b9g_now S) ((13 : Int32)).toNatClampNeg) - (1 : Int32))) _ h) my_X9_upperBy m_9_210 rfl cl_9 (ge_bW9_0 _) rfl (Nat.le_of_ble_eq_true rfl) (Nat.le_of_ble_eq_true rfl) (st := [.ref 0]) (Nat.le_of_ble_eq_true rfl) (bf_dk dd_X9_laysNodes 106 rfl) rfl (fun r14 h => ?_)
    refine bs_put C (bf_dk dd_X9_laysNodes 107 rfl) tyX9_ok nmX9 cl_9 in_9 18 (Nat.le_of_ble_eq_true rfl) rfl f_9_213 rfl (ge_bW9_0 S) (Nat.le_of_ble_eq_true rfl) rfl rfl (pu_bW9_0_18 S r14) ?_
    refine bs_nameS bW9 (fun S16 eS16 => ?_)
    replace h := h S16 eS16
    refine bs_aload_n C (bf_dk dd_X9_laysNodes 108 rfl) rfl ?_
    refine bs_iconst C (bf_dk dd_X9_laysNodes 109 rfl) (0 : Int32) (by decide) ?_
    refine bs_put C (bf_dk dd_X9_laysNodes 110 rfl) tyX9_ok nmX9 cl_9 in_9 19 (Nat.le_of_ble_eq_true rfl) rfl f_9_216 rfl (ge_bW9_0 S16) (Nat.le_of_ble_eq_true rfl) rfl rfl (pu_bW9_0_19 S16 (0 : Int32)) ?_
    refine bs_nameS bW9 (fun S17 eS17 => ?_)
    replace h := h S17 eS17
    exact bs_weak (bf_s1 (bf_sn (bf_sn (bf_sn bf_s0)))) (t_X9_laysNodes_192 C hR S17 Q h)
  · replace h := h.2 c
    refine bs_iconst C (bf_dk dd_X9_laysNodes 23 rfl) (0 : Int32) (by decide) ?_
    refine bs_istore_n C (bf_dk dd_X9_laysNodes 24 rfl) rfl (Nat.le_of_ble_eq_true rfl) (Nat.le_of_ble_eq_true rfl) (lv2 := [some (.ref 0), some (.int x1), some (.int (0 : Int32)), none]) rfl ?_
    refine bs_iconst C (bf_dk dd_X9_laysNodes 25 rfl) (0 : Int32) (by decide) ?_
    refine bs_istore_n C (bf_dk dd_X9_laysNodes 26 rfl) rfl (Nat.le_of_ble_eq_true rfl) (Nat.le_of_ble_eq_true rfl) (lv2 := [some (.ref 0), some (.int x1), some (.int (0 : Int32)), some (.int (0 : Int32))]) rfl ?_
    exact bs_weak (bf_s1 (bf_s1 (bf_s1 (bf_s1 bf_s0)))) (t_X9_laysNodes_44 C hR S (x1) ((0 : Int32)) ((0 : Int32)) Q B34 hB34 h)
def wp_X9_laysNodes_34 (S : bT9) (x1 : Int32) (Q : (bT9) → Prop) : Prop := ∃ I : Nat → Int32 → (bT9) → Prop, (∃ n : Nat, I n x1 S) ∧ ∀ (n : Nat) (x1 : Int32) (S : bT9), I n x1 S → wp_X9_laysNodes_34b S x1 Q (fun x1 S => ∃ n2 : Nat, n2 < n ∧ I n2 x1 S)
theorem t_X9_laysNodes_34 {X : bf_X} (C : bf_C X RX9 cX9_laysNodes 4 none) (hR : bf_Rm X 7 159) (S : bT9) (x1 : Int32) (Q : (bT9) → Prop) (h : wp_X9_laysNodes_34 S x1 Q) : bf_A X (bf_Zv X bW9 Q) 4 34 [some (.ref 0), some (.int x1), none, none] [] (bW9 S) := by
  obtain ⟨I, ⟨n0, h0⟩, hI⟩ := h
  have key : ∀ (n : Nat) (x1 : Int32) (S : bT9), I n x1 S → bf_A X (bf_Zv X bW9 Q) 4 34 [some (.ref 0), some (.int x1), none, none] [] (bW9 S) := by
    intro n
    induction n using Nat.strongRecOn with
    | _ n ih =>
      intro x1 S hi
      exact t_X9_laysNodes_34b C hR S x1 Q _ (fun x1 S hb => by obtain ⟨n2, hn, hi2⟩ := hb; exact ih n2 hn x1 S hi2) (hI n x1 S hi)
  exact key n0 x1 S h0
def wp_X9_laysNodes (S : bT9) (Q : (bT9) → Prop) : Prop := (wp_X9_laysBeginnings S (fun u19 => (((b9g_areNodesLaid u19) = 0 → (∀ S20 : bT9, S20 = (b9s_areNodesLaid u19 (1 : Int32)) → (∀ S21 : bT9, S21 = (b9s_laidFor S20 (-1 : Int32)) → (∀ S22 : bT9, S22 = (b9s_nodeMany S21 (0 : Int32)) → (∀ S23 : bT9, S23 = (b9s_levelMany S22 (0 : Int32)) → (wp_X9_laysNodes_34 S23 ((0 : Int32)) Q)))))) ∧ (¬ (b9g_areNodesLaid u19) = 0 → (Q u19)))))
set_option maxRecDepth 20000 in
theorem t_X9_laysNodes {X : bf_X} (C : bf_C X RX9 cX9_laysNodes 4 none) (hR : bf_Rm X 7 159) (S : bT9) (Q : (bT9) → Prop) (h : wp_X9_laysNodes S Q) : bf_A X (bf_Zv X bW9 Q) 4 0 [some (.ref 0), none, none, none] [] (bW9 S) := by
  unfold wp_X9_laysNodes at h
  refine bs_aload_n C (bf_dk dd_X9_laysNodes 0 rfl) rfl ?_
  refine bs_selfV_v C hR (c_X9_laysBeginnings _ _ _ _ _ S _ h) my_X9_laysBeginnings m_9_172 rfl cl_9 (ge_bW9_0 _) rfl (Nat.le_of_ble_eq_true rfl) (Nat.le_of_ble_eq_true rfl) (st := []) (Nat.le_of_ble_eq_true rfl) (bf_dk dd_X9_laysNodes 1 rfl) rfl (len := 21) (fun _ => rfl) (fun u19 h => ?_)
  refine bs_aload_n C (bf_dk dd_X9_laysNodes 2 rfl) rfl ?_
  refine bs_get C (bf_dk dd_X9_laysNodes 3 rfl) cl_9 in_9 20 (Nat.le_of_ble_eq_true rfl) rfl f_9_192 (ge_bW9_0 u19) rfl ?_
  refine bs_if_eq C (bf_dk dd_X9_laysNodes 4 rfl) (tgt := 12) rfl (fun c => ?_) (fun c => ?_)
  · replace h := h.1 c
    refine bs_aload_n C (bf_dk dd_X9_laysNodes 6 rfl) rfl ?_
    refine bs_iconst C (bf_dk dd_X9_laysNodes 7 rfl) (1 : Int32) (by decide) ?_
    refine bs_put C (bf_dk dd_X9_laysNodes 8 rfl) tyX9_ok nmX9 cl_9 in_9 20 (Nat.le_of_ble_eq_true rfl) rfl f_9_192 rfl (ge_bW9_0 u19) (Nat.le_of_ble_eq_true rfl) rfl rfl (pu_bW9_0_20 u19 (1 : Int32)) ?_
    refine bs_nameS bW9 (fun S20 eS20 => ?_)
    replace h := h S20 eS20
    refine bs_aload_n C (bf_dk dd_X9_laysNodes 9 rfl) rfl ?_
    refine bs_iconst C (bf_dk dd_X9_laysNodes 10 rfl) (-1 : Int32) (by decide) ?_
    refine bs_put C (bf_dk dd_X9_laysNodes 11 rfl) tyX9_ok nmX9 cl_9 in_9 39 (Nat.le_of_ble_eq_true rfl) rfl f_9_59 rfl (ge_bW9_0 S20) (Nat.le_of_ble_eq_true rfl) rfl rfl (pu_bW9_0_39 S20 (-1 : Int32)) ?_
    refine bs_nameS bW9 (fun S21 eS21 => ?_)
    replace h := h S21 eS21
    refine bs_aload_n C (bf_dk dd_X9_laysNodes 12 rfl) rfl ?_
    refine bs_iconst C (bf_dk dd_X9_laysNodes 13 rfl) (0 : Int32) (by decide) ?_
    refine bs_put C (bf_dk dd_X9_laysNodes 14 rfl) tyX9_ok nmX9 cl_9 in_9 16 (Nat.le_of_ble_eq_true rfl) rfl f_9_198 rfl (ge_bW9_0 S21) (Nat.le_of_ble_eq_true rfl) rfl rfl (pu_bW9_0_16 S21 (0 : Int32)) ?_
    refine bs_nameS bW9 (fun S22 eS22 => ?_)
    replace h := h S22 eS22
    refine bs_aload_n C (bf_dk dd_X9_laysNodes 15 rfl) rfl ?_
    refine bs_iconst C (bf_dk dd_X9_laysNodes 16 rfl) (0 : Int32) (by decide) ?_
    refine bs_put C (bf_dk dd_X9_laysNodes 17 rfl) tyX9_ok nmX9 cl_9 in_9 17 (Nat.le_of_ble_eq_true rfl) rfl f_9_201 rfl (ge_bW9_0 S22) (Nat.le_of_ble_eq_true rfl) rfl rfl (pu_bW9_0_17 S22 (0 : Int32)) ?_
    refine bs_nameS bW9 (fun S23 eS23 => ?_)
    replace h := h S23 eS23
    refine bs_iconst C (bf_dk dd_X9_laysNodes 18 rfl) (0 : Int32) (by decide) ?_
    refine bs_istore_n C (bf_dk dd_X9_laysNodes 19 rfl) rfl (Nat.le_of_ble_eq_true rfl) (Nat.le_of_ble_eq_true rfl) (lv2 := [some (.ref 0), some (.int (0 : Int32)), none, none]) rfl ?_
    exact bs_weak (bf_s1 (bf_s1 (bf_sn (bf_sn bf_s0)))) (t_X9_laysNodes_34 C hR S23 ((0 : Int32)) Q h)
  · replace h := h.2 c
    exact bs_vret (u := u19) C (bf_dk dd_X9_laysNodes 5 rfl) rfl h
theorem c_X9_laysNodes (l : Launch) (dC : Nat → ClassId) (dI : Nat → Nat → Nat) (ac : Nat → ClassId) (al : Nat → Nat) (S : bT9) (Q : (bT9) → Prop) (h : wp_X9_laysNodes S Q) : bf_M l yX9_laysNodes cX9_laysNodes 4 none 7 159 dC dI ac al [.ref 0] (bW9 S) (bf_Kv dC dI ac al bW9 Q) := by
  refine bf_start [some (.ref 0), none, none, none] (by decide) (Nat.le_of_ble_eq_true rfl) (bf_s1 (bf_en 3)) ?_
  intro X hl C hR e1 e2 e3 e4
  subst e1; subst e2; subst e3; subst e4
  exact t_X9_laysNodes C hR S Q h
def wp_X9_kidMany_41 (S : bT9) (x1 : Int32) (x2 : Int32) (x3 : Int32) (Q : Int32 → Prop) (B9 : Int32 → Int32 → Int32 → Prop) : Prop := (B9 (x1) (x2) ((x3 + (1 : Int32))))
set_option maxRecDepth 20000 in
theorem t_X9_kidMany_41 {X : bf_X} (C : bf_C X RX9 cX9_kidMany 4 (some .int)) (hR : bf_Rm X 3 69) (S : bT9) (x1 : Int32) (x2 : Int32) (x3 : Int32) (Q : Int32 → Prop) (B9 : Int32 → Int32 → Int32 → Prop) (hB9 : ∀ (x1 : Int32) (x2 : Int32) (x3 : Int32), B9 x1 x2 x3 → bf_A X (bf_Zi X bW9 (fun r u => u = S ∧ Q r)) 4 9 [some (.ref 0), some (.int x1), some (.int x2), some (.int x3)] [] (bW9 S)) (h : wp_X9_kidMany_41 S x1 x2 x3 Q B9) : bf_A X (bf_Zi X bW9 (fun r u => u = S ∧ Q r)) 4 41 [some (.ref 0), some (.int x1), some (.int x2), some (.int x3)] [] (bW9 S) := by
  unfold wp_X9_kidMany_41 at h
  refine bs_iinc C (bf_dk dd_X9_kidMany 27 rfl) (x3 + (1 : Int32)) rfl rfl (Nat.le_of_ble_eq_true rfl) (Nat.le_of_ble_eq_true rfl) (lv2 := [some (.ref 0), some (.int x1), some (.int x2), some (.int (x3 + (1 : Int32)))]) rfl ?_
  refine bs_goto C (bf_dk dd_X9_kidMany 28 rfl) (tgt := 9) rfl ?_
  exact bs_weak (bf_s1 (bf_s1 (bf_s1 (bf_s1 bf_s0)))) (hB9 (x1) (x2) ((x3 + (1 : Int32))) h)
def wp_X9_kidMany_9b (S : bT9) (x1 : Int32) (x2 : Int32) (x3 : Int32) (Q : Int32 → Prop) (B9 : Int32 → Int32 → Int32 → Prop) : Prop := (wp_X9_lastOf S (x1) (fun r1 => ((r1 < x3 → (Q x2)) ∧ (¬ r1 < x3 → (wp_X9_isBranch S (x1) (x3) (fun r3 => ((r3 = 0 → (wp_X9_kidMany_41 S (x1) (x2) (x3) Q B9)) ∧ (¬ r3 = 0 → (wp_X9_childAt S (x1) (x3) (fun r5 => ((r5 = (-1 : Int32) → (wp_X9_kidMany_41 S (x1) (x2) (x3) Q B9)) ∧ (¬ r5 = (-1 : Int32) → (wp_X9_kidMany_41 S (x1) ((x2 + (1 : Int32))) (x3) Q B9)))))))))))))
set_option maxRecDepth 20000 in
theorem t_X9_kidMany_9b {X : bf_X} (C : bf_C X RX9 cX9_kidMany 4 (some .int)) (hR : bf_Rm X 3 69) (S : bT9) (x1 : Int32) (x2 : Int32) (x3 : Int32) (Q : Int32 → Prop) (B9 : Int32 → Int32 → Int32 → Prop) (hB9 : ∀ (x1 : Int32) (x2 : Int32) (x3 : Int32), B9 x1 x2 x3 → bf_A X (bf_Zi X bW9 (fun r u => u = S ∧ Q r)) 4 9 [some (.ref 0), some (.int x1), some (.int x2), some (.int x3)] [] (bW9 S)) (h : wp_X9_kidMany_9b S x1 x2 x3 Q B9) : bf_A X (bf_Zi X bW9 (fun r u => u = S ∧ Q r)) 4 9 [some (.ref 0), some (.int x1), some (.int x2), some (.int x3)] [] (bW9 S) := by
  unfold wp_X9_kidMany_9b at h
  refine bs_iload_n C (bf_dk dd_X9_kidMany 7 rfl) rfl ?_
  refine bs_aload_n C (bf_dk dd_X9_kidMany 8 rfl) rfl ?_
  refine bs_iload_n C (bf_dk dd_X9_kidMany 9 rfl) rfl ?_
  refine bs_selfPV_i C hR (c_X9_lastOf _ _ _ _ _ S (x1) _ h) my_X9_lastOf m_9_222 rfl cl_9 (ge_bW9_0 _) rfl (Nat.le_of_ble_eq_true rfl) (Nat.le_of_ble_eq_true rfl) (st := [.int x3]) (Nat.le_of_ble_eq_true rfl) (bf_dk dd_X9_kidMany 10 rfl) rfl (fun r1 h => ?_)
  refine bs_icmp_gt C (bf_dk dd_X9_kidMany 11 rfl) (tgt := 47) rfl (fun c => ?_) (fun c => ?_)
  · replace h := h.1 c
    refine bs_iload_n C (bf_dk dd_X9_kidMany 29 rfl) rfl ?_
    exact bs_iret (u := S) C (bf_dk dd_X9_kidMany 30 rfl) rfl ⟨rfl, h⟩
  · replace h := h.2 c
    refine bs_aload_n C (bf_dk dd_X9_kidMany 12 rfl) rfl ?_
    refine bs_iload_n C (bf_dk dd_X9_kidMany 13 rfl) rfl ?_
    refine bs_iload_n C (bf_dk dd_X9_kidMany 14 rfl) rfl ?_
    refine bs_selfPV_i C hR (c_X9_isBranch _ _ _ _ _ S (x1) (x3) _ h) my_X9_isBranch m_9_225 rfl cl_9 (ge_bW9_0 _) rfl (Nat.le_of_ble_eq_true rfl) (Nat.le_of_ble_eq_true rfl) (st := []) (Nat.le_of_ble_eq_true rfl) (bf_dk dd_X9_kidMany 15 rfl) rfl (fun r3 h => ?_)
    refine bs_if_eq C (bf_dk dd_X9_kidMany 16 rfl) (tgt := 41) rfl (fun c => ?_) (fun c => ?_)
    · replace h := h.1 c
      exact bs_weak (bf_s1 (bf_s1 (bf_s1 (bf_s1 bf_s0)))) (t_X9_kidMany_41 C hR S (x1) (x2) (x3) Q B9 hB9 h)
    · replace h := h.2 c
      refine bs_aload_n C (bf_dk dd_X9_kidMany 17 rfl) rfl ?_
      refine bs_iload_n C (bf_dk dd_X9_kidMany 18 rfl) rfl ?_
      refine bs_iload_n C (bf_dk dd_X9_kidMany 19 rfl) rfl ?_
      refine bs_selfPV_i C hR (c_X9_childAt _ _ _ _ _ S (x1) (x3) _ h) my_X9_childAt m_9_228 rfl cl_9 (ge_bW9_0 _) rfl (Nat.le_of_ble_eq_true rfl) (Nat.le_of_ble_eq_true rfl) (st := []) (Nat.le_of_ble_eq_true rfl) (bf_dk dd_X9_kidMany 20 rfl) rfl (fun r5 h => ?_)
      refine bs_iconst C (bf_dk dd_X9_kidMany 21 rfl) (-1 : Int32) (by decide) ?_
      refine bs_icmp_eq C (bf_dk dd_X9_kidMany 22 rfl) (tgt := 41) rfl (fun c => ?_) (fun c => ?_)
      · replace h := h.1 c
        exact bs_weak (bf_s1 (bf_s1 (bf_s1 (bf_s1 bf_s0)))) (t_X9_kidMany_41 C hR S (x1) (x2) (x3) Q B9 hB9 h)
      · replace h := h.2 c
        refine bs_iload_n C (bf_dk dd_X9_kidMany 23 rfl) rfl ?_
        refine bs_iconst C (bf_dk dd_X9_kidMany 24 rfl) (1 : Int32) (by decide) ?_
        refine bs_iadd C (bf_dk dd_X9_kidMany 25 rfl) ?_
        refine bs_istore_n C (bf_dk dd_X9_kidMany 26 rfl) rfl (Nat.le_of_ble_eq_true rfl) (Nat.le_of_ble_eq_true rfl) (lv2 := [some (.ref 0), some (.int x1), some (.int (x2 + (1 : Int32))), some (.int x3)]) rfl ?_
        exact bs_weak (bf_s1 (bf_s1 (bf_s1 (bf_s1 bf_s0)))) (t_X9_kidMany_41 C hR S (x1) ((x2 + (1 : Int32))) (x3) Q B9 hB9 h)
def wp_X9_kidMany_9 (S : bT9) (x1 : Int32) (x2 : Int32) (x3 : Int32) (Q : Int32 → Prop) : Prop := ∃ I : Nat → Int32 → Int32 → Int32 → Prop, (∃ n : Nat, I n x1 x2 x3) ∧ ∀ (n : Nat) (x1 : Int32) (x2 : Int32) (x3 : Int32), I n x1 x2 x3 → wp_X9_kidMany_9b S x1 x2 x3 Q (fun x1 x2 x3 => ∃ n2 : Nat, n2 < n ∧ I n2 x1 x2 x3)
theorem t_X9_kidMany_9 {X : bf_X} (C : bf_C X RX9 cX9_kidMany 4 (some .int)) (hR : bf_Rm X 3 69) (S : bT9) (x1 : Int32) (x2 : Int32) (x3 : Int32) (Q : Int32 → Prop) (h : wp_X9_kidMany_9 S x1 x2 x3 Q) : bf_A X (bf_Zi X bW9 (fun r u => u = S ∧ Q r)) 4 9 [some (.ref 0), some (.int x1), some (.int x2), some (.int x3)] [] (bW9 S) := by
  obtain ⟨I, ⟨n0, h0⟩, hI⟩ := h
  have key : ∀ (n : Nat) (x1 : Int32) (x2 : Int32) (x3 : Int32), I n x1 x2 x3 → bf_A X (bf_Zi X bW9 (fun r u => u = S ∧ Q r)) 4 9 [some (.ref 0), some (.int x1), some (.int x2), some (.int x3)] [] (bW9 S) := by
    intro n
    induction n using Nat.strongRecOn with
    | _ n ih =>
      intro x1 x2 x3 hi
      exact t_X9_kidMany_9b C hR S x1 x2 x3 Q _ (fun x1 x2 x3 hb => by obtain ⟨n2, hn, hi2⟩ := hb; exact ih n2 hn x1 x2 x3 hi2) (hI n x1 x2 x3 hi)
  exact key n0 x1 x2 x3 h0
def wp_X9_kidMany (S : bT9) (a1 : Int32) (Q : Int32 → Prop) : Prop := (vp_in a1 512 ∧ (wp_X9_kidMany_9 S (a1) ((0 : Int32)) (((b9g_nodeLeaf S) (a1).toNatClampNeg)) Q))
set_option maxRecDepth 20000 in
theorem t_X9_kidMany {X : bf_X} (C : bf_C X RX9 cX9_kidMany 4 (some .int)) (hR : bf_Rm X 3 69) (S : bT9) (a1 : Int32) (Q : Int32 → Prop) (h : wp_X9_kidMany S a1 Q) : bf_A X (bf_Zi X bW9 (fun r u => u = S ∧ Q r)) 4 0 [some (.ref 0), some (.int a1), none, none] [] (bW9 S) := by
  unfold wp_X9_kidMany at h
  refine bs_iconst C (bf_dk dd_X9_kidMany 0 rfl) (0 : Int32) (by decide) ?_
  refine bs_istore_n C (bf_dk dd_X9_kidMany 1 rfl) rfl (Nat.le_of_ble_eq_true rfl) (Nat.le_of_ble_eq_true rfl) (lv2 := [some (.ref 0), some (.int a1), some (.int (0 : Int32)), none]) rfl ?_
  refine bs_aload_n C (bf_dk dd_X9_kidMany 2 rfl) rfl ?_
  refine bs_get C (bf_dk dd_X9_kidMany 3 rfl) cl_9 in_9 14 (Nat.le_of_ble_eq_true rfl) rfl f_9_35 (ge_bW9_0 S) rfl ?_
  refine bs_iload_n C (bf_dk dd_X9_kidMany 4 rfl) rfl ?_
  obtain ⟨hi, h⟩ := h
  refine bs_iald C (bf_dk dd_X9_kidMany 5 rfl) (ge_bW9_9 S) hi ?_
  refine bs_istore_n C (bf_dk dd_X9_kidMany 6 rfl) rfl (Nat.le_of_ble_eq_true rfl) (Nat.le_of_ble_eq_true rfl) (lv2 := [some (.ref 0), some (.int a1), some (.int (0 : Int32)), some (.int ((b9g_nodeLeaf S) (a1).toNatClampNeg))]) rfl ?_
  exact bs_weak (bf_s1 (bf_s1 (bf_s1 (bf_s1 bf_s0)))) (t_X9_kidMany_9 C hR S (a1) ((0 : Int32)) (((b9g_nodeLeaf S) (a1).toNatClampNeg)) Q h)
theorem c_X9_kidMany (l : Launch) (dC : Nat → ClassId) (dI : Nat → Nat → Nat) (ac : Nat → ClassId) (al : Nat → Nat) (S : bT9) (a1 : Int32) (Q : Int32 → Prop) (h : wp_X9_kidMany S a1 Q) : bf_M l yX9_kidMany cX9_kidMany 4 (some .int) 3 69 dC dI ac al [.ref 0, .int a1] (bW9 S) (bf_Ki dC dI ac al bW9 (fun r u => u = S ∧ Q r)) := by
  refine bf_start [some (.ref 0), some (.int a1), none, none] (by decide) (Nat.le_of_ble_eq_true rfl) (bf_s1 (bf_s1 (bf_en 2))) ?_
  intro X hl C hR e1 e2 e3 e4
  subst e1; subst e2; subst e3; subst e4
  exact t_X9_kidMany C hR S a1 Q h
def wp_X9_nodes (S : bT9) (Q : Int32 → (bT9) → Prop) : Prop := (wp_X9_laysNodes S (fun u2 => (Q (b9g_nodeMany u2) u2)))
set_option maxRecDepth 20000 in
theorem t_X9_nodes {X : bf_X} (C : bf_C X RX9 cX9_nodes 1 (some .int)) (hR : bf_Rm X 8 182) (S : bT9) (Q : Int32 → (bT9) → Prop) (h : wp_X9_nodes S Q) : bf_A X (bf_Zi X bW9 Q) 1 0 [some (.ref 0)] [] (bW9 S) := by
  unfold wp_X9_nodes at h
  refine bs_aload_n C (bf_dk dd_X9_nodes 0 rfl) rfl ?_
  refine bs_selfV_v C hR (c_X9_laysNodes _ _ _ _ _ S _ h) my_X9_laysNodes m_9_262 rfl cl_9 (ge_bW9_0 _) rfl (Nat.le_of_ble_eq_true rfl) (Nat.le_of_ble_eq_true rfl) (st := []) (Nat.le_of_ble_eq_true rfl) (bf_dk dd_X9_nodes 1 rfl) rfl (len := 21) (fun _ => rfl) (fun u2 h => ?_)
  refine bs_aload_n C (bf_dk dd_X9_nodes 2 rfl) rfl ?_
  refine bs_get C (bf_dk dd_X9_nodes 3 rfl) cl_9 in_9 16 (Nat.le_of_ble_eq_true rfl) rfl f_9_198 (ge_bW9_0 u2) rfl ?_
  exact bs_iret (u := u2) C (bf_dk dd_X9_nodes 4 rfl) rfl h
theorem c_X9_nodes (l : Launch) (dC : Nat → ClassId) (dI : Nat → Nat → Nat) (ac : Nat → ClassId) (al : Nat → Nat) (S : bT9) (Q : Int32 → (bT9) → Prop) (h : wp_X9_nodes S Q) : bf_M l yX9_nodes cX9_nodes 1 (some .int) 8 182 dC dI ac al [.ref 0] (bW9 S) (bf_Ki dC dI ac al bW9 Q) := by
  refine bf_start [some (.ref 0)] (by decide) (Nat.le_of_ble_eq_true rfl) (bf_s1 bf_s0) ?_
  intro X hl C hR e1 e2 e3 e4
  subst e1; subst e2; subst e3; subst e4
  exact t_X9_nodes C hR S Q h
def wp_X9_isNode (S : bT9) (a1 : Int32) (Q : Int32 → (bT9) → Prop) : Prop := (wp_X9_nodes S (fun r1 u2 => (wp_X9_isIn u2 (a1) ((0 : Int32)) ((r1 - (1 : Int32))) (fun r3 => (bf_bool r3 ∧ Q r3 u2)))))
set_option maxRecDepth 20000 in
theorem t_X9_isNode {X : bf_X} (C : bf_C X RX9 cX9_isNode 2 (some .boolean)) (hR : bf_Rm X 9 202) (S : bT9) (a1 : Int32) (Q : Int32 → (bT9) → Prop) (h : wp_X9_isNode S a1 Q) : bf_A X (bf_Zi X bW9 Q) 2 0 [some (.ref 0), some (.int a1)] [] (bW9 S) := by
  unfold wp_X9_isNode at h
  refine bs_aload_n C (bf_dk dd_X9_isNode 0 rfl) rfl ?_
  refine bs_iload_n C (bf_dk dd_X9_isNode 1 rfl) rfl ?_
  refine bs_iconst C (bf_dk dd_X9_isNode 2 rfl) (0 : Int32) (by decide) ?_
  refine bs_aload_n C (bf_dk dd_X9_isNode 3 rfl) rfl ?_
  refine bs_selfV_i C hR (c_X9_nodes _ _ _ _ _ S _ h) my_X9_nodes m_9_265 rfl cl_9 (ge_bW9_0 _) rfl (Nat.le_of_ble_eq_true rfl) (Nat.le_of_ble_eq_true rfl) (st := [.int (0 : Int32), .int a1, .ref 0]) (Nat.le_of_ble_eq_true rfl) (bf_dk dd_X9_isNode 4 rfl) rfl (len := 21) (fun _ => rfl) (fun r1 u2 h => ?_)
  refine bs_iconst C (bf_dk dd_X9_isNode 5 rfl) (1 : Int32) (by decide) ?_
  refine bs_isub C (bf_dk dd_X9_isNode 6 rfl) ?_
  refine bs_selfPV_i C hR (c_X9_isIn _ _ _ _ _ u2 (a1) ((0 : Int32)) ((r1 - (1 : Int32))) _ h) my_X9_isIn m_9_82 rfl cl_9 (ge_bW9_0 _) rfl (Nat.le_of_ble_eq_true rfl) (Nat.le_of_ble_eq_true rfl) (st := []) (Nat.le_of_ble_eq_true rfl) (bf_dk dd_X9_isNode 7 rfl) rfl (fun r3 h => ?_)
  obtain ⟨hi, h⟩ := h
  exact bs_zret (u := u2) C (bf_dk dd_X9_isNode 8 rfl) hi rfl h
theorem c_X9_isNode (l : Launch) (dC : Nat → ClassId) (dI : Nat → Nat → Nat) (ac : Nat → ClassId) (al : Nat → Nat) (S : bT9) (a1 : Int32) (Q : Int32 → (bT9) → Prop) (h : wp_X9_isNode S a1 Q) : bf_M l yX9_isNode cX9_isNode 2 (some .boolean) 9 202 dC dI ac al [.ref 0, .int a1] (bW9 S) (bf_Ki dC dI ac al bW9 Q) := by
  refine bf_start [some (.ref 0), some (.int a1)] (by decide) (Nat.le_of_ble_eq_true rfl) (bf_s1 (bf_s1 bf_s0)) ?_
  intro X hl C hR e1 e2 e3 e4
  subst e1; subst e2; subst e3; subst e4
  exact t_X9_isNode C hR S a1 Q h
def wp_X9_isLeaf (S : bT9) (a1 : Int32) (Q : Int32 → (bT9) → Prop) : Prop := (wp_X9_leaves S (fun r1 u2 => (wp_X9_isIn u2 (a1) ((0 : Int32)) ((r1 - (1 : Int32))) (fun r3 => (bf_bool r3 ∧ Q r3 u2)))))
set_option maxRecDepth 20000 in
theorem t_X9_isLeaf {X : bf_X} (C : bf_C X RX9 cX9_isLeaf 2 (some .boolean)) (hR : bf_Rm X 4 89) (S : bT9) (a1 : Int32) (Q : Int32 → (bT9) → Prop) (h : wp_X9_isLeaf S a1 Q) : bf_A X (bf_Zi X bW9 Q) 2 0 [some (.ref 0), some (.int a1)] [] (bW9 S) := by
  unfold wp_X9_isLeaf at h
  refine bs_aload_n C (bf_dk dd_X9_isLeaf 0 rfl) rfl ?_
  refine bs_iload_n C (bf_dk dd_X9_isLeaf 1 rfl) rfl ?_
  refine bs_iconst C (bf_dk dd_X9_isLeaf 2 rfl) (0 : Int32) (by decide) ?_
  refine bs_aload_n C (bf_dk dd_X9_isLeaf 3 rfl) rfl ?_
  refine bs_selfV_i C hR (c_X9_leaves _ _ _ _ _ S _ h) my_X9_leaves m_9_268 rfl cl_9 (ge_bW9_0 _) rfl (Nat.le_of_ble_eq_true rfl) (Nat.le_of_ble_eq_true rfl) (st := [.int (0 : Int32), .int a1, .ref 0]) (Nat.le_of_ble_eq_true rfl) (bf_dk dd_X9_isLeaf 4 rfl) rfl (len := 21) (fun _ => rfl) (fun r1 u2 h => ?_)
  refine bs_iconst C (bf_dk dd_X9_isLeaf 5 rfl) (1 : Int32) (by decide) ?_
  refine bs_isub C (bf_dk dd_X9_isLeaf 6 rfl) ?_
  refine bs_selfPV_i C hR (c_X9_isIn _ _ _ _ _ u2 (a1) ((0 : Int32)) ((r1 - (1 : Int32))) _ h) my_X9_isIn m_9_82 rfl cl_9 (ge_bW9_0 _) rfl (Nat.le_of_ble_eq_true rfl) (Nat.le_of_ble_eq_true rfl) (st := []) (Nat.le_of_ble_eq_true rfl) (bf_dk dd_X9_isLeaf 7 rfl) rfl (fun r3 h => ?_)
  obtain ⟨hi, h⟩ := h
  exact bs_zret (u := u2) C (bf_dk dd_X9_isLeaf 8 rfl) hi rfl h
theorem c_X9_isLeaf (l : Launch) (dC : Nat → ClassId) (dI : Nat → Nat → Nat) (ac : Nat → ClassId) (al : Nat → Nat) (S : bT9) (a1 : Int32) (Q : Int32 → (bT9) → Prop) (h : wp_X9_isLeaf S a1 Q) : bf_M l yX9_isLeaf cX9_isLeaf 2 (some .boolean) 4 89 dC dI ac al [.ref 0, .int a1] (bW9 S) (bf_Ki dC dI ac al bW9 Q) := by
  refine bf_start [some (.ref 0), some (.int a1)] (by decide) (Nat.le_of_ble_eq_true rfl) (bf_s1 (bf_s1 bf_s0)) ?_
  intro X hl C hR e1 e2 e3 e4
  subst e1; subst e2; subst e3; subst e4
  exact t_X9_isLeaf C hR S a1 Q h
def wp_X9_nextOf (S : bT9) (a1 : Int64) (a3 : Int32) (a4 : Int32) (Q : Int32 → Prop) : Prop := ((¬ a3 = (8 : Int32) → (wp_X9_byteOf S (a1) (a3) (fun r1 => (Q (r1 >>> (((8 : Int32) - a4) &&& 31)))))) ∧ (a3 = (8 : Int32) → (Q (0 : Int32))))
set_option maxRecDepth 20000 in
theorem t_X9_nextOf {X : bf_X} (C : bf_C X RX9 cX9_nextOf 5 (some .int)) (hR : bf_Rm X 1 23) (S : bT9) (a1 : Int64) (a3 : Int32) (a4 : Int32) (Q : Int32 → Prop) (h : wp_X9_nextOf S a1 a3 a4 Q) : bf_A X (bf_Zi X bW9 (fun r u => u = S ∧ Q r)) 5 0 [some (.ref 0), some (.long a1), none, some (.int a3), some (.int a4)] [] (bW9 S) := by
  unfold wp_X9_nextOf at h
  refine bs_iload_n C (bf_dk dd_X9_nextOf 0 rfl) rfl ?_
  refine bs_bipush C (bf_dk dd_X9_nextOf 1 rfl) (8 : Int32) (by decide) ?_
  refine bs_icmp_ne C (bf_dk dd_X9_nextOf 2 rfl) (tgt := 10) rfl (fun c => ?_) (fun c => ?_)
  · replace h := h.1 c
    refine bs_aload_n C (bf_dk dd_X9_nextOf 5 rfl) rfl ?_
    refine bs_lload_n C (bf_dk dd_X9_nextOf 6 rfl) rfl ?_
    refine bs_iload_n C (bf_dk dd_X9_nextOf 7 rfl) rfl ?_
    refine bs_selfPV_i C hR (c_X9_byteOf _ _ _ _ _ S (a1) (a3) _ h) my_X9_byteOf m_9_181 rfl cl_9 (ge_bW9_0 _) rfl (Nat.le_of_ble_eq_true rfl) (Nat.le_of_ble_eq_true rfl) (st := []) (Nat.le_of_ble_eq_true rfl) (bf_dk dd_X9_nextOf 8 rfl) rfl (fun r1 h => ?_)
    refine bs_bipush C (bf_dk dd_X9_nextOf 9 rfl) (8 : Int32) (by decide) ?_
    refine bs_iload C (bf_dk dd_X9_nextOf 10 rfl) rfl ?_
    refine bs_isub C (bf_dk dd_X9_nextOf 11 rfl) ?_
    refine bs_ishr C (bf_dk dd_X9_nextOf 12 rfl) ?_
    exact bs_iret (u := S) C (bf_dk dd_X9_nextOf 13 rfl) rfl ⟨rfl, h⟩
  · replace h := h.2 c
    refine bs_iconst C (bf_dk dd_X9_nextOf 3 rfl) (0 : Int32) (by decide) ?_
    refine bs_goto C (bf_dk dd_X9_nextOf 4 rfl) (tgt := 22) rfl ?_
    exact bs_iret (u := S) C (bf_dk dd_X9_nextOf 13 rfl) rfl ⟨rfl, h⟩
theorem c_X9_nextOf (l : Launch) (dC : Nat → ClassId) (dI : Nat → Nat → Nat) (ac : Nat → ClassId) (al : Nat → Nat) (S : bT9) (a1 : Int64) (a3 : Int32) (a4 : Int32) (Q : Int32 → Prop) (h : wp_X9_nextOf S a1 a3 a4 Q) : bf_M l yX9_nextOf cX9_nextOf 5 (some .int) 1 23 dC dI ac al [.ref 0, .long a1, .int a3, .int a4] (bW9 S) (bf_Ki dC dI ac al bW9 (fun r u => u = S ∧ Q r)) := by
  refine bf_start [some (.ref 0), some (.long a1), none, some (.int a3), some (.int a4)] (by decide) (Nat.le_of_ble_eq_true rfl) (bf_s1 (bf_s1 (bf_sn (bf_s1 (bf_s1 bf_s0))))) ?_
  intro X hl C hR e1 e2 e3 e4
  subst e1; subst e2; subst e3; subst e4
  exact t_X9_nextOf C hR S a1 a3 a4 Q h
def wp_X9_bounds_117 (S : bT9) (x2 : Int32) (x3 : Int32) (x4 : Int32) (t1 : Int64) (t2 : Int64) (Q : (bT9) → Prop) : Prop := (∀ S1 : bT9, S1 = (b9s_highKey S (t1 ||| t2)) → (∀ S2 : bT9, S2 = (b9s_highLength S1 (8 : Int32)) → ((¬ x4 = 0 → (∀ v3 : Int64, v3 = ((b9g_lowKey S2) ||| (((x4 <<< (((8 : Int32) - x2) &&& 31))).toInt64 <<< ((((56 : Int32) - ((8 : Int32) * x3))).toInt64 &&& 63))) → (∀ S4 : bT9, S4 = (b9s_lowKey S2 v3) → (∀ S5 : bT9, S5 = (b9s_lowLength S4 (x3 + (1 : Int32))) → (Q S5))))) ∧ (x4 = 0 → (Q S2)))))
set_option maxRecDepth 20000 in
theorem t_X9_bounds_117 {X : bf_X} (C : bf_C X RX9 cX9_bounds 6 none) (hR : bf_Rm X 2 47) (S : bT9) (x2 : Int32) (x3 : Int32) (x4 : Int32) (t1 : Int64) (t2 : Int64) (Q : (bT9) → Prop) (h : wp_X9_bounds_117 S x2 x3 x4 t1 t2 Q) : bf_A X (bf_Zv X bW9 Q) 6 117 [some (.ref 0), none, some (.int x2), some (.int x3), some (.int x4), none] [.long t2, .long t1, .ref 0] (bW9 S) := by
  unfold wp_X9_bounds_117 at h
  refine bs_lor C (bf_dk dd_X9_bounds 73 rfl) ?_
  refine bs_put C (bf_dk dd_X9_bounds 74 rfl) tyX9_ok nmX9 cl_9 in_9 29 (Nat.le_of_ble_eq_true rfl) rfl f_9_277 rfl (ge_bW9_0 S) (Nat.le_of_ble_eq_true rfl) rfl rfl (pu_bW9_0_29 S (t1 ||| t2)) ?_
  refine bs_nameS bW9 (fun S1 eS1 => ?_)
  replace h := h S1 eS1
  refine bs_aload_n C (bf_dk dd_X9_bounds 75 rfl) rfl ?_
  refine bs_bipush C (bf_dk dd_X9_bounds 76 rfl) (8 : Int32) (by decide) ?_
  refine bs_put C (bf_dk dd_X9_bounds 77 rfl) tyX9_ok nmX9 cl_9 in_9 31 (Nat.le_of_ble_eq_true rfl) rfl f_9_280 rfl (ge_bW9_0 S1) (Nat.le_of_ble_eq_true rfl) rfl rfl (pu_bW9_0_31 S1 (8 : Int32)) ?_
  refine bs_nameS bW9 (fun S2 eS2 => ?_)
  replace h := h S2 eS2
  refine bs_iload C (bf_dk dd_X9_bounds 78 rfl) rfl ?_
  refine bs_if_ne C (bf_dk dd_X9_bounds 79 rfl) (tgt := 133) rfl (fun c => ?_) (fun c => ?_)
  · replace h := h.1 c
    refine bs_aload_n C (bf_dk dd_X9_bounds 81 rfl) rfl ?_
    refine bs_aload_n C (bf_dk dd_X9_bounds 82 rfl) rfl ?_
    refine bs_get C (bf_dk dd_X9_bounds 83 rfl) cl_9 in_9 28 (Nat.le_of_ble_eq_true rfl) rfl f_9_271 (ge_bW9_0 S2) rfl ?_
    refine bs_iload C (bf_dk dd_X9_bounds 84 rfl) rfl ?_
    refine bs_bipush C (bf_dk dd_X9_bounds 85 rfl) (8 : Int32) (by decide) ?_
    refine bs_iload_n C (bf_dk dd_X9_bounds 86 rfl) rfl ?_
    refine bs_isub C (bf_dk dd_X9_bounds 87 rfl) ?_
    refine bs_ishl C (bf_dk dd_X9_bounds 88 rfl) ?_
    refine bs_i2l C (bf_dk dd_X9_bounds 89 rfl) ?_
    refine bs_bipush C (bf_dk dd_X9_bounds 90 rfl) (56 : Int32) (by decide) ?_
    refine bs_bipush C (bf_dk dd_X9_bounds 91 rfl) (8 : Int32) (by decide) ?_
    refine bs_iload_n C (bf_dk dd_X9_bounds 92 rfl) rfl ?_
    refine bs_imul C (bf_dk dd_X9_bounds 93 rfl) ?_
    refine bs_isub C (bf_dk dd_X9_bounds 94 rfl) ?_
    refine bs_lshl C (bf_dk dd_X9_bounds 95 rfl) ?_
    refine bs_lor C (bf_dk dd_X9_bounds 96 rfl) ?_
    refine bs_nameL (fun v3 ev3 => ?_)
    replace h := h v3 ev3
    refine bs_put C (bf_dk dd_X9_bounds 97 rfl) tyX9_ok nmX9 cl_9 in_9 28 (Nat.le_of_ble_eq_true rfl) rfl f_9_271 rfl (ge_bW9_0 S2) (Nat.le_of_ble_eq_true rfl) rfl rfl (pu_bW9_0_28 S2 v3) ?_
    refine bs_nameS bW9 (fun S4 eS4 => ?_)
    replace h := h S4 eS4
    refine bs_aload_n C (bf_dk dd_X9_bounds 98 rfl) rfl ?_
    refine bs_iload_n C (bf_dk dd_X9_bounds 99 rfl) rfl ?_
    refine bs_iconst C (bf_dk dd_X9_bounds 100 rfl) (1 : Int32) (by decide) ?_
    refine bs_iadd C (bf_dk dd_X9_bounds 101 rfl) ?_
    refine bs_put C (bf_dk dd_X9_bounds 102 rfl) tyX9_ok nmX9 cl_9 in_9 30 (Nat.le_of_ble_eq_true rfl) rfl f_9_274 rfl (ge_bW9_0 S4) (Nat.le_of_ble_eq_true rfl) rfl rfl (pu_bW9_0_30 S4 (x3 + (1 : Int32))) ?_
    refine bs_nameS bW9 (fun S5 eS5 => ?_)
    replace h := h S5 eS5
    exact bs_vret (u := S5) C (bf_dk dd_X9_bounds 103 rfl) rfl h
  · replace h := h.2 c
    exact bs_vret (u := S2) C (bf_dk dd_X9_bounds 80 rfl) rfl h
def wp_X9_bounds (S : bT9) (a1 : Int32) (a2 : Int32) (Q : (bT9) → Prop) : Prop := (vp_in a1 64 ∧ (wp_X9_key S (a1) (fun r6 => (wp_X9_cut S (r6) (((b9g_beginning S) (a1).toNatClampNeg)) (fun r8 => (∀ S10 : bT9, S10 = (b9s_lowKey S r8) → (∀ S11 : bT9, S11 = (b9s_lowLength S10 ((b9g_beginning S) (a1).toNatClampNeg)) → (∀ S12 : bT9, S12 = (b9s_highKey S11 (b9g_lowKey S11)) → (∀ S13 : bT9, S13 = (b9s_highLength S12 ((b9g_beginning S) (a1).toNatClampNeg)) → (wp_X9_isEnded S13 (a1) (fun r14 => ((¬ r14 = 0 → (Q S13)) ∧ (r14 = 0 → ((¬ ((b9g_beginning S) (a1).toNatClampNeg) = (8 : Int32) → (wp_X9_key S13 (a1) (fun r16 => (wp_X9_nextOf S13 (r16) (((b9g_beginning S) (a1).toNatClampNeg)) (a2) (fun r18 => (∀ v20 : Int32, v20 = (((r18 + (1 : Int32)) <<< (((8 : Int32) - a2) &&& 31)) - (1 : Int32)) → ((¬ ((b9g_beginning S) (a1).toNatClampNeg) = (7 : Int32) → (wp_X9_bounds_117 S13 (a2) (((b9g_beginning S) (a1).toNatClampNeg)) (r18) (((b9g_lowKey S13) ||| ((v20).toInt64 <<< ((((56 : Int32) - ((8 : Int32) * ((b9g_beginning S) (a1).toNatClampNeg)))).toInt64 &&& 63)))) (((((-1 : Int64)).toUInt64 >>> ((((8 : Int32) * (((b9g_beginning S) (a1).toNatClampNeg) + (1 : Int32)))).toInt64.toUInt64 &&& Int64.toUInt64 63)).toInt64)) Q)) ∧ (((b9g_beginning S) (a1).toNatClampNeg) = (7 : Int32) → (wp_X9_bounds_117 S13 (a2) (((b9g_beginning S) (a1).toNatClampNeg)) (r18) (((b9g_lowKey S13) ||| ((v20).toInt64 <<< ((((56 : Int32) - ((8 : Int32) * ((b9g_beginning S) (a1).toNatClampNeg)))).toInt64 &&& 63)))) ((0 : Int64)) Q))))))))) ∧ (((b9g_beginning S) (a1).toNatClampNeg) = (8 : Int32) → (Q S13))))))))))))))))
set_option maxRecDepth 20000 in
theorem t_X9_bounds {X : bf_X} (C : bf_C X RX9 cX9_bounds 6 none) (hR : bf_Rm X 2 47) (S : bT9) (a1 : Int32) (a2 : Int32) (Q : (bT9) → Prop) (h : wp_X9_bounds S a1 a2 Q) : bf_A X (bf_Zv X bW9 Q) 6 0 [some (.ref 0), some (.int a1), some (.int a2), none, none, none] [] (bW9 S) := by
  unfold wp_X9_bounds at h
  refine bs_aload_n C (bf_dk dd_X9_bounds 0 rfl) rfl ?_
  refine bs_get C (bf_dk dd_X9_bounds 1 rfl) cl_9 in_9 11 (Nat.le_of_ble_eq_true rfl) rfl f_9_29 (ge_bW9_0 S) rfl ?_
  refine bs_iload_n C (bf_dk dd_X9_bounds 2 rfl) rfl ?_
  obtain ⟨hi, h⟩ := h
  refine bs_iald C (bf_dk dd_X9_bounds 3 rfl) (ge_bW9_7 S) hi ?_
  refine bs_istore_n C (bf_dk dd_X9_bounds 4 rfl) rfl (Nat.le_of_ble_eq_true rfl) (Nat.le_of_ble_eq_true rfl) (lv2 := [some (.ref 0), some (.int a1), some (.int a2), some (.int ((b9g_beginning S) (a1).toNatClampNeg)), none, none]) rfl ?_
  refine bs_aload_n C (bf_dk dd_X9_bounds 5 rfl) rfl ?_
  refine bs_aload_n C (bf_dk dd_X9_bounds 6 rfl) rfl ?_
  refine bs_aload_n C (bf_dk dd_X9_bounds 7 rfl) rfl ?_
  refine bs_iload_n C (bf_dk dd_X9_bounds 8 rfl) rfl ?_
  refine bs_selfPV_l C hR (c_X9_key _ _ _ _ _ S (a1) _ h) my_X9_key m_9_178 rfl cl_9 (ge_bW9_0 _) rfl (Nat.le_of_ble_eq_true rfl) (Nat.le_of_ble_eq_true rfl) (st := [.ref 0, .ref 0]) (Nat.le_of_ble_eq_true rfl) (bf_dk dd_X9_bounds 9 rfl) rfl (fun r6 h => ?_)
  refine bs_iload_n C (bf_dk dd_X9_bounds 10 rfl) rfl ?_
  refine bs_selfPV_l C hR (c_X9_cut _ _ _ _ _ S (r6) (((b9g_beginning S) (a1).toNatClampNeg)) _ h) my_X9_cut m_9_98 rfl cl_9 (ge_bW9_0 _) rfl (Nat.le_of_ble_eq_true rfl) (Nat.le_of_ble_eq_true rfl) (st := [.ref 0]) (Nat.le_of_ble_eq_true rfl) (bf_dk dd_X9_bounds 11 rfl) rfl (fun r8 h => ?_)
  refine bs_put C (bf_dk dd_X9_bounds 12 rfl) tyX9_ok nmX9 cl_9 in_9 28 (Nat.le_of_ble_eq_true rfl) rfl f_9_271 rfl (ge_bW9_0 S) (Nat.le_of_ble_eq_true rfl) rfl rfl (pu_bW9_0_28 S r8) ?_
  refine bs_nameS bW9 (fun S10 eS10 => ?_)
  replace h := h S10 eS10
  refine bs_aload_n C (bf_dk dd_X9_bounds 13 rfl) rfl ?_
  refine bs_iload_n C (bf_dk dd_X9_bounds 14 rfl) rfl ?_
  refine bs_put C (bf_dk dd_X9_bounds 15 rfl) tyX9_ok nmX9 cl_9 in_9 30 (Nat.le_of_ble_eq_true rfl) rfl f_9_274 rfl (ge_bW9_0 S10) (Nat.le_of_ble_eq_true rfl) rfl rfl (pu_bW9_0_30 S10 ((b9g_beginning S) (a1).toNatClampNeg)) ?_
  refine bs_nameS bW9 (fun S11 eS11 => ?_)
  replace h := h S11 eS11
  refine bs_aload_n C (bf_dk dd_X9_bounds 16 rfl) rfl ?_
  refine bs_aload_n C (bf_dk dd_X9_bounds 17 rfl) rfl ?_
  refine bs_get C (bf_dk dd_X9_bounds 18 rfl) cl_9 in_9 28 (Nat.le_of_ble_eq_true rfl) rfl f_9_271 (ge_bW9_0 S11) rfl ?_
  refine bs_put C (bf_dk dd_X9_bounds 19 rfl) tyX9_ok nmX9 cl_9 in_9 29 (Nat.le_of_ble_eq_true rfl) rfl f_9_277 rfl (ge_bW9_0 S11) (Nat.le_of_ble_eq_true rfl) rfl rfl (pu_bW9_0_29 S11 (b9g_lowKey S11)) ?_
  refine bs_nameS bW9 (fun S12 eS12 => ?_)
  replace h := h S12 eS12
  refine bs_aload_n C (bf_dk dd_X9_bounds 20 rfl) rfl ?_
  refine bs_iload_n C (bf_dk dd_X9_bounds 21 rfl) rfl ?_
  refine bs_put C (bf_dk dd_X9_bounds 22 rfl) tyX9_ok nmX9 cl_9 in_9 31 (Nat.le_of_ble_eq_true rfl) rfl f_9_280 rfl (ge_bW9_0 S12) (Nat.le_of_ble_eq_true rfl) rfl rfl (pu_bW9_0_31 S12 ((b9g_beginning S) (a1).toNatClampNeg)) ?_
  refine bs_nameS bW9 (fun S13 eS13 => ?_)
  replace h := h S13 eS13
  refine bs_aload_n C (bf_dk dd_X9_bounds 23 rfl) rfl ?_
  refine bs_iload_n C (bf_dk dd_X9_bounds 24 rfl) rfl ?_
  refine bs_selfPV_i C hR (c_X9_isEnded _ _ _ _ _ S13 (a1) _ h) my_X9_isEnded m_9_283 rfl cl_9 (ge_bW9_0 _) rfl (Nat.le_of_ble_eq_true rfl) (Nat.le_of_ble_eq_true rfl) (st := []) (Nat.le_of_ble_eq_true rfl) (bf_dk dd_X9_bounds 25 rfl) rfl (fun r14 h => ?_)
  refine bs_if_ne C (bf_dk dd_X9_bounds 26 rfl) (tgt := 53) rfl (fun c => ?_) (fun c => ?_)
  · replace h := h.1 c
    exact bs_vret (u := S13) C (bf_dk dd_X9_bounds 30 rfl) rfl h
  · replace h := h.2 c
    refine bs_iload_n C (bf_dk dd_X9_bounds 27 rfl) rfl ?_
    refine bs_bipush C (bf_dk dd_X9_bounds 28 rfl) (8 : Int32) (by decide) ?_
    refine bs_icmp_ne C (bf_dk dd_X9_bounds 29 rfl) (tgt := 54) rfl (fun c => ?_) (fun c => ?_)
    · replace h := h.1 c
      refine bs_aload_n C (bf_dk dd_X9_bounds 31 rfl) rfl ?_
      refine bs_aload_n C (bf_dk dd_X9_bounds 32 rfl) rfl ?_
      refine bs_iload_n C (bf_dk dd_X9_bounds 33 rfl) rfl ?_
      refine bs_selfPV_l C hR (c_X9_key _ _ _ _ _ S13 (a1) _ h) my_X9_key m_9_178 rfl cl_9 (ge_bW9_0 _) rfl (Nat.le_of_ble_eq_true rfl) (Nat.le_of_ble_eq_true rfl) (st := [.ref 0]) (Nat.le_of_ble_eq_true rfl) (bf_dk dd_X9_bounds 34 rfl) rfl (fun r16 h => ?_)
      refine bs_iload_n C (bf_dk dd_X9_bounds 35 rfl) rfl ?_
      refine bs_iload_n C (bf_dk dd_X9_bounds 36 rfl) rfl ?_
      refine bs_selfPV_i C hR (c_X9_nextOf _ _ _ _ _ S13 (r16) (((b9g_beginning S) (a1).toNatClampNeg)) (a2) _ h) my_X9_nextOf m_9_286 rfl cl_9 (ge_bW9_0 _) rfl (Nat.le_of_ble_eq_true rfl) (Nat.le_of_ble_eq_true rfl) (st := []) (Nat.le_of_ble_eq_true rfl) (bf_dk dd_X9_bounds 37 rfl) rfl (fun r18 h => ?_)
      refine bs_istore C (bf_dk dd_X9_bounds 38 rfl) (Nat.le_of_ble_eq_true rfl) (Nat.le_of_ble_eq_true rfl) (lv2 := [some (.ref 0), some (.int a1), some (.int a2), some (.int ((b9g_beginning S) (a1).toNatClampNeg)), some (.int r18), none]) rfl ?_
      refine bs_iload C (bf_dk dd_X9_bounds 39 rfl) rfl ?_
      refine bs_iconst C (bf_dk dd_X9_bounds 40 rfl) (1 : Int32) (by decide) ?_
      refine bs_iadd C (bf_dk dd_X9_bounds 41 rfl) ?_
      refine bs_bipush C (bf_dk dd_X9_bounds 42 rfl) (8 : Int32) (by decide) ?_
      refine bs_iload_n C (bf_dk dd_X9_bounds 43 rfl) rfl ?_
      refine bs_isub C (bf_dk dd_X9_bounds 44 rfl) ?_
      refine bs_ishl C (bf_dk dd_X9_bounds 45 rfl) ?_
      refine bs_iconst C (bf_dk dd_X9_bounds 46 rfl) (1 : Int32) (by decide) ?_
      refine bs_isub C (bf_dk dd_X9_bounds 47 rfl) ?_
      refine bs_name (fun v20 ev20 => ?_)
      replace h := h v20 ev20
      refine bs_istore C (bf_dk dd_X9_bounds 48 rfl) (Nat.le_of_ble_eq_true rfl) (Nat.le_of_ble_eq_true rfl) (lv2 := [some (.ref 0), some (.int a1), some (.int a2), some (.int ((b9g_beginning S) (a1).toNatClampNeg)), some (.int r18), some (.int v20)]) rfl ?_
      refine bs_aload_n C (bf_dk dd_X9_bounds 49 rfl) rfl ?_
      refine bs_aload_n C (bf_dk dd_X9_bounds 50 rfl) rfl ?_
      refine bs_get C (bf_dk dd_X9_bounds 51 rfl) cl_9 in_9 28 (Nat.le_of_ble_eq_true rfl) rfl f_9_271 (ge_bW9_0 S13) rfl ?_
      refine bs_iload C (bf_dk dd_X9_bounds 52 rfl) rfl ?_
      refine bs_i2l C (bf_dk dd_X9_bounds 53 rfl) ?_
      refine bs_bipush C (bf_dk dd_X9_bounds 54 rfl) (56 : Int32) (by decide) ?_
      refine bs_bipush C (bf_dk dd_X9_bounds 55 rfl) (8 : Int32) (by decide) ?_
      refine bs_iload_n C (bf_dk dd_X9_bounds 56 rfl) rfl ?_
      refine bs_imul C (bf_dk dd_X9_bounds 57 rfl) ?_
      refine bs_isub C (bf_dk dd_X9_bounds 58 rfl) ?_
      refine bs_lshl C (bf_dk dd_X9_bounds 59 rfl) ?_
      refine bs_lor C (bf_dk dd_X9_bounds 60 rfl) ?_
      refine bs_iload_n C (bf_dk dd_X9_bounds 61 rfl) rfl ?_
      refine bs_bipush C (bf_dk dd_X9_bounds 62 rfl) (7 : Int32) (by decide) ?_
      refine bs_icmp_ne C (bf_dk dd_X9_bounds 63 rfl) (tgt := 107) rfl (fun c => ?_) (fun c => ?_)
      · replace h := h.1 c
        refine bs_ldc2 C (bf_dk dd_X9_bounds 66 rfl) k_9_290 ?_
        refine bs_bipush C (bf_dk dd_X9_bounds 67 rfl) (8 : Int32) (by decide) ?_
        refine bs_iload_n C (bf_dk dd_X9_bounds 68 rfl) rfl ?_
        refine bs_iconst C (bf_dk dd_X9_bounds 69 rfl) (1 : Int32) (by decide) ?_
        refine bs_iadd C (bf_dk dd_X9_bounds 70 rfl) ?_
        refine bs_imul C (bf_dk dd_X9_bounds 71 rfl) ?_
        refine bs_lushr C (bf_dk dd_X9_bounds 72 rfl) ?_
        exact bs_weak (bf_s1 (bf_sn (bf_s1 (bf_s1 (bf_s1 (bf_sn bf_s0)))))) (t_X9_bounds_117 C hR S13 (a2) (((b9g_beginning S) (a1).toNatClampNeg)) (r18) (((b9g_lowKey S13) ||| ((v20).toInt64 <<< ((((56 : Int32) - ((8 : Int32) * ((b9g_beginning S) (a1).toNatClampNeg)))).toInt64 &&& 63)))) (((((-1 : Int64)).toUInt64 >>> ((((8 : Int32) * (((b9g_beginning S) (a1).toNatClampNeg) + (1 : Int32)))).toInt64.toUInt64 &&& Int64.toUInt64 63)).toInt64)) Q h)
      · replace h := h.2 c
        refine bs_lconst C (bf_dk dd_X9_bounds 64 rfl) (0 : Int64) (by decide) ?_
        refine bs_goto C (bf_dk dd_X9_bounds 65 rfl) (tgt := 117) rfl ?_
        exact bs_weak (bf_s1 (bf_sn (bf_s1 (bf_s1 (bf_s1 (bf_sn bf_s0)))))) (t_X9_bounds_117 C hR S13 (a2) (((b9g_beginning S) (a1).toNatClampNeg)) (r18) (((b9g_lowKey S13) ||| ((v20).toInt64 <<< ((((56 : Int32) - ((8 : Int32) * ((b9g_beginning S) (a1).toNatClampNeg)))).toInt64 &&& 63)))) ((0 : Int64)) Q h)
    · replace h := h.2 c
      exact bs_vret (u := S13) C (bf_dk dd_X9_bounds 30 rfl) rfl h
theorem c_X9_bounds (l : Launch) (dC : Nat → ClassId) (dI : Nat → Nat → Nat) (ac : Nat → ClassId) (al : Nat → Nat) (S : bT9) (a1 : Int32) (a2 : Int32) (Q : (bT9) → Prop) (h : wp_X9_bounds S a1 a2 Q) : bf_M l yX9_bounds cX9_bounds 6 none 2 47 dC dI ac al [.ref 0, .int a1, .int a2] (bW9 S) (bf_Kv dC dI ac al bW9 Q) := by
  refine bf_start [some (.ref 0), some (.int a1), some (.int a2), none, none, none] (by decide) (Nat.le_of_ble_eq_true rfl) (bf_s1 (bf_s1 (bf_s1 (bf_en 3)))) ?_
  intro X hl C hR e1 e2 e3 e4
  subst e1; subst e2; subst e3; subst e4
  exact t_X9_bounds C hR S a1 a2 Q h
