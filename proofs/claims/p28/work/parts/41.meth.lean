def wp_X9_says (S : bT9) (a1 : Int32) (Q : (bT9) → Prop) : Prop := (vp_in (b9g_signMany S) 200 ∧ (∀ S1 : bT9, S1 = (b9s_signs S (upd (b9g_signs S) ((b9g_signMany S)).toNatClampNeg a1)) → (∀ S2 : bT9, S2 = (b9s_signMany S1 ((b9g_signMany S1) + (1 : Int32))) → (Q S2))))
set_option maxRecDepth 20000 in
theorem t_X9_says {X : bf_X} (C : bf_C X RX9 cX9_says 2 none) (hR : bf_Rm X 0 0) (S : bT9) (a1 : Int32) (Q : (bT9) → Prop) (h : wp_X9_says S a1 Q) : bf_A X (bf_Zv X bW9 Q) 2 0 [some (.ref 0), some (.int a1)] [] (bW9 S) := by
  unfold wp_X9_says at h
  refine bs_aload_n C (bf_dk dd_X9_says 0 rfl) rfl ?_
  refine bs_get C (bf_dk dd_X9_says 1 rfl) cl_9 in_9 40 (Nat.le_of_ble_eq_true rfl) rfl f_9_63 (ge_bW9_0 S) rfl ?_
  refine bs_aload_n C (bf_dk dd_X9_says 2 rfl) rfl ?_
  refine bs_get C (bf_dk dd_X9_says 3 rfl) cl_9 in_9 41 (Nat.le_of_ble_eq_true rfl) rfl f_9_431 (ge_bW9_0 S) rfl ?_
  refine bs_iload_n C (bf_dk dd_X9_says 4 rfl) rfl ?_
  obtain ⟨hi, h⟩ := h
  refine bs_iast C (bf_dk dd_X9_says 5 rfl) (ge_bW9_17 S) hi (ar_bW9_17 S _) ?_
  refine bs_nameS bW9 (fun S1 eS1 => ?_)
  replace h := h S1 eS1
  refine bs_aload_n C (bf_dk dd_X9_says 6 rfl) rfl ?_
  refine bs_aload_n C (bf_dk dd_X9_says 7 rfl) rfl ?_
  refine bs_get C (bf_dk dd_X9_says 8 rfl) cl_9 in_9 41 (Nat.le_of_ble_eq_true rfl) rfl f_9_431 (ge_bW9_0 S1) rfl ?_
  refine bs_iconst C (bf_dk dd_X9_says 9 rfl) (1 : Int32) (by decide) ?_
  refine bs_iadd C (bf_dk dd_X9_says 10 rfl) ?_
  refine bs_put C (bf_dk dd_X9_says 11 rfl) tyX9_ok nmX9 cl_9 in_9 41 (Nat.le_of_ble_eq_true rfl) rfl f_9_431 rfl (ge_bW9_0 S1) (Nat.le_of_ble_eq_true rfl) rfl rfl (pu_bW9_0_41 S1 ((b9g_signMany S1) + (1 : Int32))) ?_
  refine bs_nameS bW9 (fun S2 eS2 => ?_)
  replace h := h S2 eS2
  exact bs_vret (u := S2) C (bf_dk dd_X9_says 12 rfl) rfl h
theorem c_X9_says (l : Launch) (dC : Nat → ClassId) (dI : Nat → Nat → Nat) (ac : Nat → ClassId) (al : Nat → Nat) (S : bT9) (a1 : Int32) (Q : (bT9) → Prop) (h : wp_X9_says S a1 Q) : bf_M l yX9_says cX9_says 2 none 0 0 dC dI ac al [.ref 0, .int a1] (bW9 S) (bf_Kv dC dI ac al bW9 Q) := by
  refine bf_start [some (.ref 0), some (.int a1)] (by decide) (Nat.le_of_ble_eq_true rfl) (bf_s1 (bf_s1 bf_s0)) ?_
  intro X hl C hR e1 e2 e3 e4
  subst e1; subst e2; subst e3; subst e4
  exact t_X9_says C hR S a1 Q h
def wp_X9_saysNumber_37 (S : bT9) (x1 : Int32) (Q : (bT9) → Prop) : Prop := (¬ (10 : Int32) = 0 ∧ (wp_X9_says S (((48 : Int32) + (x1 - x1 / (10 : Int32) * (10 : Int32)))) (fun u2 => (Q u2))))
set_option maxRecDepth 20000 in
theorem t_X9_saysNumber_37 {X : bf_X} (C : bf_C X RX9 cX9_saysNumber 2 none) (hR : bf_Rm X 1 21) (S : bT9) (x1 : Int32) (Q : (bT9) → Prop) (h : wp_X9_saysNumber_37 S x1 Q) : bf_A X (bf_Zv X bW9 Q) 2 37 [some (.ref 0), some (.int x1)] [] (bW9 S) := by
  unfold wp_X9_saysNumber_37 at h
  refine bs_aload_n C (bf_dk dd_X9_saysNumber 22 rfl) rfl ?_
  refine bs_bipush C (bf_dk dd_X9_saysNumber 23 rfl) (48 : Int32) (by decide) ?_
  refine bs_iload_n C (bf_dk dd_X9_saysNumber 24 rfl) rfl ?_
  refine bs_bipush C (bf_dk dd_X9_saysNumber 25 rfl) (10 : Int32) (by decide) ?_
  obtain ⟨hi, h⟩ := h
  refine bs_irem C (bf_dk dd_X9_saysNumber 26 rfl) hi ?_
  refine bs_iadd C (bf_dk dd_X9_saysNumber 27 rfl) ?_
  refine bs_selfV_v C hR (c_X9_says _ _ _ _ _ S (((48 : Int32) + (x1 - x1 / (10 : Int32) * (10 : Int32)))) _ h) my_X9_says m_9_434 rfl cl_9 (ge_bW9_0 _) rfl (Nat.le_of_ble_eq_true rfl) (Nat.le_of_ble_eq_true rfl) (st := []) (Nat.le_of_ble_eq_true rfl) (bf_dk dd_X9_saysNumber 28 rfl) rfl (len := 21) (fun _ => rfl) (fun u2 h => ?_)
  exact bs_vret (u := u2) C (bf_dk dd_X9_saysNumber 29 rfl) rfl h
def wp_X9_saysNumber_17 (S : bT9) (x1 : Int32) (Q : (bT9) → Prop) : Prop := ((x1 ≤ (9 : Int32) → (wp_X9_saysNumber_37 S (x1) Q)) ∧ (¬ x1 ≤ (9 : Int32) → (¬ (10 : Int32) = 0 ∧ (¬ (10 : Int32) = 0 ∧ (wp_X9_says S (((48 : Int32) + ((x1 / (10 : Int32)) - (x1 / (10 : Int32)) / (10 : Int32) * (10 : Int32)))) (fun u4 => (wp_X9_saysNumber_37 u4 (x1) Q)))))))
set_option maxRecDepth 20000 in
theorem t_X9_saysNumber_17 {X : bf_X} (C : bf_C X RX9 cX9_saysNumber 2 none) (hR : bf_Rm X 1 21) (S : bT9) (x1 : Int32) (Q : (bT9) → Prop) (h : wp_X9_saysNumber_17 S x1 Q) : bf_A X (bf_Zv X bW9 Q) 2 17 [some (.ref 0), some (.int x1)] [] (bW9 S) := by
  unfold wp_X9_saysNumber_17 at h
  refine bs_iload_n C (bf_dk dd_X9_saysNumber 10 rfl) rfl ?_
  refine bs_bipush C (bf_dk dd_X9_saysNumber 11 rfl) (9 : Int32) (by decide) ?_
  refine bs_icmp_le C (bf_dk dd_X9_saysNumber 12 rfl) (tgt := 37) rfl (fun c => ?_) (fun c => ?_)
  · replace h := h.1 c
    exact bs_weak (bf_s1 (bf_s1 bf_s0)) (t_X9_saysNumber_37 C hR S (x1) Q h)
  · replace h := h.2 c
    refine bs_aload_n C (bf_dk dd_X9_saysNumber 13 rfl) rfl ?_
    refine bs_bipush C (bf_dk dd_X9_saysNumber 14 rfl) (48 : Int32) (by decide) ?_
    refine bs_iload_n C (bf_dk dd_X9_saysNumber 15 rfl) rfl ?_
    refine bs_bipush C (bf_dk dd_X9_saysNumber 16 rfl) (10 : Int32) (by decide) ?_
    obtain ⟨hi, h⟩ := h
    refine bs_idiv C (bf_dk dd_X9_saysNumber 17 rfl) hi ?_
    refine bs_bipush C (bf_dk dd_X9_saysNumber 18 rfl) (10 : Int32) (by decide) ?_
    obtain ⟨hi, h⟩ := h
    refine bs_irem C (bf_dk dd_X9_saysNumber 19 rfl) hi ?_
    refine bs_iadd C (bf_dk dd_X9_saysNumber 20 rfl) ?_
    refine bs_selfV_v C hR (c_X9_says _ _ _ _ _ S (((48 : Int32) + ((x1 / (10 : Int32)) - (x1 / (10 : Int32)) / (10 : Int32) * (10 : Int32)))) _ h) my_X9_says m_9_434 rfl cl_9 (ge_bW9_0 _) rfl (Nat.le_of_ble_eq_true rfl) (Nat.le_of_ble_eq_true rfl) (st := []) (Nat.le_of_ble_eq_true rfl) (bf_dk dd_X9_saysNumber 21 rfl) rfl (len := 21) (fun _ => rfl) (fun u4 h => ?_)
    exact bs_weak (bf_s1 (bf_s1 bf_s0)) (t_X9_saysNumber_37 C hR u4 (x1) Q h)
def wp_X9_saysNumber (S : bT9) (a1 : Int32) (Q : (bT9) → Prop) : Prop := ((a1 ≤ (99 : Int32) → (wp_X9_saysNumber_17 S (a1) Q)) ∧ (¬ a1 ≤ (99 : Int32) → (¬ (100 : Int32) = 0 ∧ (wp_X9_says S (((48 : Int32) + (a1 / (100 : Int32)))) (fun u6 => (wp_X9_saysNumber_17 u6 (a1) Q))))))
set_option maxRecDepth 20000 in
theorem t_X9_saysNumber {X : bf_X} (C : bf_C X RX9 cX9_saysNumber 2 none) (hR : bf_Rm X 1 21) (S : bT9) (a1 : Int32) (Q : (bT9) → Prop) (h : wp_X9_saysNumber S a1 Q) : bf_A X (bf_Zv X bW9 Q) 2 0 [some (.ref 0), some (.int a1)] [] (bW9 S) := by
  unfold wp_X9_saysNumber at h
  refine bs_iload_n C (bf_dk dd_X9_saysNumber 0 rfl) rfl ?_
  refine bs_bipush C (bf_dk dd_X9_saysNumber 1 rfl) (99 : Int32) (by decide) ?_
  refine bs_icmp_le C (bf_dk dd_X9_saysNumber 2 rfl) (tgt := 17) rfl (fun c => ?_) (fun c => ?_)
  · replace h := h.1 c
    exact bs_weak (bf_s1 (bf_s1 bf_s0)) (t_X9_saysNumber_17 C hR S (a1) Q h)
  · replace h := h.2 c
    refine bs_aload_n C (bf_dk dd_X9_saysNumber 3 rfl) rfl ?_
    refine bs_bipush C (bf_dk dd_X9_saysNumber 4 rfl) (48 : Int32) (by decide) ?_
    refine bs_iload_n C (bf_dk dd_X9_saysNumber 5 rfl) rfl ?_
    refine bs_bipush C (bf_dk dd_X9_saysNumber 6 rfl) (100 : Int32) (by decide) ?_
    obtain ⟨hi, h⟩ := h
    refine bs_idiv C (bf_dk dd_X9_saysNumber 7 rfl) hi ?_
    refine bs_iadd C (bf_dk dd_X9_saysNumber 8 rfl) ?_
    refine bs_selfV_v C hR (c_X9_says _ _ _ _ _ S (((48 : Int32) + (a1 / (100 : Int32)))) _ h) my_X9_says m_9_434 rfl cl_9 (ge_bW9_0 _) rfl (Nat.le_of_ble_eq_true rfl) (Nat.le_of_ble_eq_true rfl) (st := []) (Nat.le_of_ble_eq_true rfl) (bf_dk dd_X9_saysNumber 9 rfl) rfl (len := 21) (fun _ => rfl) (fun u6 h => ?_)
    exact bs_weak (bf_s1 (bf_s1 bf_s0)) (t_X9_saysNumber_17 C hR u6 (a1) Q h)
theorem c_X9_saysNumber (l : Launch) (dC : Nat → ClassId) (dI : Nat → Nat → Nat) (ac : Nat → ClassId) (al : Nat → Nat) (S : bT9) (a1 : Int32) (Q : (bT9) → Prop) (h : wp_X9_saysNumber S a1 Q) : bf_M l yX9_saysNumber cX9_saysNumber 2 none 1 21 dC dI ac al [.ref 0, .int a1] (bW9 S) (bf_Kv dC dI ac al bW9 Q) := by
  refine bf_start [some (.ref 0), some (.int a1)] (by decide) (Nat.le_of_ble_eq_true rfl) (bf_s1 (bf_s1 bf_s0)) ?_
  intro X hl C hR e1 e2 e3 e4
  subst e1; subst e2; subst e3; subst e4
  exact t_X9_saysNumber C hR S a1 Q h
def wp_X9_saysHex_21 (S : bT9) (t1 : Int32) (Q : (bT9) → Prop) : Prop := (wp_X9_says S (t1) (fun u2 => (Q u2)))
set_option maxRecDepth 20000 in
theorem t_X9_saysHex_21 {X : bf_X} (C : bf_C X RX9 cX9_saysHex 2 none) (hR : bf_Rm X 1 21) (S : bT9) (t1 : Int32) (Q : (bT9) → Prop) (h : wp_X9_saysHex_21 S t1 Q) : bf_A X (bf_Zv X bW9 Q) 2 21 [none, none] [.int t1, .ref 0] (bW9 S) := by
  unfold wp_X9_saysHex_21 at h
  refine bs_selfV_v C hR (c_X9_says _ _ _ _ _ S (t1) _ h) my_X9_says m_9_434 rfl cl_9 (ge_bW9_0 _) rfl (Nat.le_of_ble_eq_true rfl) (Nat.le_of_ble_eq_true rfl) (st := []) (Nat.le_of_ble_eq_true rfl) (bf_dk dd_X9_saysHex 13 rfl) rfl (len := 21) (fun _ => rfl) (fun u2 h => ?_)
  exact bs_vret (u := u2) C (bf_dk dd_X9_saysHex 14 rfl) rfl h
def wp_X9_saysHex (S : bT9) (a1 : Int32) (Q : (bT9) → Prop) : Prop := (((10 : Int32) ≤ a1 → (wp_X9_saysHex_21 S ((((97 : Int32) + a1) - (10 : Int32))) Q)) ∧ (¬ (10 : Int32) ≤ a1 → (wp_X9_saysHex_21 S (((48 : Int32) + a1)) Q)))
set_option maxRecDepth 20000 in
theorem t_X9_saysHex {X : bf_X} (C : bf_C X RX9 cX9_saysHex 2 none) (hR : bf_Rm X 1 21) (S : bT9) (a1 : Int32) (Q : (bT9) → Prop) (h : wp_X9_saysHex S a1 Q) : bf_A X (bf_Zv X bW9 Q) 2 0 [some (.ref 0), some (.int a1)] [] (bW9 S) := by
  unfold wp_X9_saysHex at h
  refine bs_aload_n C (bf_dk dd_X9_saysHex 0 rfl) rfl ?_
  refine bs_iload_n C (bf_dk dd_X9_saysHex 1 rfl) rfl ?_
  refine bs_bipush C (bf_dk dd_X9_saysHex 2 rfl) (10 : Int32) (by decide) ?_
  refine bs_icmp_ge C (bf_dk dd_X9_saysHex 3 rfl) (tgt := 14) rfl (fun c => ?_) (fun c => ?_)
  · replace h := h.1 c
    refine bs_bipush C (bf_dk dd_X9_saysHex 8 rfl) (97 : Int32) (by decide) ?_
    refine bs_iload_n C (bf_dk dd_X9_saysHex 9 rfl) rfl ?_
    refine bs_iadd C (bf_dk dd_X9_saysHex 10 rfl) ?_
    refine bs_bipush C (bf_dk dd_X9_saysHex 11 rfl) (10 : Int32) (by decide) ?_
    refine bs_isub C (bf_dk dd_X9_saysHex 12 rfl) ?_
    exact bs_weak (bf_sn (bf_sn bf_s0)) (t_X9_saysHex_21 C hR S ((((97 : Int32) + a1) - (10 : Int32))) Q h)
  · replace h := h.2 c
    refine bs_bipush C (bf_dk dd_X9_saysHex 4 rfl) (48 : Int32) (by decide) ?_
    refine bs_iload_n C (bf_dk dd_X9_saysHex 5 rfl) rfl ?_
    refine bs_iadd C (bf_dk dd_X9_saysHex 6 rfl) ?_
    refine bs_goto C (bf_dk dd_X9_saysHex 7 rfl) (tgt := 21) rfl ?_
    exact bs_weak (bf_sn (bf_sn bf_s0)) (t_X9_saysHex_21 C hR S (((48 : Int32) + a1)) Q h)
theorem c_X9_saysHex (l : Launch) (dC : Nat → ClassId) (dI : Nat → Nat → Nat) (ac : Nat → ClassId) (al : Nat → Nat) (S : bT9) (a1 : Int32) (Q : (bT9) → Prop) (h : wp_X9_saysHex S a1 Q) : bf_M l yX9_saysHex cX9_saysHex 2 none 1 21 dC dI ac al [.ref 0, .int a1] (bW9 S) (bf_Kv dC dI ac al bW9 Q) := by
  refine bf_start [some (.ref 0), some (.int a1)] (by decide) (Nat.le_of_ble_eq_true rfl) (bf_s1 (bf_s1 bf_s0)) ?_
  intro X hl C hR e1 e2 e3 e4
  subst e1; subst e2; subst e3; subst e4
  exact t_X9_saysHex C hR S a1 Q h
def wp_X9_reportsAll_36 (S : bT9) (x1 : Int32) (t1 : Int32) (Q : (bT9) → Prop) (B2 : Int32 → (bT9) → Prop) : Prop := (wp_X9_says S (t1) (fun u2 => (wp_X9_levelOf u2 (x1) ((0 : Int32)) (fun r3 => (wp_X9_saysNumber u2 (r3) (fun u6 => (wp_X9_says u6 ((58 : Int32)) (fun u8 => (wp_X9_levelOf u8 (x1) ((1 : Int32)) (fun r9 => (wp_X9_saysNumber u8 (r9) (fun u12 => (B2 ((x1 + (1 : Int32))) u12)))))))))))))
set_option maxRecDepth 20000 in
theorem t_X9_reportsAll_36 {X : bf_X} (C : bf_C X RX9 cX9_reportsAll 2 none) (hR : bf_Rm X 6 138) (S : bT9) (x1 : Int32) (t1 : Int32) (Q : (bT9) → Prop) (B2 : Int32 → (bT9) → Prop) (hB2 : ∀ (x1 : Int32) (S : bT9), B2 x1 S → bf_A X (bf_Zv X bW9 Q) 2 2 [some (.ref 0), some (.int x1)] [] (bW9 S)) (h : wp_X9_reportsAll_36 S x1 t1 Q B2) : bf_A X (bf_Zv X bW9 Q) 2 36 [some (.ref 0), some (.int x1)] [.int t1, .ref 0] (bW9 S) := by
  unfold wp_X9_reportsAll_36 at h
  refine bs_selfV_v C hR (c_X9_says _ _ _ _ _ S (t1) _ h) my_X9_says m_9_434 rfl cl_9 (ge_bW9_0 _) rfl (Nat.le_of_ble_eq_true rfl) (Nat.le_of_ble_eq_true rfl) (st := []) (Nat.le_of_ble_eq_true rfl) (bf_dk dd_X9_reportsAll 19 rfl) rfl (len := 21) (fun _ => rfl) (fun u2 h => ?_)
  refine bs_aload_n C (bf_dk dd_X9_reportsAll 20 rfl) rfl ?_
  refine bs_aload_n C (bf_dk dd_X9_reportsAll 21 rfl) rfl ?_
  refine bs_iload_n C (bf_dk dd_X9_reportsAll 22 rfl) rfl ?_
  refine bs_iconst C (bf_dk dd_X9_reportsAll 23 rfl) (0 : Int32) (by decide) ?_
  refine bs_selfPV_i C hR (c_X9_levelOf _ _ _ _ _ u2 (x1) ((0 : Int32)) _ h) my_X9_levelOf m_9_381 rfl cl_9 (ge_bW9_0 _) rfl (Nat.le_of_ble_eq_true rfl) (Nat.le_of_ble_eq_true rfl) (st := [.ref 0]) (Nat.le_of_ble_eq_true rfl) (bf_dk dd_X9_reportsAll 24 rfl) rfl (fun r3 h => ?_)
  refine bs_selfV_v C hR (c_X9_saysNumber _ _ _ _ _ u2 (r3) _ h) my_X9_saysNumber m_9_437 rfl cl_9 (ge_bW9_0 _) rfl (Nat.le_of_ble_eq_true rfl) (Nat.le_of_ble_eq_true rfl) (st := []) (Nat.le_of_ble_eq_true rfl) (bf_dk dd_X9_reportsAll 25 rfl) rfl (len := 21) (fun _ => rfl) (fun u6 h => ?_)
  refine bs_aload_n C (bf_dk dd_X9_reportsAll 26 rfl) rfl ?_
  refine bs_bipush C (bf_dk dd_X9_reportsAll 27 rfl) (58 : Int32) (by decide) ?_
  refine bs_selfV_v C hR (c_X9_says _ _ _ _ _ u6 ((58 : Int32)) _ h) my_X9_says m_9_434 rfl cl_9 (ge_bW9_0 _) rfl (Nat.le_of_ble_eq_true rfl) (Nat.le_of_ble_eq_true rfl) (st := []) (Nat.le_of_ble_eq_true rfl) (bf_dk dd_X9_reportsAll 28 rfl) rfl (len := 21) (fun _ => rfl) (fun u8 h => ?_)
  refine bs_aload_n C (bf_dk dd_X9_reportsAll 29 rfl) rfl ?_
  refine bs_aload_n C (bf_dk dd_X9_reportsAll 30 rfl) rfl ?_
  refine bs_iload_n C (bf_dk dd_X9_reportsAll 31 rfl) rfl ?_
  refine bs_iconst C (bf_dk dd_X9_reportsAll 32 rfl) (1 : Int32) (by decide) ?_
  refine bs_selfPV_i C hR (c_X9_levelOf _ _ _ _ _ u8 (x1) ((1 : Int32)) _ h) my_X9_levelOf m_9_381 rfl cl_9 (ge_bW9_0 _) rfl (Nat.le_of_ble_eq_true rfl) (Nat.le_of_ble_eq_true rfl) (st := [.ref 0]) (Nat.le_of_ble_eq_true rfl) (bf_dk dd_X9_reportsAll 33 rfl) rfl (fun r9 h => ?_)
  refine bs_selfV_v C hR (c_X9_saysNumber _ _ _ _ _ u8 (r9) _ h) my_X9_saysNumber m_9_437 rfl cl_9 (ge_bW9_0 _) rfl (Nat.le_of_ble_eq_true rfl) (Nat.le_of_ble_eq_true rfl) (st := []) (Nat.le_of_ble_eq_true rfl) (bf_dk dd_X9_reportsAll 34 rfl) rfl (len := 21) (fun _ => rfl) (fun u12 h => ?_)
  refine bs_iinc C (bf_dk dd_X9_reportsAll 35 rfl) (x1 + (1 : Int32)) rfl rfl (Nat.le_of_ble_eq_true rfl) (Nat.le_of_ble_eq_true rfl) (lv2 := [some (.ref 0), some (.int (x1 + (1 : Int32)))]) rfl ?_
  refine bs_goto C (bf_dk dd_X9_reportsAll 36 rfl) (tgt := 2) rfl ?_
  exact bs_weak (bf_s1 (bf_s1 bf_s0)) (hB2 ((x1 + (1 : Int32))) u12 h)
def wp_X9_reportsAll_20 (S : bT9) (x1 : Int32) (Q : (bT9) → Prop) (B2 : Int32 → (bT9) → Prop) : Prop := (((b9g_upper S) ≤ x1 → (wp_X9_reportsAll_36 S (x1) ((115 : Int32)) Q B2)) ∧ (¬ (b9g_upper S) ≤ x1 → (wp_X9_reportsAll_36 S (x1) ((100 : Int32)) Q B2)))
set_option maxRecDepth 20000 in
theorem t_X9_reportsAll_20 {X : bf_X} (C : bf_C X RX9 cX9_reportsAll 2 none) (hR : bf_Rm X 6 138) (S : bT9) (x1 : Int32) (Q : (bT9) → Prop) (B2 : Int32 → (bT9) → Prop) (hB2 : ∀ (x1 : Int32) (S : bT9), B2 x1 S → bf_A X (bf_Zv X bW9 Q) 2 2 [some (.ref 0), some (.int x1)] [] (bW9 S)) (h : wp_X9_reportsAll_20 S x1 Q B2) : bf_A X (bf_Zv X bW9 Q) 2 20 [some (.ref 0), some (.int x1)] [] (bW9 S) := by
  unfold wp_X9_reportsAll_20 at h
  refine bs_aload_n C (bf_dk dd_X9_reportsAll 11 rfl) rfl ?_
  refine bs_iload_n C (bf_dk dd_X9_reportsAll 12 rfl) rfl ?_
  refine bs_aload_n C (bf_dk dd_X9_reportsAll 13 rfl) rfl ?_
  refine bs_get C (bf_dk dd_X9_reportsAll 14 rfl) cl_9 in_9 18 (Nat.le_of_ble_eq_true rfl) rfl f_9_213 (ge_bW9_0 S) rfl ?_
  refine bs_icmp_ge C (bf_dk dd_X9_reportsAll 15 rfl) (tgt := 34) rfl (fun c => ?_) (fun c => ?_)
  · replace h := h.1 c
    refine bs_bipush C (bf_dk dd_X9_reportsAll 18 rfl) (115 : Int32) (by decide) ?_
    exact bs_weak (bf_s1 (bf_s1 bf_s0)) (t_X9_reportsAll_36 C hR S (x1) ((115 : Int32)) Q B2 hB2 h)
  · replace h := h.2 c
    refine bs_bipush C (bf_dk dd_X9_reportsAll 16 rfl) (100 : Int32) (by decide) ?_
    refine bs_goto C (bf_dk dd_X9_reportsAll 17 rfl) (tgt := 36) rfl ?_
    exact bs_weak (bf_s1 (bf_s1 bf_s0)) (t_X9_reportsAll_36 C hR S (x1) ((100 : Int32)) Q B2 hB2 h)
def wp_X9_reportsAll_2b (S : bT9) (x1 : Int32) (Q : (bT9) → Prop) (B2 : Int32 → (bT9) → Prop) : Prop := (((b9g_levelMany S) ≤ x1 → (wp_X9_says S ((46 : Int32)) (fun u14 => (Q u14)))) ∧ (¬ (b9g_levelMany S) ≤ x1 → ((x1 ≤ 0 → (wp_X9_reportsAll_20 S (x1) Q B2)) ∧ (¬ x1 ≤ 0 → (wp_X9_says S ((44 : Int32)) (fun u16 => (wp_X9_reportsAll_20 u16 (x1) Q B2)))))))
set_option maxRecDepth 20000 in
theorem t_X9_reportsAll_2b {X : bf_X} (C : bf_C X RX9 cX9_reportsAll 2 none) (hR : bf_Rm X 6 138) (S : bT9) (x1 : Int32) (Q : (bT9) → Prop) (B2 : Int32 → (bT9) → Prop) (hB2 : ∀ (x1 : Int32) (S : bT9), B2 x1 S → bf_A X (bf_Zv X bW9 Q) 2 2 [some (.ref 0), some (.int x1)] [] (bW9 S)) (h : wp_X9_reportsAll_2b S x1 Q B2) : bf_A X (bf_Zv X bW9 Q) 2 2 [some (.ref 0), some (.int x1)] [] (bW9 S) := by
  unfold wp_X9_reportsAll_2b at h
  refine bs_iload_n C (bf_dk dd_X9_reportsAll 2 rfl) rfl ?_
  refine bs_aload_n C (bf_dk dd_X9_reportsAll 3 rfl) rfl ?_
  refine bs_get C (bf_dk dd_X9_reportsAll 4 rfl) cl_9 in_9 17 (Nat.le_of_ble_eq_true rfl) rfl f_9_201 (ge_bW9_0 S) rfl ?_
  refine bs_icmp_ge C (bf_dk dd_X9_reportsAll 5 rfl) (tgt := 71) rfl (fun c => ?_) (fun c => ?_)
  · replace h := h.1 c
    refine bs_aload_n C (bf_dk dd_X9_reportsAll 37 rfl) rfl ?_
    refine bs_bipush C (bf_dk dd_X9_reportsAll 38 rfl) (46 : Int32) (by decide) ?_
    refine bs_selfV_v C hR (c_X9_says _ _ _ _ _ S ((46 : Int32)) _ h) my_X9_says m_9_434 rfl cl_9 (ge_bW9_0 _) rfl (Nat.le_of_ble_eq_true rfl) (Nat.le_of_ble_eq_true rfl) (st := []) (Nat.le_of_ble_eq_true rfl) (bf_dk dd_X9_reportsAll 39 rfl) rfl (len := 21) (fun _ => rfl) (fun u14 h => ?_)
    exact bs_vret (u := u14) C (bf_dk dd_X9_reportsAll 40 rfl) rfl h
  · replace h := h.2 c
    refine bs_iload_n C (bf_dk dd_X9_reportsAll 6 rfl) rfl ?_
    refine bs_if_le C (bf_dk dd_X9_reportsAll 7 rfl) (tgt := 20) rfl (fun c => ?_) (fun c => ?_)
    · replace h := h.1 c
      exact bs_weak (bf_s1 (bf_s1 bf_s0)) (t_X9_reportsAll_20 C hR S (x1) Q B2 hB2 h)
    · replace h := h.2 c
      refine bs_aload_n C (bf_dk dd_X9_reportsAll 8 rfl) rfl ?_
      refine bs_bipush C (bf_dk dd_X9_reportsAll 9 rfl) (44 : Int32) (by decide) ?_
      refine bs_selfV_v C hR (c_X9_says _ _ _ _ _ S ((44 : Int32)) _ h) my_X9_says m_9_434 rfl cl_9 (ge_bW9_0 _) rfl (Nat.le_of_ble_eq_true rfl) (Nat.le_of_ble_eq_true rfl) (st := []) (Nat.le_of_ble_eq_true rfl) (bf_dk dd_X9_reportsAll 10 rfl) rfl (len := 21) (fun _ => rfl) (fun u16 h => ?_)
      exact bs_weak (bf_s1 (bf_s1 bf_s0)) (t_X9_reportsAll_20 C hR u16 (x1) Q B2 hB2 h)
def wp_X9_reportsAll_2 (S : bT9) (x1 : Int32) (Q : (bT9) → Prop) : Prop := ∃ I : Nat → Int32 → (bT9) → Prop, (∃ n : Nat, I n x1 S) ∧ ∀ (n : Nat) (x1 : Int32) (S : bT9), I n x1 S → wp_X9_reportsAll_2b S x1 Q (fun x1 S => ∃ n2 : Nat, n2 < n ∧ I n2 x1 S)
theorem t_X9_reportsAll_2 {X : bf_X} (C : bf_C X RX9 cX9_reportsAll 2 none) (hR : bf_Rm X 6 138) (S : bT9) (x1 : Int32) (Q : (bT9) → Prop) (h : wp_X9_reportsAll_2 S x1 Q) : bf_A X (bf_Zv X bW9 Q) 2 2 [some (.ref 0), some (.int x1)] [] (bW9 S) := by
  obtain ⟨I, ⟨n0, h0⟩, hI⟩ := h
  have key : ∀ (n : Nat) (x1 : Int32) (S : bT9), I n x1 S → bf_A X (bf_Zv X bW9 Q) 2 2 [some (.ref 0), some (.int x1)] [] (bW9 S) := by
    intro n
    induction n using Nat.strongRecOn with
    | _ n ih =>
      intro x1 S hi
      exact t_X9_reportsAll_2b C hR S x1 Q _ (fun x1 S hb => by obtain ⟨n2, hn, hi2⟩ := hb; exact ih n2 hn x1 S hi2) (hI n x1 S hi)
  exact key n0 x1 S h0
def wp_X9_reportsAll (S : bT9) (Q : (bT9) → Prop) : Prop := (wp_X9_reportsAll_2 S ((0 : Int32)) Q)
set_option maxRecDepth 20000 in
theorem t_X9_reportsAll {X : bf_X} (C : bf_C X RX9 cX9_reportsAll 2 none) (hR : bf_Rm X 6 138) (S : bT9) (Q : (bT9) → Prop) (h : wp_X9_reportsAll S Q) : bf_A X (bf_Zv X bW9 Q) 2 0 [some (.ref 0), none] [] (bW9 S) := by
  unfold wp_X9_reportsAll at h
  refine bs_iconst C (bf_dk dd_X9_reportsAll 0 rfl) (0 : Int32) (by decide) ?_
  refine bs_istore_n C (bf_dk dd_X9_reportsAll 1 rfl) rfl (Nat.le_of_ble_eq_true rfl) (Nat.le_of_ble_eq_true rfl) (lv2 := [some (.ref 0), some (.int (0 : Int32))]) rfl ?_
  exact bs_weak (bf_s1 (bf_s1 bf_s0)) (t_X9_reportsAll_2 C hR S ((0 : Int32)) Q h)
theorem c_X9_reportsAll (l : Launch) (dC : Nat → ClassId) (dI : Nat → Nat → Nat) (ac : Nat → ClassId) (al : Nat → Nat) (S : bT9) (Q : (bT9) → Prop) (h : wp_X9_reportsAll S Q) : bf_M l yX9_reportsAll cX9_reportsAll 2 none 6 138 dC dI ac al [.ref 0] (bW9 S) (bf_Kv dC dI ac al bW9 Q) := by
  refine bf_start [some (.ref 0), none] (by decide) (Nat.le_of_ble_eq_true rfl) (bf_s1 (bf_en 1)) ?_
  intro X hl C hR e1 e2 e3 e4
  subst e1; subst e2; subst e3; subst e4
  exact t_X9_reportsAll C hR S Q h
def wp_X9_reportsLeaf_109b (S : bT9) (x1 : Int32) (x2 : Int32) (Q : (bT9) → Prop) (B109 : Int32 → Int32 → (bT9) → Prop) : Prop := ((x2 < 0 → (Q S)) ∧ (¬ x2 < 0 → (wp_X9_key S (x1) (fun r1 => (vp_in x1 64 ∧ (wp_X9_nextBits S (fun r3 => (wp_X9_nextOf S (r1) (((b9g_beginning S) (x1).toNatClampNeg)) (r3) (fun r5 => (wp_X9_says S (((48 : Int32) + ((r5 >>> (x2 &&& 31)) &&& (1 : Int32)))) (fun u8 => (B109 (x1) ((x2 + (-1 : Int32))) u8))))))))))))
set_option maxRecDepth 20000 in
theorem t_X9_reportsLeaf_109b {X : bf_X} (C : bf_C X RX9 cX9_reportsLeaf 3 none) (hR : bf_Rm X 3 70) (S : bT9) (x1 : Int32) (x2 : Int32) (Q : (bT9) → Prop) (B109 : Int32 → Int32 → (bT9) → Prop) (hB109 : ∀ (x1 : Int32) (x2 : Int32) (S : bT9), B109 x1 x2 S → bf_A X (bf_Zv X bW9 Q) 3 109 [some (.ref 0), some (.int x1), some (.int x2)] [] (bW9 S)) (h : wp_X9_reportsLeaf_109b S x1 x2 Q B109) : bf_A X (bf_Zv X bW9 Q) 3 109 [some (.ref 0), some (.int x1), some (.int x2)] [] (bW9 S) := by
  unfold wp_X9_reportsLeaf_109b at h
  refine bs_iload_n C (bf_dk dd_X9_reportsLeaf 60 rfl) rfl ?_
  refine bs_if_lt C (bf_dk dd_X9_reportsLeaf 61 rfl) (tgt := 149) rfl (fun c => ?_) (fun c => ?_)
  · replace h := h.1 c
    exact bs_vret (u := S) C (bf_dk dd_X9_reportsLeaf 83 rfl) rfl h
  · replace h := h.2 c
    refine bs_aload_n C (bf_dk dd_X9_reportsLeaf 62 rfl) rfl ?_
    refine bs_bipush C (bf_dk dd_X9_reportsLeaf 63 rfl) (48 : Int32) (by decide) ?_
    refine bs_aload_n C (bf_dk dd_X9_reportsLeaf 64 rfl) rfl ?_
    refine bs_aload_n C (bf_dk dd_X9_reportsLeaf 65 rfl) rfl ?_
    refine bs_iload_n C (bf_dk dd_X9_reportsLeaf 66 rfl) rfl ?_
    refine bs_selfPV_l C hR (c_X9_key _ _ _ _ _ S (x1) _ h) my_X9_key m_9_178 rfl cl_9 (ge_bW9_0 _) rfl (Nat.le_of_ble_eq_true rfl) (Nat.le_of_ble_eq_true rfl) (st := [.ref 0, .int (48 : Int32), .ref 0]) (Nat.le_of_ble_eq_true rfl) (bf_dk dd_X9_reportsLeaf 67 rfl) rfl (fun r1 h => ?_)
    refine bs_aload_n C (bf_dk dd_X9_reportsLeaf 68 rfl) rfl ?_
    refine bs_get C (bf_dk dd_X9_reportsLeaf 69 rfl) cl_9 in_9 11 (Nat.le_of_ble_eq_true rfl) rfl f_9_29 (ge_bW9_0 S) rfl ?_
    refine bs_iload_n C (bf_dk dd_X9_reportsLeaf 70 rfl) rfl ?_
    obtain ⟨hi, h⟩ := h
    refine bs_iald C (bf_dk dd_X9_reportsLeaf 71 rfl) (ge_bW9_7 S) hi ?_
    refine bs_aload_n C (bf_dk dd_X9_reportsLeaf 72 rfl) rfl ?_
    refine bs_selfPV_i C hR (c_X9_nextBits _ _ _ _ _ S _ h) my_X9_nextBits m_9_313 rfl cl_9 (ge_bW9_0 _) rfl (Nat.le_of_ble_eq_true rfl) (Nat.le_of_ble_eq_true rfl) (st := [.int ((b9g_beginning S) (x1).toNatClampNeg), .long r1, .ref 0, .int (48 : Int32), .ref 0]) (Nat.le_of_ble_eq_true rfl) (bf_dk dd_X9_reportsLeaf 73 rfl) rfl (fun r3 h => ?_)
    refine bs_selfPV_i C hR (c_X9_nextOf _ _ _ _ _ S (r1) (((b9g_beginning S) (x1).toNatClampNeg)) (r3) _ h) my_X9_nextOf m_9_286 rfl cl_9 (ge_bW9_0 _) rfl (Nat.le_of_ble_eq_true rfl) (Nat.le_of_ble_eq_true rfl) (st := [.int (48 : Int32), .ref 0]) (Nat.le_of_ble_eq_true rfl) (bf_dk dd_X9_reportsLeaf 74 rfl) rfl (fun r5 h => ?_)
    refine bs_iload_n C (bf_dk dd_X9_reportsLeaf 75 rfl) rfl ?_
    refine bs_ishr C (bf_dk dd_X9_reportsLeaf 76 rfl) ?_
    refine bs_iconst C (bf_dk dd_X9_reportsLeaf 77 rfl) (1 : Int32) (by decide) ?_
    refine bs_iand C (bf_dk dd_X9_reportsLeaf 78 rfl) ?_
    refine bs_iadd C (bf_dk dd_X9_reportsLeaf 79 rfl) ?_
    refine bs_selfV_v C hR (c_X9_says _ _ _ _ _ S (((48 : Int32) + ((r5 >>> (x2 &&& 31)) &&& (1 : Int32)))) _ h) my_X9_says m_9_434 rfl cl_9 (ge_bW9_0 _) rfl (Nat.le_of_ble_eq_true rfl) (Nat.le_of_ble_eq_true rfl) (st := []) (Nat.le_of_ble_eq_true rfl) (bf_dk dd_X9_reportsLeaf 80 rfl) rfl (len := 21) (fun _ => rfl) (fun u8 h => ?_)
    refine bs_iinc C (bf_dk dd_X9_reportsLeaf 81 rfl) (x2 + (-1 : Int32)) rfl rfl (Nat.le_of_ble_eq_true rfl) (Nat.le_of_ble_eq_true rfl) (lv2 := [some (.ref 0), some (.int x1), some (.int (x2 + (-1 : Int32)))]) rfl ?_
    refine bs_goto C (bf_dk dd_X9_reportsLeaf 82 rfl) (tgt := 109) rfl ?_
    exact bs_weak (bf_s1 (bf_s1 (bf_s1 bf_s0))) (hB109 (x1) ((x2 + (-1 : Int32))) u8 h)
def wp_X9_reportsLeaf_109 (S : bT9) (x1 : Int32) (x2 : Int32) (Q : (bT9) → Prop) : Prop := ∃ I : Nat → Int32 → Int32 → (bT9) → Prop, (∃ n : Nat, I n x1 x2 S) ∧ ∀ (n : Nat) (x1 : Int32) (x2 : Int32) (S : bT9), I n x1 x2 S → wp_X9_reportsLeaf_109b S x1 x2 Q (fun x1 x2 S => ∃ n2 : Nat, n2 < n ∧ I n2 x1 x2 S)
theorem t_X9_reportsLeaf_109 {X : bf_X} (C : bf_C X RX9 cX9_reportsLeaf 3 none) (hR : bf_Rm X 3 70) (S : bT9) (x1 : Int32) (x2 : Int32) (Q : (bT9) → Prop) (h : wp_X9_reportsLeaf_109 S x1 x2 Q) : bf_A X (bf_Zv X bW9 Q) 3 109 [some (.ref 0), some (.int x1), some (.int x2)] [] (bW9 S) := by
  obtain ⟨I, ⟨n0, h0⟩, hI⟩ := h
  have key : ∀ (n : Nat) (x1 : Int32) (x2 : Int32) (S : bT9), I n x1 x2 S → bf_A X (bf_Zv X bW9 Q) 3 109 [some (.ref 0), some (.int x1), some (.int x2)] [] (bW9 S) := by
    intro n
    induction n using Nat.strongRecOn with
    | _ n ih =>
      intro x1 x2 S hi
      exact t_X9_reportsLeaf_109b C hR S x1 x2 Q _ (fun x1 x2 S hb => by obtain ⟨n2, hn, hi2⟩ := hb; exact ih n2 hn x1 x2 S hi2) (hI n x1 x2 S hi)
  exact key n0 x1 x2 S h0
def wp_X9_reportsLeaf_88 (S : bT9) (x1 : Int32) (Q : (bT9) → Prop) : Prop := (wp_X9_nextBits S (fun r9 => ((¬ r9 = 0 → (wp_X9_says S ((47 : Int32)) (fun u12 => (wp_X9_nextBits u12 (fun r13 => (wp_X9_reportsLeaf_109 u12 (x1) ((r13 - (1 : Int32))) Q)))))) ∧ (r9 = 0 → (Q S)))))
set_option maxRecDepth 20000 in
theorem t_X9_reportsLeaf_88 {X : bf_X} (C : bf_C X RX9 cX9_reportsLeaf 3 none) (hR : bf_Rm X 3 70) (S : bT9) (x1 : Int32) (Q : (bT9) → Prop) (h : wp_X9_reportsLeaf_88 S x1 Q) : bf_A X (bf_Zv X bW9 Q) 3 88 [some (.ref 0), some (.int x1), none] [] (bW9 S) := by
  unfold wp_X9_reportsLeaf_88 at h
  refine bs_aload_n C (bf_dk dd_X9_reportsLeaf 48 rfl) rfl ?_
  refine bs_selfPV_i C hR (c_X9_nextBits _ _ _ _ _ S _ h) my_X9_nextBits m_9_313 rfl cl_9 (ge_bW9_0 _) rfl (Nat.le_of_ble_eq_true rfl) (Nat.le_of_ble_eq_true rfl) (st := []) (Nat.le_of_ble_eq_true rfl) (bf_dk dd_X9_reportsLeaf 49 rfl) rfl (fun r9 h => ?_)
  refine bs_if_ne C (bf_dk dd_X9_reportsLeaf 50 rfl) (tgt := 96) rfl (fun c => ?_) (fun c => ?_)
  · replace h := h.1 c
    refine bs_aload_n C (bf_dk dd_X9_reportsLeaf 52 rfl) rfl ?_
    refine bs_bipush C (bf_dk dd_X9_reportsLeaf 53 rfl) (47 : Int32) (by decide) ?_
    refine bs_selfV_v C hR (c_X9_says _ _ _ _ _ S ((47 : Int32)) _ h) my_X9_says m_9_434 rfl cl_9 (ge_bW9_0 _) rfl (Nat.le_of_ble_eq_true rfl) (Nat.le_of_ble_eq_true rfl) (st := []) (Nat.le_of_ble_eq_true rfl) (bf_dk dd_X9_reportsLeaf 54 rfl) rfl (len := 21) (fun _ => rfl) (fun u12 h => ?_)
    refine bs_aload_n C (bf_dk dd_X9_reportsLeaf 55 rfl) rfl ?_
    refine bs_selfPV_i C hR (c_X9_nextBits _ _ _ _ _ u12 _ h) my_X9_nextBits m_9_313 rfl cl_9 (ge_bW9_0 _) rfl (Nat.le_of_ble_eq_true rfl) (Nat.le_of_ble_eq_true rfl) (st := []) (Nat.le_of_ble_eq_true rfl) (bf_dk dd_X9_reportsLeaf 56 rfl) rfl (fun r13 h => ?_)
    refine bs_iconst C (bf_dk dd_X9_reportsLeaf 57 rfl) (1 : Int32) (by decide) ?_
    refine bs_isub C (bf_dk dd_X9_reportsLeaf 58 rfl) ?_
    refine bs_istore_n C (bf_dk dd_X9_reportsLeaf 59 rfl) rfl (Nat.le_of_ble_eq_true rfl) (Nat.le_of_ble_eq_true rfl) (lv2 := [some (.ref 0), some (.int x1), some (.int (r13 - (1 : Int32)))]) rfl ?_
    exact bs_weak (bf_s1 (bf_s1 (bf_s1 bf_s0))) (t_X9_reportsLeaf_109 C hR u12 (x1) ((r13 - (1 : Int32))) Q h)
  · replace h := h.2 c
    exact bs_vret (u := S) C (bf_dk dd_X9_reportsLeaf 51 rfl) rfl h
def wp_X9_reportsLeaf_66 (S : bT9) (x1 : Int32) (Q : (bT9) → Prop) : Prop := (wp_X9_hashBits S (fun r15 => ((r15 ≤ 0 → (wp_X9_reportsLeaf_88 S (x1) Q)) ∧ (¬ r15 ≤ 0 → (wp_X9_says S ((35 : Int32)) (fun u18 => (wp_X9_hashOf u18 (x1) (fun r19 => (wp_X9_saysNumber u18 (r19) (fun u22 => (wp_X9_reportsLeaf_88 u22 (x1) Q)))))))))))
set_option maxRecDepth 20000 in
theorem t_X9_reportsLeaf_66 {X : bf_X} (C : bf_C X RX9 cX9_reportsLeaf 3 none) (hR : bf_Rm X 3 70) (S : bT9) (x1 : Int32) (Q : (bT9) → Prop) (h : wp_X9_reportsLeaf_66 S x1 Q) : bf_A X (bf_Zv X bW9 Q) 3 66 [some (.ref 0), some (.int x1), none] [] (bW9 S) := by
  unfold wp_X9_reportsLeaf_66 at h
  refine bs_aload_n C (bf_dk dd_X9_reportsLeaf 37 rfl) rfl ?_
  refine bs_selfPV_i C hR (c_X9_hashBits _ _ _ _ _ S _ h) my_X9_hashBits m_9_310 rfl cl_9 (ge_bW9_0 _) rfl (Nat.le_of_ble_eq_true rfl) (Nat.le_of_ble_eq_true rfl) (st := []) (Nat.le_of_ble_eq_true rfl) (bf_dk dd_X9_reportsLeaf 38 rfl) rfl (fun r15 h => ?_)
  refine bs_if_le C (bf_dk dd_X9_reportsLeaf 39 rfl) (tgt := 88) rfl (fun c => ?_) (fun c => ?_)
  · replace h := h.1 c
    exact bs_weak (bf_s1 (bf_s1 (bf_sn bf_s0))) (t_X9_reportsLeaf_88 C hR S (x1) Q h)
  · replace h := h.2 c
    refine bs_aload_n C (bf_dk dd_X9_reportsLeaf 40 rfl) rfl ?_
    refine bs_bipush C (bf_dk dd_X9_reportsLeaf 41 rfl) (35 : Int32) (by decide) ?_
    refine bs_selfV_v C hR (c_X9_says _ _ _ _ _ S ((35 : Int32)) _ h) my_X9_says m_9_434 rfl cl_9 (ge_bW9_0 _) rfl (Nat.le_of_ble_eq_true rfl) (Nat.le_of_ble_eq_true rfl) (st := []) (Nat.le_of_ble_eq_true rfl) (bf_dk dd_X9_reportsLeaf 42 rfl) rfl (len := 21) (fun _ => rfl) (fun u18 h => ?_)
    refine bs_aload_n C (bf_dk dd_X9_reportsLeaf 43 rfl) rfl ?_
    refine bs_aload_n C (bf_dk dd_X9_reportsLeaf 44 rfl) rfl ?_
    refine bs_iload_n C (bf_dk dd_X9_reportsLeaf 45 rfl) rfl ?_
    refine bs_selfPV_i C hR (c_X9_hashOf _ _ _ _ _ u18 (x1) _ h) my_X9_hashOf m_9_366 rfl cl_9 (ge_bW9_0 _) rfl (Nat.le_of_ble_eq_true rfl) (Nat.le_of_ble_eq_true rfl) (st := [.ref 0]) (Nat.le_of_ble_eq_true rfl) (bf_dk dd_X9_reportsLeaf 46 rfl) rfl (fun r19 h => ?_)
    refine bs_selfV_v C hR (c_X9_saysNumber _ _ _ _ _ u18 (r19) _ h) my_X9_saysNumber m_9_437 rfl cl_9 (ge_bW9_0 _) rfl (Nat.le_of_ble_eq_true rfl) (Nat.le_of_ble_eq_true rfl) (st := []) (Nat.le_of_ble_eq_true rfl) (bf_dk dd_X9_reportsLeaf 47 rfl) rfl (len := 21) (fun _ => rfl) (fun u22 h => ?_)
    exact bs_weak (bf_s1 (bf_s1 (bf_sn bf_s0))) (t_X9_reportsLeaf_88 C hR u22 (x1) Q h)
def wp_X9_reportsLeaf_2b (S : bT9) (x1 : Int32) (x2 : Int32) (Q : (bT9) → Prop) (B2 : Int32 → Int32 → (bT9) → Prop) : Prop := (vp_in x1 64 ∧ ((((b9g_beginning S) (x1).toNatClampNeg) ≤ x2 → (wp_X9_isEnded S (x1) (fun r23 => ((r23 = 0 → (wp_X9_reportsLeaf_66 S (x1) Q)) ∧ (¬ r23 = 0 → (wp_X9_says S ((36 : Int32)) (fun u26 => (wp_X9_reportsLeaf_66 u26 (x1) Q)))))))) ∧ (¬ ((b9g_beginning S) (x1).toNatClampNeg) ≤ x2 → (wp_X9_key S (x1) (fun r27 => (wp_X9_byteOf S (r27) (x2) (fun r29 => (¬ (16 : Int32) = 0 ∧ (wp_X9_saysHex S ((r29 / (16 : Int32))) (fun u32 => (wp_X9_key u32 (x1) (fun r33 => (wp_X9_byteOf u32 (r33) (x2) (fun r35 => (¬ (16 : Int32) = 0 ∧ (wp_X9_saysHex u32 ((r35 - r35 / (16 : Int32) * (16 : Int32))) (fun u38 => (B2 (x1) ((x2 + (1 : Int32))) u38))))))))))))))))))
set_option maxRecDepth 20000 in
theorem t_X9_reportsLeaf_2b {X : bf_X} (C : bf_C X RX9 cX9_reportsLeaf 3 none) (hR : bf_Rm X 3 70) (S : bT9) (x1 : Int32) (x2 : Int32) (Q : (bT9) → Prop) (B2 : Int32 → Int32 → (bT9) → Prop) (hB2 : ∀ (x1 : Int32) (x2 : Int32) (S : bT9), B2 x1 x2 S → bf_A X (bf_Zv X bW9 Q) 3 2 [some (.ref 0), some (.int x1), some (.int x2)] [] (bW9 S)) (h : wp_X9_reportsLeaf_2b S x1 x2 Q B2) : bf_A X (bf_Zv X bW9 Q) 3 2 [some (.ref 0), some (.int x1), some (.int x2)] [] (bW9 S) := by
  unfold wp_X9_reportsLeaf_2b at h
  refine bs_iload_n C (bf_dk dd_X9_reportsLeaf 2 rfl) rfl ?_
  refine bs_aload_n C (bf_dk dd_X9_reportsLeaf 3 rfl) rfl ?_
  refine bs_get C (bf_dk dd_X9_reportsLeaf 4 rfl) cl_9 in_9 11 (Nat.le_of_ble_eq_true rfl) rfl f_9_29 (ge_bW9_0 S) rfl ?_
  refine bs_iload_n C (bf_dk dd_X9_reportsLeaf 5 rfl) rfl ?_
  obtain ⟨hi, h⟩ := h
  refine bs_iald C (bf_dk dd_X9_reportsLeaf 6 rfl) (ge_bW9_7 S) hi ?_
  refine bs_icmp_ge C (bf_dk dd_X9_reportsLeaf 7 rfl) (tgt := 52) rfl (fun c => ?_) (fun c => ?_)
  · replace h := h.1 c
    refine bs_aload_n C (bf_dk dd_X9_reportsLeaf 30 rfl) rfl ?_
    refine bs_iload_n C (bf_dk dd_X9_reportsLeaf 31 rfl) rfl ?_
    refine bs_selfPV_i C hR (c_X9_isEnded _ _ _ _ _ S (x1) _ h) my_X9_isEnded m_9_283 rfl cl_9 (ge_bW9_0 _) rfl (Nat.le_of_ble_eq_true rfl) (Nat.le_of_ble_eq_true rfl) (st := []) (Nat.le_of_ble_eq_true rfl) (bf_dk dd_X9_reportsLeaf 32 rfl) rfl (fun r23 h => ?_)
    refine bs_if_eq C (bf_dk dd_X9_reportsLeaf 33 rfl) (tgt := 66) rfl (fun c => ?_) (fun c => ?_)
    · replace h := h.1 c
      exact bs_weak (bf_s1 (bf_s1 (bf_sn bf_s0))) (t_X9_reportsLeaf_66 C hR S (x1) Q h)
    · replace h := h.2 c
      refine bs_aload_n C (bf_dk dd_X9_reportsLeaf 34 rfl) rfl ?_
      refine bs_bipush C (bf_dk dd_X9_reportsLeaf 35 rfl) (36 : Int32) (by decide) ?_
      refine bs_selfV_v C hR (c_X9_says _ _ _ _ _ S ((36 : Int32)) _ h) my_X9_says m_9_434 rfl cl_9 (ge_bW9_0 _) rfl (Nat.le_of_ble_eq_true rfl) (Nat.le_of_ble_eq_true rfl) (st := []) (Nat.le_of_ble_eq_true rfl) (bf_dk dd_X9_reportsLeaf 36 rfl) rfl (len := 21) (fun _ => rfl) (fun u26 h => ?_)
      exact bs_weak (bf_s1 (bf_s1 (bf_sn bf_s0))) (t_X9_reportsLeaf_66 C hR u26 (x1) Q h)
  · replace h := h.2 c
    refine bs_aload_n C (bf_dk dd_X9_reportsLeaf 8 rfl) rfl ?_
    refine bs_aload_n C (bf_dk dd_X9_reportsLeaf 9 rfl) rfl ?_
    refine bs_aload_n C (bf_dk dd_X9_reportsLeaf 10 rfl) rfl ?_
    refine bs_iload_n C (bf_dk dd_X9_reportsLeaf 11 rfl) rfl ?_
    refine bs_selfPV_l C hR (c_X9_key _ _ _ _ _ S (x1) _ h) my_X9_key m_9_178 rfl cl_9 (ge_bW9_0 _) rfl (Nat.le_of_ble_eq_true rfl) (Nat.le_of_ble_eq_true rfl) (st := [.ref 0, .ref 0]) (Nat.le_of_ble_eq_true rfl) (bf_dk dd_X9_reportsLeaf 12 rfl) rfl (fun r27 h => ?_)
    refine bs_iload_n C (bf_dk dd_X9_reportsLeaf 13 rfl) rfl ?_
    refine bs_selfPV_i C hR (c_X9_byteOf _ _ _ _ _ S (r27) (x2) _ h) my_X9_byteOf m_9_181 rfl cl_9 (ge_bW9_0 _) rfl (Nat.le_of_ble_eq_true rfl) (Nat.le_of_ble_eq_true rfl) (st := [.ref 0]) (Nat.le_of_ble_eq_true rfl) (bf_dk dd_X9_reportsLeaf 14 rfl) rfl (fun r29 h => ?_)
    refine bs_bipush C (bf_dk dd_X9_reportsLeaf 15 rfl) (16 : Int32) (by decide) ?_
    obtain ⟨hi, h⟩ := h
    refine bs_idiv C (bf_dk dd_X9_reportsLeaf 16 rfl) hi ?_
    refine bs_selfV_v C hR (c_X9_saysHex _ _ _ _ _ S ((r29 / (16 : Int32))) _ h) my_X9_saysHex m_9_440 rfl cl_9 (ge_bW9_0 _) rfl (Nat.le_of_ble_eq_true rfl) (Nat.le_of_ble_eq_true rfl) (st := []) (Nat.le_of_ble_eq_true rfl) (bf_dk dd_X9_reportsLeaf 17 rfl) rfl (len := 21) (fun _ => rfl) (fun u32 h => ?_)
    refine bs_aload_n C (bf_dk dd_X9_reportsLeaf 18 rfl) rfl ?_
    refine bs_aload_n C (bf_dk dd_X9_reportsLeaf 19 rfl) rfl ?_
    refine bs_aload_n C (bf_dk dd_X9_reportsLeaf 20 rfl) rfl ?_
    refine bs_iload_n C (bf_dk dd_X9_reportsLeaf 21 rfl) rfl ?_
    refine bs_selfPV_l C hR (c_X9_key _ _ _ _ _ u32 (x1) _ h) my_X9_key m_9_178 rfl cl_9 (ge_bW9_0 _) rfl (Nat.le_of_ble_eq_true rfl) (Nat.le_of_ble_eq_true rfl) (st := [.ref 0, .ref 0]) (Nat.le_of_ble_eq_true rfl) (bf_dk dd_X9_reportsLeaf 22 rfl) rfl (fun r33 h => ?_)
    refine bs_iload_n C (bf_dk dd_X9_reportsLeaf 23 rfl) rfl ?_
    refine bs_selfPV_i C hR (c_X9_byteOf _ _ _ _ _ u32 (r33) (x2) _ h) my_X9_byteOf m_9_181 rfl cl_9 (ge_bW9_0 _) rfl (Nat.le_of_ble_eq_true rfl) (Nat.le_of_ble_eq_true rfl) (st := [.ref 0]) (Nat.le_of_ble_eq_true rfl) (bf_dk dd_X9_reportsLeaf 24 rfl) rfl (fun r35 h => ?_)
    refine bs_bipush C (bf_dk dd_X9_reportsLeaf 25 rfl) (16 : Int32) (by decide) ?_
    obtain ⟨hi, h⟩ := h
    refine bs_irem C (bf_dk dd_X9_reportsLeaf 26 rfl) hi ?_
    refine bs_selfV_v C hR (c_X9_saysHex _ _ _ _ _ u32 ((r35 - r35 / (16 : Int32) * (16 : Int32))) _ h) my_X9_saysHex m_9_440 rfl cl_9 (ge_bW9_0 _) rfl (Nat.le_of_ble_eq_true rfl) (Nat.le_of_ble_eq_true rfl) (st := []) (Nat.le_of_ble_eq_true rfl) (bf_dk dd_X9_reportsLeaf 27 rfl) rfl (len := 21) (fun _ => rfl) (fun u38 h => ?_)
    refine bs_iinc C (bf_dk dd_X9_reportsLeaf 28 rfl) (x2 + (1 : Int32)) rfl rfl (Nat.le_of_ble_eq_true rfl) (Nat.le_of_ble_eq_true rfl) (lv2 := [some (.ref 0), some (.int x1), some (.int (x2 + (1 : Int32)))]) rfl ?_
    refine bs_goto C (bf_dk dd_X9_reportsLeaf 29 rfl) (tgt := 2) rfl ?_
    exact bs_weak (bf_s1 (bf_s1 (bf_s1 bf_s0))) (hB2 (x1) ((x2 + (1 : Int32))) u38 h)
def wp_X9_reportsLeaf_2 (S : bT9) (x1 : Int32) (x2 : Int32) (Q : (bT9) → Prop) : Prop := ∃ I : Nat → Int32 → Int32 → (bT9) → Prop, (∃ n : Nat, I n x1 x2 S) ∧ ∀ (n : Nat) (x1 : Int32) (x2 : Int32) (S : bT9), I n x1 x2 S → wp_X9_reportsLeaf_2b S x1 x2 Q (fun x1 x2 S => ∃ n2 : Nat, n2 < n ∧ I n2 x1 x2 S)
theorem t_X9_reportsLeaf_2 {X : bf_X} (C : bf_C X RX9 cX9_reportsLeaf 3 none) (hR : bf_Rm X 3 70) (S : bT9) (x1 : Int32) (x2 : Int32) (Q : (bT9) → Prop) (h : wp_X9_reportsLeaf_2 S x1 x2 Q) : bf_A X (bf_Zv X bW9 Q) 3 2 [some (.ref 0), some (.int x1), some (.int x2)] [] (bW9 S) := by
  obtain ⟨I, ⟨n0, h0⟩, hI⟩ := h
  have key : ∀ (n : Nat) (x1 : Int32) (x2 : Int32) (S : bT9), I n x1 x2 S → bf_A X (bf_Zv X bW9 Q) 3 2 [some (.ref 0), some (.int x1), some (.int x2)] [] (bW9 S) := by
    intro n
    induction n using Nat.strongRecOn with
    | _ n ih =>
      intro x1 x2 S hi
      exact t_X9_reportsLeaf_2b C hR S x1 x2 Q _ (fun x1 x2 S hb => by obtain ⟨n2, hn, hi2⟩ := hb; exact ih n2 hn x1 x2 S hi2) (hI n x1 x2 S hi)
  exact key n0 x1 x2 S h0
def wp_X9_reportsLeaf (S : bT9) (a1 : Int32) (Q : (bT9) → Prop) : Prop := (wp_X9_reportsLeaf_2 S (a1) ((0 : Int32)) Q)
set_option maxRecDepth 20000 in
theorem t_X9_reportsLeaf {X : bf_X} (C : bf_C X RX9 cX9_reportsLeaf 3 none) (hR : bf_Rm X 3 70) (S : bT9) (a1 : Int32) (Q : (bT9) → Prop) (h : wp_X9_reportsLeaf S a1 Q) : bf_A X (bf_Zv X bW9 Q) 3 0 [some (.ref 0), some (.int a1), none] [] (bW9 S) := by
  unfold wp_X9_reportsLeaf at h
  refine bs_iconst C (bf_dk dd_X9_reportsLeaf 0 rfl) (0 : Int32) (by decide) ?_
  refine bs_istore_n C (bf_dk dd_X9_reportsLeaf 1 rfl) rfl (Nat.le_of_ble_eq_true rfl) (Nat.le_of_ble_eq_true rfl) (lv2 := [some (.ref 0), some (.int a1), some (.int (0 : Int32))]) rfl ?_
  exact bs_weak (bf_s1 (bf_s1 (bf_s1 bf_s0))) (t_X9_reportsLeaf_2 C hR S (a1) ((0 : Int32)) Q h)
theorem c_X9_reportsLeaf (l : Launch) (dC : Nat → ClassId) (dI : Nat → Nat → Nat) (ac : Nat → ClassId) (al : Nat → Nat) (S : bT9) (a1 : Int32) (Q : (bT9) → Prop) (h : wp_X9_reportsLeaf S a1 Q) : bf_M l yX9_reportsLeaf cX9_reportsLeaf 3 none 3 70 dC dI ac al [.ref 0, .int a1] (bW9 S) (bf_Kv dC dI ac al bW9 Q) := by
  refine bf_start [some (.ref 0), some (.int a1), none] (by decide) (Nat.le_of_ble_eq_true rfl) (bf_s1 (bf_s1 (bf_en 1))) ?_
  intro X hl C hR e1 e2 e3 e4
  subst e1; subst e2; subst e3; subst e4
  exact t_X9_reportsLeaf C hR S a1 Q h
def wp_X9_report_24 (S : bT9) (x1 : Int32) (Q : Int32 → (bT9) → Prop) : Prop := (∀ S1 : bT9, S1 = (b9s_signMany S (0 : Int32)) → ((¬ x1 = (-1 : Int32) → (wp_X9_reportsLeaf S1 (x1) (fun u3 => (Q (b9g_signMany u3) u3)))) ∧ (x1 = (-1 : Int32) → (wp_X9_reportsAll S1 (fun u5 => (Q (b9g_signMany u5) u5))))))
set_option maxRecDepth 20000 in
theorem t_X9_report_24 {X : bf_X} (C : bf_C X RX9 cX9_report 2 (some .int)) (hR : bf_Rm X 8 182) (S : bT9) (x1 : Int32) (Q : Int32 → (bT9) → Prop) (h : wp_X9_report_24 S x1 Q) : bf_A X (bf_Zi X bW9 Q) 2 24 [some (.ref 0), some (.int x1)] [] (bW9 S) := by
  unfold wp_X9_report_24 at h
  refine bs_aload_n C (bf_dk dd_X9_report 14 rfl) rfl ?_
  refine bs_iconst C (bf_dk dd_X9_report 15 rfl) (0 : Int32) (by decide) ?_
  refine bs_put C (bf_dk dd_X9_report 16 rfl) tyX9_ok nmX9 cl_9 in_9 41 (Nat.le_of_ble_eq_true rfl) rfl f_9_431 rfl (ge_bW9_0 S) (Nat.le_of_ble_eq_true rfl) rfl rfl (pu_bW9_0_41 S (0 : Int32)) ?_
  refine bs_nameS bW9 (fun S1 eS1 => ?_)
  replace h := h S1 eS1
  refine bs_iload_n C (bf_dk dd_X9_report 17 rfl) rfl ?_
  refine bs_iconst C (bf_dk dd_X9_report 18 rfl) (-1 : Int32) (by decide) ?_
  refine bs_icmp_ne C (bf_dk dd_X9_report 19 rfl) (tgt := 41) rfl (fun c => ?_) (fun c => ?_)
  · replace h := h.1 c
    refine bs_aload_n C (bf_dk dd_X9_report 23 rfl) rfl ?_
    refine bs_iload_n C (bf_dk dd_X9_report 24 rfl) rfl ?_
    refine bs_selfV_v C hR (c_X9_reportsLeaf _ _ _ _ _ S1 (x1) _ h) my_X9_reportsLeaf m_9_446 rfl cl_9 (ge_bW9_0 _) rfl (Nat.le_of_ble_eq_true rfl) (Nat.le_of_ble_eq_true rfl) (st := []) (Nat.le_of_ble_eq_true rfl) (bf_dk dd_X9_report 25 rfl) rfl (len := 21) (fun _ => rfl) (fun u3 h => ?_)
    refine bs_aload_n C (bf_dk dd_X9_report 26 rfl) rfl ?_
    refine bs_get C (bf_dk dd_X9_report 27 rfl) cl_9 in_9 41 (Nat.le_of_ble_eq_true rfl) rfl f_9_431 (ge_bW9_0 u3) rfl ?_
    exact bs_iret (u := u3) C (bf_dk dd_X9_report 28 rfl) rfl h
  · replace h := h.2 c
    refine bs_aload_n C (bf_dk dd_X9_report 20 rfl) rfl ?_
    refine bs_selfV_v C hR (c_X9_reportsAll _ _ _ _ _ S1 _ h) my_X9_reportsAll m_9_443 rfl cl_9 (ge_bW9_0 _) rfl (Nat.le_of_ble_eq_true rfl) (Nat.le_of_ble_eq_true rfl) (st := []) (Nat.le_of_ble_eq_true rfl) (bf_dk dd_X9_report 21 rfl) rfl (len := 21) (fun _ => rfl) (fun u5 h => ?_)
    refine bs_goto C (bf_dk dd_X9_report 22 rfl) (tgt := 46) rfl ?_
    refine bs_aload_n C (bf_dk dd_X9_report 26 rfl) rfl ?_
    refine bs_get C (bf_dk dd_X9_report 27 rfl) cl_9 in_9 41 (Nat.le_of_ble_eq_true rfl) rfl f_9_431 (ge_bW9_0 u5) rfl ?_
    exact bs_iret (u := u5) C (bf_dk dd_X9_report 28 rfl) rfl h
def wp_X9_report (S : bT9) (a1 : Int32) (Q : Int32 → (bT9) → Prop) : Prop := (∀ S6 : bT9, S6 = (b9s_told S (0 : Int32)) → (wp_X9_laysNodes S6 (fun u8 => ((a1 = (-1 : Int32) → (wp_X9_report_24 u8 (a1) Q)) ∧ (¬ a1 = (-1 : Int32) → (wp_X9_isLeaf u8 (a1) (fun r9 u10 => ((¬ r9 = 0 → (wp_X9_report_24 u10 (a1) Q)) ∧ (r9 = 0 → (Q (-1 : Int32) u10))))))))))
set_option maxRecDepth 20000 in
theorem t_X9_report {X : bf_X} (C : bf_C X RX9 cX9_report 2 (some .int)) (hR : bf_Rm X 8 182) (S : bT9) (a1 : Int32) (Q : Int32 → (bT9) → Prop) (h : wp_X9_report S a1 Q) : bf_A X (bf_Zi X bW9 Q) 2 0 [some (.ref 0), some (.int a1)] [] (bW9 S) := by
  unfold wp_X9_report at h
  refine bs_aload_n C (bf_dk dd_X9_report 0 rfl) rfl ?_
  refine bs_iconst C (bf_dk dd_X9_report 1 rfl) (0 : Int32) (by decide) ?_
  refine bs_put C (bf_dk dd_X9_report 2 rfl) tyX9_ok nmX9 cl_9 in_9 0 (Nat.le_of_ble_eq_true rfl) rfl f_9_75 rfl (ge_bW9_0 S) (Nat.le_of_ble_eq_true rfl) rfl rfl (pu_bW9_0_0 S (0 : Int32)) ?_
  refine bs_nameS bW9 (fun S6 eS6 => ?_)
  replace h := h S6 eS6
  refine bs_aload_n C (bf_dk dd_X9_report 3 rfl) rfl ?_
  refine bs_selfV_v C hR (c_X9_laysNodes _ _ _ _ _ S6 _ h) my_X9_laysNodes m_9_262 rfl cl_9 (ge_bW9_0 _) rfl (Nat.le_of_ble_eq_true rfl) (Nat.le_of_ble_eq_true rfl) (st := []) (Nat.le_of_ble_eq_true rfl) (bf_dk dd_X9_report 4 rfl) rfl (len := 21) (fun _ => rfl) (fun u8 h => ?_)
  refine bs_iload_n C (bf_dk dd_X9_report 5 rfl) rfl ?_
  refine bs_iconst C (bf_dk dd_X9_report 6 rfl) (-1 : Int32) (by decide) ?_
  refine bs_icmp_eq C (bf_dk dd_X9_report 7 rfl) (tgt := 24) rfl (fun c => ?_) (fun c => ?_)
  · replace h := h.1 c
    exact bs_weak (bf_s1 (bf_s1 bf_s0)) (t_X9_report_24 C hR u8 (a1) Q h)
  · replace h := h.2 c
    refine bs_aload_n C (bf_dk dd_X9_report 8 rfl) rfl ?_
    refine bs_iload_n C (bf_dk dd_X9_report 9 rfl) rfl ?_
    refine bs_selfV_i C hR (c_X9_isLeaf _ _ _ _ _ u8 (a1) _ h) my_X9_isLeaf m_9_363 rfl cl_9 (ge_bW9_0 _) rfl (Nat.le_of_ble_eq_true rfl) (Nat.le_of_ble_eq_true rfl) (st := []) (Nat.le_of_ble_eq_true rfl) (bf_dk dd_X9_report 10 rfl) rfl (len := 21) (fun _ => rfl) (fun r9 u10 h => ?_)
    refine bs_if_ne C (bf_dk dd_X9_report 11 rfl) (tgt := 24) rfl (fun c => ?_) (fun c => ?_)
    · replace h := h.1 c
      exact bs_weak (bf_s1 (bf_s1 bf_s0)) (t_X9_report_24 C hR u10 (a1) Q h)
    · replace h := h.2 c
      refine bs_iconst C (bf_dk dd_X9_report 12 rfl) (-1 : Int32) (by decide) ?_
      exact bs_iret (u := u10) C (bf_dk dd_X9_report 13 rfl) rfl h
theorem c_X9_report (l : Launch) (dC : Nat → ClassId) (dI : Nat → Nat → Nat) (ac : Nat → ClassId) (al : Nat → Nat) (S : bT9) (a1 : Int32) (Q : Int32 → (bT9) → Prop) (h : wp_X9_report S a1 Q) : bf_M l yX9_report cX9_report 2 (some .int) 8 182 dC dI ac al [.ref 0, .int a1] (bW9 S) (bf_Ki dC dI ac al bW9 Q) := by
  refine bf_start [some (.ref 0), some (.int a1)] (by decide) (Nat.le_of_ble_eq_true rfl) (bf_s1 (bf_s1 bf_s0)) ?_
  intro X hl C hR e1 e2 e3 e4
  subst e1; subst e2; subst e3; subst e4
  exact t_X9_report C hR S a1 Q h
def wp_X9_sign (S : bT9) (a1 : Int32) (Q : Int32 → (bT9) → Prop) : Prop := (∀ S1 : bT9, S1 = (b9s_told S (0 : Int32)) → (wp_X9_isIn S1 (a1) ((0 : Int32)) (((b9g_signMany S1) - (1 : Int32))) (fun r2 => ((r2 = 0 → (Q (-1 : Int32) S1)) ∧ (¬ r2 = 0 → (vp_in a1 200 ∧ (Q ((b9g_signs S1) (a1).toNatClampNeg) S1)))))))
set_option maxRecDepth 20000 in
theorem t_X9_sign {X : bf_X} (C : bf_C X RX9 cX9_sign 2 (some .int)) (hR : bf_Rm X 1 23) (S : bT9) (a1 : Int32) (Q : Int32 → (bT9) → Prop) (h : wp_X9_sign S a1 Q) : bf_A X (bf_Zi X bW9 Q) 2 0 [some (.ref 0), some (.int a1)] [] (bW9 S) := by
  unfold wp_X9_sign at h
  refine bs_aload_n C (bf_dk dd_X9_sign 0 rfl) rfl ?_
  refine bs_iconst C (bf_dk dd_X9_sign 1 rfl) (0 : Int32) (by decide) ?_
  refine bs_put C (bf_dk dd_X9_sign 2 rfl) tyX9_ok nmX9 cl_9 in_9 0 (Nat.le_of_ble_eq_true rfl) rfl f_9_75 rfl (ge_bW9_0 S) (Nat.le_of_ble_eq_true rfl) rfl rfl (pu_bW9_0_0 S (0 : Int32)) ?_
  refine bs_nameS bW9 (fun S1 eS1 => ?_)
  replace h := h S1 eS1
  refine bs_aload_n C (bf_dk dd_X9_sign 3 rfl) rfl ?_
  refine bs_iload_n C (bf_dk dd_X9_sign 4 rfl) rfl ?_
  refine bs_iconst C (bf_dk dd_X9_sign 5 rfl) (0 : Int32) (by decide) ?_
  refine bs_aload_n C (bf_dk dd_X9_sign 6 rfl) rfl ?_
  refine bs_get C (bf_dk dd_X9_sign 7 rfl) cl_9 in_9 41 (Nat.le_of_ble_eq_true rfl) rfl f_9_431 (ge_bW9_0 S1) rfl ?_
  refine bs_iconst C (bf_dk dd_X9_sign 8 rfl) (1 : Int32) (by decide) ?_
  refine bs_isub C (bf_dk dd_X9_sign 9 rfl) ?_
  refine bs_selfPV_i C hR (c_X9_isIn _ _ _ _ _ S1 (a1) ((0 : Int32)) (((b9g_signMany S1) - (1 : Int32))) _ h) my_X9_isIn m_9_82 rfl cl_9 (ge_bW9_0 _) rfl (Nat.le_of_ble_eq_true rfl) (Nat.le_of_ble_eq_true rfl) (st := []) (Nat.le_of_ble_eq_true rfl) (bf_dk dd_X9_sign 10 rfl) rfl (fun r2 h => ?_)
  refine bs_if_eq C (bf_dk dd_X9_sign 11 rfl) (tgt := 29) rfl (fun c => ?_) (fun c => ?_)
  · replace h := h.1 c
    refine bs_iconst C (bf_dk dd_X9_sign 17 rfl) (-1 : Int32) (by decide) ?_
    exact bs_iret (u := S1) C (bf_dk dd_X9_sign 18 rfl) rfl h
  · replace h := h.2 c
    refine bs_aload_n C (bf_dk dd_X9_sign 12 rfl) rfl ?_
    refine bs_get C (bf_dk dd_X9_sign 13 rfl) cl_9 in_9 40 (Nat.le_of_ble_eq_true rfl) rfl f_9_63 (ge_bW9_0 S1) rfl ?_
    refine bs_iload_n C (bf_dk dd_X9_sign 14 rfl) rfl ?_
    obtain ⟨hi, h⟩ := h
    refine bs_iald C (bf_dk dd_X9_sign 15 rfl) (ge_bW9_17 S1) hi ?_
    refine bs_goto C (bf_dk dd_X9_sign 16 rfl) (tgt := 30) rfl ?_
    exact bs_iret (u := S1) C (bf_dk dd_X9_sign 18 rfl) rfl h
theorem c_X9_sign (l : Launch) (dC : Nat → ClassId) (dI : Nat → Nat → Nat) (ac : Nat → ClassId) (al : Nat → Nat) (S : bT9) (a1 : Int32) (Q : Int32 → (bT9) → Prop) (h : wp_X9_sign S a1 Q) : bf_M l yX9_sign cX9_sign 2 (some .int) 1 23 dC dI ac al [.ref 0, .int a1] (bW9 S) (bf_Ki dC dI ac al bW9 Q) := by
  refine bf_start [some (.ref 0), some (.int a1)] (by decide) (Nat.le_of_ble_eq_true rfl) (bf_s1 (bf_s1 bf_s0)) ?_
  intro X hl C hR e1 e2 e3 e4
  subst e1; subst e2; subst e3; subst e4
  exact t_X9_sign C hR S a1 Q h
def wp_X9_image_149 (S : bT9) (x1 : Int32) (x2 : Int32) (Q : Int32 → (bT9) → Prop) (B80 : Int32 → Int32 → (bT9) → Prop) : Prop := (B80 (x1) ((x2 + (1 : Int32))) S)
set_option maxRecDepth 20000 in
theorem t_X9_image_149 {X : bf_X} (C : bf_C X RX9 cX9_image 3 (some .boolean)) (hR : bf_Rm X 0 0) (S : bT9) (x1 : Int32) (x2 : Int32) (Q : Int32 → (bT9) → Prop) (B80 : Int32 → Int32 → (bT9) → Prop) (hB80 : ∀ (x1 : Int32) (x2 : Int32) (S : bT9), B80 x1 x2 S → bf_A X (bf_Zi X bW9 Q) 3 80 [some (.ref 0), some (.int x1), some (.int x2)] [] (bW9 S)) (h : wp_X9_image_149 S x1 x2 Q B80) : bf_A X (bf_Zi X bW9 Q) 3 149 [some (.ref 0), some (.int x1), some (.int x2)] [] (bW9 S) := by
  unfold wp_X9_image_149 at h
  refine bs_iinc C (bf_dk dd_X9_image 88 rfl) (x2 + (1 : Int32)) rfl rfl (Nat.le_of_ble_eq_true rfl) (Nat.le_of_ble_eq_true rfl) (lv2 := [some (.ref 0), some (.int x1), some (.int (x2 + (1 : Int32)))]) rfl ?_
  refine bs_goto C (bf_dk dd_X9_image 89 rfl) (tgt := 80) rfl ?_
  exact bs_weak (bf_s1 (bf_s1 (bf_s1 bf_s0))) (hB80 (x1) ((x2 + (1 : Int32))) S h)
def wp_X9_image_118 (S : bT9) (x1 : Int32) (x2 : Int32) (Q : Int32 → (bT9) → Prop) (B80 : Int32 → Int32 → (bT9) → Prop) : Prop := ((x1 = 0 → (vp_in x2 144 ∧ (vp_in x2 144 ∧ (∀ S1 : bT9, S1 = (b9s_lengths S (upd (b9g_lengths S) (x2).toNatClampNeg ((b9g_lengthImages S) (x2).toNatClampNeg))) → (wp_X9_image_149 S1 (x1) (x2) Q B80))))) ∧ (¬ x1 = 0 → (vp_in x2 144 ∧ (vp_in x2 144 ∧ (∀ S2 : bT9, S2 = (b9s_lengthImages S (upd (b9g_lengthImages S) (x2).toNatClampNeg ((b9g_lengths S) (x2).toNatClampNeg))) → (wp_X9_image_149 S2 (x1) (x2) Q B80))))))
set_option maxRecDepth 20000 in
theorem t_X9_image_118 {X : bf_X} (C : bf_C X RX9 cX9_image 3 (some .boolean)) (hR : bf_Rm X 0 0) (S : bT9) (x1 : Int32) (x2 : Int32) (Q : Int32 → (bT9) → Prop) (B80 : Int32 → Int32 → (bT9) → Prop) (hB80 : ∀ (x1 : Int32) (x2 : Int32) (S : bT9), B80 x1 x2 S → bf_A X (bf_Zi X bW9 Q) 3 80 [some (.ref 0), some (.int x1), some (.int x2)] [] (bW9 S)) (h : wp_X9_image_118 S x1 x2 Q B80) : bf_A X (bf_Zi X bW9 Q) 3 118 [some (.ref 0), some (.int x1), some (.int x2)] [] (bW9 S) := by
  unfold wp_X9_image_118 at h
  refine bs_iload_n C (bf_dk dd_X9_image 69 rfl) rfl ?_
  refine bs_if_eq C (bf_dk dd_X9_image 70 rfl) (tgt := 137) rfl (fun c => ?_) (fun c => ?_)
  · replace h := h.1 c
    refine bs_aload_n C (bf_dk dd_X9_image 80 rfl) rfl ?_
    refine bs_get C (bf_dk dd_X9_image 81 rfl) cl_9 in_9 3 (Nat.le_of_ble_eq_true rfl) rfl f_9_17 (ge_bW9_0 S) rfl ?_
    refine bs_iload_n C (bf_dk dd_X9_image 82 rfl) rfl ?_
    refine bs_aload_n C (bf_dk dd_X9_image 83 rfl) rfl ?_
    refine bs_get C (bf_dk dd_X9_image 84 rfl) cl_9 in_9 45 (Nat.le_of_ble_eq_true rfl) rfl f_9_72 (ge_bW9_0 S) rfl ?_
    refine bs_iload_n C (bf_dk dd_X9_image 85 rfl) rfl ?_
    obtain ⟨hi, h⟩ := h
    refine bs_iald C (bf_dk dd_X9_image 86 rfl) (ge_bW9_20 S) hi ?_
    obtain ⟨hi, h⟩ := h
    refine bs_iast C (bf_dk dd_X9_image 87 rfl) (ge_bW9_3 S) hi (ar_bW9_3 S _) ?_
    refine bs_nameS bW9 (fun S1 eS1 => ?_)
    replace h := h S1 eS1
    exact bs_weak (bf_s1 (bf_s1 (bf_s1 bf_s0))) (t_X9_image_149 C hR S1 (x1) (x2) Q B80 hB80 h)
  · replace h := h.2 c
    refine bs_aload_n C (bf_dk dd_X9_image 71 rfl) rfl ?_
    refine bs_get C (bf_dk dd_X9_image 72 rfl) cl_9 in_9 45 (Nat.le_of_ble_eq_true rfl) rfl f_9_72 (ge_bW9_0 S) rfl ?_
    refine bs_iload_n C (bf_dk dd_X9_image 73 rfl) rfl ?_
    refine bs_aload_n C (bf_dk dd_X9_image 74 rfl) rfl ?_
    refine bs_get C (bf_dk dd_X9_image 75 rfl) cl_9 in_9 3 (Nat.le_of_ble_eq_true rfl) rfl f_9_17 (ge_bW9_0 S) rfl ?_
    refine bs_iload_n C (bf_dk dd_X9_image 76 rfl) rfl ?_
    obtain ⟨hi, h⟩ := h
    refine bs_iald C (bf_dk dd_X9_image 77 rfl) (ge_bW9_3 S) hi ?_
    obtain ⟨hi, h⟩ := h
    refine bs_iast C (bf_dk dd_X9_image 78 rfl) (ge_bW9_20 S) hi (ar_bW9_20 S _) ?_
    refine bs_nameS bW9 (fun S2 eS2 => ?_)
    replace h := h S2 eS2
    refine bs_goto C (bf_dk dd_X9_image 79 rfl) (tgt := 149) rfl ?_
    exact bs_weak (bf_s1 (bf_s1 (bf_s1 bf_s0))) (t_X9_image_149 C hR S2 (x1) (x2) Q B80 hB80 h)
def wp_X9_image_80b (S : bT9) (x1 : Int32) (x2 : Int32) (Q : Int32 → (bT9) → Prop) (B80 : Int32 → Int32 → (bT9) → Prop) : Prop := (((144 : Int32) ≤ x2 → (bf_bool (1 : Int32) ∧ Q (1 : Int32) S)) ∧ (¬ (144 : Int32) ≤ x2 → ((x1 = 0 → (vp_in x2 144 ∧ (vp_in x2 144 ∧ (∀ S3 : bT9, S3 = (b9s_keys S (vp_updL (b9g_keys S) (x2).toNatClampNeg ((b9g_keyImages S) (x2).toNatClampNeg))) → (wp_X9_image_118 S3 (x1) (x2) Q B80))))) ∧ (¬ x1 = 0 → (vp_in x2 144 ∧ (vp_in x2 144 ∧ (∀ S4 : bT9, S4 = (b9s_keyImages S (vp_updL (b9g_keyImages S) (x2).toNatClampNeg ((b9g_keys S) (x2).toNatClampNeg))) → (wp_X9_image_118 S4 (x1) (x2) Q B80))))))))
set_option maxRecDepth 20000 in
theorem t_X9_image_80b {X : bf_X} (C : bf_C X RX9 cX9_image 3 (some .boolean)) (hR : bf_Rm X 0 0) (S : bT9) (x1 : Int32) (x2 : Int32) (Q : Int32 → (bT9) → Prop) (B80 : Int32 → Int32 → (bT9) → Prop) (hB80 : ∀ (x1 : Int32) (x2 : Int32) (S : bT9), B80 x1 x2 S → bf_A X (bf_Zi X bW9 Q) 3 80 [some (.ref 0), some (.int x1), some (.int x2)] [] (bW9 S)) (h : wp_X9_image_80b S x1 x2 Q B80) : bf_A X (bf_Zi X bW9 Q) 3 80 [some (.ref 0), some (.int x1), some (.int x2)] [] (bW9 S) := by
  unfold wp_X9_image_80b at h
  refine bs_iload_n C (bf_dk dd_X9_image 47 rfl) rfl ?_
  refine bs_sipush C (bf_dk dd_X9_image 48 rfl) (144 : Int32) (by decide) ?_
  refine bs_icmp_ge C (bf_dk dd_X9_image 49 rfl) (tgt := 155) rfl (fun c => ?_) (fun c => ?_)
  · replace h := h.1 c
    refine bs_iconst C (bf_dk dd_X9_image 90 rfl) (1 : Int32) (by decide) ?_
    obtain ⟨hi, h⟩ := h
    exact bs_zret (u := S) C (bf_dk dd_X9_image 91 rfl) hi rfl h
  · replace h := h.2 c
    refine bs_iload_n C (bf_dk dd_X9_image 50 rfl) rfl ?_
    refine bs_if_eq C (bf_dk dd_X9_image 51 rfl) (tgt := 106) rfl (fun c => ?_) (fun c => ?_)
    · replace h := h.1 c
      refine bs_aload_n C (bf_dk dd_X9_image 61 rfl) rfl ?_
      refine bs_get C (bf_dk dd_X9_image 62 rfl) cl_9 in_9 2 (Nat.le_of_ble_eq_true rfl) rfl f_9_13 (ge_bW9_0 S) rfl ?_
      refine bs_iload_n C (bf_dk dd_X9_image 63 rfl) rfl ?_
      refine bs_aload_n C (bf_dk dd_X9_image 64 rfl) rfl ?_
      refine bs_get C (bf_dk dd_X9_image 65 rfl) cl_9 in_9 44 (Nat.le_of_ble_eq_true rfl) rfl f_9_69 (ge_bW9_0 S) rfl ?_
      refine bs_iload_n C (bf_dk dd_X9_image 66 rfl) rfl ?_
      obtain ⟨hi, h⟩ := h
      refine bs_lald C (bf_dk dd_X9_image 67 rfl) (ge_bW9_19 S) hi ?_
      obtain ⟨hi, h⟩ := h
      refine bs_last C (bf_dk dd_X9_image 68 rfl) (ge_bW9_2 S) hi (ar_bW9_2 S _) ?_
      refine bs_nameS bW9 (fun S3 eS3 => ?_)
      replace h := h S3 eS3
      exact bs_weak (bf_s1 (bf_s1 (bf_s1 bf_s0))) (t_X9_image_118 C hR S3 (x1) (x2) Q B80 hB80 h)
    · replace h := h.2 c
      refine bs_aload_n C (bf_dk dd_X9_image 52 rfl) rfl ?_
      refine bs_get C (bf_dk dd_X9_image 53 rfl) cl_9 in_9 44 (Nat.le_of_ble_eq_true rfl) rfl f_9_69 (ge_bW9_0 S) rfl ?_
      refine bs_iload_n C (bf_dk dd_X9_image 54 rfl) rfl ?_
      refine bs_aload_n C (bf_dk dd_X9_image 55 rfl) rfl ?_
      refine bs_get C (bf_dk dd_X9_image 56 rfl) cl_9 in_9 2 (Nat.le_of_ble_eq_true rfl) rfl f_9_13 (ge_bW9_0 S) rfl ?_
      refine bs_iload_n C (bf_dk dd_X9_image 57 rfl) rfl ?_
      obtain ⟨hi, h⟩ := h
      refine bs_lald C (bf_dk dd_X9_image 58 rfl) (ge_bW9_2 S) hi ?_
      obtain ⟨hi, h⟩ := h
      refine bs_last C (bf_dk dd_X9_image 59 rfl) (ge_bW9_19 S) hi (ar_bW9_19 S _) ?_
      refine bs_nameS bW9 (fun S4 eS4 => ?_)
      replace h := h S4 eS4
      refine bs_goto C (bf_dk dd_X9_image 60 rfl) (tgt := 118) rfl ?_
      exact bs_weak (bf_s1 (bf_s1 (bf_s1 bf_s0))) (t_X9_image_118 C hR S4 (x1) (x2) Q B80 hB80 h)
def wp_X9_image_80 (S : bT9) (x1 : Int32) (x2 : Int32) (Q : Int32 → (bT9) → Prop) : Prop := ∃ I : Nat → Int32 → Int32 → (bT9) → Prop, (∃ n : Nat, I n x1 x2 S) ∧ ∀ (n : Nat) (x1 : Int32) (x2 : Int32) (S : bT9), I n x1 x2 S → wp_X9_image_80b S x1 x2 Q (fun x1 x2 S => ∃ n2 : Nat, n2 < n ∧ I n2 x1 x2 S)
theorem t_X9_image_80 {X : bf_X} (C : bf_C X RX9 cX9_image 3 (some .boolean)) (hR : bf_Rm X 0 0) (S : bT9) (x1 : Int32) (x2 : Int32) (Q : Int32 → (bT9) → Prop) (h : wp_X9_image_80 S x1 x2 Q) : bf_A X (bf_Zi X bW9 Q) 3 80 [some (.ref 0), some (.int x1), some (.int x2)] [] (bW9 S) := by
  obtain ⟨I, ⟨n0, h0⟩, hI⟩ := h
  have key : ∀ (n : Nat) (x1 : Int32) (x2 : Int32) (S : bT9), I n x1 x2 S → bf_A X (bf_Zi X bW9 Q) 3 80 [some (.ref 0), some (.int x1), some (.int x2)] [] (bW9 S) := by
    intro n
    induction n using Nat.strongRecOn with
    | _ n ih =>
      intro x1 x2 S hi
      exact t_X9_image_80b C hR S x1 x2 Q _ (fun x1 x2 S hb => by obtain ⟨n2, hn, hi2⟩ := hb; exact ih n2 hn x1 x2 S hi2) (hI n x1 x2 S hi)
  exact key n0 x1 x2 S h0
def wp_X9_image_72 (S : bT9) (x1 : Int32) (x2 : Int32) (Q : Int32 → (bT9) → Prop) (B35 : Int32 → Int32 → (bT9) → Prop) : Prop := (B35 (x1) ((x2 + (1 : Int32))) S)
set_option maxRecDepth 20000 in
theorem t_X9_image_72 {X : bf_X} (C : bf_C X RX9 cX9_image 3 (some .boolean)) (hR : bf_Rm X 0 0) (S : bT9) (x1 : Int32) (x2 : Int32) (Q : Int32 → (bT9) → Prop) (B35 : Int32 → Int32 → (bT9) → Prop) (hB35 : ∀ (x1 : Int32) (x2 : Int32) (S : bT9), B35 x1 x2 S → bf_A X (bf_Zi X bW9 Q) 3 35 [some (.ref 0), some (.int x1), some (.int x2)] [] (bW9 S)) (h : wp_X9_image_72 S x1 x2 Q B35) : bf_A X (bf_Zi X bW9 Q) 3 72 [some (.ref 0), some (.int x1), some (.int x2)] [] (bW9 S) := by
  unfold wp_X9_image_72 at h
  refine bs_iinc C (bf_dk dd_X9_image 43 rfl) (x2 + (1 : Int32)) rfl rfl (Nat.le_of_ble_eq_true rfl) (Nat.le_of_ble_eq_true rfl) (lv2 := [some (.ref 0), some (.int x1), some (.int (x2 + (1 : Int32)))]) rfl ?_
  refine bs_goto C (bf_dk dd_X9_image 44 rfl) (tgt := 35) rfl ?_
  exact bs_weak (bf_s1 (bf_s1 (bf_s1 bf_s0))) (hB35 (x1) ((x2 + (1 : Int32))) S h)
def wp_X9_image_35b (S : bT9) (x1 : Int32) (x2 : Int32) (Q : Int32 → (bT9) → Prop) (B35 : Int32 → Int32 → (bT9) → Prop) : Prop := (((23 : Int32) ≤ x2 → (wp_X9_image_80 S (x1) ((0 : Int32)) Q)) ∧ (¬ (23 : Int32) ≤ x2 → ((x1 = 0 → (vp_in x2 23 ∧ (vp_in x2 23 ∧ (∀ S5 : bT9, S5 = (b9s_now S (upd (b9g_now S) (x2).toNatClampNeg ((b9g_images S) (x2).toNatClampNeg))) → (wp_X9_image_72 S5 (x1) (x2) Q B35))))) ∧ (¬ x1 = 0 → (vp_in x2 23 ∧ (vp_in x2 23 ∧ (∀ S6 : bT9, S6 = (b9s_images S (upd (b9g_images S) (x2).toNatClampNeg ((b9g_now S) (x2).toNatClampNeg))) → (wp_X9_image_72 S6 (x1) (x2) Q B35))))))))
set_option maxRecDepth 20000 in
theorem t_X9_image_35b {X : bf_X} (C : bf_C X RX9 cX9_image 3 (some .boolean)) (hR : bf_Rm X 0 0) (S : bT9) (x1 : Int32) (x2 : Int32) (Q : Int32 → (bT9) → Prop) (B35 : Int32 → Int32 → (bT9) → Prop) (hB35 : ∀ (x1 : Int32) (x2 : Int32) (S : bT9), B35 x1 x2 S → bf_A X (bf_Zi X bW9 Q) 3 35 [some (.ref 0), some (.int x1), some (.int x2)] [] (bW9 S)) (h : wp_X9_image_35b S x1 x2 Q B35) : bf_A X (bf_Zi X bW9 Q) 3 35 [some (.ref 0), some (.int x1), some (.int x2)] [] (bW9 S) := by
  unfold wp_X9_image_35b at h
  refine bs_iload_n C (bf_dk dd_X9_image 21 rfl) rfl ?_
  refine bs_bipush C (bf_dk dd_X9_image 22 rfl) (23 : Int32) (by decide) ?_
  refine bs_icmp_ge C (bf_dk dd_X9_image 23 rfl) (tgt := 78) rfl (fun c => ?_) (fun c => ?_)
  · replace h := h.1 c
    refine bs_iconst C (bf_dk dd_X9_image 45 rfl) (0 : Int32) (by decide) ?_
    refine bs_istore_n C (bf_dk dd_X9_image 46 rfl) rfl (Nat.le_of_ble_eq_true rfl) (Nat.le_of_ble_eq_true rfl) (lv2 := [some (.ref 0), some (.int x1), some (.int (0 : Int32))]) rfl ?_
    exact bs_weak (bf_s1 (bf_s1 (bf_s1 bf_s0))) (t_X9_image_80 C hR S (x1) ((0 : Int32)) Q h)
  · replace h := h.2 c
    refine bs_iload_n C (bf_dk dd_X9_image 24 rfl) rfl ?_
    refine bs_if_eq C (bf_dk dd_X9_image 25 rfl) (tgt := 60) rfl (fun c => ?_) (fun c => ?_)
    · replace h := h.1 c
      refine bs_aload_n C (bf_dk dd_X9_image 35 rfl) rfl ?_
      refine bs_get C (bf_dk dd_X9_image 36 rfl) cl_9 in_9 1 (Nat.le_of_ble_eq_true rfl) rfl f_9_7 (ge_bW9_0 S) rfl ?_
      refine bs_iload_n C (bf_dk dd_X9_image 37 rfl) rfl ?_
      refine bs_aload_n C (bf_dk dd_X9_image 38 rfl) rfl ?_
      refine bs_get C (bf_dk dd_X9_image 39 rfl) cl_9 in_9 43 (Nat.le_of_ble_eq_true rfl) rfl f_9_66 (ge_bW9_0 S) rfl ?_
      refine bs_iload_n C (bf_dk dd_X9_image 40 rfl) rfl ?_
      obtain ⟨hi, h⟩ := h
      refine bs_iald C (bf_dk dd_X9_image 41 rfl) (ge_bW9_18 S) hi ?_
      obtain ⟨hi, h⟩ := h
      refine bs_iast C (bf_dk dd_X9_image 42 rfl) (ge_bW9_1 S) hi (ar_bW9_1 S _) ?_
      refine bs_nameS bW9 (fun S5 eS5 => ?_)
      replace h := h S5 eS5
      exact bs_weak (bf_s1 (bf_s1 (bf_s1 bf_s0))) (t_X9_image_72 C hR S5 (x1) (x2) Q B35 hB35 h)
    · replace h := h.2 c
      refine bs_aload_n C (bf_dk dd_X9_image 26 rfl) rfl ?_
      refine bs_get C (bf_dk dd_X9_image 27 rfl) cl_9 in_9 43 (Nat.le_of_ble_eq_true rfl) rfl f_9_66 (ge_bW9_0 S) rfl ?_
      refine bs_iload_n C (bf_dk dd_X9_image 28 rfl) rfl ?_
      refine bs_aload_n C (bf_dk dd_X9_image 29 rfl) rfl ?_
      refine bs_get C (bf_dk dd_X9_image 30 rfl) cl_9 in_9 1 (Nat.le_of_ble_eq_true rfl) rfl f_9_7 (ge_bW9_0 S) rfl ?_
      refine bs_iload_n C (bf_dk dd_X9_image 31 rfl) rfl ?_
      obtain ⟨hi, h⟩ := h
      refine bs_iald C (bf_dk dd_X9_image 32 rfl) (ge_bW9_1 S) hi ?_
      obtain ⟨hi, h⟩ := h
      refine bs_iast C (bf_dk dd_X9_image 33 rfl) (ge_bW9_18 S) hi (ar_bW9_18 S _) ?_
      refine bs_nameS bW9 (fun S6 eS6 => ?_)
      replace h := h S6 eS6
      refine bs_goto C (bf_dk dd_X9_image 34 rfl) (tgt := 72) rfl ?_
      exact bs_weak (bf_s1 (bf_s1 (bf_s1 bf_s0))) (t_X9_image_72 C hR S6 (x1) (x2) Q B35 hB35 h)
def wp_X9_image_35 (S : bT9) (x1 : Int32) (x2 : Int32) (Q : Int32 → (bT9) → Prop) : Prop := ∃ I : Nat → Int32 → Int32 → (bT9) → Prop, (∃ n : Nat, I n x1 x2 S) ∧ ∀ (n : Nat) (x1 : Int32) (x2 : Int32) (S : bT9), I n x1 x2 S → wp_X9_image_35b S x1 x2 Q (fun x1 x2 S => ∃ n2 : Nat, n2 < n ∧ I n2 x1 x2 S)
theorem t_X9_image_35 {X : bf_X} (C : bf_C X RX9 cX9_image 3 (some .boolean)) (hR : bf_Rm X 0 0) (S : bT9) (x1 : Int32) (x2 : Int32) (Q : Int32 → (bT9) → Prop) (h : wp_X9_image_35 S x1 x2 Q) : bf_A X (bf_Zi X bW9 Q) 3 35 [some (.ref 0), some (.int x1), some (.int x2)] [] (bW9 S) := by
  obtain ⟨I, ⟨n0, h0⟩, hI⟩ := h
  have key : ∀ (n : Nat) (x1 : Int32) (x2 : Int32) (S : bT9), I n x1 x2 S → bf_A X (bf_Zi X bW9 Q) 3 35 [some (.ref 0), some (.int x1), some (.int x2)] [] (bW9 S) := by
    intro n
    induction n using Nat.strongRecOn with
    | _ n ih =>
      intro x1 x2 S hi
      exact t_X9_image_35b C hR S x1 x2 Q _ (fun x1 x2 S hb => by obtain ⟨n2, hn, hi2⟩ := hb; exact ih n2 hn x1 x2 S hi2) (hI n x1 x2 S hi)
  exact key n0 x1 x2 S h0
def wp_X9_image_18 (S : bT9) (x1 : Int32) (Q : Int32 → (bT9) → Prop) : Prop := (∀ S7 : bT9, S7 = (b9s_hasImage S (1 : Int32)) → (∀ S8 : bT9, S8 = (b9s_isLaid S7 (0 : Int32)) → (∀ S9 : bT9, S9 = (b9s_areNodesLaid S8 (0 : Int32)) → (wp_X9_image_35 S9 (x1) ((0 : Int32)) Q))))
set_option maxRecDepth 20000 in
theorem t_X9_image_18 {X : bf_X} (C : bf_C X RX9 cX9_image 3 (some .boolean)) (hR : bf_Rm X 0 0) (S : bT9) (x1 : Int32) (Q : Int32 → (bT9) → Prop) (h : wp_X9_image_18 S x1 Q) : bf_A X (bf_Zi X bW9 Q) 3 18 [some (.ref 0), some (.int x1), none] [] (bW9 S) := by
  unfold wp_X9_image_18 at h
  refine bs_aload_n C (bf_dk dd_X9_image 10 rfl) rfl ?_
  refine bs_iconst C (bf_dk dd_X9_image 11 rfl) (1 : Int32) (by decide) ?_
  refine bs_put C (bf_dk dd_X9_image 12 rfl) tyX9_ok nmX9 cl_9 in_9 42 (Nat.le_of_ble_eq_true rfl) rfl f_9_449 rfl (ge_bW9_0 S) (Nat.le_of_ble_eq_true rfl) rfl rfl (pu_bW9_0_42 S (1 : Int32)) ?_
  refine bs_nameS bW9 (fun S7 eS7 => ?_)
  replace h := h S7 eS7
  refine bs_aload_n C (bf_dk dd_X9_image 13 rfl) rfl ?_
  refine bs_iconst C (bf_dk dd_X9_image 14 rfl) (0 : Int32) (by decide) ?_
  refine bs_put C (bf_dk dd_X9_image 15 rfl) tyX9_ok nmX9 cl_9 in_9 12 (Nat.le_of_ble_eq_true rfl) rfl f_9_184 rfl (ge_bW9_0 S7) (Nat.le_of_ble_eq_true rfl) rfl rfl (pu_bW9_0_12 S7 (0 : Int32)) ?_
  refine bs_nameS bW9 (fun S8 eS8 => ?_)
  replace h := h S8 eS8
  refine bs_aload_n C (bf_dk dd_X9_image 16 rfl) rfl ?_
  refine bs_iconst C (bf_dk dd_X9_image 17 rfl) (0 : Int32) (by decide) ?_
  refine bs_put C (bf_dk dd_X9_image 18 rfl) tyX9_ok nmX9 cl_9 in_9 20 (Nat.le_of_ble_eq_true rfl) rfl f_9_192 rfl (ge_bW9_0 S8) (Nat.le_of_ble_eq_true rfl) rfl rfl (pu_bW9_0_20 S8 (0 : Int32)) ?_
  refine bs_nameS bW9 (fun S9 eS9 => ?_)
  replace h := h S9 eS9
  refine bs_iconst C (bf_dk dd_X9_image 19 rfl) (0 : Int32) (by decide) ?_
  refine bs_istore_n C (bf_dk dd_X9_image 20 rfl) rfl (Nat.le_of_ble_eq_true rfl) (Nat.le_of_ble_eq_true rfl) (lv2 := [some (.ref 0), some (.int x1), some (.int (0 : Int32))]) rfl ?_
  exact bs_weak (bf_s1 (bf_s1 (bf_s1 bf_s0))) (t_X9_image_35 C hR S9 (x1) ((0 : Int32)) Q h)
def wp_X9_image (S : bT9) (a1 : Int32) (Q : Int32 → (bT9) → Prop) : Prop := (∀ S10 : bT9, S10 = (b9s_told S (0 : Int32)) → ((¬ a1 = 0 → (wp_X9_image_18 S10 (a1) Q)) ∧ (a1 = 0 → ((¬ (b9g_hasImage S10) = 0 → (wp_X9_image_18 S10 (a1) Q)) ∧ ((b9g_hasImage S10) = 0 → (bf_bool (0 : Int32) ∧ Q (0 : Int32) S10))))))
set_option maxRecDepth 20000 in
theorem t_X9_image {X : bf_X} (C : bf_C X RX9 cX9_image 3 (some .boolean)) (hR : bf_Rm X 0 0) (S : bT9) (a1 : Int32) (Q : Int32 → (bT9) → Prop) (h : wp_X9_image S a1 Q) : bf_A X (bf_Zi X bW9 Q) 3 0 [some (.ref 0), some (.int a1), none] [] (bW9 S) := by
  unfold wp_X9_image at h
  refine bs_aload_n C (bf_dk dd_X9_image 0 rfl) rfl ?_
  refine bs_iconst C (bf_dk dd_X9_image 1 rfl) (0 : Int32) (by decide) ?_
  refine bs_put C (bf_dk dd_X9_image 2 rfl) tyX9_ok nmX9 cl_9 in_9 0 (Nat.le_of_ble_eq_true rfl) rfl f_9_75 rfl (ge_bW9_0 S) (Nat.le_of_ble_eq_true rfl) rfl rfl (pu_bW9_0_0 S (0 : Int32)) ?_
  refine bs_nameS bW9 (fun S10 eS10 => ?_)
  replace h := h S10 eS10
  refine bs_iload_n C (bf_dk dd_X9_image 3 rfl) rfl ?_
  refine bs_if_ne C (bf_dk dd_X9_image 4 rfl) (tgt := 18) rfl (fun c => ?_) (fun c => ?_)
  · replace h := h.1 c
    exact bs_weak (bf_s1 (bf_s1 (bf_sn bf_s0))) (t_X9_image_18 C hR S10 (a1) Q h)
  · replace h := h.2 c
    refine bs_aload_n C (bf_dk dd_X9_image 5 rfl) rfl ?_
    refine bs_get C (bf_dk dd_X9_image 6 rfl) cl_9 in_9 42 (Nat.le_of_ble_eq_true rfl) rfl f_9_449 (ge_bW9_0 S10) rfl ?_
    refine bs_if_ne C (bf_dk dd_X9_image 7 rfl) (tgt := 18) rfl (fun c => ?_) (fun c => ?_)
    · replace h := h.1 c
      exact bs_weak (bf_s1 (bf_s1 (bf_sn bf_s0))) (t_X9_image_18 C hR S10 (a1) Q h)
    · replace h := h.2 c
      refine bs_iconst C (bf_dk dd_X9_image 8 rfl) (0 : Int32) (by decide) ?_
      obtain ⟨hi, h⟩ := h
      exact bs_zret (u := S10) C (bf_dk dd_X9_image 9 rfl) hi rfl h
theorem c_X9_image (l : Launch) (dC : Nat → ClassId) (dI : Nat → Nat → Nat) (ac : Nat → ClassId) (al : Nat → Nat) (S : bT9) (a1 : Int32) (Q : Int32 → (bT9) → Prop) (h : wp_X9_image S a1 Q) : bf_M l yX9_image cX9_image 3 (some .boolean) 0 0 dC dI ac al [.ref 0, .int a1] (bW9 S) (bf_Ki dC dI ac al bW9 Q) := by
  refine bf_start [some (.ref 0), some (.int a1), none] (by decide) (Nat.le_of_ble_eq_true rfl) (bf_s1 (bf_s1 (bf_en 1))) ?_
  intro X hl C hR e1 e2 e3 e4
  subst e1; subst e2; subst e3; subst e4
  exact t_X9_image C hR S a1 Q h
def wp_X9_endedMany_27 (S : bT9) (x1 : Int32) (x2 : Int32) (Q : Int32 → Prop) (B4 : Int32 → Int32 → Prop) : Prop := (B4 (x1) ((x2 + (1 : Int32))))
set_option maxRecDepth 20000 in
theorem t_X9_endedMany_27 {X : bf_X} (C : bf_C X RX9 cX9_endedMany 3 (some .int)) (hR : bf_Rm X 2 42) (S : bT9) (x1 : Int32) (x2 : Int32) (Q : Int32 → Prop) (B4 : Int32 → Int32 → Prop) (hB4 : ∀ (x1 : Int32) (x2 : Int32), B4 x1 x2 → bf_A X (bf_Zi X bW9 (fun r u => u = S ∧ Q r)) 3 4 [some (.ref 0), some (.int x1), some (.int x2)] [] (bW9 S)) (h : wp_X9_endedMany_27 S x1 x2 Q B4) : bf_A X (bf_Zi X bW9 (fun r u => u = S ∧ Q r)) 3 27 [some (.ref 0), some (.int x1), some (.int x2)] [] (bW9 S) := by
  unfold wp_X9_endedMany_27 at h
  refine bs_iinc C (bf_dk dd_X9_endedMany 18 rfl) (x2 + (1 : Int32)) rfl rfl (Nat.le_of_ble_eq_true rfl) (Nat.le_of_ble_eq_true rfl) (lv2 := [some (.ref 0), some (.int x1), some (.int (x2 + (1 : Int32)))]) rfl ?_
  refine bs_goto C (bf_dk dd_X9_endedMany 19 rfl) (tgt := 4) rfl ?_
  exact bs_weak (bf_s1 (bf_s1 (bf_s1 bf_s0))) (hB4 (x1) ((x2 + (1 : Int32))) h)
def wp_X9_endedMany_4b (S : bT9) (x1 : Int32) (x2 : Int32) (Q : Int32 → Prop) (B4 : Int32 → Int32 → Prop) : Prop := (vp_in (9 : Int32) 23 ∧ ((((b9g_now S) ((9 : Int32)).toNatClampNeg) ≤ x2 → (Q x1)) ∧ (¬ ((b9g_now S) ((9 : Int32)).toNatClampNeg) ≤ x2 → (wp_X9_isEnded S (x2) (fun r1 => ((r1 = 0 → (wp_X9_endedMany_27 S (x1) (x2) Q B4)) ∧ (¬ r1 = 0 → (wp_X9_endedMany_27 S ((x1 + (1 : Int32))) (x2) Q B4))))))))
set_option maxRecDepth 20000 in
theorem t_X9_endedMany_4b {X : bf_X} (C : bf_C X RX9 cX9_endedMany 3 (some .int)) (hR : bf_Rm X 2 42) (S : bT9) (x1 : Int32) (x2 : Int32) (Q : Int32 → Prop) (B4 : Int32 → Int32 → Prop) (hB4 : ∀ (x1 : Int32) (x2 : Int32), B4 x1 x2 → bf_A X (bf_Zi X bW9 (fun r u => u = S ∧ Q r)) 3 4 [some (.ref 0), some (.int x1), some (.int x2)] [] (bW9 S)) (h : wp_X9_endedMany_4b S x1 x2 Q B4) : bf_A X (bf_Zi X bW9 (fun r u => u = S ∧ Q r)) 3 4 [some (.ref 0), some (.int x1), some (.int x2)] [] (bW9 S) := by
  unfold wp_X9_endedMany_4b at h
  refine bs_iload_n C (bf_dk dd_X9_endedMany 4 rfl) rfl ?_
  refine bs_aload_n C (bf_dk dd_X9_endedMany 5 rfl) rfl ?_
  refine bs_get C (bf_dk dd_X9_endedMany 6 rfl) cl_9 in_9 1 (Nat.le_of_ble_eq_true rfl) rfl f_9_7 (ge_bW9_0 S) rfl ?_
  refine bs_bipush C (bf_dk dd_X9_endedMany 7 rfl) (9 : Int32) (by decide) ?_
  obtain ⟨hi, h⟩ := h
  refine bs_iald C (bf_dk dd_X9_endedMany 8 rfl) (ge_bW9_1 S) hi ?_
  refine bs_icmp_ge C (bf_dk dd_X9_endedMany 9 rfl) (tgt := 33) rfl (fun c => ?_) (fun c => ?_)
  · replace h := h.1 c
    refine bs_iload_n C (bf_dk dd_X9_endedMany 20 rfl) rfl ?_
    exact bs_iret (u := S) C (bf_dk dd_X9_endedMany 21 rfl) rfl ⟨rfl, h⟩
  · replace h := h.2 c
    refine bs_aload_n C (bf_dk dd_X9_endedMany 10 rfl) rfl ?_
    refine bs_iload_n C (bf_dk dd_X9_endedMany 11 rfl) rfl ?_
    refine bs_selfPV_i C hR (c_X9_isEnded _ _ _ _ _ S (x2) _ h) my_X9_isEnded m_9_283 rfl cl_9 (ge_bW9_0 _) rfl (Nat.le_of_ble_eq_true rfl) (Nat.le_of_ble_eq_true rfl) (st := []) (Nat.le_of_ble_eq_true rfl) (bf_dk dd_X9_endedMany 12 rfl) rfl (fun r1 h => ?_)
    refine bs_if_eq C (bf_dk dd_X9_endedMany 13 rfl) (tgt := 27) rfl (fun c => ?_) (fun c => ?_)
    · replace h := h.1 c
      exact bs_weak (bf_s1 (bf_s1 (bf_s1 bf_s0))) (t_X9_endedMany_27 C hR S (x1) (x2) Q B4 hB4 h)
    · replace h := h.2 c
      refine bs_iload_n C (bf_dk dd_X9_endedMany 14 rfl) rfl ?_
      refine bs_iconst C (bf_dk dd_X9_endedMany 15 rfl) (1 : Int32) (by decide) ?_
      refine bs_iadd C (bf_dk dd_X9_endedMany 16 rfl) ?_
      refine bs_istore_n C (bf_dk dd_X9_endedMany 17 rfl) rfl (Nat.le_of_ble_eq_true rfl) (Nat.le_of_ble_eq_true rfl) (lv2 := [some (.ref 0), some (.int (x1 + (1 : Int32))), some (.int x2)]) rfl ?_
      exact bs_weak (bf_s1 (bf_s1 (bf_s1 bf_s0))) (t_X9_endedMany_27 C hR S ((x1 + (1 : Int32))) (x2) Q B4 hB4 h)
def wp_X9_endedMany_4 (S : bT9) (x1 : Int32) (x2 : Int32) (Q : Int32 → Prop) : Prop := ∃ I : Nat → Int32 → Int32 → Prop, (∃ n : Nat, I n x1 x2) ∧ ∀ (n : Nat) (x1 : Int32) (x2 : Int32), I n x1 x2 → wp_X9_endedMany_4b S x1 x2 Q (fun x1 x2 => ∃ n2 : Nat, n2 < n ∧ I n2 x1 x2)
theorem t_X9_endedMany_4 {X : bf_X} (C : bf_C X RX9 cX9_endedMany 3 (some .int)) (hR : bf_Rm X 2 42) (S : bT9) (x1 : Int32) (x2 : Int32) (Q : Int32 → Prop) (h : wp_X9_endedMany_4 S x1 x2 Q) : bf_A X (bf_Zi X bW9 (fun r u => u = S ∧ Q r)) 3 4 [some (.ref 0), some (.int x1), some (.int x2)] [] (bW9 S) := by
  obtain ⟨I, ⟨n0, h0⟩, hI⟩ := h
  have key : ∀ (n : Nat) (x1 : Int32) (x2 : Int32), I n x1 x2 → bf_A X (bf_Zi X bW9 (fun r u => u = S ∧ Q r)) 3 4 [some (.ref 0), some (.int x1), some (.int x2)] [] (bW9 S) := by
    intro n
    induction n using Nat.strongRecOn with
    | _ n ih =>
      intro x1 x2 hi
      exact t_X9_endedMany_4b C hR S x1 x2 Q _ (fun x1 x2 hb => by obtain ⟨n2, hn, hi2⟩ := hb; exact ih n2 hn x1 x2 hi2) (hI n x1 x2 hi)
  exact key n0 x1 x2 h0
def wp_X9_endedMany (S : bT9) (Q : Int32 → Prop) : Prop := (wp_X9_endedMany_4 S ((0 : Int32)) ((0 : Int32)) Q)
set_option maxRecDepth 20000 in
theorem t_X9_endedMany {X : bf_X} (C : bf_C X RX9 cX9_endedMany 3 (some .int)) (hR : bf_Rm X 2 42) (S : bT9) (Q : Int32 → Prop) (h : wp_X9_endedMany S Q) : bf_A X (bf_Zi X bW9 (fun r u => u = S ∧ Q r)) 3 0 [some (.ref 0), none, none] [] (bW9 S) := by
  unfold wp_X9_endedMany at h
  refine bs_iconst C (bf_dk dd_X9_endedMany 0 rfl) (0 : Int32) (by decide) ?_
  refine bs_istore_n C (bf_dk dd_X9_endedMany 1 rfl) rfl (Nat.le_of_ble_eq_true rfl) (Nat.le_of_ble_eq_true rfl) (lv2 := [some (.ref 0), some (.int (0 : Int32)), none]) rfl ?_
  refine bs_iconst C (bf_dk dd_X9_endedMany 2 rfl) (0 : Int32) (by decide) ?_
  refine bs_istore_n C (bf_dk dd_X9_endedMany 3 rfl) rfl (Nat.le_of_ble_eq_true rfl) (Nat.le_of_ble_eq_true rfl) (lv2 := [some (.ref 0), some (.int (0 : Int32)), some (.int (0 : Int32))]) rfl ?_
  exact bs_weak (bf_s1 (bf_s1 (bf_s1 bf_s0))) (t_X9_endedMany_4 C hR S ((0 : Int32)) ((0 : Int32)) Q h)
theorem c_X9_endedMany (l : Launch) (dC : Nat → ClassId) (dI : Nat → Nat → Nat) (ac : Nat → ClassId) (al : Nat → Nat) (S : bT9) (Q : Int32 → Prop) (h : wp_X9_endedMany S Q) : bf_M l yX9_endedMany cX9_endedMany 3 (some .int) 2 42 dC dI ac al [.ref 0] (bW9 S) (bf_Ki dC dI ac al bW9 (fun r u => u = S ∧ Q r)) := by
  refine bf_start [some (.ref 0), none, none] (by decide) (Nat.le_of_ble_eq_true rfl) (bf_s1 (bf_en 2)) ?_
  intro X hl C hR e1 e2 e3 e4
  subst e1; subst e2; subst e3; subst e4
  exact t_X9_endedMany C hR S Q h
def wp_X9_beginningBytes_4b (S : bT9) (x1 : Int32) (x2 : Int32) (Q : Int32 → Prop) (B4 : Int32 → Int32 → Prop) : Prop := (vp_in (9 : Int32) 23 ∧ ((((b9g_now S) ((9 : Int32)).toNatClampNeg) ≤ x2 → (Q x1)) ∧ (¬ ((b9g_now S) ((9 : Int32)).toNatClampNeg) ≤ x2 → (vp_in x2 64 ∧ (B4 ((x1 + ((b9g_beginning S) (x2).toNatClampNeg))) ((x2 + (1 : Int32))))))))
set_option maxRecDepth 20000 in
theorem t_X9_beginningBytes_4b {X : bf_X} (C : bf_C X RX9 cX9_beginningBytes 3 (some .int)) (hR : bf_Rm X 0 0) (S : bT9) (x1 : Int32) (x2 : Int32) (Q : Int32 → Prop) (B4 : Int32 → Int32 → Prop) (hB4 : ∀ (x1 : Int32) (x2 : Int32), B4 x1 x2 → bf_A X (bf_Zi X bW9 (fun r u => u = S ∧ Q r)) 3 4 [some (.ref 0), some (.int x1), some (.int x2)] [] (bW9 S)) (h : wp_X9_beginningBytes_4b S x1 x2 Q B4) : bf_A X (bf_Zi X bW9 (fun r u => u = S ∧ Q r)) 3 4 [some (.ref 0), some (.int x1), some (.int x2)] [] (bW9 S) := by
  unfold wp_X9_beginningBytes_4b at h
  refine bs_iload_n C (bf_dk dd_X9_beginningBytes 4 rfl) rfl ?_
  refine bs_aload_n C (bf_dk dd_X9_beginningBytes 5 rfl) rfl ?_
  refine bs_get C (bf_dk dd_X9_beginningBytes 6 rfl) cl_9 in_9 1 (Nat.le_of_ble_eq_true rfl) rfl f_9_7 (ge_bW9_0 S) rfl ?_
  refine bs_bipush C (bf_dk dd_X9_beginningBytes 7 rfl) (9 : Int32) (by decide) ?_
  obtain ⟨hi, h⟩ := h
  refine bs_iald C (bf_dk dd_X9_beginningBytes 8 rfl) (ge_bW9_1 S) hi ?_
  refine bs_icmp_ge C (bf_dk dd_X9_beginningBytes 9 rfl) (tgt := 30) rfl (fun c => ?_) (fun c => ?_)
  · replace h := h.1 c
    refine bs_iload_n C (bf_dk dd_X9_beginningBytes 19 rfl) rfl ?_
    exact bs_iret (u := S) C (bf_dk dd_X9_beginningBytes 20 rfl) rfl ⟨rfl, h⟩
  · replace h := h.2 c
    refine bs_iload_n C (bf_dk dd_X9_beginningBytes 10 rfl) rfl ?_
    refine bs_aload_n C (bf_dk dd_X9_beginningBytes 11 rfl) rfl ?_
    refine bs_get C (bf_dk dd_X9_beginningBytes 12 rfl) cl_9 in_9 11 (Nat.le_of_ble_eq_true rfl) rfl f_9_29 (ge_bW9_0 S) rfl ?_
    refine bs_iload_n C (bf_dk dd_X9_beginningBytes 13 rfl) rfl ?_
    obtain ⟨hi, h⟩ := h
    refine bs_iald C (bf_dk dd_X9_beginningBytes 14 rfl) (ge_bW9_7 S) hi ?_
    refine bs_iadd C (bf_dk dd_X9_beginningBytes 15 rfl) ?_
    refine bs_istore_n C (bf_dk dd_X9_beginningBytes 16 rfl) rfl (Nat.le_of_ble_eq_true rfl) (Nat.le_of_ble_eq_true rfl) (lv2 := [some (.ref 0), some (.int (x1 + ((b9g_beginning S) (x2).toNatClampNeg))), some (.int x2)]) rfl ?_
    refine bs_iinc C (bf_dk dd_X9_beginningBytes 17 rfl) (x2 + (1 : Int32)) rfl rfl (Nat.le_of_ble_eq_true rfl) (Nat.le_of_ble_eq_true rfl) (lv2 := [some (.ref 0), some (.int (x1 + ((b9g_beginning S) (x2).toNatClampNeg))), some (.int (x2 + (1 : Int32)))]) rfl ?_
    refine bs_goto C (bf_dk dd_X9_beginningBytes 18 rfl) (tgt := 4) rfl ?_
    exact bs_weak (bf_s1 (bf_s1 (bf_s1 bf_s0))) (hB4 ((x1 + ((b9g_beginning S) (x2).toNatClampNeg))) ((x2 + (1 : Int32))) h)
def wp_X9_beginningBytes_4 (S : bT9) (x1 : Int32) (x2 : Int32) (Q : Int32 → Prop) : Prop := ∃ I : Nat → Int32 → Int32 → Prop, (∃ n : Nat, I n x1 x2) ∧ ∀ (n : Nat) (x1 : Int32) (x2 : Int32), I n x1 x2 → wp_X9_beginningBytes_4b S x1 x2 Q (fun x1 x2 => ∃ n2 : Nat, n2 < n ∧ I n2 x1 x2)
theorem t_X9_beginningBytes_4 {X : bf_X} (C : bf_C X RX9 cX9_beginningBytes 3 (some .int)) (hR : bf_Rm X 0 0) (S : bT9) (x1 : Int32) (x2 : Int32) (Q : Int32 → Prop) (h : wp_X9_beginningBytes_4 S x1 x2 Q) : bf_A X (bf_Zi X bW9 (fun r u => u = S ∧ Q r)) 3 4 [some (.ref 0), some (.int x1), some (.int x2)] [] (bW9 S) := by
  obtain ⟨I, ⟨n0, h0⟩, hI⟩ := h
  have key : ∀ (n : Nat) (x1 : Int32) (x2 : Int32), I n x1 x2 → bf_A X (bf_Zi X bW9 (fun r u => u = S ∧ Q r)) 3 4 [some (.ref 0), some (.int x1), some (.int x2)] [] (bW9 S) := by
    intro n
    induction n using Nat.strongRecOn with
    | _ n ih =>
      intro x1 x2 hi
      exact t_X9_beginningBytes_4b C hR S x1 x2 Q _ (fun x1 x2 hb => by obtain ⟨n2, hn, hi2⟩ := hb; exact ih n2 hn x1 x2 hi2) (hI n x1 x2 hi)
  exact key n0 x1 x2 h0
def wp_X9_beginningBytes (S : bT9) (Q : Int32 → Prop) : Prop := (wp_X9_beginningBytes_4 S ((0 : Int32)) ((0 : Int32)) Q)
set_option maxRecDepth 20000 in
theorem t_X9_beginningBytes {X : bf_X} (C : bf_C X RX9 cX9_beginningBytes 3 (some .int)) (hR : bf_Rm X 0 0) (S : bT9) (Q : Int32 → Prop) (h : wp_X9_beginningBytes S Q) : bf_A X (bf_Zi X bW9 (fun r u => u = S ∧ Q r)) 3 0 [some (.ref 0), none, none] [] (bW9 S) := by
  unfold wp_X9_beginningBytes at h
  refine bs_iconst C (bf_dk dd_X9_beginningBytes 0 rfl) (0 : Int32) (by decide) ?_
  refine bs_istore_n C (bf_dk dd_X9_beginningBytes 1 rfl) rfl (Nat.le_of_ble_eq_true rfl) (Nat.le_of_ble_eq_true rfl) (lv2 := [some (.ref 0), some (.int (0 : Int32)), none]) rfl ?_
  refine bs_iconst C (bf_dk dd_X9_beginningBytes 2 rfl) (0 : Int32) (by decide) ?_
  refine bs_istore_n C (bf_dk dd_X9_beginningBytes 3 rfl) rfl (Nat.le_of_ble_eq_true rfl) (Nat.le_of_ble_eq_true rfl) (lv2 := [some (.ref 0), some (.int (0 : Int32)), some (.int (0 : Int32))]) rfl ?_
  exact bs_weak (bf_s1 (bf_s1 (bf_s1 bf_s0))) (t_X9_beginningBytes_4 C hR S ((0 : Int32)) ((0 : Int32)) Q h)
theorem c_X9_beginningBytes (l : Launch) (dC : Nat → ClassId) (dI : Nat → Nat → Nat) (ac : Nat → ClassId) (al : Nat → Nat) (S : bT9) (Q : Int32 → Prop) (h : wp_X9_beginningBytes S Q) : bf_M l yX9_beginningBytes cX9_beginningBytes 3 (some .int) 0 0 dC dI ac al [.ref 0] (bW9 S) (bf_Ki dC dI ac al bW9 (fun r u => u = S ∧ Q r)) := by
  refine bf_start [some (.ref 0), none, none] (by decide) (Nat.le_of_ble_eq_true rfl) (bf_s1 (bf_en 2)) ?_
  intro X hl C hR e1 e2 e3 e4
  subst e1; subst e2; subst e3; subst e4
  exact t_X9_beginningBytes C hR S Q h
def wp_X9_look (S : bT9) (a1 : Int32) (Q : Int32 → (bT9) → Prop) : Prop := (∀ S1 : bT9, S1 = (b9s_told S (0 : Int32)) → (wp_X9_laysNodes S1 (fun u3 => (wp_X9_isIn u3 (a1) ((0 : Int32)) ((5 : Int32)) (fun r4 => ((r4 = 0 → (wp_X9_isIn u3 (a1) ((6 : Int32)) ((9 : Int32)) (fun r6 => ((r6 = 0 → ((¬ a1 = (10 : Int32) → ((¬ a1 = (11 : Int32) → ((¬ a1 = (12 : Int32) → ((¬ a1 = (13 : Int32) → ((¬ a1 = (14 : Int32) → ((¬ a1 = (15 : Int32) → ((¬ a1 = (16 : Int32) → ((¬ a1 = (17 : Int32) → ((¬ a1 = (18 : Int32) → ((¬ a1 = (19 : Int32) → ((¬ a1 = (20 : Int32) → (Q (-100000000 : Int32) u3)) ∧ (a1 = (20 : Int32) → (wp_X9_beginningBytes u3 (fun r8 => (Q r8 u3)))))) ∧ (a1 = (19 : Int32) → (wp_X9_endedMany u3 (fun r10 => (Q r10 u3)))))) ∧ (a1 = (18 : Int32) → (Q (b9g_taped u3) u3)))) ∧ (a1 = (17 : Int32) → (vp_in (10 : Int32) 23 ∧ (Q ((b9g_now u3) ((10 : Int32)).toNatClampNeg) u3))))) ∧ (a1 = (16 : Int32) → (wp_X9_nextBits u3 (fun r12 => (Q r12 u3)))))) ∧ (a1 = (15 : Int32) → (wp_X9_hashBits u3 (fun r14 => (Q r14 u3)))))) ∧ (a1 = (14 : Int32) → (Q (b9g_itemMany u3) u3)))) ∧ (a1 = (13 : Int32) → (Q (b9g_upperNodes u3) u3)))) ∧ (a1 = (12 : Int32) → (Q (b9g_upper u3) u3)))) ∧ (a1 = (11 : Int32) → (Q (b9g_levelMany u3) u3)))) ∧ (a1 = (10 : Int32) → (Q (b9g_nodeMany u3) u3)))) ∧ (¬ r6 = 0 → (vp_in a1 23 ∧ (Q ((b9g_now u3) (a1).toNatClampNeg) u3))))))) ∧ (¬ r4 = 0 → (wp_X9_settingOf u3 (a1) (fun r16 => (Q r16 u3))))))))))
set_option maxRecDepth 20000 in
theorem t_X9_look {X : bf_X} (C : bf_C X RX9 cX9_look 2 (some .int)) (hR : bf_Rm X 8 182) (S : bT9) (a1 : Int32) (Q : Int32 → (bT9) → Prop) (h : wp_X9_look S a1 Q) : bf_A X (bf_Zi X bW9 Q) 2 0 [some (.ref 0), some (.int a1)] [] (bW9 S) := by
  unfold wp_X9_look at h
  refine bs_aload_n C (bf_dk dd_X9_look 0 rfl) rfl ?_
  refine bs_iconst C (bf_dk dd_X9_look 1 rfl) (0 : Int32) (by decide) ?_
  refine bs_put C (bf_dk dd_X9_look 2 rfl) tyX9_ok nmX9 cl_9 in_9 0 (Nat.le_of_ble_eq_true rfl) rfl f_9_75 rfl (ge_bW9_0 S) (Nat.le_of_ble_eq_true rfl) rfl rfl (pu_bW9_0_0 S (0 : Int32)) ?_
  refine bs_nameS bW9 (fun S1 eS1 => ?_)
  replace h := h S1 eS1
  refine bs_aload_n C (bf_dk dd_X9_look 3 rfl) rfl ?_
  refine bs_selfV_v C hR (c_X9_laysNodes _ _ _ _ _ S1 _ h) my_X9_laysNodes m_9_262 rfl cl_9 (ge_bW9_0 _) rfl (Nat.le_of_ble_eq_true rfl) (Nat.le_of_ble_eq_true rfl) (st := []) (Nat.le_of_ble_eq_true rfl) (bf_dk dd_X9_look 4 rfl) rfl (len := 21) (fun _ => rfl) (fun u3 h => ?_)
  refine bs_aload_n C (bf_dk dd_X9_look 5 rfl) rfl ?_
  refine bs_iload_n C (bf_dk dd_X9_look 6 rfl) rfl ?_
  refine bs_iconst C (bf_dk dd_X9_look 7 rfl) (0 : Int32) (by decide) ?_
  refine bs_iconst C (bf_dk dd_X9_look 8 rfl) (5 : Int32) (by decide) ?_
  refine bs_selfPV_i C hR (c_X9_isIn _ _ _ _ _ u3 (a1) ((0 : Int32)) ((5 : Int32)) _ h) my_X9_isIn m_9_82 rfl cl_9 (ge_bW9_0 _) rfl (Nat.le_of_ble_eq_true rfl) (Nat.le_of_ble_eq_true rfl) (st := []) (Nat.le_of_ble_eq_true rfl) (bf_dk dd_X9_look 9 rfl) rfl (fun r4 h => ?_)
  refine bs_if_eq C (bf_dk dd_X9_look 10 rfl) (tgt := 25) rfl (fun c => ?_) (fun c => ?_)
  · replace h := h.1 c
    refine bs_aload_n C (bf_dk dd_X9_look 15 rfl) rfl ?_
    refine bs_iload_n C (bf_dk dd_X9_look 16 rfl) rfl ?_
    refine bs_bipush C (bf_dk dd_X9_look 17 rfl) (6 : Int32) (by decide) ?_
    refine bs_bipush C (bf_dk dd_X9_look 18 rfl) (9 : Int32) (by decide) ?_
    refine bs_selfPV_i C hR (c_X9_isIn _ _ _ _ _ u3 (a1) ((6 : Int32)) ((9 : Int32)) _ h) my_X9_isIn m_9_82 rfl cl_9 (ge_bW9_0 _) rfl (Nat.le_of_ble_eq_true rfl) (Nat.le_of_ble_eq_true rfl) (st := []) (Nat.le_of_ble_eq_true rfl) (bf_dk dd_X9_look 19 rfl) rfl (fun r6 h => ?_)
    refine bs_if_eq C (bf_dk dd_X9_look 20 rfl) (tgt := 44) rfl (fun c => ?_) (fun c => ?_)
    · replace h := h.1 c
      refine bs_iload_n C (bf_dk dd_X9_look 26 rfl) rfl ?_
      refine bs_bipush C (bf_dk dd_X9_look 27 rfl) (10 : Int32) (by decide) ?_
      refine bs_icmp_ne C (bf_dk dd_X9_look 28 rfl) (tgt := 55) rfl (fun c => ?_) (fun c => ?_)
      · replace h := h.1 c
        refine bs_iload_n C (bf_dk dd_X9_look 32 rfl) rfl ?_
        refine bs_bipush C (bf_dk dd_X9_look 33 rfl) (11 : Int32) (by decide) ?_
        refine bs_icmp_ne C (bf_dk dd_X9_look 34 rfl) (tgt := 66) rfl (fun c => ?_) (fun c => ?_)
        · replace h := h.1 c
          refine bs_iload_n C (bf_dk dd_X9_look 38 rfl) rfl ?_
          refine bs_bipush C (bf_dk dd_X9_look 39 rfl) (12 : Int32) (by decide) ?_
          refine bs_icmp_ne C (bf_dk dd_X9_look 40 rfl) (tgt := 77) rfl (fun c => ?_) (fun c => ?_)
          · replace h := h.1 c
            refine bs_iload_n C (bf_dk dd_X9_look 44 rfl) rfl ?_
            refine bs_bipush C (bf_dk dd_X9_look 45 rfl) (13 : Int32) (by decide) ?_
            refine bs_icmp_ne C (bf_dk dd_X9_look 46 rfl) (tgt := 88) rfl (fun c => ?_) (fun c => ?_)
            · replace h := h.1 c
              refine bs_iload_n C (bf_dk dd_X9_look 50 rfl) rfl ?_
              refine bs_bipush C (bf_dk dd_X9_look 51 rfl) (14 : Int32) (by decide) ?_
              refine bs_icmp_ne C (bf_dk dd_X9_look 52 rfl) (tgt := 99) rfl (fun c => ?_) (fun c => ?_)
              · replace h := h.1 c
                refine bs_iload_n C (bf_dk dd_X9_look 56 rfl) rfl ?_
                refine bs_bipush C (bf_dk dd_X9_look 57 rfl) (15 : Int32) (by decide) ?_
                refine bs_icmp_ne C (bf_dk dd_X9_look 58 rfl) (tgt := 110) rfl (fun c => ?_) (fun c => ?_)
                · replace h := h.1 c
                  refine bs_iload_n C (bf_dk dd_X9_look 62 rfl) rfl ?_
                  refine bs_bipush C (bf_dk dd_X9_look 63 rfl) (16 : Int32) (by decide) ?_
                  refine bs_icmp_ne C (bf_dk dd_X9_look 64 rfl) (tgt := 121) rfl (fun c => ?_) (fun c => ?_)
                  · replace h := h.1 c
                    refine bs_iload_n C (bf_dk dd_X9_look 68 rfl) rfl ?_
                    refine bs_bipush C (bf_dk dd_X9_look 69 rfl) (17 : Int32) (by decide) ?_
                    refine bs_icmp_ne C (bf_dk dd_X9_look 70 rfl) (tgt := 135) rfl (fun c => ?_) (fun c => ?_)
                    · replace h := h.1 c
                      refine bs_iload_n C (bf_dk dd_X9_look 76 rfl) rfl ?_
                      refine bs_bipush C (bf_dk dd_X9_look 77 rfl) (18 : Int32) (by decide) ?_
                      refine bs_icmp_ne C (bf_dk dd_X9_look 78 rfl) (tgt := 146) rfl (fun c => ?_) (fun c => ?_)
                      · replace h := h.1 c
                        refine bs_iload_n C (bf_dk dd_X9_look 82 rfl) rfl ?_
                        refine bs_bipush C (bf_dk dd_X9_look 83 rfl) (19 : Int32) (by decide) ?_
                        refine bs_icmp_ne C (bf_dk dd_X9_look 84 rfl) (tgt := 159) rfl (fun c => ?_) (fun c => ?_)
                        · replace h := h.1 c
                          refine bs_iload_n C (bf_dk dd_X9_look 88 rfl) rfl ?_
                          refine bs_bipush C (bf_dk dd_X9_look 89 rfl) (20 : Int32) (by decide) ?_
                          refine bs_icmp_ne C (bf_dk dd_X9_look 90 rfl) (tgt := 172) rfl (fun c => ?_) (fun c => ?_)
                          · replace h := h.1 c
                            refine bs_ldcw C (bf_dk dd_X9_look 94 rfl) k_9_458 ?_
                            exact bs_iret (u := u3) C (bf_dk dd_X9_look 95 rfl) rfl h
                          · replace h := h.2 c
                            refine bs_aload_n C (bf_dk dd_X9_look 91 rfl) rfl ?_
                            refine bs_selfPV_i C hR (c_X9_beginningBytes _ _ _ _ _ u3 _ h) my_X9_beginningBytes m_9_455 rfl cl_9 (ge_bW9_0 _) rfl (Nat.le_of_ble_eq_true rfl) (Nat.le_of_ble_eq_true rfl) (st := []) (Nat.le_of_ble_eq_true rfl) (bf_dk dd_X9_look 92 rfl) rfl (fun r8 h => ?_)
                            refine bs_goto C (bf_dk dd_X9_look 93 rfl) (tgt := 175) rfl ?_
                            exact bs_iret (u := u3) C (bf_dk dd_X9_look 95 rfl) rfl h
                        · replace h := h.2 c
                          refine bs_aload_n C (bf_dk dd_X9_look 85 rfl) rfl ?_
                          refine bs_selfPV_i C hR (c_X9_endedMany _ _ _ _ _ u3 _ h) my_X9_endedMany m_9_452 rfl cl_9 (ge_bW9_0 _) rfl (Nat.le_of_ble_eq_true rfl) (Nat.le_of_ble_eq_true rfl) (st := []) (Nat.le_of_ble_eq_true rfl) (bf_dk dd_X9_look 86 rfl) rfl (fun r10 h => ?_)
                          refine bs_goto C (bf_dk dd_X9_look 87 rfl) (tgt := 175) rfl ?_
                          exact bs_iret (u := u3) C (bf_dk dd_X9_look 95 rfl) rfl h
                      · replace h := h.2 c
                        refine bs_aload_n C (bf_dk dd_X9_look 79 rfl) rfl ?_
                        refine bs_get C (bf_dk dd_X9_look 80 rfl) cl_9 in_9 7 (Nat.le_of_ble_eq_true rfl) rfl f_9_146 (ge_bW9_0 u3) rfl ?_
                        exact bs_iret (u := u3) C (bf_dk dd_X9_look 81 rfl) rfl h
                    · replace h := h.2 c
                      refine bs_aload_n C (bf_dk dd_X9_look 71 rfl) rfl ?_
                      refine bs_get C (bf_dk dd_X9_look 72 rfl) cl_9 in_9 1 (Nat.le_of_ble_eq_true rfl) rfl f_9_7 (ge_bW9_0 u3) rfl ?_
                      refine bs_bipush C (bf_dk dd_X9_look 73 rfl) (10 : Int32) (by decide) ?_
                      obtain ⟨hi, h⟩ := h
                      refine bs_iald C (bf_dk dd_X9_look 74 rfl) (ge_bW9_1 u3) hi ?_
                      exact bs_iret (u := u3) C (bf_dk dd_X9_look 75 rfl) rfl h
                  · replace h := h.2 c
                    refine bs_aload_n C (bf_dk dd_X9_look 65 rfl) rfl ?_
                    refine bs_selfPV_i C hR (c_X9_nextBits _ _ _ _ _ u3 _ h) my_X9_nextBits m_9_313 rfl cl_9 (ge_bW9_0 _) rfl (Nat.le_of_ble_eq_true rfl) (Nat.le_of_ble_eq_true rfl) (st := []) (Nat.le_of_ble_eq_true rfl) (bf_dk dd_X9_look 66 rfl) rfl (fun r12 h => ?_)
                    exact bs_iret (u := u3) C (bf_dk dd_X9_look 67 rfl) rfl h
                · replace h := h.2 c
                  refine bs_aload_n C (bf_dk dd_X9_look 59 rfl) rfl ?_
                  refine bs_selfPV_i C hR (c_X9_hashBits _ _ _ _ _ u3 _ h) my_X9_hashBits m_9_310 rfl cl_9 (ge_bW9_0 _) rfl (Nat.le_of_ble_eq_true rfl) (Nat.le_of_ble_eq_true rfl) (st := []) (Nat.le_of_ble_eq_true rfl) (bf_dk dd_X9_look 60 rfl) rfl (fun r14 h => ?_)
                  exact bs_iret (u := u3) C (bf_dk dd_X9_look 61 rfl) rfl h
              · replace h := h.2 c
                refine bs_aload_n C (bf_dk dd_X9_look 53 rfl) rfl ?_
                refine bs_get C (bf_dk dd_X9_look 54 rfl) cl_9 in_9 24 (Nat.le_of_ble_eq_true rfl) rfl f_9_250 (ge_bW9_0 u3) rfl ?_
                exact bs_iret (u := u3) C (bf_dk dd_X9_look 55 rfl) rfl h
            · replace h := h.2 c
              refine bs_aload_n C (bf_dk dd_X9_look 47 rfl) rfl ?_
              refine bs_get C (bf_dk dd_X9_look 48 rfl) cl_9 in_9 19 (Nat.le_of_ble_eq_true rfl) rfl f_9_216 (ge_bW9_0 u3) rfl ?_
              exact bs_iret (u := u3) C (bf_dk dd_X9_look 49 rfl) rfl h
          · replace h := h.2 c
            refine bs_aload_n C (bf_dk dd_X9_look 41 rfl) rfl ?_
            refine bs_get C (bf_dk dd_X9_look 42 rfl) cl_9 in_9 18 (Nat.le_of_ble_eq_true rfl) rfl f_9_213 (ge_bW9_0 u3) rfl ?_
            exact bs_iret (u := u3) C (bf_dk dd_X9_look 43 rfl) rfl h
        · replace h := h.2 c
          refine bs_aload_n C (bf_dk dd_X9_look 35 rfl) rfl ?_
          refine bs_get C (bf_dk dd_X9_look 36 rfl) cl_9 in_9 17 (Nat.le_of_ble_eq_true rfl) rfl f_9_201 (ge_bW9_0 u3) rfl ?_
          exact bs_iret (u := u3) C (bf_dk dd_X9_look 37 rfl) rfl h
      · replace h := h.2 c
        refine bs_aload_n C (bf_dk dd_X9_look 29 rfl) rfl ?_
        refine bs_get C (bf_dk dd_X9_look 30 rfl) cl_9 in_9 16 (Nat.le_of_ble_eq_true rfl) rfl f_9_198 (ge_bW9_0 u3) rfl ?_
        exact bs_iret (u := u3) C (bf_dk dd_X9_look 31 rfl) rfl h
    · replace h := h.2 c
      refine bs_aload_n C (bf_dk dd_X9_look 21 rfl) rfl ?_
      refine bs_get C (bf_dk dd_X9_look 22 rfl) cl_9 in_9 1 (Nat.le_of_ble_eq_true rfl) rfl f_9_7 (ge_bW9_0 u3) rfl ?_
      refine bs_iload_n C (bf_dk dd_X9_look 23 rfl) rfl ?_
      obtain ⟨hi, h⟩ := h
      refine bs_iald C (bf_dk dd_X9_look 24 rfl) (ge_bW9_1 u3) hi ?_
      exact bs_iret (u := u3) C (bf_dk dd_X9_look 25 rfl) rfl h
  · replace h := h.2 c
    refine bs_aload_n C (bf_dk dd_X9_look 11 rfl) rfl ?_
    refine bs_iload_n C (bf_dk dd_X9_look 12 rfl) rfl ?_
    refine bs_selfPV_i C hR (c_X9_settingOf _ _ _ _ _ u3 (a1) _ h) my_X9_settingOf m_9_139 rfl cl_9 (ge_bW9_0 _) rfl (Nat.le_of_ble_eq_true rfl) (Nat.le_of_ble_eq_true rfl) (st := []) (Nat.le_of_ble_eq_true rfl) (bf_dk dd_X9_look 13 rfl) rfl (fun r16 h => ?_)
    exact bs_iret (u := u3) C (bf_dk dd_X9_look 14 rfl) rfl h
theorem c_X9_look (l : Launch) (dC : Nat → ClassId) (dI : Nat → Nat → Nat) (ac : Nat → ClassId) (al : Nat → Nat) (S : bT9) (a1 : Int32) (Q : Int32 → (bT9) → Prop) (h : wp_X9_look S a1 Q) : bf_M l yX9_look cX9_look 2 (some .int) 8 182 dC dI ac al [.ref 0, .int a1] (bW9 S) (bf_Ki dC dI ac al bW9 Q) := by
  refine bf_start [some (.ref 0), some (.int a1)] (by decide) (Nat.le_of_ble_eq_true rfl) (bf_s1 (bf_s1 bf_s0)) ?_
  intro X hl C hR e1 e2 e3 e4
  subst e1; subst e2; subst e3; subst e4
  exact t_X9_look C hR S a1 Q h
