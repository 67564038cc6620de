def wp_X9_powerOf (S : bT9) (a1 : Int32) (Q : Int64 → Prop) : Prop := (Q ((1 : Int64) <<< ((((8 : Int32) * a1)).toInt64 &&& 63)))
set_option maxRecDepth 20000 in
theorem t_X9_powerOf {X : bf_X} (C : bf_C X RX9 cX9_powerOf 2 (some .long)) (hR : bf_Rm X 0 0) (S : bT9) (a1 : Int32) (Q : Int64 → Prop) (h : wp_X9_powerOf S a1 Q) : bf_A X (bf_Zl X bW9 (fun r u => u = S ∧ Q r)) 2 0 [some (.ref 0), some (.int a1)] [] (bW9 S) := by
  unfold wp_X9_powerOf at h
  refine bs_lconst C (bf_dk dd_X9_powerOf 0 rfl) (1 : Int64) (by decide) ?_
  refine bs_bipush C (bf_dk dd_X9_powerOf 1 rfl) (8 : Int32) (by decide) ?_
  refine bs_iload_n C (bf_dk dd_X9_powerOf 2 rfl) rfl ?_
  refine bs_imul C (bf_dk dd_X9_powerOf 3 rfl) ?_
  refine bs_lshl C (bf_dk dd_X9_powerOf 4 rfl) ?_
  exact bs_lret (u := S) C (bf_dk dd_X9_powerOf 5 rfl) rfl ⟨rfl, h⟩
theorem c_X9_powerOf (l : Launch) (dC : Nat → ClassId) (dI : Nat → Nat → Nat) (ac : Nat → ClassId) (al : Nat → Nat) (S : bT9) (a1 : Int32) (Q : Int64 → Prop) (h : wp_X9_powerOf S a1 Q) : bf_M l yX9_powerOf cX9_powerOf 2 (some .long) 0 0 dC dI ac al [.ref 0, .int a1] (bW9 S) (bf_Kl dC dI ac al bW9 (fun r u => u = S ∧ Q r)) := by
  refine bf_start [some (.ref 0), some (.int a1)] (by decide) (Nat.le_of_ble_eq_true rfl) (bf_s1 (bf_s1 bf_s0)) ?_
  intro X hl C hR e1 e2 e3 e4
  subst e1; subst e2; subst e3; subst e4
  exact t_X9_powerOf C hR S a1 Q h
def wp_X9_lessKeys_21 (S : bT9) (x3 : Int32) (x4 : Int32) (t0 : Int64) (Q : Int64 → Prop) : Prop := ((x3 ≤ x4 → (Q t0)) ∧ (¬ x3 ≤ x4 → (Q (t0 + (1 : Int64)))))
set_option maxRecDepth 20000 in
theorem t_X9_lessKeys_21 {X : bf_X} (C : bf_C X RX9 cX9_lessKeys 7 (some .long)) (hR : bf_Rm X 0 0) (S : bT9) (x3 : Int32) (x4 : Int32) (t0 : Int64) (Q : Int64 → Prop) (h : wp_X9_lessKeys_21 S x3 x4 t0 Q) : bf_A X (bf_Zl X bW9 (fun r u => u = S ∧ Q r)) 7 21 [none, none, none, some (.int x3), some (.int x4), none, none] [.long t0] (bW9 S) := by
  unfold wp_X9_lessKeys_21 at h
  refine bs_lstore C (bf_dk dd_X9_lessKeys 12 rfl) (Nat.le_of_ble_eq_true rfl) (Nat.le_of_ble_eq_true rfl) (lv2 := [none, none, none, some (.int x3), some (.int x4), some (.long t0), none]) rfl ?_
  refine bs_iload_n C (bf_dk dd_X9_lessKeys 13 rfl) rfl ?_
  refine bs_iload C (bf_dk dd_X9_lessKeys 14 rfl) rfl ?_
  refine bs_icmp_le C (bf_dk dd_X9_lessKeys 15 rfl) (tgt := 36) rfl (fun c => ?_) (fun c => ?_)
  · replace h := h.1 c
    refine bs_lload C (bf_dk dd_X9_lessKeys 20 rfl) rfl ?_
    exact bs_lret (u := S) C (bf_dk dd_X9_lessKeys 21 rfl) rfl ⟨rfl, h⟩
  · replace h := h.2 c
    refine bs_lload C (bf_dk dd_X9_lessKeys 16 rfl) rfl ?_
    refine bs_lconst C (bf_dk dd_X9_lessKeys 17 rfl) (1 : Int64) (by decide) ?_
    refine bs_ladd C (bf_dk dd_X9_lessKeys 18 rfl) ?_
    refine bs_goto C (bf_dk dd_X9_lessKeys 19 rfl) (tgt := 38) rfl ?_
    exact bs_lret (u := S) C (bf_dk dd_X9_lessKeys 21 rfl) rfl ⟨rfl, h⟩
def wp_X9_lessKeys (S : bT9) (a1 : Int64) (a3 : Int32) (a4 : Int32) (Q : Int64 → Prop) : Prop := ((¬ a4 = (8 : Int32) → (wp_X9_lessKeys_21 S (a3) (a4) ((((a1).toUInt64 >>> ((((64 : Int32) - ((8 : Int32) * a4))).toInt64.toUInt64 &&& Int64.toUInt64 63)).toInt64)) Q)) ∧ (a4 = (8 : Int32) → (wp_X9_lessKeys_21 S (a3) (a4) ((0 : Int64)) Q)))
set_option maxRecDepth 20000 in
theorem t_X9_lessKeys {X : bf_X} (C : bf_C X RX9 cX9_lessKeys 7 (some .long)) (hR : bf_Rm X 0 0) (S : bT9) (a1 : Int64) (a3 : Int32) (a4 : Int32) (Q : Int64 → Prop) (h : wp_X9_lessKeys S a1 a3 a4 Q) : bf_A X (bf_Zl X bW9 (fun r u => u = S ∧ Q r)) 7 0 [some (.ref 0), some (.long a1), none, some (.int a3), some (.int a4), none, none] [] (bW9 S) := by
  unfold wp_X9_lessKeys at h
  refine bs_iload C (bf_dk dd_X9_lessKeys 0 rfl) rfl ?_
  refine bs_bipush C (bf_dk dd_X9_lessKeys 1 rfl) (8 : Int32) (by decide) ?_
  refine bs_icmp_ne C (bf_dk dd_X9_lessKeys 2 rfl) (tgt := 11) rfl (fun c => ?_) (fun c => ?_)
  · replace h := h.1 c
    refine bs_lload_n C (bf_dk dd_X9_lessKeys 5 rfl) rfl ?_
    refine bs_bipush C (bf_dk dd_X9_lessKeys 6 rfl) (64 : Int32) (by decide) ?_
    refine bs_bipush C (bf_dk dd_X9_lessKeys 7 rfl) (8 : Int32) (by decide) ?_
    refine bs_iload C (bf_dk dd_X9_lessKeys 8 rfl) rfl ?_
    refine bs_imul C (bf_dk dd_X9_lessKeys 9 rfl) ?_
    refine bs_isub C (bf_dk dd_X9_lessKeys 10 rfl) ?_
    refine bs_lushr C (bf_dk dd_X9_lessKeys 11 rfl) ?_
    exact bs_weak (bf_sn (bf_sn (bf_sn (bf_s1 (bf_s1 (bf_sn (bf_sn bf_s0))))))) (t_X9_lessKeys_21 C hR S (a3) (a4) ((((a1).toUInt64 >>> ((((64 : Int32) - ((8 : Int32) * a4))).toInt64.toUInt64 &&& Int64.toUInt64 63)).toInt64)) Q h)
  · replace h := h.2 c
    refine bs_lconst C (bf_dk dd_X9_lessKeys 3 rfl) (0 : Int64) (by decide) ?_
    refine bs_goto C (bf_dk dd_X9_lessKeys 4 rfl) (tgt := 21) rfl ?_
    exact bs_weak (bf_sn (bf_sn (bf_sn (bf_s1 (bf_s1 (bf_sn (bf_sn bf_s0))))))) (t_X9_lessKeys_21 C hR S (a3) (a4) ((0 : Int64)) Q h)
theorem c_X9_lessKeys (l : Launch) (dC : Nat → ClassId) (dI : Nat → Nat → Nat) (ac : Nat → ClassId) (al : Nat → Nat) (S : bT9) (a1 : Int64) (a3 : Int32) (a4 : Int32) (Q : Int64 → Prop) (h : wp_X9_lessKeys S a1 a3 a4 Q) : bf_M l yX9_lessKeys cX9_lessKeys 7 (some .long) 0 0 dC dI ac al [.ref 0, .long a1, .int a3, .int a4] (bW9 S) (bf_Kl dC dI ac al bW9 (fun r u => u = S ∧ Q r)) := by
  refine bf_start [some (.ref 0), some (.long a1), none, some (.int a3), some (.int a4), none, none] (by decide) (Nat.le_of_ble_eq_true rfl) (bf_s1 (bf_s1 (bf_sn (bf_s1 (bf_s1 (bf_en 2)))))) ?_
  intro X hl C hR e1 e2 e3 e4
  subst e1; subst e2; subst e3; subst e4
  exact t_X9_lessKeys C hR S a1 a3 a4 Q h
def wp_X9_notMoreKeys (S : bT9) (a1 : Int64) (a3 : Int32) (a4 : Int32) (Q : Int64 → Prop) : Prop := (wp_X9_lessKeys S (a1) (a3) (a4) (fun r1 => ((¬ a3 = a4 → (Q (r1 + (0 : Int64)))) ∧ (a3 = a4 → (Q (r1 + (1 : Int64)))))))
set_option maxRecDepth 20000 in
theorem t_X9_notMoreKeys {X : bf_X} (C : bf_C X RX9 cX9_notMoreKeys 5 (some .long)) (hR : bf_Rm X 1 26) (S : bT9) (a1 : Int64) (a3 : Int32) (a4 : Int32) (Q : Int64 → Prop) (h : wp_X9_notMoreKeys S a1 a3 a4 Q) : bf_A X (bf_Zl X bW9 (fun r u => u = S ∧ Q r)) 5 0 [some (.ref 0), some (.long a1), none, some (.int a3), some (.int a4)] [] (bW9 S) := by
  unfold wp_X9_notMoreKeys at h
  refine bs_aload_n C (bf_dk dd_X9_notMoreKeys 0 rfl) rfl ?_
  refine bs_lload_n C (bf_dk dd_X9_notMoreKeys 1 rfl) rfl ?_
  refine bs_iload_n C (bf_dk dd_X9_notMoreKeys 2 rfl) rfl ?_
  refine bs_iload C (bf_dk dd_X9_notMoreKeys 3 rfl) rfl ?_
  refine bs_selfPV_l C hR (c_X9_lessKeys _ _ _ _ _ S (a1) (a3) (a4) _ h) my_X9_lessKeys m_9_411 rfl cl_9 (ge_bW9_0 _) rfl (Nat.le_of_ble_eq_true rfl) (Nat.le_of_ble_eq_true rfl) (st := []) (Nat.le_of_ble_eq_true rfl) (bf_dk dd_X9_notMoreKeys 4 rfl) rfl (fun r1 h => ?_)
  refine bs_iload_n C (bf_dk dd_X9_notMoreKeys 5 rfl) rfl ?_
  refine bs_iload C (bf_dk dd_X9_notMoreKeys 6 rfl) rfl ?_
  refine bs_icmp_ne C (bf_dk dd_X9_notMoreKeys 7 rfl) (tgt := 18) rfl (fun c => ?_) (fun c => ?_)
  · replace h := h.1 c
    refine bs_lconst C (bf_dk dd_X9_notMoreKeys 10 rfl) (0 : Int64) (by decide) ?_
    refine bs_ladd C (bf_dk dd_X9_notMoreKeys 11 rfl) ?_
    exact bs_lret (u := S) C (bf_dk dd_X9_notMoreKeys 12 rfl) rfl ⟨rfl, h⟩
  · replace h := h.2 c
    refine bs_lconst C (bf_dk dd_X9_notMoreKeys 8 rfl) (1 : Int64) (by decide) ?_
    refine bs_goto C (bf_dk dd_X9_notMoreKeys 9 rfl) (tgt := 19) rfl ?_
    refine bs_ladd C (bf_dk dd_X9_notMoreKeys 11 rfl) ?_
    exact bs_lret (u := S) C (bf_dk dd_X9_notMoreKeys 12 rfl) rfl ⟨rfl, h⟩
theorem c_X9_notMoreKeys (l : Launch) (dC : Nat → ClassId) (dI : Nat → Nat → Nat) (ac : Nat → ClassId) (al : Nat → Nat) (S : bT9) (a1 : Int64) (a3 : Int32) (a4 : Int32) (Q : Int64 → Prop) (h : wp_X9_notMoreKeys S a1 a3 a4 Q) : bf_M l yX9_notMoreKeys cX9_notMoreKeys 5 (some .long) 1 26 dC dI ac al [.ref 0, .long a1, .int a3, .int a4] (bW9 S) (bf_Kl dC dI ac al bW9 (fun r u => u = S ∧ Q r)) := by
  refine bf_start [some (.ref 0), some (.long a1), none, some (.int a3), some (.int a4)] (by decide) (Nat.le_of_ble_eq_true rfl) (bf_s1 (bf_s1 (bf_sn (bf_s1 (bf_s1 bf_s0))))) ?_
  intro X hl C hR e1 e2 e3 e4
  subst e1; subst e2; subst e3; subst e4
  exact t_X9_notMoreKeys C hR S a1 a3 a4 Q h
def wp_X9_coverOf_5b (S : bT9) (x1 : Int32) (x2 : Int64) (x4 : Int32) (Q : Int64 → (bT9) → Prop) (B5 : Int32 → Int64 → Int32 → (bT9) → Prop) : Prop := (wp_X9_leaves S (fun r1 u2 => ((r1 ≤ x4 → (Q x2 u2)) ∧ (¬ r1 ≤ x4 → (wp_X9_nextBits u2 (fun r3 => (wp_X9_bounds u2 (x4) (r3) (fun u6 => (wp_X9_notMoreKeys u6 ((b9g_highKey u6)) ((b9g_highLength u6)) (x1) (fun r7 => (wp_X9_lessKeys u6 ((b9g_lowKey u6)) ((b9g_lowLength u6)) (x1) (fun r9 => (B5 (x1) (((x2 + r7) - r9)) ((x4 + (1 : Int32))) u6)))))))))))))
set_option maxRecDepth 20000 in
theorem t_X9_coverOf_5b {X : bf_X} (C : bf_C X RX9 cX9_coverOf 5 (some .long)) (hR : bf_Rm X 4 89) (S : bT9) (x1 : Int32) (x2 : Int64) (x4 : Int32) (Q : Int64 → (bT9) → Prop) (B5 : Int32 → Int64 → Int32 → (bT9) → Prop) (hB5 : ∀ (x1 : Int32) (x2 : Int64) (x4 : Int32) (S : bT9), B5 x1 x2 x4 S → bf_A X (bf_Zl X bW9 Q) 5 5 [some (.ref 0), some (.int x1), some (.long x2), none, some (.int x4)] [] (bW9 S)) (h : wp_X9_coverOf_5b S x1 x2 x4 Q B5) : bf_A X (bf_Zl X bW9 Q) 5 5 [some (.ref 0), some (.int x1), some (.long x2), none, some (.int x4)] [] (bW9 S) := by
  unfold wp_X9_coverOf_5b at h
  refine bs_iload C (bf_dk dd_X9_coverOf 4 rfl) rfl ?_
  refine bs_aload_n C (bf_dk dd_X9_coverOf 5 rfl) rfl ?_
  refine bs_selfV_i C hR (c_X9_leaves _ _ _ _ _ S _ h) my_X9_leaves m_9_268 rfl cl_9 (ge_bW9_0 _) rfl (Nat.le_of_ble_eq_true rfl) (Nat.le_of_ble_eq_true rfl) (st := [.int x4]) (Nat.le_of_ble_eq_true rfl) (bf_dk dd_X9_coverOf 6 rfl) rfl (len := 21) (fun _ => rfl) (fun r1 u2 h => ?_)
  refine bs_icmp_ge C (bf_dk dd_X9_coverOf 7 rfl) (tgt := 60) rfl (fun c => ?_) (fun c => ?_)
  · replace h := h.1 c
    refine bs_lload_n C (bf_dk dd_X9_coverOf 33 rfl) rfl ?_
    exact bs_lret (u := u2) C (bf_dk dd_X9_coverOf 34 rfl) rfl h
  · replace h := h.2 c
    refine bs_aload_n C (bf_dk dd_X9_coverOf 8 rfl) rfl ?_
    refine bs_iload C (bf_dk dd_X9_coverOf 9 rfl) rfl ?_
    refine bs_aload_n C (bf_dk dd_X9_coverOf 10 rfl) rfl ?_
    refine bs_selfPV_i C hR (c_X9_nextBits _ _ _ _ _ u2 _ h) my_X9_nextBits m_9_313 rfl cl_9 (ge_bW9_0 _) rfl (Nat.le_of_ble_eq_true rfl) (Nat.le_of_ble_eq_true rfl) (st := [.int x4, .ref 0]) (Nat.le_of_ble_eq_true rfl) (bf_dk dd_X9_coverOf 11 rfl) rfl (fun r3 h => ?_)
    refine bs_selfV_v C hR (c_X9_bounds _ _ _ _ _ u2 (x4) (r3) _ h) my_X9_bounds m_9_292 rfl cl_9 (ge_bW9_0 _) rfl (Nat.le_of_ble_eq_true rfl) (Nat.le_of_ble_eq_true rfl) (st := []) (Nat.le_of_ble_eq_true rfl) (bf_dk dd_X9_coverOf 12 rfl) rfl (len := 21) (fun _ => rfl) (fun u6 h => ?_)
    refine bs_lload_n C (bf_dk dd_X9_coverOf 13 rfl) rfl ?_
    refine bs_aload_n C (bf_dk dd_X9_coverOf 14 rfl) rfl ?_
    refine bs_aload_n C (bf_dk dd_X9_coverOf 15 rfl) rfl ?_
    refine bs_get C (bf_dk dd_X9_coverOf 16 rfl) cl_9 in_9 29 (Nat.le_of_ble_eq_true rfl) rfl f_9_277 (ge_bW9_0 u6) rfl ?_
    refine bs_aload_n C (bf_dk dd_X9_coverOf 17 rfl) rfl ?_
    refine bs_get C (bf_dk dd_X9_coverOf 18 rfl) cl_9 in_9 31 (Nat.le_of_ble_eq_true rfl) rfl f_9_280 (ge_bW9_0 u6) rfl ?_
    refine bs_iload_n C (bf_dk dd_X9_coverOf 19 rfl) rfl ?_
    refine bs_selfPV_l C hR (c_X9_notMoreKeys _ _ _ _ _ u6 ((b9g_highKey u6)) ((b9g_highLength u6)) (x1) _ h) my_X9_notMoreKeys m_9_415 rfl cl_9 (ge_bW9_0 _) rfl (Nat.le_of_ble_eq_true rfl) (Nat.le_of_ble_eq_true rfl) (st := [.long x2]) (Nat.le_of_ble_eq_true rfl) (bf_dk dd_X9_coverOf 20 rfl) rfl (fun r7 h => ?_)
    refine bs_ladd C (bf_dk dd_X9_coverOf 21 rfl) ?_
    refine bs_aload_n C (bf_dk dd_X9_coverOf 22 rfl) rfl ?_
    refine bs_aload_n C (bf_dk dd_X9_coverOf 23 rfl) rfl ?_
    refine bs_get C (bf_dk dd_X9_coverOf 24 rfl) cl_9 in_9 28 (Nat.le_of_ble_eq_true rfl) rfl f_9_271 (ge_bW9_0 u6) rfl ?_
    refine bs_aload_n C (bf_dk dd_X9_coverOf 25 rfl) rfl ?_
    refine bs_get C (bf_dk dd_X9_coverOf 26 rfl) cl_9 in_9 30 (Nat.le_of_ble_eq_true rfl) rfl f_9_274 (ge_bW9_0 u6) rfl ?_
    refine bs_iload_n C (bf_dk dd_X9_coverOf 27 rfl) rfl ?_
    refine bs_selfPV_l C hR (c_X9_lessKeys _ _ _ _ _ u6 ((b9g_lowKey u6)) ((b9g_lowLength u6)) (x1) _ h) my_X9_lessKeys m_9_411 rfl cl_9 (ge_bW9_0 _) rfl (Nat.le_of_ble_eq_true rfl) (Nat.le_of_ble_eq_true rfl) (st := [.long (x2 + r7)]) (Nat.le_of_ble_eq_true rfl) (bf_dk dd_X9_coverOf 28 rfl) rfl (fun r9 h => ?_)
    refine bs_lsub C (bf_dk dd_X9_coverOf 29 rfl) ?_
    refine bs_lstore_n C (bf_dk dd_X9_coverOf 30 rfl) rfl (Nat.le_of_ble_eq_true rfl) (Nat.le_of_ble_eq_true rfl) (lv2 := [some (.ref 0), some (.int x1), some (.long ((x2 + r7) - r9)), none, some (.int x4)]) rfl ?_
    refine bs_iinc C (bf_dk dd_X9_coverOf 31 rfl) (x4 + (1 : Int32)) rfl rfl (Nat.le_of_ble_eq_true rfl) (Nat.le_of_ble_eq_true rfl) (lv2 := [some (.ref 0), some (.int x1), some (.long ((x2 + r7) - r9)), none, some (.int (x4 + (1 : Int32)))]) rfl ?_
    refine bs_goto C (bf_dk dd_X9_coverOf 32 rfl) (tgt := 5) rfl ?_
    exact bs_weak (bf_s1 (bf_s1 (bf_s1 (bf_sn (bf_s1 bf_s0))))) (hB5 (x1) (((x2 + r7) - r9)) ((x4 + (1 : Int32))) u6 h)
def wp_X9_coverOf_5 (S : bT9) (x1 : Int32) (x2 : Int64) (x4 : Int32) (Q : Int64 → (bT9) → Prop) : Prop := ∃ I : Nat → Int32 → Int64 → Int32 → (bT9) → Prop, (∃ n : Nat, I n x1 x2 x4 S) ∧ ∀ (n : Nat) (x1 : Int32) (x2 : Int64) (x4 : Int32) (S : bT9), I n x1 x2 x4 S → wp_X9_coverOf_5b S x1 x2 x4 Q (fun x1 x2 x4 S => ∃ n2 : Nat, n2 < n ∧ I n2 x1 x2 x4 S)
theorem t_X9_coverOf_5 {X : bf_X} (C : bf_C X RX9 cX9_coverOf 5 (some .long)) (hR : bf_Rm X 4 89) (S : bT9) (x1 : Int32) (x2 : Int64) (x4 : Int32) (Q : Int64 → (bT9) → Prop) (h : wp_X9_coverOf_5 S x1 x2 x4 Q) : bf_A X (bf_Zl X bW9 Q) 5 5 [some (.ref 0), some (.int x1), some (.long x2), none, some (.int x4)] [] (bW9 S) := by
  obtain ⟨I, ⟨n0, h0⟩, hI⟩ := h
  have key : ∀ (n : Nat) (x1 : Int32) (x2 : Int64) (x4 : Int32) (S : bT9), I n x1 x2 x4 S → bf_A X (bf_Zl X bW9 Q) 5 5 [some (.ref 0), some (.int x1), some (.long x2), none, some (.int x4)] [] (bW9 S) := by
    intro n
    induction n using Nat.strongRecOn with
    | _ n ih =>
      intro x1 x2 x4 S hi
      exact t_X9_coverOf_5b C hR S x1 x2 x4 Q _ (fun x1 x2 x4 S hb => by obtain ⟨n2, hn, hi2⟩ := hb; exact ih n2 hn x1 x2 x4 S hi2) (hI n x1 x2 x4 S hi)
  exact key n0 x1 x2 x4 S h0
def wp_X9_coverOf (S : bT9) (a1 : Int32) (Q : Int64 → (bT9) → Prop) : Prop := (wp_X9_coverOf_5 S (a1) ((0 : Int64)) ((0 : Int32)) Q)
set_option maxRecDepth 20000 in
theorem t_X9_coverOf {X : bf_X} (C : bf_C X RX9 cX9_coverOf 5 (some .long)) (hR : bf_Rm X 4 89) (S : bT9) (a1 : Int32) (Q : Int64 → (bT9) → Prop) (h : wp_X9_coverOf S a1 Q) : bf_A X (bf_Zl X bW9 Q) 5 0 [some (.ref 0), some (.int a1), none, none, none] [] (bW9 S) := by
  unfold wp_X9_coverOf at h
  refine bs_lconst C (bf_dk dd_X9_coverOf 0 rfl) (0 : Int64) (by decide) ?_
  refine bs_lstore_n C (bf_dk dd_X9_coverOf 1 rfl) rfl (Nat.le_of_ble_eq_true rfl) (Nat.le_of_ble_eq_true rfl) (lv2 := [some (.ref 0), some (.int a1), some (.long (0 : Int64)), none, none]) rfl ?_
  refine bs_iconst C (bf_dk dd_X9_coverOf 2 rfl) (0 : Int32) (by decide) ?_
  refine bs_istore C (bf_dk dd_X9_coverOf 3 rfl) (Nat.le_of_ble_eq_true rfl) (Nat.le_of_ble_eq_true rfl) (lv2 := [some (.ref 0), some (.int a1), some (.long (0 : Int64)), none, some (.int (0 : Int32))]) rfl ?_
  exact bs_weak (bf_s1 (bf_s1 (bf_s1 (bf_sn (bf_s1 bf_s0))))) (t_X9_coverOf_5 C hR S (a1) ((0 : Int64)) ((0 : Int32)) Q h)
theorem c_X9_coverOf (l : Launch) (dC : Nat → ClassId) (dI : Nat → Nat → Nat) (ac : Nat → ClassId) (al : Nat → Nat) (S : bT9) (a1 : Int32) (Q : Int64 → (bT9) → Prop) (h : wp_X9_coverOf S a1 Q) : bf_M l yX9_coverOf cX9_coverOf 5 (some .long) 4 89 dC dI ac al [.ref 0, .int a1] (bW9 S) (bf_Kl dC dI ac al bW9 Q) := by
  refine bf_start [some (.ref 0), some (.int a1), none, none, none] (by decide) (Nat.le_of_ble_eq_true rfl) (bf_s1 (bf_s1 (bf_en 3))) ?_
  intro X hl C hR e1 e2 e3 e4
  subst e1; subst e2; subst e3; subst e4
  exact t_X9_coverOf C hR S a1 Q h
def wp_X9_cover (S : bT9) (a1 : Int32) (Q : Int64 → (bT9) → Prop) : Prop := (∀ S1 : bT9, S1 = (b9s_told S (0 : Int32)) → (wp_X9_isIn S1 (a1) ((1 : Int32)) ((7 : Int32)) (fun r2 => ((r2 = 0 → (Q (-1 : Int64) S1)) ∧ (¬ r2 = 0 → (wp_X9_coverOf S1 (a1) (fun r4 u5 => (Q r4 u5))))))))
set_option maxRecDepth 20000 in
theorem t_X9_cover {X : bf_X} (C : bf_C X RX9 cX9_cover 2 (some .long)) (hR : bf_Rm X 5 113) (S : bT9) (a1 : Int32) (Q : Int64 → (bT9) → Prop) (h : wp_X9_cover S a1 Q) : bf_A X (bf_Zl X bW9 Q) 2 0 [some (.ref 0), some (.int a1)] [] (bW9 S) := by
  unfold wp_X9_cover at h
  refine bs_aload_n C (bf_dk dd_X9_cover 0 rfl) rfl ?_
  refine bs_iconst C (bf_dk dd_X9_cover 1 rfl) (0 : Int32) (by decide) ?_
  refine bs_put C (bf_dk dd_X9_cover 2 rfl) tyX9_ok nmX9 cl_9 in_9 0 (Nat.le_of_ble_eq_true rfl) rfl f_9_75 rfl (ge_bW9_0 S) (Nat.le_of_ble_eq_true rfl) rfl rfl (pu_bW9_0_0 S (0 : Int32)) ?_
  refine bs_nameS bW9 (fun S1 eS1 => ?_)
  replace h := h S1 eS1
  refine bs_aload_n C (bf_dk dd_X9_cover 3 rfl) rfl ?_
  refine bs_iload_n C (bf_dk dd_X9_cover 4 rfl) rfl ?_
  refine bs_iconst C (bf_dk dd_X9_cover 5 rfl) (1 : Int32) (by decide) ?_
  refine bs_bipush C (bf_dk dd_X9_cover 6 rfl) (7 : Int32) (by decide) ?_
  refine bs_selfPV_i C hR (c_X9_isIn _ _ _ _ _ S1 (a1) ((1 : Int32)) ((7 : Int32)) _ h) my_X9_isIn m_9_82 rfl cl_9 (ge_bW9_0 _) rfl (Nat.le_of_ble_eq_true rfl) (Nat.le_of_ble_eq_true rfl) (st := []) (Nat.le_of_ble_eq_true rfl) (bf_dk dd_X9_cover 7 rfl) rfl (fun r2 h => ?_)
  refine bs_if_eq C (bf_dk dd_X9_cover 8 rfl) (tgt := 24) rfl (fun c => ?_) (fun c => ?_)
  · replace h := h.1 c
    refine bs_ldc2 C (bf_dk dd_X9_cover 13 rfl) k_9_290 ?_
    exact bs_lret (u := S1) C (bf_dk dd_X9_cover 14 rfl) rfl h
  · replace h := h.2 c
    refine bs_aload_n C (bf_dk dd_X9_cover 9 rfl) rfl ?_
    refine bs_iload_n C (bf_dk dd_X9_cover 10 rfl) rfl ?_
    refine bs_selfV_l C hR (c_X9_coverOf _ _ _ _ _ S1 (a1) _ h) my_X9_coverOf m_9_418 rfl cl_9 (ge_bW9_0 _) rfl (Nat.le_of_ble_eq_true rfl) (Nat.le_of_ble_eq_true rfl) (st := []) (Nat.le_of_ble_eq_true rfl) (bf_dk dd_X9_cover 11 rfl) rfl (len := 21) (fun _ => rfl) (fun r4 u5 h => ?_)
    refine bs_goto C (bf_dk dd_X9_cover 12 rfl) (tgt := 27) rfl ?_
    exact bs_lret (u := u5) C (bf_dk dd_X9_cover 14 rfl) rfl h
theorem c_X9_cover (l : Launch) (dC : Nat → ClassId) (dI : Nat → Nat → Nat) (ac : Nat → ClassId) (al : Nat → Nat) (S : bT9) (a1 : Int32) (Q : Int64 → (bT9) → Prop) (h : wp_X9_cover S a1 Q) : bf_M l yX9_cover cX9_cover 2 (some .long) 5 113 dC dI ac al [.ref 0, .int a1] (bW9 S) (bf_Kl dC dI ac al bW9 Q) := by
  refine bf_start [some (.ref 0), some (.int a1)] (by decide) (Nat.le_of_ble_eq_true rfl) (bf_s1 (bf_s1 bf_s0)) ?_
  intro X hl C hR e1 e2 e3 e4
  subst e1; subst e2; subst e3; subst e4
  exact t_X9_cover C hR S a1 Q h
def wp_X9_loose_55 (S : bT9) (x1 : Int32) (x2 : Int64) (x4 : Int32) (Q : Int64 → (bT9) → Prop) (B29 : Int32 → Int64 → Int32 → (bT9) → Prop) : Prop := (B29 (x1) (x2) ((x4 + (1 : Int32))) S)
set_option maxRecDepth 20000 in
theorem t_X9_loose_55 {X : bf_X} (C : bf_C X RX9 cX9_loose 5 (some .long)) (hR : bf_Rm X 5 113) (S : bT9) (x1 : Int32) (x2 : Int64) (x4 : Int32) (Q : Int64 → (bT9) → Prop) (B29 : Int32 → Int64 → Int32 → (bT9) → Prop) (hB29 : ∀ (x1 : Int32) (x2 : Int64) (x4 : Int32) (S : bT9), B29 x1 x2 x4 S → bf_A X (bf_Zl X bW9 Q) 5 29 [some (.ref 0), some (.int x1), some (.long x2), none, some (.int x4)] [] (bW9 S)) (h : wp_X9_loose_55 S x1 x2 x4 Q B29) : bf_A X (bf_Zl X bW9 Q) 5 55 [some (.ref 0), some (.int x1), some (.long x2), none, some (.int x4)] [] (bW9 S) := by
  unfold wp_X9_loose_55 at h
  refine bs_iinc C (bf_dk dd_X9_loose 32 rfl) (x4 + (1 : Int32)) rfl rfl (Nat.le_of_ble_eq_true rfl) (Nat.le_of_ble_eq_true rfl) (lv2 := [some (.ref 0), some (.int x1), some (.long x2), none, some (.int (x4 + (1 : Int32)))]) rfl ?_
  refine bs_goto C (bf_dk dd_X9_loose 33 rfl) (tgt := 29) rfl ?_
  exact bs_weak (bf_s1 (bf_s1 (bf_s1 (bf_sn (bf_s1 bf_s0))))) (hB29 (x1) (x2) ((x4 + (1 : Int32))) S h)
def wp_X9_loose_29b (S : bT9) (x1 : Int32) (x2 : Int64) (x4 : Int32) (Q : Int64 → (bT9) → Prop) (B29 : Int32 → Int64 → Int32 → (bT9) → Prop) : Prop := (vp_in (9 : Int32) 23 ∧ ((((b9g_now S) ((9 : Int32)).toNatClampNeg) ≤ x4 → (Q x2 S)) ∧ (¬ ((b9g_now S) ((9 : Int32)).toNatClampNeg) ≤ x4 → (wp_X9_lengthOf S (x4) (fun r1 => ((¬ r1 = x1 → (wp_X9_loose_55 S (x1) (x2) (x4) Q B29)) ∧ (r1 = x1 → (wp_X9_loose_55 S (x1) ((x2 - (1 : Int64))) (x4) Q B29))))))))
set_option maxRecDepth 20000 in
theorem t_X9_loose_29b {X : bf_X} (C : bf_C X RX9 cX9_loose 5 (some .long)) (hR : bf_Rm X 5 113) (S : bT9) (x1 : Int32) (x2 : Int64) (x4 : Int32) (Q : Int64 → (bT9) → Prop) (B29 : Int32 → Int64 → Int32 → (bT9) → Prop) (hB29 : ∀ (x1 : Int32) (x2 : Int64) (x4 : Int32) (S : bT9), B29 x1 x2 x4 S → bf_A X (bf_Zl X bW9 Q) 5 29 [some (.ref 0), some (.int x1), some (.long x2), none, some (.int x4)] [] (bW9 S)) (h : wp_X9_loose_29b S x1 x2 x4 Q B29) : bf_A X (bf_Zl X bW9 Q) 5 29 [some (.ref 0), some (.int x1), some (.long x2), none, some (.int x4)] [] (bW9 S) := by
  unfold wp_X9_loose_29b at h
  refine bs_iload C (bf_dk dd_X9_loose 17 rfl) rfl ?_
  refine bs_aload_n C (bf_dk dd_X9_loose 18 rfl) rfl ?_
  refine bs_get C (bf_dk dd_X9_loose 19 rfl) cl_9 in_9 1 (Nat.le_of_ble_eq_true rfl) rfl f_9_7 (ge_bW9_0 S) rfl ?_
  refine bs_bipush C (bf_dk dd_X9_loose 20 rfl) (9 : Int32) (by decide) ?_
  obtain ⟨hi, h⟩ := h
  refine bs_iald C (bf_dk dd_X9_loose 21 rfl) (ge_bW9_1 S) hi ?_
  refine bs_icmp_ge C (bf_dk dd_X9_loose 22 rfl) (tgt := 61) rfl (fun c => ?_) (fun c => ?_)
  · replace h := h.1 c
    refine bs_lload_n C (bf_dk dd_X9_loose 34 rfl) rfl ?_
    exact bs_lret (u := S) C (bf_dk dd_X9_loose 35 rfl) rfl h
  · replace h := h.2 c
    refine bs_aload_n C (bf_dk dd_X9_loose 23 rfl) rfl ?_
    refine bs_iload C (bf_dk dd_X9_loose 24 rfl) rfl ?_
    refine bs_selfPV_i C hR (c_X9_lengthOf _ _ _ _ _ S (x4) _ h) my_X9_lengthOf m_9_175 rfl cl_9 (ge_bW9_0 _) rfl (Nat.le_of_ble_eq_true rfl) (Nat.le_of_ble_eq_true rfl) (st := []) (Nat.le_of_ble_eq_true rfl) (bf_dk dd_X9_loose 25 rfl) rfl (fun r1 h => ?_)
    refine bs_iload_n C (bf_dk dd_X9_loose 26 rfl) rfl ?_
    refine bs_icmp_ne C (bf_dk dd_X9_loose 27 rfl) (tgt := 55) rfl (fun c => ?_) (fun c => ?_)
    · replace h := h.1 c
      exact bs_weak (bf_s1 (bf_s1 (bf_s1 (bf_sn (bf_s1 bf_s0))))) (t_X9_loose_55 C hR S (x1) (x2) (x4) Q B29 hB29 h)
    · replace h := h.2 c
      refine bs_lload_n C (bf_dk dd_X9_loose 28 rfl) rfl ?_
      refine bs_lconst C (bf_dk dd_X9_loose 29 rfl) (1 : Int64) (by decide) ?_
      refine bs_lsub C (bf_dk dd_X9_loose 30 rfl) ?_
      refine bs_lstore_n C (bf_dk dd_X9_loose 31 rfl) rfl (Nat.le_of_ble_eq_true rfl) (Nat.le_of_ble_eq_true rfl) (lv2 := [some (.ref 0), some (.int x1), some (.long (x2 - (1 : Int64))), none, some (.int x4)]) rfl ?_
      exact bs_weak (bf_s1 (bf_s1 (bf_s1 (bf_sn (bf_s1 bf_s0))))) (t_X9_loose_55 C hR S (x1) ((x2 - (1 : Int64))) (x4) Q B29 hB29 h)
def wp_X9_loose_29 (S : bT9) (x1 : Int32) (x2 : Int64) (x4 : Int32) (Q : Int64 → (bT9) → Prop) : Prop := ∃ I : Nat → Int32 → Int64 → Int32 → (bT9) → Prop, (∃ n : Nat, I n x1 x2 x4 S) ∧ ∀ (n : Nat) (x1 : Int32) (x2 : Int64) (x4 : Int32) (S : bT9), I n x1 x2 x4 S → wp_X9_loose_29b S x1 x2 x4 Q (fun x1 x2 x4 S => ∃ n2 : Nat, n2 < n ∧ I n2 x1 x2 x4 S)
theorem t_X9_loose_29 {X : bf_X} (C : bf_C X RX9 cX9_loose 5 (some .long)) (hR : bf_Rm X 5 113) (S : bT9) (x1 : Int32) (x2 : Int64) (x4 : Int32) (Q : Int64 → (bT9) → Prop) (h : wp_X9_loose_29 S x1 x2 x4 Q) : bf_A X (bf_Zl X bW9 Q) 5 29 [some (.ref 0), some (.int x1), some (.long x2), none, some (.int x4)] [] (bW9 S) := by
  obtain ⟨I, ⟨n0, h0⟩, hI⟩ := h
  have key : ∀ (n : Nat) (x1 : Int32) (x2 : Int64) (x4 : Int32) (S : bT9), I n x1 x2 x4 S → bf_A X (bf_Zl X bW9 Q) 5 29 [some (.ref 0), some (.int x1), some (.long x2), none, some (.int x4)] [] (bW9 S) := by
    intro n
    induction n using Nat.strongRecOn with
    | _ n ih =>
      intro x1 x2 x4 S hi
      exact t_X9_loose_29b C hR S x1 x2 x4 Q _ (fun x1 x2 x4 S hb => by obtain ⟨n2, hn, hi2⟩ := hb; exact ih n2 hn x1 x2 x4 S hi2) (hI n x1 x2 x4 S hi)
  exact key n0 x1 x2 x4 S h0
def wp_X9_loose (S : bT9) (a1 : Int32) (Q : Int64 → (bT9) → Prop) : Prop := (∀ S3 : bT9, S3 = (b9s_told S (0 : Int32)) → (wp_X9_isIn S3 (a1) ((1 : Int32)) ((7 : Int32)) (fun r4 => ((¬ r4 = 0 → (wp_X9_coverOf S3 (a1) (fun r6 u7 => (wp_X9_loose_29 u7 (a1) (r6) ((0 : Int32)) Q)))) ∧ (r4 = 0 → (Q (-1 : Int64) S3))))))
set_option maxRecDepth 20000 in
theorem t_X9_loose {X : bf_X} (C : bf_C X RX9 cX9_loose 5 (some .long)) (hR : bf_Rm X 5 113) (S : bT9) (a1 : Int32) (Q : Int64 → (bT9) → Prop) (h : wp_X9_loose S a1 Q) : bf_A X (bf_Zl X bW9 Q) 5 0 [some (.ref 0), some (.int a1), none, none, none] [] (bW9 S) := by
  unfold wp_X9_loose at h
  refine bs_aload_n C (bf_dk dd_X9_loose 0 rfl) rfl ?_
  refine bs_iconst C (bf_dk dd_X9_loose 1 rfl) (0 : Int32) (by decide) ?_
  refine bs_put C (bf_dk dd_X9_loose 2 rfl) tyX9_ok nmX9 cl_9 in_9 0 (Nat.le_of_ble_eq_true rfl) rfl f_9_75 rfl (ge_bW9_0 S) (Nat.le_of_ble_eq_true rfl) rfl rfl (pu_bW9_0_0 S (0 : Int32)) ?_
  refine bs_nameS bW9 (fun S3 eS3 => ?_)
  replace h := h S3 eS3
  refine bs_aload_n C (bf_dk dd_X9_loose 3 rfl) rfl ?_
  refine bs_iload_n C (bf_dk dd_X9_loose 4 rfl) rfl ?_
  refine bs_iconst C (bf_dk dd_X9_loose 5 rfl) (1 : Int32) (by decide) ?_
  refine bs_bipush C (bf_dk dd_X9_loose 6 rfl) (7 : Int32) (by decide) ?_
  refine bs_selfPV_i C hR (c_X9_isIn _ _ _ _ _ S3 (a1) ((1 : Int32)) ((7 : Int32)) _ h) my_X9_isIn m_9_82 rfl cl_9 (ge_bW9_0 _) rfl (Nat.le_of_ble_eq_true rfl) (Nat.le_of_ble_eq_true rfl) (st := []) (Nat.le_of_ble_eq_true rfl) (bf_dk dd_X9_loose 7 rfl) rfl (fun r4 h => ?_)
  refine bs_if_ne C (bf_dk dd_X9_loose 8 rfl) (tgt := 20) rfl (fun c => ?_) (fun c => ?_)
  · replace h := h.1 c
    refine bs_aload_n C (bf_dk dd_X9_loose 11 rfl) rfl ?_
    refine bs_iload_n C (bf_dk dd_X9_loose 12 rfl) rfl ?_
    refine bs_selfV_l C hR (c_X9_coverOf _ _ _ _ _ S3 (a1) _ h) my_X9_coverOf m_9_418 rfl cl_9 (ge_bW9_0 _) rfl (Nat.le_of_ble_eq_true rfl) (Nat.le_of_ble_eq_true rfl) (st := []) (Nat.le_of_ble_eq_true rfl) (bf_dk dd_X9_loose 13 rfl) rfl (len := 21) (fun _ => rfl) (fun r6 u7 h => ?_)
    refine bs_lstore_n C (bf_dk dd_X9_loose 14 rfl) rfl (Nat.le_of_ble_eq_true rfl) (Nat.le_of_ble_eq_true rfl) (lv2 := [some (.ref 0), some (.int a1), some (.long r6), none, none]) rfl ?_
    refine bs_iconst C (bf_dk dd_X9_loose 15 rfl) (0 : Int32) (by decide) ?_
    refine bs_istore C (bf_dk dd_X9_loose 16 rfl) (Nat.le_of_ble_eq_true rfl) (Nat.le_of_ble_eq_true rfl) (lv2 := [some (.ref 0), some (.int a1), some (.long r6), none, some (.int (0 : Int32))]) rfl ?_
    exact bs_weak (bf_s1 (bf_s1 (bf_s1 (bf_sn (bf_s1 bf_s0))))) (t_X9_loose_29 C hR u7 (a1) (r6) ((0 : Int32)) Q h)
  · replace h := h.2 c
    refine bs_ldc2 C (bf_dk dd_X9_loose 9 rfl) k_9_290 ?_
    exact bs_lret (u := S3) C (bf_dk dd_X9_loose 10 rfl) rfl h
theorem c_X9_loose (l : Launch) (dC : Nat → ClassId) (dI : Nat → Nat → Nat) (ac : Nat → ClassId) (al : Nat → Nat) (S : bT9) (a1 : Int32) (Q : Int64 → (bT9) → Prop) (h : wp_X9_loose S a1 Q) : bf_M l yX9_loose cX9_loose 5 (some .long) 5 113 dC dI ac al [.ref 0, .int a1] (bW9 S) (bf_Kl dC dI ac al bW9 Q) := by
  refine bf_start [some (.ref 0), some (.int a1), none, none, none] (by decide) (Nat.le_of_ble_eq_true rfl) (bf_s1 (bf_s1 (bf_en 3))) ?_
  intro X hl C hR e1 e2 e3 e4
  subst e1; subst e2; subst e3; subst e4
  exact t_X9_loose C hR S a1 Q h
def wp_X9_free_64 (S : bT9) (x1 : Int32) (x2 : Int32) (x3 : Int64) (Q : Int64 → (bT9) → Prop) : Prop := (vp_in (9 : Int32) 23 ∧ ((¬ x1 = ((b9g_now S) ((9 : Int32)).toNatClampNeg) → (wp_X9_nextBits S (fun r1 => (wp_X9_bounds S (x1) (r1) (fun u4 => (wp_X9_lessKeys u4 ((b9g_lowKey u4)) ((b9g_lowLength u4)) (x2) (fun r5 => (Q (r5 - x3) u4)))))))) ∧ (x1 = ((b9g_now S) ((9 : Int32)).toNatClampNeg) → (wp_X9_powerOf S (x2) (fun r7 => (Q (r7 - x3) S))))))
set_option maxRecDepth 20000 in
theorem t_X9_free_64 {X : bf_X} (C : bf_C X RX9 cX9_free 5 (some .long)) (hR : bf_Rm X 4 89) (S : bT9) (x1 : Int32) (x2 : Int32) (x3 : Int64) (Q : Int64 → (bT9) → Prop) (h : wp_X9_free_64 S x1 x2 x3 Q) : bf_A X (bf_Zl X bW9 Q) 5 64 [some (.ref 0), some (.int x1), some (.int x2), some (.long x3), none] [] (bW9 S) := by
  unfold wp_X9_free_64 at h
  refine bs_iload_n C (bf_dk dd_X9_free 37 rfl) rfl ?_
  refine bs_aload_n C (bf_dk dd_X9_free 38 rfl) rfl ?_
  refine bs_get C (bf_dk dd_X9_free 39 rfl) cl_9 in_9 1 (Nat.le_of_ble_eq_true rfl) rfl f_9_7 (ge_bW9_0 S) rfl ?_
  refine bs_bipush C (bf_dk dd_X9_free 40 rfl) (9 : Int32) (by decide) ?_
  obtain ⟨hi, h⟩ := h
  refine bs_iald C (bf_dk dd_X9_free 41 rfl) (ge_bW9_1 S) hi ?_
  refine bs_icmp_ne C (bf_dk dd_X9_free 42 rfl) (tgt := 83) rfl (fun c => ?_) (fun c => ?_)
  · replace h := h.1 c
    refine bs_aload_n C (bf_dk dd_X9_free 49 rfl) rfl ?_
    refine bs_iload_n C (bf_dk dd_X9_free 50 rfl) rfl ?_
    refine bs_aload_n C (bf_dk dd_X9_free 51 rfl) rfl ?_
    refine bs_selfPV_i C hR (c_X9_nextBits _ _ _ _ _ S _ h) my_X9_nextBits m_9_313 rfl cl_9 (ge_bW9_0 _) rfl (Nat.le_of_ble_eq_true rfl) (Nat.le_of_ble_eq_true rfl) (st := [.int x1, .ref 0]) (Nat.le_of_ble_eq_true rfl) (bf_dk dd_X9_free 52 rfl) rfl (fun r1 h => ?_)
    refine bs_selfV_v C hR (c_X9_bounds _ _ _ _ _ S (x1) (r1) _ h) my_X9_bounds m_9_292 rfl cl_9 (ge_bW9_0 _) rfl (Nat.le_of_ble_eq_true rfl) (Nat.le_of_ble_eq_true rfl) (st := []) (Nat.le_of_ble_eq_true rfl) (bf_dk dd_X9_free 53 rfl) rfl (len := 21) (fun _ => rfl) (fun u4 h => ?_)
    refine bs_aload_n C (bf_dk dd_X9_free 54 rfl) rfl ?_
    refine bs_aload_n C (bf_dk dd_X9_free 55 rfl) rfl ?_
    refine bs_get C (bf_dk dd_X9_free 56 rfl) cl_9 in_9 28 (Nat.le_of_ble_eq_true rfl) rfl f_9_271 (ge_bW9_0 u4) rfl ?_
    refine bs_aload_n C (bf_dk dd_X9_free 57 rfl) rfl ?_
    refine bs_get C (bf_dk dd_X9_free 58 rfl) cl_9 in_9 30 (Nat.le_of_ble_eq_true rfl) rfl f_9_274 (ge_bW9_0 u4) rfl ?_
    refine bs_iload_n C (bf_dk dd_X9_free 59 rfl) rfl ?_
    refine bs_selfPV_l C hR (c_X9_lessKeys _ _ _ _ _ u4 ((b9g_lowKey u4)) ((b9g_lowLength u4)) (x2) _ h) my_X9_lessKeys m_9_411 rfl cl_9 (ge_bW9_0 _) rfl (Nat.le_of_ble_eq_true rfl) (Nat.le_of_ble_eq_true rfl) (st := []) (Nat.le_of_ble_eq_true rfl) (bf_dk dd_X9_free 60 rfl) rfl (fun r5 h => ?_)
    refine bs_lload_n C (bf_dk dd_X9_free 61 rfl) rfl ?_
    refine bs_lsub C (bf_dk dd_X9_free 62 rfl) ?_
    exact bs_lret (u := u4) C (bf_dk dd_X9_free 63 rfl) rfl h
  · replace h := h.2 c
    refine bs_aload_n C (bf_dk dd_X9_free 43 rfl) rfl ?_
    refine bs_iload_n C (bf_dk dd_X9_free 44 rfl) rfl ?_
    refine bs_selfPV_l C hR (c_X9_powerOf _ _ _ _ _ S (x2) _ h) my_X9_powerOf m_9_421 rfl cl_9 (ge_bW9_0 _) rfl (Nat.le_of_ble_eq_true rfl) (Nat.le_of_ble_eq_true rfl) (st := []) (Nat.le_of_ble_eq_true rfl) (bf_dk dd_X9_free 45 rfl) rfl (fun r7 h => ?_)
    refine bs_lload_n C (bf_dk dd_X9_free 46 rfl) rfl ?_
    refine bs_lsub C (bf_dk dd_X9_free 47 rfl) ?_
    exact bs_lret (u := S) C (bf_dk dd_X9_free 48 rfl) rfl h
def wp_X9_free (S : bT9) (a1 : Int32) (a2 : Int32) (Q : Int64 → (bT9) → Prop) : Prop := (∀ S9 : bT9, S9 = (b9s_told S (0 : Int32)) → (wp_X9_leaves S9 (fun r10 u11 => (wp_X9_isIn u11 (a1) ((0 : Int32)) (r10) (fun r12 => ((r12 = 0 → (Q (-1 : Int64) u11)) ∧ (¬ r12 = 0 → (wp_X9_isIn u11 (a2) ((1 : Int32)) ((7 : Int32)) (fun r14 => ((¬ r14 = 0 → ((a1 ≤ 0 → (wp_X9_free_64 u11 (a1) (a2) ((0 : Int64)) Q)) ∧ (¬ a1 ≤ 0 → (wp_X9_nextBits u11 (fun r16 => (wp_X9_bounds u11 ((a1 - (1 : Int32))) (r16) (fun u19 => (wp_X9_notMoreKeys u19 ((b9g_highKey u19)) ((b9g_highLength u19)) (a2) (fun r20 => (wp_X9_free_64 u19 (a1) (a2) (r20) Q)))))))))) ∧ (r14 = 0 → (Q (-1 : Int64) u11))))))))))))
set_option maxRecDepth 20000 in
theorem t_X9_free {X : bf_X} (C : bf_C X RX9 cX9_free 5 (some .long)) (hR : bf_Rm X 4 89) (S : bT9) (a1 : Int32) (a2 : Int32) (Q : Int64 → (bT9) → Prop) (h : wp_X9_free S a1 a2 Q) : bf_A X (bf_Zl X bW9 Q) 5 0 [some (.ref 0), some (.int a1), some (.int a2), none, none] [] (bW9 S) := by
  unfold wp_X9_free at h
  refine bs_aload_n C (bf_dk dd_X9_free 0 rfl) rfl ?_
  refine bs_iconst C (bf_dk dd_X9_free 1 rfl) (0 : Int32) (by decide) ?_
  refine bs_put C (bf_dk dd_X9_free 2 rfl) tyX9_ok nmX9 cl_9 in_9 0 (Nat.le_of_ble_eq_true rfl) rfl f_9_75 rfl (ge_bW9_0 S) (Nat.le_of_ble_eq_true rfl) rfl rfl (pu_bW9_0_0 S (0 : Int32)) ?_
  refine bs_nameS bW9 (fun S9 eS9 => ?_)
  replace h := h S9 eS9
  refine bs_aload_n C (bf_dk dd_X9_free 3 rfl) rfl ?_
  refine bs_iload_n C (bf_dk dd_X9_free 4 rfl) rfl ?_
  refine bs_iconst C (bf_dk dd_X9_free 5 rfl) (0 : Int32) (by decide) ?_
  refine bs_aload_n C (bf_dk dd_X9_free 6 rfl) rfl ?_
  refine bs_selfV_i C hR (c_X9_leaves _ _ _ _ _ S9 _ h) my_X9_leaves m_9_268 rfl cl_9 (ge_bW9_0 _) rfl (Nat.le_of_ble_eq_true rfl) (Nat.le_of_ble_eq_true rfl) (st := [.int (0 : Int32), .int a1, .ref 0]) (Nat.le_of_ble_eq_true rfl) (bf_dk dd_X9_free 7 rfl) rfl (len := 21) (fun _ => rfl) (fun r10 u11 h => ?_)
  refine bs_selfPV_i C hR (c_X9_isIn _ _ _ _ _ u11 (a1) ((0 : Int32)) (r10) _ h) my_X9_isIn m_9_82 rfl cl_9 (ge_bW9_0 _) rfl (Nat.le_of_ble_eq_true rfl) (Nat.le_of_ble_eq_true rfl) (st := []) (Nat.le_of_ble_eq_true rfl) (bf_dk dd_X9_free 8 rfl) rfl (fun r12 h => ?_)
  refine bs_if_eq C (bf_dk dd_X9_free 9 rfl) (tgt := 29) rfl (fun c => ?_) (fun c => ?_)
  · replace h := h.1 c
    refine bs_ldc2 C (bf_dk dd_X9_free 16 rfl) k_9_290 ?_
    exact bs_lret (u := u11) C (bf_dk dd_X9_free 17 rfl) rfl h
  · replace h := h.2 c
    refine bs_aload_n C (bf_dk dd_X9_free 10 rfl) rfl ?_
    refine bs_iload_n C (bf_dk dd_X9_free 11 rfl) rfl ?_
    refine bs_iconst C (bf_dk dd_X9_free 12 rfl) (1 : Int32) (by decide) ?_
    refine bs_bipush C (bf_dk dd_X9_free 13 rfl) (7 : Int32) (by decide) ?_
    refine bs_selfPV_i C hR (c_X9_isIn _ _ _ _ _ u11 (a2) ((1 : Int32)) ((7 : Int32)) _ h) my_X9_isIn m_9_82 rfl cl_9 (ge_bW9_0 _) rfl (Nat.le_of_ble_eq_true rfl) (Nat.le_of_ble_eq_true rfl) (st := []) (Nat.le_of_ble_eq_true rfl) (bf_dk dd_X9_free 14 rfl) rfl (fun r14 h => ?_)
    refine bs_if_ne C (bf_dk dd_X9_free 15 rfl) (tgt := 33) rfl (fun c => ?_) (fun c => ?_)
    · replace h := h.1 c
      refine bs_lconst C (bf_dk dd_X9_free 18 rfl) (0 : Int64) (by decide) ?_
      refine bs_lstore_n C (bf_dk dd_X9_free 19 rfl) rfl (Nat.le_of_ble_eq_true rfl) (Nat.le_of_ble_eq_true rfl) (lv2 := [some (.ref 0), some (.int a1), some (.int a2), some (.long (0 : Int64)), none]) rfl ?_
      refine bs_iload_n C (bf_dk dd_X9_free 20 rfl) rfl ?_
      refine bs_if_le C (bf_dk dd_X9_free 21 rfl) (tgt := 64) rfl (fun c => ?_) (fun c => ?_)
      · replace h := h.1 c
        exact bs_weak (bf_s1 (bf_s1 (bf_s1 (bf_s1 (bf_sn bf_s0))))) (t_X9_free_64 C hR u11 (a1) (a2) ((0 : Int64)) Q h)
      · replace h := h.2 c
        refine bs_aload_n C (bf_dk dd_X9_free 22 rfl) rfl ?_
        refine bs_iload_n C (bf_dk dd_X9_free 23 rfl) rfl ?_
        refine bs_iconst C (bf_dk dd_X9_free 24 rfl) (1 : Int32) (by decide) ?_
        refine bs_isub C (bf_dk dd_X9_free 25 rfl) ?_
        refine bs_aload_n C (bf_dk dd_X9_free 26 rfl) rfl ?_
        refine bs_selfPV_i C hR (c_X9_nextBits _ _ _ _ _ u11 _ h) my_X9_nextBits m_9_313 rfl cl_9 (ge_bW9_0 _) rfl (Nat.le_of_ble_eq_true rfl) (Nat.le_of_ble_eq_true rfl) (st := [.int (a1 - (1 : Int32)), .ref 0]) (Nat.le_of_ble_eq_true rfl) (bf_dk dd_X9_free 27 rfl) rfl (fun r16 h => ?_)
        refine bs_selfV_v C hR (c_X9_bounds _ _ _ _ _ u11 ((a1 - (1 : Int32))) (r16) _ h) my_X9_bounds m_9_292 rfl cl_9 (ge_bW9_0 _) rfl (Nat.le_of_ble_eq_true rfl) (Nat.le_of_ble_eq_true rfl) (st := []) (Nat.le_of_ble_eq_true rfl) (bf_dk dd_X9_free 28 rfl) rfl (len := 21) (fun _ => rfl) (fun u19 h => ?_)
        refine bs_aload_n C (bf_dk dd_X9_free 29 rfl) rfl ?_
        refine bs_aload_n C (bf_dk dd_X9_free 30 rfl) rfl ?_
        refine bs_get C (bf_dk dd_X9_free 31 rfl) cl_9 in_9 29 (Nat.le_of_ble_eq_true rfl) rfl f_9_277 (ge_bW9_0 u19) rfl ?_
        refine bs_aload_n C (bf_dk dd_X9_free 32 rfl) rfl ?_
        refine bs_get C (bf_dk dd_X9_free 33 rfl) cl_9 in_9 31 (Nat.le_of_ble_eq_true rfl) rfl f_9_280 (ge_bW9_0 u19) rfl ?_
        refine bs_iload_n C (bf_dk dd_X9_free 34 rfl) rfl ?_
        refine bs_selfPV_l C hR (c_X9_notMoreKeys _ _ _ _ _ u19 ((b9g_highKey u19)) ((b9g_highLength u19)) (a2) _ h) my_X9_notMoreKeys m_9_415 rfl cl_9 (ge_bW9_0 _) rfl (Nat.le_of_ble_eq_true rfl) (Nat.le_of_ble_eq_true rfl) (st := []) (Nat.le_of_ble_eq_true rfl) (bf_dk dd_X9_free 35 rfl) rfl (fun r20 h => ?_)
        refine bs_lstore_n C (bf_dk dd_X9_free 36 rfl) rfl (Nat.le_of_ble_eq_true rfl) (Nat.le_of_ble_eq_true rfl) (lv2 := [some (.ref 0), some (.int a1), some (.int a2), some (.long r20), none]) rfl ?_
        exact bs_weak (bf_s1 (bf_s1 (bf_s1 (bf_s1 (bf_sn bf_s0))))) (t_X9_free_64 C hR u19 (a1) (a2) (r20) Q h)
    · replace h := h.2 c
      refine bs_ldc2 C (bf_dk dd_X9_free 16 rfl) k_9_290 ?_
      exact bs_lret (u := u11) C (bf_dk dd_X9_free 17 rfl) rfl h
theorem c_X9_free (l : Launch) (dC : Nat → ClassId) (dI : Nat → Nat → Nat) (ac : Nat → ClassId) (al : Nat → Nat) (S : bT9) (a1 : Int32) (a2 : Int32) (Q : Int64 → (bT9) → Prop) (h : wp_X9_free S a1 a2 Q) : bf_M l yX9_free cX9_free 5 (some .long) 4 89 dC dI ac al [.ref 0, .int a1, .int a2] (bW9 S) (bf_Kl dC dI ac al bW9 Q) := by
  refine bf_start [some (.ref 0), some (.int a1), some (.int a2), none, none] (by decide) (Nat.le_of_ble_eq_true rfl) (bf_s1 (bf_s1 (bf_s1 (bf_en 2)))) ?_
  intro X hl C hR e1 e2 e3 e4
  subst e1; subst e2; subst e3; subst e4
  exact t_X9_free C hR S a1 a2 Q h
def wp_X9_spread_112 (S : bT9) (x1 : Int32) (x2 : Int32) (x3 : Int32) (x4 : Int32) (x5 : Int32) (x6 : Int32) (x7 : Int32) (x8 : Int32) (Q : Int32 → (bT9) → Prop) (B43 : Int32 → Int32 → Int32 → Int32 → Int32 → Int32 → Int32 → Int32 → (bT9) → Prop) : Prop := (B43 (x1) (x2) (x3) (x4) (x5) (x6) (x7) ((x8 + (-1 : Int32))) S)
set_option maxRecDepth 20000 in
theorem t_X9_spread_112 {X : bf_X} (C : bf_C X RX9 cX9_spread 11 (some .int)) (hR : bf_Rm X 7 163) (S : bT9) (x1 : Int32) (x2 : Int32) (x3 : Int32) (x4 : Int32) (x5 : Int32) (x6 : Int32) (x7 : Int32) (x8 : Int32) (Q : Int32 → (bT9) → Prop) (B43 : Int32 → Int32 → Int32 → Int32 → Int32 → Int32 → Int32 → Int32 → (bT9) → Prop) (hB43 : ∀ (x1 : Int32) (x2 : Int32) (x3 : Int32) (x4 : Int32) (x5 : Int32) (x6 : Int32) (x7 : Int32) (x8 : Int32) (S : bT9), B43 x1 x2 x3 x4 x5 x6 x7 x8 S → bf_A X (bf_Zi X bW9 Q) 11 43 [some (.ref 0), some (.int x1), some (.int x2), some (.int x3), some (.int x4), some (.int x5), some (.int x6), some (.int x7), some (.int x8), none, none] [] (bW9 S)) (h : wp_X9_spread_112 S x1 x2 x3 x4 x5 x6 x7 x8 Q B43) : bf_A X (bf_Zi X bW9 Q) 11 112 [some (.ref 0), some (.int x1), some (.int x2), some (.int x3), some (.int x4), some (.int x5), some (.int x6), some (.int x7), some (.int x8), none, none] [] (bW9 S) := by
  unfold wp_X9_spread_112 at h
  refine bs_iinc C (bf_dk dd_X9_spread 67 rfl) (x8 + (-1 : Int32)) rfl rfl (Nat.le_of_ble_eq_true rfl) (Nat.le_of_ble_eq_true rfl) (lv2 := [some (.ref 0), some (.int x1), some (.int x2), some (.int x3), some (.int x4), some (.int x5), some (.int x6), some (.int x7), some (.int (x8 + (-1 : Int32))), none, none]) rfl ?_
  refine bs_goto C (bf_dk dd_X9_spread 68 rfl) (tgt := 43) rfl ?_
  exact bs_weak (bf_s1 (bf_s1 (bf_s1 (bf_s1 (bf_s1 (bf_s1 (bf_s1 (bf_s1 (bf_s1 (bf_sn (bf_sn bf_s0))))))))))) (hB43 (x1) (x2) (x3) (x4) (x5) (x6) (x7) ((x8 + (-1 : Int32))) S h)
def wp_X9_spread_43b (S : bT9) (x1 : Int32) (x2 : Int32) (x3 : Int32) (x4 : Int32) (x5 : Int32) (x6 : Int32) (x7 : Int32) (x8 : Int32) (Q : Int32 → (bT9) → Prop) (B43 : Int32 → Int32 → Int32 → Int32 → Int32 → Int32 → Int32 → Int32 → (bT9) → Prop) : Prop := ((x8 < 0 → ((¬ x4 = 0 → ((¬ x4 = (1 : Int32) → (Q x7 S)) ∧ (x4 = (1 : Int32) → (Q x6 S)))) ∧ (x4 = 0 → (Q x5 S)))) ∧ (¬ x8 < 0 → (wp_X9_keyOf S (x1) (x2) (x3) (fun r1 => (∀ v3 : Int64, v3 = (r1 ||| ((x8).toInt64 <<< ((((56 : Int32) - ((8 : Int32) * x3))).toInt64 &&& 63))) → (wp_X9_mayNow S (v3) ((x3 + (1 : Int32))) (fun r4 u5 => ((¬ r4 = 0 → (wp_X9_isOfFilter u5 (v3) ((x3 + (1 : Int32))) (fun r6 => ((¬ r6 = 0 → (wp_X9_spread_112 u5 (x1) (x2) (x3) (x4) ((x5 + (1 : Int32))) (x6) (x8) (x8) Q B43)) ∧ (r6 = 0 → (wp_X9_spread_112 u5 (x1) (x2) (x3) (x4) ((x5 + (1 : Int32))) ((x6 + (1 : Int32))) (x8) (x8) Q B43)))))) ∧ (r4 = 0 → (wp_X9_spread_112 u5 (x1) (x2) (x3) (x4) (x5) (x6) (x7) (x8) Q B43))))))))))
set_option maxRecDepth 20000 in
theorem t_X9_spread_43b {X : bf_X} (C : bf_C X RX9 cX9_spread 11 (some .int)) (hR : bf_Rm X 7 163) (S : bT9) (x1 : Int32) (x2 : Int32) (x3 : Int32) (x4 : Int32) (x5 : Int32) (x6 : Int32) (x7 : Int32) (x8 : Int32) (Q : Int32 → (bT9) → Prop) (B43 : Int32 → Int32 → Int32 → Int32 → Int32 → Int32 → Int32 → Int32 → (bT9) → Prop) (hB43 : ∀ (x1 : Int32) (x2 : Int32) (x3 : Int32) (x4 : Int32) (x5 : Int32) (x6 : Int32) (x7 : Int32) (x8 : Int32) (S : bT9), B43 x1 x2 x3 x4 x5 x6 x7 x8 S → bf_A X (bf_Zi X bW9 Q) 11 43 [some (.ref 0), some (.int x1), some (.int x2), some (.int x3), some (.int x4), some (.int x5), some (.int x6), some (.int x7), some (.int x8), none, none] [] (bW9 S)) (h : wp_X9_spread_43b S x1 x2 x3 x4 x5 x6 x7 x8 Q B43) : bf_A X (bf_Zi X bW9 Q) 11 43 [some (.ref 0), some (.int x1), some (.int x2), some (.int x3), some (.int x4), some (.int x5), some (.int x6), some (.int x7), some (.int x8), none, none] [] (bW9 S) := by
  unfold wp_X9_spread_43b at h
  refine bs_iload C (bf_dk dd_X9_spread 25 rfl) rfl ?_
  refine bs_if_lt C (bf_dk dd_X9_spread 26 rfl) (tgt := 118) rfl (fun c => ?_) (fun c => ?_)
  · replace h := h.1 c
    refine bs_iload C (bf_dk dd_X9_spread 69 rfl) rfl ?_
    refine bs_if_ne C (bf_dk dd_X9_spread 70 rfl) (tgt := 128) rfl (fun c => ?_) (fun c => ?_)
    · replace h := h.1 c
      refine bs_iload C (bf_dk dd_X9_spread 73 rfl) rfl ?_
      refine bs_iconst C (bf_dk dd_X9_spread 74 rfl) (1 : Int32) (by decide) ?_
      refine bs_icmp_ne C (bf_dk dd_X9_spread 75 rfl) (tgt := 139) rfl (fun c => ?_) (fun c => ?_)
      · replace h := h.1 c
        refine bs_iload C (bf_dk dd_X9_spread 78 rfl) rfl ?_
        exact bs_iret (u := S) C (bf_dk dd_X9_spread 79 rfl) rfl h
      · replace h := h.2 c
        refine bs_iload C (bf_dk dd_X9_spread 76 rfl) rfl ?_
        refine bs_goto C (bf_dk dd_X9_spread 77 rfl) (tgt := 141) rfl ?_
        exact bs_iret (u := S) C (bf_dk dd_X9_spread 79 rfl) rfl h
    · replace h := h.2 c
      refine bs_iload C (bf_dk dd_X9_spread 71 rfl) rfl ?_
      refine bs_goto C (bf_dk dd_X9_spread 72 rfl) (tgt := 141) rfl ?_
      exact bs_iret (u := S) C (bf_dk dd_X9_spread 79 rfl) rfl h
  · replace h := h.2 c
    refine bs_aload_n C (bf_dk dd_X9_spread 27 rfl) rfl ?_
    refine bs_iload_n C (bf_dk dd_X9_spread 28 rfl) rfl ?_
    refine bs_iload_n C (bf_dk dd_X9_spread 29 rfl) rfl ?_
    refine bs_iload_n C (bf_dk dd_X9_spread 30 rfl) rfl ?_
    refine bs_selfPV_l C hR (c_X9_keyOf _ _ _ _ _ S (x1) (x2) (x3) _ h) my_X9_keyOf m_9_121 rfl cl_9 (ge_bW9_0 _) rfl (Nat.le_of_ble_eq_true rfl) (Nat.le_of_ble_eq_true rfl) (st := []) (Nat.le_of_ble_eq_true rfl) (bf_dk dd_X9_spread 31 rfl) rfl (fun r1 h => ?_)
    refine bs_iload C (bf_dk dd_X9_spread 32 rfl) rfl ?_
    refine bs_i2l C (bf_dk dd_X9_spread 33 rfl) ?_
    refine bs_bipush C (bf_dk dd_X9_spread 34 rfl) (56 : Int32) (by decide) ?_
    refine bs_bipush C (bf_dk dd_X9_spread 35 rfl) (8 : Int32) (by decide) ?_
    refine bs_iload_n C (bf_dk dd_X9_spread 36 rfl) rfl ?_
    refine bs_imul C (bf_dk dd_X9_spread 37 rfl) ?_
    refine bs_isub C (bf_dk dd_X9_spread 38 rfl) ?_
    refine bs_lshl C (bf_dk dd_X9_spread 39 rfl) ?_
    refine bs_lor C (bf_dk dd_X9_spread 40 rfl) ?_
    refine bs_nameL (fun v3 ev3 => ?_)
    replace h := h v3 ev3
    refine bs_lstore C (bf_dk dd_X9_spread 41 rfl) (Nat.le_of_ble_eq_true rfl) (Nat.le_of_ble_eq_true rfl) (lv2 := [some (.ref 0), some (.int x1), some (.int x2), some (.int x3), some (.int x4), some (.int x5), some (.int x6), some (.int x7), some (.int x8), some (.long v3), none]) rfl ?_
    refine bs_aload_n C (bf_dk dd_X9_spread 42 rfl) rfl ?_
    refine bs_lload C (bf_dk dd_X9_spread 43 rfl) rfl ?_
    refine bs_iload_n C (bf_dk dd_X9_spread 44 rfl) rfl ?_
    refine bs_iconst C (bf_dk dd_X9_spread 45 rfl) (1 : Int32) (by decide) ?_
    refine bs_iadd C (bf_dk dd_X9_spread 46 rfl) ?_
    refine bs_selfV_i C hR (c_X9_mayNow _ _ _ _ _ S (v3) ((x3 + (1 : Int32))) _ h) my_X9_mayNow m_9_320 rfl cl_9 (ge_bW9_0 _) rfl (Nat.le_of_ble_eq_true rfl) (Nat.le_of_ble_eq_true rfl) (st := []) (Nat.le_of_ble_eq_true rfl) (bf_dk dd_X9_spread 47 rfl) rfl (len := 21) (fun _ => rfl) (fun r4 u5 h => ?_)
    refine bs_if_ne C (bf_dk dd_X9_spread 48 rfl) (tgt := 84) rfl (fun c => ?_) (fun c => ?_)
    · replace h := h.1 c
      refine bs_iload C (bf_dk dd_X9_spread 50 rfl) rfl ?_
      refine bs_iconst C (bf_dk dd_X9_spread 51 rfl) (1 : Int32) (by decide) ?_
      refine bs_iadd C (bf_dk dd_X9_spread 52 rfl) ?_
      refine bs_istore C (bf_dk dd_X9_spread 53 rfl) (Nat.le_of_ble_eq_true rfl) (Nat.le_of_ble_eq_true rfl) (lv2 := [some (.ref 0), some (.int x1), some (.int x2), some (.int x3), some (.int x4), some (.int (x5 + (1 : Int32))), some (.int x6), some (.int x7), some (.int x8), some (.long v3), none]) rfl ?_
      refine bs_iload C (bf_dk dd_X9_spread 54 rfl) rfl ?_
      refine bs_istore C (bf_dk dd_X9_spread 55 rfl) (Nat.le_of_ble_eq_true rfl) (Nat.le_of_ble_eq_true rfl) (lv2 := [some (.ref 0), some (.int x1), some (.int x2), some (.int x3), some (.int x4), some (.int (x5 + (1 : Int32))), some (.int x6), some (.int x8), some (.int x8), some (.long v3), none]) rfl ?_
      refine bs_aload_n C (bf_dk dd_X9_spread 56 rfl) rfl ?_
      refine bs_lload C (bf_dk dd_X9_spread 57 rfl) rfl ?_
      refine bs_iload_n C (bf_dk dd_X9_spread 58 rfl) rfl ?_
      refine bs_iconst C (bf_dk dd_X9_spread 59 rfl) (1 : Int32) (by decide) ?_
      refine bs_iadd C (bf_dk dd_X9_spread 60 rfl) ?_
      refine bs_selfPV_i C hR (c_X9_isOfFilter _ _ _ _ _ u5 (v3) ((x3 + (1 : Int32))) _ h) my_X9_isOfFilter m_9_323 rfl cl_9 (ge_bW9_0 _) rfl (Nat.le_of_ble_eq_true rfl) (Nat.le_of_ble_eq_true rfl) (st := []) (Nat.le_of_ble_eq_true rfl) (bf_dk dd_X9_spread 61 rfl) rfl (fun r6 h => ?_)
      refine bs_if_ne C (bf_dk dd_X9_spread 62 rfl) (tgt := 112) rfl (fun c => ?_) (fun c => ?_)
      · replace h := h.1 c
        exact bs_weak (bf_s1 (bf_s1 (bf_s1 (bf_s1 (bf_s1 (bf_s1 (bf_s1 (bf_s1 (bf_s1 (bf_sn (bf_sn bf_s0))))))))))) (t_X9_spread_112 C hR u5 (x1) (x2) (x3) (x4) ((x5 + (1 : Int32))) (x6) (x8) (x8) Q B43 hB43 h)
      · replace h := h.2 c
        refine bs_iload C (bf_dk dd_X9_spread 63 rfl) rfl ?_
        refine bs_iconst C (bf_dk dd_X9_spread 64 rfl) (1 : Int32) (by decide) ?_
        refine bs_iadd C (bf_dk dd_X9_spread 65 rfl) ?_
        refine bs_istore C (bf_dk dd_X9_spread 66 rfl) (Nat.le_of_ble_eq_true rfl) (Nat.le_of_ble_eq_true rfl) (lv2 := [some (.ref 0), some (.int x1), some (.int x2), some (.int x3), some (.int x4), some (.int (x5 + (1 : Int32))), some (.int (x6 + (1 : Int32))), some (.int x8), some (.int x8), some (.long v3), none]) rfl ?_
        exact bs_weak (bf_s1 (bf_s1 (bf_s1 (bf_s1 (bf_s1 (bf_s1 (bf_s1 (bf_s1 (bf_s1 (bf_sn (bf_sn bf_s0))))))))))) (t_X9_spread_112 C hR u5 (x1) (x2) (x3) (x4) ((x5 + (1 : Int32))) ((x6 + (1 : Int32))) (x8) (x8) Q B43 hB43 h)
    · replace h := h.2 c
      refine bs_goto C (bf_dk dd_X9_spread 49 rfl) (tgt := 112) rfl ?_
      exact bs_weak (bf_s1 (bf_s1 (bf_s1 (bf_s1 (bf_s1 (bf_s1 (bf_s1 (bf_s1 (bf_s1 (bf_sn (bf_sn bf_s0))))))))))) (t_X9_spread_112 C hR u5 (x1) (x2) (x3) (x4) (x5) (x6) (x7) (x8) Q B43 hB43 h)
def wp_X9_spread_43 (S : bT9) (x1 : Int32) (x2 : Int32) (x3 : Int32) (x4 : Int32) (x5 : Int32) (x6 : Int32) (x7 : Int32) (x8 : Int32) (Q : Int32 → (bT9) → Prop) : Prop := ∃ I : Nat → Int32 → Int32 → Int32 → Int32 → Int32 → Int32 → Int32 → Int32 → (bT9) → Prop, (∃ n : Nat, I n x1 x2 x3 x4 x5 x6 x7 x8 S) ∧ ∀ (n : Nat) (x1 : Int32) (x2 : Int32) (x3 : Int32) (x4 : Int32) (x5 : Int32) (x6 : Int32) (x7 : Int32) (x8 : Int32) (S : bT9), I n x1 x2 x3 x4 x5 x6 x7 x8 S → wp_X9_spread_43b S x1 x2 x3 x4 x5 x6 x7 x8 Q (fun x1 x2 x3 x4 x5 x6 x7 x8 S => ∃ n2 : Nat, n2 < n ∧ I n2 x1 x2 x3 x4 x5 x6 x7 x8 S)
theorem t_X9_spread_43 {X : bf_X} (C : bf_C X RX9 cX9_spread 11 (some .int)) (hR : bf_Rm X 7 163) (S : bT9) (x1 : Int32) (x2 : Int32) (x3 : Int32) (x4 : Int32) (x5 : Int32) (x6 : Int32) (x7 : Int32) (x8 : Int32) (Q : Int32 → (bT9) → Prop) (h : wp_X9_spread_43 S x1 x2 x3 x4 x5 x6 x7 x8 Q) : bf_A X (bf_Zi X bW9 Q) 11 43 [some (.ref 0), some (.int x1), some (.int x2), some (.int x3), some (.int x4), some (.int x5), some (.int x6), some (.int x7), some (.int x8), none, none] [] (bW9 S) := by
  obtain ⟨I, ⟨n0, h0⟩, hI⟩ := h
  have key : ∀ (n : Nat) (x1 : Int32) (x2 : Int32) (x3 : Int32) (x4 : Int32) (x5 : Int32) (x6 : Int32) (x7 : Int32) (x8 : Int32) (S : bT9), I n x1 x2 x3 x4 x5 x6 x7 x8 S → bf_A X (bf_Zi X bW9 Q) 11 43 [some (.ref 0), some (.int x1), some (.int x2), some (.int x3), some (.int x4), some (.int x5), some (.int x6), some (.int x7), some (.int x8), none, none] [] (bW9 S) := by
    intro n
    induction n using Nat.strongRecOn with
    | _ n ih =>
      intro x1 x2 x3 x4 x5 x6 x7 x8 S hi
      exact t_X9_spread_43b C hR S x1 x2 x3 x4 x5 x6 x7 x8 Q _ (fun x1 x2 x3 x4 x5 x6 x7 x8 S hb => by obtain ⟨n2, hn, hi2⟩ := hb; exact ih n2 hn x1 x2 x3 x4 x5 x6 x7 x8 S hi2) (hI n x1 x2 x3 x4 x5 x6 x7 x8 S hi)
  exact key n0 x1 x2 x3 x4 x5 x6 x7 x8 S h0
def wp_X9_spread (S : bT9) (a1 : Int32) (a2 : Int32) (a3 : Int32) (a4 : Int32) (Q : Int32 → (bT9) → Prop) : Prop := (∀ S8 : bT9, S8 = (b9s_told S (0 : Int32)) → (wp_X9_isIn S8 (a3) ((1 : Int32)) ((7 : Int32)) (fun r9 => ((r9 = 0 → (Q (-1 : Int32) S8)) ∧ (¬ r9 = 0 → (wp_X9_isIn S8 (a4) ((0 : Int32)) ((2 : Int32)) (fun r11 => ((¬ r11 = 0 → (wp_X9_spread_43 S8 (a1) (a2) (a3) (a4) ((0 : Int32)) ((0 : Int32)) ((-1 : Int32)) ((255 : Int32)) Q)) ∧ (r11 = 0 → (Q (-1 : Int32) S8))))))))))
set_option maxRecDepth 20000 in
theorem t_X9_spread {X : bf_X} (C : bf_C X RX9 cX9_spread 11 (some .int)) (hR : bf_Rm X 7 163) (S : bT9) (a1 : Int32) (a2 : Int32) (a3 : Int32) (a4 : Int32) (Q : Int32 → (bT9) → Prop) (h : wp_X9_spread S a1 a2 a3 a4 Q) : bf_A X (bf_Zi X bW9 Q) 11 0 [some (.ref 0), some (.int a1), some (.int a2), some (.int a3), some (.int a4), none, none, none, none, none, none] [] (bW9 S) := by
  unfold wp_X9_spread at h
  refine bs_aload_n C (bf_dk dd_X9_spread 0 rfl) rfl ?_
  refine bs_iconst C (bf_dk dd_X9_spread 1 rfl) (0 : Int32) (by decide) ?_
  refine bs_put C (bf_dk dd_X9_spread 2 rfl) tyX9_ok nmX9 cl_9 in_9 0 (Nat.le_of_ble_eq_true rfl) rfl f_9_75 rfl (ge_bW9_0 S) (Nat.le_of_ble_eq_true rfl) rfl rfl (pu_bW9_0_0 S (0 : Int32)) ?_
  refine bs_nameS bW9 (fun S8 eS8 => ?_)
  replace h := h S8 eS8
  refine bs_aload_n C (bf_dk dd_X9_spread 3 rfl) rfl ?_
  refine bs_iload_n C (bf_dk dd_X9_spread 4 rfl) rfl ?_
  refine bs_iconst C (bf_dk dd_X9_spread 5 rfl) (1 : Int32) (by decide) ?_
  refine bs_bipush C (bf_dk dd_X9_spread 6 rfl) (7 : Int32) (by decide) ?_
  refine bs_selfPV_i C hR (c_X9_isIn _ _ _ _ _ S8 (a3) ((1 : Int32)) ((7 : Int32)) _ h) my_X9_isIn m_9_82 rfl cl_9 (ge_bW9_0 _) rfl (Nat.le_of_ble_eq_true rfl) (Nat.le_of_ble_eq_true rfl) (st := []) (Nat.le_of_ble_eq_true rfl) (bf_dk dd_X9_spread 7 rfl) rfl (fun r9 h => ?_)
  refine bs_if_eq C (bf_dk dd_X9_spread 8 rfl) (tgt := 27) rfl (fun c => ?_) (fun c => ?_)
  · replace h := h.1 c
    refine bs_iconst C (bf_dk dd_X9_spread 15 rfl) (-1 : Int32) (by decide) ?_
    exact bs_iret (u := S8) C (bf_dk dd_X9_spread 16 rfl) rfl h
  · replace h := h.2 c
    refine bs_aload_n C (bf_dk dd_X9_spread 9 rfl) rfl ?_
    refine bs_iload C (bf_dk dd_X9_spread 10 rfl) rfl ?_
    refine bs_iconst C (bf_dk dd_X9_spread 11 rfl) (0 : Int32) (by decide) ?_
    refine bs_iconst C (bf_dk dd_X9_spread 12 rfl) (2 : Int32) (by decide) ?_
    refine bs_selfPV_i C hR (c_X9_isIn _ _ _ _ _ S8 (a4) ((0 : Int32)) ((2 : Int32)) _ h) my_X9_isIn m_9_82 rfl cl_9 (ge_bW9_0 _) rfl (Nat.le_of_ble_eq_true rfl) (Nat.le_of_ble_eq_true rfl) (st := []) (Nat.le_of_ble_eq_true rfl) (bf_dk dd_X9_spread 13 rfl) rfl (fun r11 h => ?_)
    refine bs_if_ne C (bf_dk dd_X9_spread 14 rfl) (tgt := 29) rfl (fun c => ?_) (fun c => ?_)
    · replace h := h.1 c
      refine bs_iconst C (bf_dk dd_X9_spread 17 rfl) (0 : Int32) (by decide) ?_
      refine bs_istore C (bf_dk dd_X9_spread 18 rfl) (Nat.le_of_ble_eq_true rfl) (Nat.le_of_ble_eq_true rfl) (lv2 := [some (.ref 0), some (.int a1), some (.int a2), some (.int a3), some (.int a4), some (.int (0 : Int32)), none, none, none, none, none]) rfl ?_
      refine bs_iconst C (bf_dk dd_X9_spread 19 rfl) (0 : Int32) (by decide) ?_
      refine bs_istore C (bf_dk dd_X9_spread 20 rfl) (Nat.le_of_ble_eq_true rfl) (Nat.le_of_ble_eq_true rfl) (lv2 := [some (.ref 0), some (.int a1), some (.int a2), some (.int a3), some (.int a4), some (.int (0 : Int32)), some (.int (0 : Int32)), none, none, none, none]) rfl ?_
      refine bs_iconst C (bf_dk dd_X9_spread 21 rfl) (-1 : Int32) (by decide) ?_
      refine bs_istore C (bf_dk dd_X9_spread 22 rfl) (Nat.le_of_ble_eq_true rfl) (Nat.le_of_ble_eq_true rfl) (lv2 := [some (.ref 0), some (.int a1), some (.int a2), some (.int a3), some (.int a4), some (.int (0 : Int32)), some (.int (0 : Int32)), some (.int (-1 : Int32)), none, none, none]) rfl ?_
      refine bs_sipush C (bf_dk dd_X9_spread 23 rfl) (255 : Int32) (by decide) ?_
      refine bs_istore C (bf_dk dd_X9_spread 24 rfl) (Nat.le_of_ble_eq_true rfl) (Nat.le_of_ble_eq_true rfl) (lv2 := [some (.ref 0), some (.int a1), some (.int a2), some (.int a3), some (.int a4), some (.int (0 : Int32)), some (.int (0 : Int32)), some (.int (-1 : Int32)), some (.int (255 : Int32)), none, none]) rfl ?_
      exact bs_weak (bf_s1 (bf_s1 (bf_s1 (bf_s1 (bf_s1 (bf_s1 (bf_s1 (bf_s1 (bf_s1 (bf_sn (bf_sn bf_s0))))))))))) (t_X9_spread_43 C hR S8 (a1) (a2) (a3) (a4) ((0 : Int32)) ((0 : Int32)) ((-1 : Int32)) ((255 : Int32)) Q h)
    · replace h := h.2 c
      refine bs_iconst C (bf_dk dd_X9_spread 15 rfl) (-1 : Int32) (by decide) ?_
      exact bs_iret (u := S8) C (bf_dk dd_X9_spread 16 rfl) rfl h
theorem c_X9_spread (l : Launch) (dC : Nat → ClassId) (dI : Nat → Nat → Nat) (ac : Nat → ClassId) (al : Nat → Nat) (S : bT9) (a1 : Int32) (a2 : Int32) (a3 : Int32) (a4 : Int32) (Q : Int32 → (bT9) → Prop) (h : wp_X9_spread S a1 a2 a3 a4 Q) : bf_M l yX9_spread cX9_spread 11 (some .int) 7 163 dC dI ac al [.ref 0, .int a1, .int a2, .int a3, .int a4] (bW9 S) (bf_Ki dC dI ac al bW9 Q) := by
  refine bf_start [some (.ref 0), some (.int a1), some (.int a2), some (.int a3), some (.int a4), none, none, none, none, none, none] (by decide) (Nat.le_of_ble_eq_true rfl) (bf_s1 (bf_s1 (bf_s1 (bf_s1 (bf_s1 (bf_en 6)))))) ?_
  intro X hl C hR e1 e2 e3 e4
  subst e1; subst e2; subst e3; subst e4
  exact t_X9_spread C hR S a1 a2 a3 a4 Q h
def wp_X9_question (S : bT9) (a1 : Int32) (a2 : Int32) (a3 : Int32) (Q : Int32 → (bT9) → Prop) : Prop := (∀ S1 : bT9, S1 = (b9s_told S (0 : Int32)) → (wp_X9_isKey S1 (a3) (fun r2 => ((r2 = 0 → (Q (-1 : Int32) S1)) ∧ (¬ r2 = 0 → (vp_in (10 : Int32) 23 ∧ ((¬ ((b9g_now S1) ((10 : Int32)).toNatClampNeg) = (16 : Int32) → (vp_in (10 : Int32) 23 ∧ (wp_X9_keyOf S1 (a1) (a2) (a3) (fun r4 => (vp_in ((128 : Int32) + ((b9g_now S1) ((10 : Int32)).toNatClampNeg)) 144 ∧ (∀ S6 : bT9, S6 = (b9s_keys S1 (vp_updL (b9g_keys S1) (((128 : Int32) + ((b9g_now S1) ((10 : Int32)).toNatClampNeg))).toNatClampNeg r4)) → (vp_in (10 : Int32) 23 ∧ (vp_in ((128 : Int32) + ((b9g_now S6) ((10 : Int32)).toNatClampNeg)) 144 ∧ (∀ S7 : bT9, S7 = (b9s_lengths S6 (upd (b9g_lengths S6) (((128 : Int32) + ((b9g_now S6) ((10 : Int32)).toNatClampNeg))).toNatClampNeg a3)) → (vp_in (10 : Int32) 23 ∧ (vp_in (10 : Int32) 23 ∧ (∀ S8 : bT9, S8 = (b9s_now S7 (upd (b9g_now S7) ((10 : Int32)).toNatClampNeg (((b9g_now S7) ((10 : Int32)).toNatClampNeg) + (1 : Int32)))) → (vp_in (10 : Int32) 23 ∧ (Q ((b9g_now S8) ((10 : Int32)).toNatClampNeg) S8)))))))))))))) ∧ (((b9g_now S1) ((10 : Int32)).toNatClampNeg) = (16 : Int32) → (Q (-1 : Int32) S1)))))))))
set_option maxRecDepth 20000 in
theorem t_X9_question {X : bf_X} (C : bf_C X RX9 cX9_question 4 (some .int)) (hR : bf_Rm X 2 46) (S : bT9) (a1 : Int32) (a2 : Int32) (a3 : Int32) (Q : Int32 → (bT9) → Prop) (h : wp_X9_question S a1 a2 a3 Q) : bf_A X (bf_Zi X bW9 Q) 4 0 [some (.ref 0), some (.int a1), some (.int a2), some (.int a3)] [] (bW9 S) := by
  unfold wp_X9_question at h
  refine bs_aload_n C (bf_dk dd_X9_question 0 rfl) rfl ?_
  refine bs_iconst C (bf_dk dd_X9_question 1 rfl) (0 : Int32) (by decide) ?_
  refine bs_put C (bf_dk dd_X9_question 2 rfl) tyX9_ok nmX9 cl_9 in_9 0 (Nat.le_of_ble_eq_true rfl) rfl f_9_75 rfl (ge_bW9_0 S) (Nat.le_of_ble_eq_true rfl) rfl rfl (pu_bW9_0_0 S (0 : Int32)) ?_
  refine bs_nameS bW9 (fun S1 eS1 => ?_)
  replace h := h S1 eS1
  refine bs_aload_n C (bf_dk dd_X9_question 3 rfl) rfl ?_
  refine bs_iload_n C (bf_dk dd_X9_question 4 rfl) rfl ?_
  refine bs_selfPV_i C hR (c_X9_isKey _ _ _ _ _ S1 (a3) _ h) my_X9_isKey m_9_117 rfl cl_9 (ge_bW9_0 _) rfl (Nat.le_of_ble_eq_true rfl) (Nat.le_of_ble_eq_true rfl) (st := []) (Nat.le_of_ble_eq_true rfl) (bf_dk dd_X9_question 5 rfl) rfl (fun r2 h => ?_)
  refine bs_if_eq C (bf_dk dd_X9_question 6 rfl) (tgt := 25) rfl (fun c => ?_) (fun c => ?_)
  · replace h := h.1 c
    refine bs_iconst C (bf_dk dd_X9_question 13 rfl) (-1 : Int32) (by decide) ?_
    exact bs_iret (u := S1) C (bf_dk dd_X9_question 14 rfl) rfl h
  · replace h := h.2 c
    refine bs_aload_n C (bf_dk dd_X9_question 7 rfl) rfl ?_
    refine bs_get C (bf_dk dd_X9_question 8 rfl) cl_9 in_9 1 (Nat.le_of_ble_eq_true rfl) rfl f_9_7 (ge_bW9_0 S1) rfl ?_
    refine bs_bipush C (bf_dk dd_X9_question 9 rfl) (10 : Int32) (by decide) ?_
    obtain ⟨hi, h⟩ := h
    refine bs_iald C (bf_dk dd_X9_question 10 rfl) (ge_bW9_1 S1) hi ?_
    refine bs_bipush C (bf_dk dd_X9_question 11 rfl) (16 : Int32) (by decide) ?_
    refine bs_icmp_ne C (bf_dk dd_X9_question 12 rfl) (tgt := 27) rfl (fun c => ?_) (fun c => ?_)
    · replace h := h.1 c
      refine bs_aload_n C (bf_dk dd_X9_question 15 rfl) rfl ?_
      refine bs_get C (bf_dk dd_X9_question 16 rfl) cl_9 in_9 2 (Nat.le_of_ble_eq_true rfl) rfl f_9_13 (ge_bW9_0 S1) rfl ?_
      refine bs_sipush C (bf_dk dd_X9_question 17 rfl) (128 : Int32) (by decide) ?_
      refine bs_aload_n C (bf_dk dd_X9_question 18 rfl) rfl ?_
      refine bs_get C (bf_dk dd_X9_question 19 rfl) cl_9 in_9 1 (Nat.le_of_ble_eq_true rfl) rfl f_9_7 (ge_bW9_0 S1) rfl ?_
      refine bs_bipush C (bf_dk dd_X9_question 20 rfl) (10 : Int32) (by decide) ?_
      obtain ⟨hi, h⟩ := h
      refine bs_iald C (bf_dk dd_X9_question 21 rfl) (ge_bW9_1 S1) hi ?_
      refine bs_iadd C (bf_dk dd_X9_question 22 rfl) ?_
      refine bs_aload_n C (bf_dk dd_X9_question 23 rfl) rfl ?_
      refine bs_iload_n C (bf_dk dd_X9_question 24 rfl) rfl ?_
      refine bs_iload_n C (bf_dk dd_X9_question 25 rfl) rfl ?_
      refine bs_iload_n C (bf_dk dd_X9_question 26 rfl) rfl ?_
      refine bs_selfPV_l C hR (c_X9_keyOf _ _ _ _ _ S1 (a1) (a2) (a3) _ h) my_X9_keyOf m_9_121 rfl cl_9 (ge_bW9_0 _) rfl (Nat.le_of_ble_eq_true rfl) (Nat.le_of_ble_eq_true rfl) (st := [.int ((128 : Int32) + ((b9g_now S1) ((10 : Int32)).toNatClampNeg)), .ref 2]) (Nat.le_of_ble_eq_true rfl) (bf_dk dd_X9_question 27 rfl) rfl (fun r4 h => ?_)
      obtain ⟨hi, h⟩ := h
      refine bs_last C (bf_dk dd_X9_question 28 rfl) (ge_bW9_2 S1) hi (ar_bW9_2 S1 _) ?_
      refine bs_nameS bW9 (fun S6 eS6 => ?_)
      replace h := h S6 eS6
      refine bs_aload_n C (bf_dk dd_X9_question 29 rfl) rfl ?_
      refine bs_get C (bf_dk dd_X9_question 30 rfl) cl_9 in_9 3 (Nat.le_of_ble_eq_true rfl) rfl f_9_17 (ge_bW9_0 S6) rfl ?_
      refine bs_sipush C (bf_dk dd_X9_question 31 rfl) (128 : Int32) (by decide) ?_
      refine bs_aload_n C (bf_dk dd_X9_question 32 rfl) rfl ?_
      refine bs_get C (bf_dk dd_X9_question 33 rfl) cl_9 in_9 1 (Nat.le_of_ble_eq_true rfl) rfl f_9_7 (ge_bW9_0 S6) rfl ?_
      refine bs_bipush C (bf_dk dd_X9_question 34 rfl) (10 : Int32) (by decide) ?_
      obtain ⟨hi, h⟩ := h
      refine bs_iald C (bf_dk dd_X9_question 35 rfl) (ge_bW9_1 S6) hi ?_
      refine bs_iadd C (bf_dk dd_X9_question 36 rfl) ?_
      refine bs_iload_n C (bf_dk dd_X9_question 37 rfl) rfl ?_
      obtain ⟨hi, h⟩ := h
      refine bs_iast C (bf_dk dd_X9_question 38 rfl) (ge_bW9_3 S6) hi (ar_bW9_3 S6 _) ?_
      refine bs_nameS bW9 (fun S7 eS7 => ?_)
      replace h := h S7 eS7
      refine bs_aload_n C (bf_dk dd_X9_question 39 rfl) rfl ?_
      refine bs_get C (bf_dk dd_X9_question 40 rfl) cl_9 in_9 1 (Nat.le_of_ble_eq_true rfl) rfl f_9_7 (ge_bW9_0 S7) rfl ?_
      refine bs_bipush C (bf_dk dd_X9_question 41 rfl) (10 : Int32) (by decide) ?_
      refine bs_aload_n C (bf_dk dd_X9_question 42 rfl) rfl ?_
      refine bs_get C (bf_dk dd_X9_question 43 rfl) cl_9 in_9 1 (Nat.le_of_ble_eq_true rfl) rfl f_9_7 (ge_bW9_0 S7) rfl ?_
      refine bs_bipush C (bf_dk dd_X9_question 44 rfl) (10 : Int32) (by decide) ?_
      obtain ⟨hi, h⟩ := h
      refine bs_iald C (bf_dk dd_X9_question 45 rfl) (ge_bW9_1 S7) hi ?_
      refine bs_iconst C (bf_dk dd_X9_question 46 rfl) (1 : Int32) (by decide) ?_
      refine bs_iadd C (bf_dk dd_X9_question 47 rfl) ?_
      obtain ⟨hi, h⟩ := h
      refine bs_iast C (bf_dk dd_X9_question 48 rfl) (ge_bW9_1 S7) hi (ar_bW9_1 S7 _) ?_
      refine bs_nameS bW9 (fun S8 eS8 => ?_)
      replace h := h S8 eS8
      refine bs_aload_n C (bf_dk dd_X9_question 49 rfl) rfl ?_
      refine bs_get C (bf_dk dd_X9_question 50 rfl) cl_9 in_9 1 (Nat.le_of_ble_eq_true rfl) rfl f_9_7 (ge_bW9_0 S8) rfl ?_
      refine bs_bipush C (bf_dk dd_X9_question 51 rfl) (10 : Int32) (by decide) ?_
      obtain ⟨hi, h⟩ := h
      refine bs_iald C (bf_dk dd_X9_question 52 rfl) (ge_bW9_1 S8) hi ?_
      exact bs_iret (u := S8) C (bf_dk dd_X9_question 53 rfl) rfl h
    · replace h := h.2 c
      refine bs_iconst C (bf_dk dd_X9_question 13 rfl) (-1 : Int32) (by decide) ?_
      exact bs_iret (u := S1) C (bf_dk dd_X9_question 14 rfl) rfl h
theorem c_X9_question (l : Launch) (dC : Nat → ClassId) (dI : Nat → Nat → Nat) (ac : Nat → ClassId) (al : Nat → Nat) (S : bT9) (a1 : Int32) (a2 : Int32) (a3 : Int32) (Q : Int32 → (bT9) → Prop) (h : wp_X9_question S a1 a2 a3 Q) : bf_M l yX9_question cX9_question 4 (some .int) 2 46 dC dI ac al [.ref 0, .int a1, .int a2, .int a3] (bW9 S) (bf_Ki dC dI ac al bW9 Q) := by
  refine bf_start [some (.ref 0), some (.int a1), some (.int a2), some (.int a3)] (by decide) (Nat.le_of_ble_eq_true rfl) (bf_s1 (bf_s1 (bf_s1 (bf_s1 bf_s0)))) ?_
  intro X hl C hR e1 e2 e3 e4
  subst e1; subst e2; subst e3; subst e4
  exact t_X9_question C hR S a1 a2 a3 Q h
def wp_X9_forget (S : bT9) (Q : Int32 → (bT9) → Prop) : Prop := (∀ S1 : bT9, S1 = (b9s_told S (0 : Int32)) → (vp_in (10 : Int32) 23 ∧ (vp_in (10 : Int32) 23 ∧ (∀ S2 : bT9, S2 = (b9s_now S1 (upd (b9g_now S1) ((10 : Int32)).toNatClampNeg (0 : Int32))) → (Q ((b9g_now S1) ((10 : Int32)).toNatClampNeg) S2)))))
set_option maxRecDepth 20000 in
theorem t_X9_forget {X : bf_X} (C : bf_C X RX9 cX9_forget 2 (some .int)) (hR : bf_Rm X 0 0) (S : bT9) (Q : Int32 → (bT9) → Prop) (h : wp_X9_forget S Q) : bf_A X (bf_Zi X bW9 Q) 2 0 [some (.ref 0), none] [] (bW9 S) := by
  unfold wp_X9_forget at h
  refine bs_aload_n C (bf_dk dd_X9_forget 0 rfl) rfl ?_
  refine bs_iconst C (bf_dk dd_X9_forget 1 rfl) (0 : Int32) (by decide) ?_
  refine bs_put C (bf_dk dd_X9_forget 2 rfl) tyX9_ok nmX9 cl_9 in_9 0 (Nat.le_of_ble_eq_true rfl) rfl f_9_75 rfl (ge_bW9_0 S) (Nat.le_of_ble_eq_true rfl) rfl rfl (pu_bW9_0_0 S (0 : Int32)) ?_
  refine bs_nameS bW9 (fun S1 eS1 => ?_)
  replace h := h S1 eS1
  refine bs_aload_n C (bf_dk dd_X9_forget 3 rfl) rfl ?_
  refine bs_get C (bf_dk dd_X9_forget 4 rfl) cl_9 in_9 1 (Nat.le_of_ble_eq_true rfl) rfl f_9_7 (ge_bW9_0 S1) rfl ?_
  refine bs_bipush C (bf_dk dd_X9_forget 5 rfl) (10 : Int32) (by decide) ?_
  obtain ⟨hi, h⟩ := h
  refine bs_iald C (bf_dk dd_X9_forget 6 rfl) (ge_bW9_1 S1) hi ?_
  refine bs_istore_n C (bf_dk dd_X9_forget 7 rfl) rfl (Nat.le_of_ble_eq_true rfl) (Nat.le_of_ble_eq_true rfl) (lv2 := [some (.ref 0), some (.int ((b9g_now S1) ((10 : Int32)).toNatClampNeg))]) rfl ?_
  refine bs_aload_n C (bf_dk dd_X9_forget 8 rfl) rfl ?_
  refine bs_get C (bf_dk dd_X9_forget 9 rfl) cl_9 in_9 1 (Nat.le_of_ble_eq_true rfl) rfl f_9_7 (ge_bW9_0 S1) rfl ?_
  refine bs_bipush C (bf_dk dd_X9_forget 10 rfl) (10 : Int32) (by decide) ?_
  refine bs_iconst C (bf_dk dd_X9_forget 11 rfl) (0 : Int32) (by decide) ?_
  obtain ⟨hi, h⟩ := h
  refine bs_iast C (bf_dk dd_X9_forget 12 rfl) (ge_bW9_1 S1) hi (ar_bW9_1 S1 _) ?_
  refine bs_nameS bW9 (fun S2 eS2 => ?_)
  replace h := h S2 eS2
  refine bs_iload_n C (bf_dk dd_X9_forget 13 rfl) rfl ?_
  exact bs_iret (u := S2) C (bf_dk dd_X9_forget 14 rfl) rfl h
theorem c_X9_forget (l : Launch) (dC : Nat → ClassId) (dI : Nat → Nat → Nat) (ac : Nat → ClassId) (al : Nat → Nat) (S : bT9) (Q : Int32 → (bT9) → Prop) (h : wp_X9_forget S Q) : bf_M l yX9_forget cX9_forget 2 (some .int) 0 0 dC dI ac al [.ref 0] (bW9 S) (bf_Ki dC dI ac al bW9 Q) := by
  refine bf_start [some (.ref 0), none] (by decide) (Nat.le_of_ble_eq_true rfl) (bf_s1 (bf_en 1)) ?_
  intro X hl C hR e1 e2 e3 e4
  subst e1; subst e2; subst e3; subst e4
  exact t_X9_forget C hR S Q h
def wp_X9_wrongBy_71 (S : bT9) (x1 : Int32) (x2 : Int32) (x3 : Int32) (x4 : Int32) (Q : Int32 → (bT9) → Prop) (B5 : Int32 → Int32 → Int32 → Int32 → (bT9) → Prop) : Prop := (B5 (x1) (x2) (x3) ((x4 + (1 : Int32))) S)
set_option maxRecDepth 20000 in
theorem t_X9_wrongBy_71 {X : bf_X} (C : bf_C X RX9 cX9_wrongBy 8 (some .int)) (hR : bf_Rm X 6 140) (S : bT9) (x1 : Int32) (x2 : Int32) (x3 : Int32) (x4 : Int32) (Q : Int32 → (bT9) → Prop) (B5 : Int32 → Int32 → Int32 → Int32 → (bT9) → Prop) (hB5 : ∀ (x1 : Int32) (x2 : Int32) (x3 : Int32) (x4 : Int32) (S : bT9), B5 x1 x2 x3 x4 S → bf_A X (bf_Zi X bW9 Q) 8 5 [some (.ref 0), some (.int x1), some (.int x2), some (.int x3), some (.int x4), none, none, none] [] (bW9 S)) (h : wp_X9_wrongBy_71 S x1 x2 x3 x4 Q B5) : bf_A X (bf_Zi X bW9 Q) 8 71 [some (.ref 0), some (.int x1), some (.int x2), some (.int x3), some (.int x4), none, none, none] [] (bW9 S) := by
  unfold wp_X9_wrongBy_71 at h
  refine bs_iinc C (bf_dk dd_X9_wrongBy 40 rfl) (x4 + (1 : Int32)) rfl rfl (Nat.le_of_ble_eq_true rfl) (Nat.le_of_ble_eq_true rfl) (lv2 := [some (.ref 0), some (.int x1), some (.int x2), some (.int x3), some (.int (x4 + (1 : Int32))), none, none, none]) rfl ?_
  refine bs_goto C (bf_dk dd_X9_wrongBy 41 rfl) (tgt := 5) rfl ?_
  exact bs_weak (bf_s1 (bf_s1 (bf_s1 (bf_s1 (bf_s1 (bf_sn (bf_sn (bf_sn bf_s0)))))))) (hB5 (x1) (x2) (x3) ((x4 + (1 : Int32))) S h)
def wp_X9_wrongBy_5b (S : bT9) (x1 : Int32) (x2 : Int32) (x3 : Int32) (x4 : Int32) (Q : Int32 → (bT9) → Prop) (B5 : Int32 → Int32 → Int32 → Int32 → (bT9) → Prop) : Prop := (vp_in (10 : Int32) 23 ∧ ((((b9g_now S) ((10 : Int32)).toNatClampNeg) ≤ x4 → (Q x3 S)) ∧ (¬ ((b9g_now S) ((10 : Int32)).toNatClampNeg) ≤ x4 → (vp_in ((128 : Int32) + x4) 144 ∧ (vp_in ((128 : Int32) + x4) 144 ∧ (wp_X9_mayBe S (((b9g_keys S) (((128 : Int32) + x4)).toNatClampNeg)) (((b9g_lengths S) (((128 : Int32) + x4)).toNatClampNeg)) (x1) (x2) (fun r1 u2 => ((r1 = 0 → (wp_X9_wrongBy_71 u2 (x1) (x2) (x3) (x4) Q B5)) ∧ (¬ r1 = 0 → (wp_X9_isOfFilter u2 (((b9g_keys S) (((128 : Int32) + x4)).toNatClampNeg)) (((b9g_lengths S) (((128 : Int32) + x4)).toNatClampNeg)) (fun r3 => ((¬ r3 = 0 → (wp_X9_wrongBy_71 u2 (x1) (x2) (x3) (x4) Q B5)) ∧ (r3 = 0 → (wp_X9_wrongBy_71 u2 (x1) (x2) ((x3 + (1 : Int32))) (x4) Q B5))))))))))))))
set_option maxRecDepth 20000 in
theorem t_X9_wrongBy_5b {X : bf_X} (C : bf_C X RX9 cX9_wrongBy 8 (some .int)) (hR : bf_Rm X 6 140) (S : bT9) (x1 : Int32) (x2 : Int32) (x3 : Int32) (x4 : Int32) (Q : Int32 → (bT9) → Prop) (B5 : Int32 → Int32 → Int32 → Int32 → (bT9) → Prop) (hB5 : ∀ (x1 : Int32) (x2 : Int32) (x3 : Int32) (x4 : Int32) (S : bT9), B5 x1 x2 x3 x4 S → bf_A X (bf_Zi X bW9 Q) 8 5 [some (.ref 0), some (.int x1), some (.int x2), some (.int x3), some (.int x4), none, none, none] [] (bW9 S)) (h : wp_X9_wrongBy_5b S x1 x2 x3 x4 Q B5) : bf_A X (bf_Zi X bW9 Q) 8 5 [some (.ref 0), some (.int x1), some (.int x2), some (.int x3), some (.int x4), none, none, none] [] (bW9 S) := by
  unfold wp_X9_wrongBy_5b at h
  refine bs_iload C (bf_dk dd_X9_wrongBy 4 rfl) rfl ?_
  refine bs_aload_n C (bf_dk dd_X9_wrongBy 5 rfl) rfl ?_
  refine bs_get C (bf_dk dd_X9_wrongBy 6 rfl) cl_9 in_9 1 (Nat.le_of_ble_eq_true rfl) rfl f_9_7 (ge_bW9_0 S) rfl ?_
  refine bs_bipush C (bf_dk dd_X9_wrongBy 7 rfl) (10 : Int32) (by decide) ?_
  obtain ⟨hi, h⟩ := h
  refine bs_iald C (bf_dk dd_X9_wrongBy 8 rfl) (ge_bW9_1 S) hi ?_
  refine bs_icmp_ge C (bf_dk dd_X9_wrongBy 9 rfl) (tgt := 77) rfl (fun c => ?_) (fun c => ?_)
  · replace h := h.1 c
    refine bs_iload_n C (bf_dk dd_X9_wrongBy 42 rfl) rfl ?_
    exact bs_iret (u := S) C (bf_dk dd_X9_wrongBy 43 rfl) rfl h
  · replace h := h.2 c
    refine bs_aload_n C (bf_dk dd_X9_wrongBy 10 rfl) rfl ?_
    refine bs_get C (bf_dk dd_X9_wrongBy 11 rfl) cl_9 in_9 2 (Nat.le_of_ble_eq_true rfl) rfl f_9_13 (ge_bW9_0 S) rfl ?_
    refine bs_sipush C (bf_dk dd_X9_wrongBy 12 rfl) (128 : Int32) (by decide) ?_
    refine bs_iload C (bf_dk dd_X9_wrongBy 13 rfl) rfl ?_
    refine bs_iadd C (bf_dk dd_X9_wrongBy 14 rfl) ?_
    obtain ⟨hi, h⟩ := h
    refine bs_lald C (bf_dk dd_X9_wrongBy 15 rfl) (ge_bW9_2 S) hi ?_
    refine bs_lstore C (bf_dk dd_X9_wrongBy 16 rfl) (Nat.le_of_ble_eq_true rfl) (Nat.le_of_ble_eq_true rfl) (lv2 := [some (.ref 0), some (.int x1), some (.int x2), some (.int x3), some (.int x4), some (.long ((b9g_keys S) (((128 : Int32) + x4)).toNatClampNeg)), none, none]) rfl ?_
    refine bs_aload_n C (bf_dk dd_X9_wrongBy 17 rfl) rfl ?_
    refine bs_get C (bf_dk dd_X9_wrongBy 18 rfl) cl_9 in_9 3 (Nat.le_of_ble_eq_true rfl) rfl f_9_17 (ge_bW9_0 S) rfl ?_
    refine bs_sipush C (bf_dk dd_X9_wrongBy 19 rfl) (128 : Int32) (by decide) ?_
    refine bs_iload C (bf_dk dd_X9_wrongBy 20 rfl) rfl ?_
    refine bs_iadd C (bf_dk dd_X9_wrongBy 21 rfl) ?_
    obtain ⟨hi, h⟩ := h
    refine bs_iald C (bf_dk dd_X9_wrongBy 22 rfl) (ge_bW9_3 S) hi ?_
    refine bs_istore C (bf_dk dd_X9_wrongBy 23 rfl) (Nat.le_of_ble_eq_true rfl) (Nat.le_of_ble_eq_true rfl) (lv2 := [some (.ref 0), some (.int x1), some (.int x2), some (.int x3), some (.int x4), some (.long ((b9g_keys S) (((128 : Int32) + x4)).toNatClampNeg)), none, some (.int ((b9g_lengths S) (((128 : Int32) + x4)).toNatClampNeg))]) rfl ?_
    refine bs_aload_n C (bf_dk dd_X9_wrongBy 24 rfl) rfl ?_
    refine bs_lload C (bf_dk dd_X9_wrongBy 25 rfl) rfl ?_
    refine bs_iload C (bf_dk dd_X9_wrongBy 26 rfl) rfl ?_
    refine bs_iload_n C (bf_dk dd_X9_wrongBy 27 rfl) rfl ?_
    refine bs_iload_n C (bf_dk dd_X9_wrongBy 28 rfl) rfl ?_
    refine bs_selfV_i C hR (c_X9_mayBe _ _ _ _ _ S (((b9g_keys S) (((128 : Int32) + x4)).toNatClampNeg)) (((b9g_lengths S) (((128 : Int32) + x4)).toNatClampNeg)) (x1) (x2) _ h) my_X9_mayBe m_9_316 rfl cl_9 (ge_bW9_0 _) rfl (Nat.le_of_ble_eq_true rfl) (Nat.le_of_ble_eq_true rfl) (st := []) (Nat.le_of_ble_eq_true rfl) (bf_dk dd_X9_wrongBy 29 rfl) rfl (len := 21) (fun _ => rfl) (fun r1 u2 h => ?_)
    refine bs_if_eq C (bf_dk dd_X9_wrongBy 30 rfl) (tgt := 71) rfl (fun c => ?_) (fun c => ?_)
    · replace h := h.1 c
      exact bs_weak (bf_s1 (bf_s1 (bf_s1 (bf_s1 (bf_s1 (bf_sn (bf_sn (bf_sn bf_s0)))))))) (t_X9_wrongBy_71 C hR u2 (x1) (x2) (x3) (x4) Q B5 hB5 h)
    · replace h := h.2 c
      refine bs_aload_n C (bf_dk dd_X9_wrongBy 31 rfl) rfl ?_
      refine bs_lload C (bf_dk dd_X9_wrongBy 32 rfl) rfl ?_
      refine bs_iload C (bf_dk dd_X9_wrongBy 33 rfl) rfl ?_
      refine bs_selfPV_i C hR (c_X9_isOfFilter _ _ _ _ _ u2 (((b9g_keys S) (((128 : Int32) + x4)).toNatClampNeg)) (((b9g_lengths S) (((128 : Int32) + x4)).toNatClampNeg)) _ h) my_X9_isOfFilter m_9_323 rfl cl_9 (ge_bW9_0 _) rfl (Nat.le_of_ble_eq_true rfl) (Nat.le_of_ble_eq_true rfl) (st := []) (Nat.le_of_ble_eq_true rfl) (bf_dk dd_X9_wrongBy 34 rfl) rfl (fun r3 h => ?_)
      refine bs_if_ne C (bf_dk dd_X9_wrongBy 35 rfl) (tgt := 71) rfl (fun c => ?_) (fun c => ?_)
      · replace h := h.1 c
        exact bs_weak (bf_s1 (bf_s1 (bf_s1 (bf_s1 (bf_s1 (bf_sn (bf_sn (bf_sn bf_s0)))))))) (t_X9_wrongBy_71 C hR u2 (x1) (x2) (x3) (x4) Q B5 hB5 h)
      · replace h := h.2 c
        refine bs_iload_n C (bf_dk dd_X9_wrongBy 36 rfl) rfl ?_
        refine bs_iconst C (bf_dk dd_X9_wrongBy 37 rfl) (1 : Int32) (by decide) ?_
        refine bs_iadd C (bf_dk dd_X9_wrongBy 38 rfl) ?_
        refine bs_istore_n C (bf_dk dd_X9_wrongBy 39 rfl) rfl (Nat.le_of_ble_eq_true rfl) (Nat.le_of_ble_eq_true rfl) (lv2 := [some (.ref 0), some (.int x1), some (.int x2), some (.int (x3 + (1 : Int32))), some (.int x4), some (.long ((b9g_keys S) (((128 : Int32) + x4)).toNatClampNeg)), none, some (.int ((b9g_lengths S) (((128 : Int32) + x4)).toNatClampNeg))]) rfl ?_
        exact bs_weak (bf_s1 (bf_s1 (bf_s1 (bf_s1 (bf_s1 (bf_sn (bf_sn (bf_sn bf_s0)))))))) (t_X9_wrongBy_71 C hR u2 (x1) (x2) ((x3 + (1 : Int32))) (x4) Q B5 hB5 h)
def wp_X9_wrongBy_5 (S : bT9) (x1 : Int32) (x2 : Int32) (x3 : Int32) (x4 : Int32) (Q : Int32 → (bT9) → Prop) : Prop := ∃ I : Nat → Int32 → Int32 → Int32 → Int32 → (bT9) → Prop, (∃ n : Nat, I n x1 x2 x3 x4 S) ∧ ∀ (n : Nat) (x1 : Int32) (x2 : Int32) (x3 : Int32) (x4 : Int32) (S : bT9), I n x1 x2 x3 x4 S → wp_X9_wrongBy_5b S x1 x2 x3 x4 Q (fun x1 x2 x3 x4 S => ∃ n2 : Nat, n2 < n ∧ I n2 x1 x2 x3 x4 S)
theorem t_X9_wrongBy_5 {X : bf_X} (C : bf_C X RX9 cX9_wrongBy 8 (some .int)) (hR : bf_Rm X 6 140) (S : bT9) (x1 : Int32) (x2 : Int32) (x3 : Int32) (x4 : Int32) (Q : Int32 → (bT9) → Prop) (h : wp_X9_wrongBy_5 S x1 x2 x3 x4 Q) : bf_A X (bf_Zi X bW9 Q) 8 5 [some (.ref 0), some (.int x1), some (.int x2), some (.int x3), some (.int x4), none, none, none] [] (bW9 S) := by
  obtain ⟨I, ⟨n0, h0⟩, hI⟩ := h
  have key : ∀ (n : Nat) (x1 : Int32) (x2 : Int32) (x3 : Int32) (x4 : Int32) (S : bT9), I n x1 x2 x3 x4 S → bf_A X (bf_Zi X bW9 Q) 8 5 [some (.ref 0), some (.int x1), some (.int x2), some (.int x3), some (.int x4), none, none, none] [] (bW9 S) := by
    intro n
    induction n using Nat.strongRecOn with
    | _ n ih =>
      intro x1 x2 x3 x4 S hi
      exact t_X9_wrongBy_5b C hR S x1 x2 x3 x4 Q _ (fun x1 x2 x3 x4 S hb => by obtain ⟨n2, hn, hi2⟩ := hb; exact ih n2 hn x1 x2 x3 x4 S hi2) (hI n x1 x2 x3 x4 S hi)
  exact key n0 x1 x2 x3 x4 S h0
def wp_X9_wrongBy (S : bT9) (a1 : Int32) (a2 : Int32) (Q : Int32 → (bT9) → Prop) : Prop := (wp_X9_wrongBy_5 S (a1) (a2) ((0 : Int32)) ((0 : Int32)) Q)
set_option maxRecDepth 20000 in
theorem t_X9_wrongBy {X : bf_X} (C : bf_C X RX9 cX9_wrongBy 8 (some .int)) (hR : bf_Rm X 6 140) (S : bT9) (a1 : Int32) (a2 : Int32) (Q : Int32 → (bT9) → Prop) (h : wp_X9_wrongBy S a1 a2 Q) : bf_A X (bf_Zi X bW9 Q) 8 0 [some (.ref 0), some (.int a1), some (.int a2), none, none, none, none, none] [] (bW9 S) := by
  unfold wp_X9_wrongBy at h
  refine bs_iconst C (bf_dk dd_X9_wrongBy 0 rfl) (0 : Int32) (by decide) ?_
  refine bs_istore_n C (bf_dk dd_X9_wrongBy 1 rfl) rfl (Nat.le_of_ble_eq_true rfl) (Nat.le_of_ble_eq_true rfl) (lv2 := [some (.ref 0), some (.int a1), some (.int a2), some (.int (0 : Int32)), none, none, none, none]) rfl ?_
  refine bs_iconst C (bf_dk dd_X9_wrongBy 2 rfl) (0 : Int32) (by decide) ?_
  refine bs_istore C (bf_dk dd_X9_wrongBy 3 rfl) (Nat.le_of_ble_eq_true rfl) (Nat.le_of_ble_eq_true rfl) (lv2 := [some (.ref 0), some (.int a1), some (.int a2), some (.int (0 : Int32)), some (.int (0 : Int32)), none, none, none]) rfl ?_
  exact bs_weak (bf_s1 (bf_s1 (bf_s1 (bf_s1 (bf_s1 (bf_sn (bf_sn (bf_sn bf_s0)))))))) (t_X9_wrongBy_5 C hR S (a1) (a2) ((0 : Int32)) ((0 : Int32)) Q h)
theorem c_X9_wrongBy (l : Launch) (dC : Nat → ClassId) (dI : Nat → Nat → Nat) (ac : Nat → ClassId) (al : Nat → Nat) (S : bT9) (a1 : Int32) (a2 : Int32) (Q : Int32 → (bT9) → Prop) (h : wp_X9_wrongBy S a1 a2 Q) : bf_M l yX9_wrongBy cX9_wrongBy 8 (some .int) 6 140 dC dI ac al [.ref 0, .int a1, .int a2] (bW9 S) (bf_Ki dC dI ac al bW9 Q) := by
  refine bf_start [some (.ref 0), some (.int a1), some (.int a2), none, none, none, none, none] (by decide) (Nat.le_of_ble_eq_true rfl) (bf_s1 (bf_s1 (bf_s1 (bf_en 5)))) ?_
  intro X hl C hR e1 e2 e3 e4
  subst e1; subst e2; subst e3; subst e4
  exact t_X9_wrongBy C hR S a1 a2 Q h
def wp_X9_tuned_117 (S : bT9) (x1 : Int32) (x2 : Int32) (x3 : Int32) (x4 : Int32) (x5 : Int32) (Q : Int32 → (bT9) → Prop) (B37 : Int32 → Int32 → Int32 → Int32 → Int32 → (bT9) → Prop) : Prop := (B37 (x1) (x2) (x3) (x4) ((x5 + (1 : Int32))) S)
set_option maxRecDepth 20000 in
theorem t_X9_tuned_117 {X : bf_X} (C : bf_C X RX9 cX9_tuned 8 (some .int)) (hR : bf_Rm X 7 167) (S : bT9) (x1 : Int32) (x2 : Int32) (x3 : Int32) (x4 : Int32) (x5 : Int32) (Q : Int32 → (bT9) → Prop) (B37 : Int32 → Int32 → Int32 → Int32 → Int32 → (bT9) → Prop) (hB37 : ∀ (x1 : Int32) (x2 : Int32) (x3 : Int32) (x4 : Int32) (x5 : Int32) (S : bT9), B37 x1 x2 x3 x4 x5 S → bf_A X (bf_Zi X bW9 Q) 8 37 [some (.ref 0), some (.int x1), some (.int x2), some (.int x3), some (.int x4), some (.int x5), none, none] [] (bW9 S)) (h : wp_X9_tuned_117 S x1 x2 x3 x4 x5 Q B37) : bf_A X (bf_Zi X bW9 Q) 8 117 [some (.ref 0), some (.int x1), some (.int x2), some (.int x3), some (.int x4), some (.int x5), none, none] [] (bW9 S) := by
  unfold wp_X9_tuned_117 at h
  refine bs_iinc C (bf_dk dd_X9_tuned 63 rfl) (x5 + (1 : Int32)) rfl rfl (Nat.le_of_ble_eq_true rfl) (Nat.le_of_ble_eq_true rfl) (lv2 := [some (.ref 0), some (.int x1), some (.int x2), some (.int x3), some (.int x4), some (.int (x5 + (1 : Int32))), none, none]) rfl ?_
  refine bs_goto C (bf_dk dd_X9_tuned 64 rfl) (tgt := 37) rfl ?_
  exact bs_weak (bf_s1 (bf_s1 (bf_s1 (bf_s1 (bf_s1 (bf_s1 (bf_sn (bf_sn bf_s0)))))))) (hB37 (x1) (x2) (x3) (x4) ((x5 + (1 : Int32))) S h)
def wp_X9_tuned_111 (S : bT9) (x1 : Int32) (x2 : Int32) (x3 : Int32) (x4 : Int32) (x5 : Int32) (x6 : Int32) (Q : Int32 → (bT9) → Prop) (B37 : Int32 → Int32 → Int32 → Int32 → Int32 → (bT9) → Prop) (B46 : Int32 → Int32 → Int32 → Int32 → Int32 → Int32 → (bT9) → Prop) : Prop := (B46 (x1) (x2) (x3) (x4) (x5) ((x6 + (1 : Int32))) S)
set_option maxRecDepth 20000 in
theorem t_X9_tuned_111 {X : bf_X} (C : bf_C X RX9 cX9_tuned 8 (some .int)) (hR : bf_Rm X 7 167) (S : bT9) (x1 : Int32) (x2 : Int32) (x3 : Int32) (x4 : Int32) (x5 : Int32) (x6 : Int32) (Q : Int32 → (bT9) → Prop) (B37 : Int32 → Int32 → Int32 → Int32 → Int32 → (bT9) → Prop) (B46 : Int32 → Int32 → Int32 → Int32 → Int32 → Int32 → (bT9) → Prop) (hB37 : ∀ (x1 : Int32) (x2 : Int32) (x3 : Int32) (x4 : Int32) (x5 : Int32) (S : bT9), B37 x1 x2 x3 x4 x5 S → bf_A X (bf_Zi X bW9 Q) 8 37 [some (.ref 0), some (.int x1), some (.int x2), some (.int x3), some (.int x4), some (.int x5), none, none] [] (bW9 S)) (hB46 : ∀ (x1 : Int32) (x2 : Int32) (x3 : Int32) (x4 : Int32) (x5 : Int32) (x6 : Int32) (S : bT9), B46 x1 x2 x3 x4 x5 x6 S → bf_A X (bf_Zi X bW9 Q) 8 46 [some (.ref 0), some (.int x1), some (.int x2), some (.int x3), some (.int x4), some (.int x5), some (.int x6), none] [] (bW9 S)) (h : wp_X9_tuned_111 S x1 x2 x3 x4 x5 x6 Q B37 B46) : bf_A X (bf_Zi X bW9 Q) 8 111 [some (.ref 0), some (.int x1), some (.int x2), some (.int x3), some (.int x4), some (.int x5), some (.int x6), none] [] (bW9 S) := by
  unfold wp_X9_tuned_111 at h
  refine bs_iinc C (bf_dk dd_X9_tuned 61 rfl) (x6 + (1 : Int32)) rfl rfl (Nat.le_of_ble_eq_true rfl) (Nat.le_of_ble_eq_true rfl) (lv2 := [some (.ref 0), some (.int x1), some (.int x2), some (.int x3), some (.int x4), some (.int x5), some (.int (x6 + (1 : Int32))), none]) rfl ?_
  refine bs_goto C (bf_dk dd_X9_tuned 62 rfl) (tgt := 46) rfl ?_
  exact bs_weak (bf_s1 (bf_s1 (bf_s1 (bf_s1 (bf_s1 (bf_s1 (bf_s1 (bf_sn bf_s0)))))))) (hB46 (x1) (x2) (x3) (x4) (x5) ((x6 + (1 : Int32))) S h)
def wp_X9_tuned_46b (S : bT9) (x1 : Int32) (x2 : Int32) (x3 : Int32) (x4 : Int32) (x5 : Int32) (x6 : Int32) (Q : Int32 → (bT9) → Prop) (B37 : Int32 → Int32 → Int32 → Int32 → Int32 → (bT9) → Prop) (B46 : Int32 → Int32 → Int32 → Int32 → Int32 → Int32 → (bT9) → Prop) : Prop := (((8 : Int32) < x6 → (wp_X9_tuned_117 S (x1) (x2) (x3) (x4) (x5) Q B37)) ∧ (¬ (8 : Int32) < x6 → ((x5 < x6 → (wp_X9_tuned_117 S (x1) (x2) (x3) (x4) (x5) Q B37)) ∧ (¬ x5 < x6 → (((x5 - x6) ≤ (8 : Int32) → (wp_X9_wrongBy S (x6) ((x5 - x6)) (fun r1 u2 => ((r1 < x3 → (wp_X9_tuned_111 u2 (x1) (x2) (r1) (((((9 : Int32) * x6) + x5) - x6)) (x5) (x6) Q B37 B46)) ∧ (¬ r1 < x3 → (wp_X9_tuned_111 u2 (x1) (x2) (x3) (x4) (x5) (x6) Q B37 B46)))))) ∧ (¬ (x5 - x6) ≤ (8 : Int32) → (wp_X9_tuned_111 S (x1) (x2) (x3) (x4) (x5) (x6) Q B37 B46)))))))
set_option maxRecDepth 20000 in
theorem t_X9_tuned_46b {X : bf_X} (C : bf_C X RX9 cX9_tuned 8 (some .int)) (hR : bf_Rm X 7 167) (S : bT9) (x1 : Int32) (x2 : Int32) (x3 : Int32) (x4 : Int32) (x5 : Int32) (x6 : Int32) (Q : Int32 → (bT9) → Prop) (B37 : Int32 → Int32 → Int32 → Int32 → Int32 → (bT9) → Prop) (B46 : Int32 → Int32 → Int32 → Int32 → Int32 → Int32 → (bT9) → Prop) (hB37 : ∀ (x1 : Int32) (x2 : Int32) (x3 : Int32) (x4 : Int32) (x5 : Int32) (S : bT9), B37 x1 x2 x3 x4 x5 S → bf_A X (bf_Zi X bW9 Q) 8 37 [some (.ref 0), some (.int x1), some (.int x2), some (.int x3), some (.int x4), some (.int x5), none, none] [] (bW9 S)) (hB46 : ∀ (x1 : Int32) (x2 : Int32) (x3 : Int32) (x4 : Int32) (x5 : Int32) (x6 : Int32) (S : bT9), B46 x1 x2 x3 x4 x5 x6 S → bf_A X (bf_Zi X bW9 Q) 8 46 [some (.ref 0), some (.int x1), some (.int x2), some (.int x3), some (.int x4), some (.int x5), some (.int x6), none] [] (bW9 S)) (h : wp_X9_tuned_46b S x1 x2 x3 x4 x5 x6 Q B37 B46) : bf_A X (bf_Zi X bW9 Q) 8 46 [some (.ref 0), some (.int x1), some (.int x2), some (.int x3), some (.int x4), some (.int x5), some (.int x6), none] [] (bW9 S) := by
  unfold wp_X9_tuned_46b at h
  refine bs_iload C (bf_dk dd_X9_tuned 28 rfl) rfl ?_
  refine bs_bipush C (bf_dk dd_X9_tuned 29 rfl) (8 : Int32) (by decide) ?_
  refine bs_icmp_gt C (bf_dk dd_X9_tuned 30 rfl) (tgt := 117) rfl (fun c => ?_) (fun c => ?_)
  · replace h := h.1 c
    exact bs_weak (bf_s1 (bf_s1 (bf_s1 (bf_s1 (bf_s1 (bf_s1 (bf_sn (bf_sn bf_s0)))))))) (t_X9_tuned_117 C hR S (x1) (x2) (x3) (x4) (x5) Q B37 hB37 h)
  · replace h := h.2 c
    refine bs_iload C (bf_dk dd_X9_tuned 31 rfl) rfl ?_
    refine bs_iload C (bf_dk dd_X9_tuned 32 rfl) rfl ?_
    refine bs_icmp_gt C (bf_dk dd_X9_tuned 33 rfl) (tgt := 117) rfl (fun c => ?_) (fun c => ?_)
    · replace h := h.1 c
      exact bs_weak (bf_s1 (bf_s1 (bf_s1 (bf_s1 (bf_s1 (bf_s1 (bf_sn (bf_sn bf_s0)))))))) (t_X9_tuned_117 C hR S (x1) (x2) (x3) (x4) (x5) Q B37 hB37 h)
    · replace h := h.2 c
      refine bs_iload C (bf_dk dd_X9_tuned 34 rfl) rfl ?_
      refine bs_iload C (bf_dk dd_X9_tuned 35 rfl) rfl ?_
      refine bs_isub C (bf_dk dd_X9_tuned 36 rfl) ?_
      refine bs_bipush C (bf_dk dd_X9_tuned 37 rfl) (8 : Int32) (by decide) ?_
      refine bs_icmp_le C (bf_dk dd_X9_tuned 38 rfl) (tgt := 73) rfl (fun c => ?_) (fun c => ?_)
      · replace h := h.1 c
        refine bs_aload_n C (bf_dk dd_X9_tuned 40 rfl) rfl ?_
        refine bs_iload C (bf_dk dd_X9_tuned 41 rfl) rfl ?_
        refine bs_iload C (bf_dk dd_X9_tuned 42 rfl) rfl ?_
        refine bs_iload C (bf_dk dd_X9_tuned 43 rfl) rfl ?_
        refine bs_isub C (bf_dk dd_X9_tuned 44 rfl) ?_
        refine bs_selfV_i C hR (c_X9_wrongBy _ _ _ _ _ S (x6) ((x5 - x6)) _ h) my_X9_wrongBy m_9_424 rfl cl_9 (ge_bW9_0 _) rfl (Nat.le_of_ble_eq_true rfl) (Nat.le_of_ble_eq_true rfl) (st := []) (Nat.le_of_ble_eq_true rfl) (bf_dk dd_X9_tuned 45 rfl) rfl (len := 21) (fun _ => rfl) (fun r1 u2 h => ?_)
        refine bs_istore C (bf_dk dd_X9_tuned 46 rfl) (Nat.le_of_ble_eq_true rfl) (Nat.le_of_ble_eq_true rfl) (lv2 := [some (.ref 0), some (.int x1), some (.int x2), some (.int x3), some (.int x4), some (.int x5), some (.int x6), some (.int r1)]) rfl ?_
        refine bs_iload C (bf_dk dd_X9_tuned 47 rfl) rfl ?_
        refine bs_iload_n C (bf_dk dd_X9_tuned 48 rfl) rfl ?_
        refine bs_icmp_lt C (bf_dk dd_X9_tuned 49 rfl) (tgt := 95) rfl (fun c => ?_) (fun c => ?_)
        · replace h := h.1 c
          refine bs_iload C (bf_dk dd_X9_tuned 51 rfl) rfl ?_
          refine bs_istore_n C (bf_dk dd_X9_tuned 52 rfl) rfl (Nat.le_of_ble_eq_true rfl) (Nat.le_of_ble_eq_true rfl) (lv2 := [some (.ref 0), some (.int x1), some (.int x2), some (.int r1), some (.int x4), some (.int x5), some (.int x6), some (.int r1)]) rfl ?_
          refine bs_bipush C (bf_dk dd_X9_tuned 53 rfl) (9 : Int32) (by decide) ?_
          refine bs_iload C (bf_dk dd_X9_tuned 54 rfl) rfl ?_
          refine bs_imul C (bf_dk dd_X9_tuned 55 rfl) ?_
          refine bs_iload C (bf_dk dd_X9_tuned 56 rfl) rfl ?_
          refine bs_iadd C (bf_dk dd_X9_tuned 57 rfl) ?_
          refine bs_iload C (bf_dk dd_X9_tuned 58 rfl) rfl ?_
          refine bs_isub C (bf_dk dd_X9_tuned 59 rfl) ?_
          refine bs_istore C (bf_dk dd_X9_tuned 60 rfl) (Nat.le_of_ble_eq_true rfl) (Nat.le_of_ble_eq_true rfl) (lv2 := [some (.ref 0), some (.int x1), some (.int x2), some (.int r1), some (.int ((((9 : Int32) * x6) + x5) - x6)), some (.int x5), some (.int x6), some (.int r1)]) rfl ?_
          exact bs_weak (bf_s1 (bf_s1 (bf_s1 (bf_s1 (bf_s1 (bf_s1 (bf_s1 (bf_sn bf_s0)))))))) (t_X9_tuned_111 C hR u2 (x1) (x2) (r1) (((((9 : Int32) * x6) + x5) - x6)) (x5) (x6) Q B37 B46 hB37 hB46 h)
        · replace h := h.2 c
          refine bs_goto C (bf_dk dd_X9_tuned 50 rfl) (tgt := 111) rfl ?_
          exact bs_weak (bf_s1 (bf_s1 (bf_s1 (bf_s1 (bf_s1 (bf_s1 (bf_s1 (bf_sn bf_s0)))))))) (t_X9_tuned_111 C hR u2 (x1) (x2) (x3) (x4) (x5) (x6) Q B37 B46 hB37 hB46 h)
      · replace h := h.2 c
        refine bs_goto C (bf_dk dd_X9_tuned 39 rfl) (tgt := 111) rfl ?_
        exact bs_weak (bf_s1 (bf_s1 (bf_s1 (bf_s1 (bf_s1 (bf_s1 (bf_s1 (bf_sn bf_s0)))))))) (t_X9_tuned_111 C hR S (x1) (x2) (x3) (x4) (x5) (x6) Q B37 B46 hB37 hB46 h)
def wp_X9_tuned_46 (S : bT9) (x1 : Int32) (x2 : Int32) (x3 : Int32) (x4 : Int32) (x5 : Int32) (x6 : Int32) (Q : Int32 → (bT9) → Prop) (B37 : Int32 → Int32 → Int32 → Int32 → Int32 → (bT9) → Prop) : Prop := ∃ I : Nat → Int32 → Int32 → Int32 → Int32 → Int32 → Int32 → (bT9) → Prop, (∃ n : Nat, I n x1 x2 x3 x4 x5 x6 S) ∧ ∀ (n : Nat) (x1 : Int32) (x2 : Int32) (x3 : Int32) (x4 : Int32) (x5 : Int32) (x6 : Int32) (S : bT9), I n x1 x2 x3 x4 x5 x6 S → wp_X9_tuned_46b S x1 x2 x3 x4 x5 x6 Q B37 (fun x1 x2 x3 x4 x5 x6 S => ∃ n2 : Nat, n2 < n ∧ I n2 x1 x2 x3 x4 x5 x6 S)
theorem t_X9_tuned_46 {X : bf_X} (C : bf_C X RX9 cX9_tuned 8 (some .int)) (hR : bf_Rm X 7 167) (S : bT9) (x1 : Int32) (x2 : Int32) (x3 : Int32) (x4 : Int32) (x5 : Int32) (x6 : Int32) (Q : Int32 → (bT9) → Prop) (B37 : Int32 → Int32 → Int32 → Int32 → Int32 → (bT9) → Prop) (hB37 : ∀ (x1 : Int32) (x2 : Int32) (x3 : Int32) (x4 : Int32) (x5 : Int32) (S : bT9), B37 x1 x2 x3 x4 x5 S → bf_A X (bf_Zi X bW9 Q) 8 37 [some (.ref 0), some (.int x1), some (.int x2), some (.int x3), some (.int x4), some (.int x5), none, none] [] (bW9 S)) (h : wp_X9_tuned_46 S x1 x2 x3 x4 x5 x6 Q B37) : bf_A X (bf_Zi X bW9 Q) 8 46 [some (.ref 0), some (.int x1), some (.int x2), some (.int x3), some (.int x4), some (.int x5), some (.int x6), none] [] (bW9 S) := by
  obtain ⟨I, ⟨n0, h0⟩, hI⟩ := h
  have key : ∀ (n : Nat) (x1 : Int32) (x2 : Int32) (x3 : Int32) (x4 : Int32) (x5 : Int32) (x6 : Int32) (S : bT9), I n x1 x2 x3 x4 x5 x6 S → bf_A X (bf_Zi X bW9 Q) 8 46 [some (.ref 0), some (.int x1), some (.int x2), some (.int x3), some (.int x4), some (.int x5), some (.int x6), none] [] (bW9 S) := by
    intro n
    induction n using Nat.strongRecOn with
    | _ n ih =>
      intro x1 x2 x3 x4 x5 x6 S hi
      exact t_X9_tuned_46b C hR S x1 x2 x3 x4 x5 x6 Q B37 _ hB37 (fun x1 x2 x3 x4 x5 x6 S hb => by obtain ⟨n2, hn, hi2⟩ := hb; exact ih n2 hn x1 x2 x3 x4 x5 x6 S hi2) (hI n x1 x2 x3 x4 x5 x6 S hi)
  exact key n0 x1 x2 x3 x4 x5 x6 S h0
def wp_X9_tuned_37b (S : bT9) (x1 : Int32) (x2 : Int32) (x3 : Int32) (x4 : Int32) (x5 : Int32) (Q : Int32 → (bT9) → Prop) (B37 : Int32 → Int32 → Int32 → Int32 → Int32 → (bT9) → Prop) : Prop := ((x1 < x5 → ((¬ x2 = 0 → ((¬ x2 = (1 : Int32) → (Q x3 S)) ∧ (x2 = (1 : Int32) → (¬ (9 : Int32) = 0 ∧ (Q (x4 - x4 / (9 : Int32) * (9 : Int32)) S))))) ∧ (x2 = 0 → (¬ (9 : Int32) = 0 ∧ (Q (x4 / (9 : Int32)) S))))) ∧ (¬ x1 < x5 → (wp_X9_tuned_46 S (x1) (x2) (x3) (x4) (x5) ((0 : Int32)) Q B37)))
set_option maxRecDepth 20000 in
theorem t_X9_tuned_37b {X : bf_X} (C : bf_C X RX9 cX9_tuned 8 (some .int)) (hR : bf_Rm X 7 167) (S : bT9) (x1 : Int32) (x2 : Int32) (x3 : Int32) (x4 : Int32) (x5 : Int32) (Q : Int32 → (bT9) → Prop) (B37 : Int32 → Int32 → Int32 → Int32 → Int32 → (bT9) → Prop) (hB37 : ∀ (x1 : Int32) (x2 : Int32) (x3 : Int32) (x4 : Int32) (x5 : Int32) (S : bT9), B37 x1 x2 x3 x4 x5 S → bf_A X (bf_Zi X bW9 Q) 8 37 [some (.ref 0), some (.int x1), some (.int x2), some (.int x3), some (.int x4), some (.int x5), none, none] [] (bW9 S)) (h : wp_X9_tuned_37b S x1 x2 x3 x4 x5 Q B37) : bf_A X (bf_Zi X bW9 Q) 8 37 [some (.ref 0), some (.int x1), some (.int x2), some (.int x3), some (.int x4), some (.int x5), none, none] [] (bW9 S) := by
  unfold wp_X9_tuned_37b at h
  refine bs_iload C (bf_dk dd_X9_tuned 23 rfl) rfl ?_
  refine bs_iload_n C (bf_dk dd_X9_tuned 24 rfl) rfl ?_
  refine bs_icmp_gt C (bf_dk dd_X9_tuned 25 rfl) (tgt := 123) rfl (fun c => ?_) (fun c => ?_)
  · replace h := h.1 c
    refine bs_iload_n C (bf_dk dd_X9_tuned 65 rfl) rfl ?_
    refine bs_if_ne C (bf_dk dd_X9_tuned 66 rfl) (tgt := 135) rfl (fun c => ?_) (fun c => ?_)
    · replace h := h.1 c
      refine bs_iload_n C (bf_dk dd_X9_tuned 71 rfl) rfl ?_
      refine bs_iconst C (bf_dk dd_X9_tuned 72 rfl) (1 : Int32) (by decide) ?_
      refine bs_icmp_ne C (bf_dk dd_X9_tuned 73 rfl) (tgt := 148) rfl (fun c => ?_) (fun c => ?_)
      · replace h := h.1 c
        refine bs_iload_n C (bf_dk dd_X9_tuned 78 rfl) rfl ?_
        exact bs_iret (u := S) C (bf_dk dd_X9_tuned 79 rfl) rfl h
      · replace h := h.2 c
        refine bs_iload C (bf_dk dd_X9_tuned 74 rfl) rfl ?_
        refine bs_bipush C (bf_dk dd_X9_tuned 75 rfl) (9 : Int32) (by decide) ?_
        obtain ⟨hi, h⟩ := h
        refine bs_irem C (bf_dk dd_X9_tuned 76 rfl) hi ?_
        refine bs_goto C (bf_dk dd_X9_tuned 77 rfl) (tgt := 149) rfl ?_
        exact bs_iret (u := S) C (bf_dk dd_X9_tuned 79 rfl) rfl h
    · replace h := h.2 c
      refine bs_iload C (bf_dk dd_X9_tuned 67 rfl) rfl ?_
      refine bs_bipush C (bf_dk dd_X9_tuned 68 rfl) (9 : Int32) (by decide) ?_
      obtain ⟨hi, h⟩ := h
      refine bs_idiv C (bf_dk dd_X9_tuned 69 rfl) hi ?_
      refine bs_goto C (bf_dk dd_X9_tuned 70 rfl) (tgt := 149) rfl ?_
      exact bs_iret (u := S) C (bf_dk dd_X9_tuned 79 rfl) rfl h
  · replace h := h.2 c
    refine bs_iconst C (bf_dk dd_X9_tuned 26 rfl) (0 : Int32) (by decide) ?_
    refine bs_istore C (bf_dk dd_X9_tuned 27 rfl) (Nat.le_of_ble_eq_true rfl) (Nat.le_of_ble_eq_true rfl) (lv2 := [some (.ref 0), some (.int x1), some (.int x2), some (.int x3), some (.int x4), some (.int x5), some (.int (0 : Int32)), none]) rfl ?_
    exact bs_weak (bf_s1 (bf_s1 (bf_s1 (bf_s1 (bf_s1 (bf_s1 (bf_s1 (bf_sn bf_s0)))))))) (t_X9_tuned_46 C hR S (x1) (x2) (x3) (x4) (x5) ((0 : Int32)) Q B37 hB37 h)
def wp_X9_tuned_37 (S : bT9) (x1 : Int32) (x2 : Int32) (x3 : Int32) (x4 : Int32) (x5 : Int32) (Q : Int32 → (bT9) → Prop) : Prop := ∃ I : Nat → Int32 → Int32 → Int32 → Int32 → Int32 → (bT9) → Prop, (∃ n : Nat, I n x1 x2 x3 x4 x5 S) ∧ ∀ (n : Nat) (x1 : Int32) (x2 : Int32) (x3 : Int32) (x4 : Int32) (x5 : Int32) (S : bT9), I n x1 x2 x3 x4 x5 S → wp_X9_tuned_37b S x1 x2 x3 x4 x5 Q (fun x1 x2 x3 x4 x5 S => ∃ n2 : Nat, n2 < n ∧ I n2 x1 x2 x3 x4 x5 S)
theorem t_X9_tuned_37 {X : bf_X} (C : bf_C X RX9 cX9_tuned 8 (some .int)) (hR : bf_Rm X 7 167) (S : bT9) (x1 : Int32) (x2 : Int32) (x3 : Int32) (x4 : Int32) (x5 : Int32) (Q : Int32 → (bT9) → Prop) (h : wp_X9_tuned_37 S x1 x2 x3 x4 x5 Q) : bf_A X (bf_Zi X bW9 Q) 8 37 [some (.ref 0), some (.int x1), some (.int x2), some (.int x3), some (.int x4), some (.int x5), none, none] [] (bW9 S) := by
  obtain ⟨I, ⟨n0, h0⟩, hI⟩ := h
  have key : ∀ (n : Nat) (x1 : Int32) (x2 : Int32) (x3 : Int32) (x4 : Int32) (x5 : Int32) (S : bT9), I n x1 x2 x3 x4 x5 S → bf_A X (bf_Zi X bW9 Q) 8 37 [some (.ref 0), some (.int x1), some (.int x2), some (.int x3), some (.int x4), some (.int x5), none, none] [] (bW9 S) := by
    intro n
    induction n using Nat.strongRecOn with
    | _ n ih =>
      intro x1 x2 x3 x4 x5 S hi
      exact t_X9_tuned_37b C hR S x1 x2 x3 x4 x5 Q _ (fun x1 x2 x3 x4 x5 S hb => by obtain ⟨n2, hn, hi2⟩ := hb; exact ih n2 hn x1 x2 x3 x4 x5 S hi2) (hI n x1 x2 x3 x4 x5 S hi)
  exact key n0 x1 x2 x3 x4 x5 S h0
def wp_X9_tuned (S : bT9) (a1 : Int32) (a2 : Int32) (Q : Int32 → (bT9) → Prop) : Prop := (∀ S3 : bT9, S3 = (b9s_told S (0 : Int32)) → (wp_X9_isIn S3 (a1) ((0 : Int32)) ((16 : Int32)) (fun r4 => ((r4 = 0 → (Q (-1 : Int32) S3)) ∧ (¬ r4 = 0 → (wp_X9_isIn S3 (a2) ((0 : Int32)) ((2 : Int32)) (fun r6 => ((¬ r6 = 0 → (wp_X9_tuned_37 S3 (a1) (a2) ((17 : Int32)) ((0 : Int32)) ((0 : Int32)) Q)) ∧ (r6 = 0 → (Q (-1 : Int32) S3))))))))))
set_option maxRecDepth 20000 in
theorem t_X9_tuned {X : bf_X} (C : bf_C X RX9 cX9_tuned 8 (some .int)) (hR : bf_Rm X 7 167) (S : bT9) (a1 : Int32) (a2 : Int32) (Q : Int32 → (bT9) → Prop) (h : wp_X9_tuned S a1 a2 Q) : bf_A X (bf_Zi X bW9 Q) 8 0 [some (.ref 0), some (.int a1), some (.int a2), none, none, none, none, none] [] (bW9 S) := by
  unfold wp_X9_tuned at h
  refine bs_aload_n C (bf_dk dd_X9_tuned 0 rfl) rfl ?_
  refine bs_iconst C (bf_dk dd_X9_tuned 1 rfl) (0 : Int32) (by decide) ?_
  refine bs_put C (bf_dk dd_X9_tuned 2 rfl) tyX9_ok nmX9 cl_9 in_9 0 (Nat.le_of_ble_eq_true rfl) rfl f_9_75 rfl (ge_bW9_0 S) (Nat.le_of_ble_eq_true rfl) rfl rfl (pu_bW9_0_0 S (0 : Int32)) ?_
  refine bs_nameS bW9 (fun S3 eS3 => ?_)
  replace h := h S3 eS3
  refine bs_aload_n C (bf_dk dd_X9_tuned 3 rfl) rfl ?_
  refine bs_iload_n C (bf_dk dd_X9_tuned 4 rfl) rfl ?_
  refine bs_iconst C (bf_dk dd_X9_tuned 5 rfl) (0 : Int32) (by decide) ?_
  refine bs_bipush C (bf_dk dd_X9_tuned 6 rfl) (16 : Int32) (by decide) ?_
  refine bs_selfPV_i C hR (c_X9_isIn _ _ _ _ _ S3 (a1) ((0 : Int32)) ((16 : Int32)) _ h) my_X9_isIn m_9_82 rfl cl_9 (ge_bW9_0 _) rfl (Nat.le_of_ble_eq_true rfl) (Nat.le_of_ble_eq_true rfl) (st := []) (Nat.le_of_ble_eq_true rfl) (bf_dk dd_X9_tuned 7 rfl) rfl (fun r4 h => ?_)
  refine bs_if_eq C (bf_dk dd_X9_tuned 8 rfl) (tgt := 26) rfl (fun c => ?_) (fun c => ?_)
  · replace h := h.1 c
    refine bs_iconst C (bf_dk dd_X9_tuned 15 rfl) (-1 : Int32) (by decide) ?_
    exact bs_iret (u := S3) C (bf_dk dd_X9_tuned 16 rfl) rfl h
  · replace h := h.2 c
    refine bs_aload_n C (bf_dk dd_X9_tuned 9 rfl) rfl ?_
    refine bs_iload_n C (bf_dk dd_X9_tuned 10 rfl) rfl ?_
    refine bs_iconst C (bf_dk dd_X9_tuned 11 rfl) (0 : Int32) (by decide) ?_
    refine bs_iconst C (bf_dk dd_X9_tuned 12 rfl) (2 : Int32) (by decide) ?_
    refine bs_selfPV_i C hR (c_X9_isIn _ _ _ _ _ S3 (a2) ((0 : Int32)) ((2 : Int32)) _ h) my_X9_isIn m_9_82 rfl cl_9 (ge_bW9_0 _) rfl (Nat.le_of_ble_eq_true rfl) (Nat.le_of_ble_eq_true rfl) (st := []) (Nat.le_of_ble_eq_true rfl) (bf_dk dd_X9_tuned 13 rfl) rfl (fun r6 h => ?_)
    refine bs_if_ne C (bf_dk dd_X9_tuned 14 rfl) (tgt := 28) rfl (fun c => ?_) (fun c => ?_)
    · replace h := h.1 c
      refine bs_bipush C (bf_dk dd_X9_tuned 17 rfl) (17 : Int32) (by decide) ?_
      refine bs_istore_n C (bf_dk dd_X9_tuned 18 rfl) rfl (Nat.le_of_ble_eq_true rfl) (Nat.le_of_ble_eq_true rfl) (lv2 := [some (.ref 0), some (.int a1), some (.int a2), some (.int (17 : Int32)), none, none, none, none]) rfl ?_
      refine bs_iconst C (bf_dk dd_X9_tuned 19 rfl) (0 : Int32) (by decide) ?_
      refine bs_istore C (bf_dk dd_X9_tuned 20 rfl) (Nat.le_of_ble_eq_true rfl) (Nat.le_of_ble_eq_true rfl) (lv2 := [some (.ref 0), some (.int a1), some (.int a2), some (.int (17 : Int32)), some (.int (0 : Int32)), none, none, none]) rfl ?_
      refine bs_iconst C (bf_dk dd_X9_tuned 21 rfl) (0 : Int32) (by decide) ?_
      refine bs_istore C (bf_dk dd_X9_tuned 22 rfl) (Nat.le_of_ble_eq_true rfl) (Nat.le_of_ble_eq_true rfl) (lv2 := [some (.ref 0), some (.int a1), some (.int a2), some (.int (17 : Int32)), some (.int (0 : Int32)), some (.int (0 : Int32)), none, none]) rfl ?_
      exact bs_weak (bf_s1 (bf_s1 (bf_s1 (bf_s1 (bf_s1 (bf_s1 (bf_sn (bf_sn bf_s0)))))))) (t_X9_tuned_37 C hR S3 (a1) (a2) ((17 : Int32)) ((0 : Int32)) ((0 : Int32)) Q h)
    · replace h := h.2 c
      refine bs_iconst C (bf_dk dd_X9_tuned 15 rfl) (-1 : Int32) (by decide) ?_
      exact bs_iret (u := S3) C (bf_dk dd_X9_tuned 16 rfl) rfl h
theorem c_X9_tuned (l : Launch) (dC : Nat → ClassId) (dI : Nat → Nat → Nat) (ac : Nat → ClassId) (al : Nat → Nat) (S : bT9) (a1 : Int32) (a2 : Int32) (Q : Int32 → (bT9) → Prop) (h : wp_X9_tuned S a1 a2 Q) : bf_M l yX9_tuned cX9_tuned 8 (some .int) 7 167 dC dI ac al [.ref 0, .int a1, .int a2] (bW9 S) (bf_Ki dC dI ac al bW9 Q) := by
  refine bf_start [some (.ref 0), some (.int a1), some (.int a2), none, none, none, none, none] (by decide) (Nat.le_of_ble_eq_true rfl) (bf_s1 (bf_s1 (bf_s1 (bf_en 5)))) ?_
  intro X hl C hR e1 e2 e3 e4
  subst e1; subst e2; subst e3; subst e4
  exact t_X9_tuned C hR S a1 a2 Q h
def wp_X9_storm_35b (S : bT9) (x1 : Int32) (x2 : Int32) (x3 : Int32) (x4 : Int32) (Q : Int32 → (bT9) → Prop) (B35 : Int32 → Int32 → Int32 → Int32 → (bT9) → Prop) : Prop := ((x1 ≤ x4 → (Q x3 S)) ∧ (¬ x1 ≤ x4 → (wp_X9_draws S (x2) (fun u2 => (wp_X9_asks u2 ((b9g_drawn u2)) ((b9g_drawnLength u2)) (fun r3 u4 => (B35 (x1) (x2) ((x3 + r3)) ((x4 + (1 : Int32))) u4)))))))
set_option maxRecDepth 20000 in
theorem t_X9_storm_35b {X : bf_X} (C : bf_C X RX9 cX9_storm 5 (some .int)) (hR : bf_Rm X 8 187) (S : bT9) (x1 : Int32) (x2 : Int32) (x3 : Int32) (x4 : Int32) (Q : Int32 → (bT9) → Prop) (B35 : Int32 → Int32 → Int32 → Int32 → (bT9) → Prop) (hB35 : ∀ (x1 : Int32) (x2 : Int32) (x3 : Int32) (x4 : Int32) (S : bT9), B35 x1 x2 x3 x4 S → bf_A X (bf_Zi X bW9 Q) 5 35 [some (.ref 0), some (.int x1), some (.int x2), some (.int x3), some (.int x4)] [] (bW9 S)) (h : wp_X9_storm_35b S x1 x2 x3 x4 Q B35) : bf_A X (bf_Zi X bW9 Q) 5 35 [some (.ref 0), some (.int x1), some (.int x2), some (.int x3), some (.int x4)] [] (bW9 S) := by
  unfold wp_X9_storm_35b at h
  refine bs_iload C (bf_dk dd_X9_storm 21 rfl) rfl ?_
  refine bs_iload_n C (bf_dk dd_X9_storm 22 rfl) rfl ?_
  refine bs_icmp_ge C (bf_dk dd_X9_storm 23 rfl) (tgt := 67) rfl (fun c => ?_) (fun c => ?_)
  · replace h := h.1 c
    refine bs_iload_n C (bf_dk dd_X9_storm 38 rfl) rfl ?_
    exact bs_iret (u := S) C (bf_dk dd_X9_storm 39 rfl) rfl h
  · replace h := h.2 c
    refine bs_aload_n C (bf_dk dd_X9_storm 24 rfl) rfl ?_
    refine bs_iload_n C (bf_dk dd_X9_storm 25 rfl) rfl ?_
    refine bs_selfV_v C hR (c_X9_draws _ _ _ _ _ S (x2) _ h) my_X9_draws m_9_142 rfl cl_9 (ge_bW9_0 _) rfl (Nat.le_of_ble_eq_true rfl) (Nat.le_of_ble_eq_true rfl) (st := []) (Nat.le_of_ble_eq_true rfl) (bf_dk dd_X9_storm 26 rfl) rfl (len := 21) (fun _ => rfl) (fun u2 h => ?_)
    refine bs_iload_n C (bf_dk dd_X9_storm 27 rfl) rfl ?_
    refine bs_aload_n C (bf_dk dd_X9_storm 28 rfl) rfl ?_
    refine bs_aload_n C (bf_dk dd_X9_storm 29 rfl) rfl ?_
    refine bs_get C (bf_dk dd_X9_storm 30 rfl) cl_9 in_9 4 (Nat.le_of_ble_eq_true rfl) rfl f_9_135 (ge_bW9_0 u2) rfl ?_
    refine bs_aload_n C (bf_dk dd_X9_storm 31 rfl) rfl ?_
    refine bs_get C (bf_dk dd_X9_storm 32 rfl) cl_9 in_9 5 (Nat.le_of_ble_eq_true rfl) rfl f_9_132 (ge_bW9_0 u2) rfl ?_
    refine bs_selfV_i C hR (c_X9_asks _ _ _ _ _ u2 ((b9g_drawn u2)) ((b9g_drawnLength u2)) _ h) my_X9_asks m_9_330 rfl cl_9 (ge_bW9_0 _) rfl (Nat.le_of_ble_eq_true rfl) (Nat.le_of_ble_eq_true rfl) (st := [.int x3]) (Nat.le_of_ble_eq_true rfl) (bf_dk dd_X9_storm 33 rfl) rfl (len := 21) (fun _ => rfl) (fun r3 u4 h => ?_)
    refine bs_iadd C (bf_dk dd_X9_storm 34 rfl) ?_
    refine bs_istore_n C (bf_dk dd_X9_storm 35 rfl) rfl (Nat.le_of_ble_eq_true rfl) (Nat.le_of_ble_eq_true rfl) (lv2 := [some (.ref 0), some (.int x1), some (.int x2), some (.int (x3 + r3)), some (.int x4)]) rfl ?_
    refine bs_iinc C (bf_dk dd_X9_storm 36 rfl) (x4 + (1 : Int32)) rfl rfl (Nat.le_of_ble_eq_true rfl) (Nat.le_of_ble_eq_true rfl) (lv2 := [some (.ref 0), some (.int x1), some (.int x2), some (.int (x3 + r3)), some (.int (x4 + (1 : Int32)))]) rfl ?_
    refine bs_goto C (bf_dk dd_X9_storm 37 rfl) (tgt := 35) rfl ?_
    exact bs_weak (bf_s1 (bf_s1 (bf_s1 (bf_s1 (bf_s1 bf_s0))))) (hB35 (x1) (x2) ((x3 + r3)) ((x4 + (1 : Int32))) u4 h)
def wp_X9_storm_35 (S : bT9) (x1 : Int32) (x2 : Int32) (x3 : Int32) (x4 : Int32) (Q : Int32 → (bT9) → Prop) : Prop := ∃ I : Nat → Int32 → Int32 → Int32 → Int32 → (bT9) → Prop, (∃ n : Nat, I n x1 x2 x3 x4 S) ∧ ∀ (n : Nat) (x1 : Int32) (x2 : Int32) (x3 : Int32) (x4 : Int32) (S : bT9), I n x1 x2 x3 x4 S → wp_X9_storm_35b S x1 x2 x3 x4 Q (fun x1 x2 x3 x4 S => ∃ n2 : Nat, n2 < n ∧ I n2 x1 x2 x3 x4 S)
theorem t_X9_storm_35 {X : bf_X} (C : bf_C X RX9 cX9_storm 5 (some .int)) (hR : bf_Rm X 8 187) (S : bT9) (x1 : Int32) (x2 : Int32) (x3 : Int32) (x4 : Int32) (Q : Int32 → (bT9) → Prop) (h : wp_X9_storm_35 S x1 x2 x3 x4 Q) : bf_A X (bf_Zi X bW9 Q) 5 35 [some (.ref 0), some (.int x1), some (.int x2), some (.int x3), some (.int x4)] [] (bW9 S) := by
  obtain ⟨I, ⟨n0, h0⟩, hI⟩ := h
  have key : ∀ (n : Nat) (x1 : Int32) (x2 : Int32) (x3 : Int32) (x4 : Int32) (S : bT9), I n x1 x2 x3 x4 S → bf_A X (bf_Zi X bW9 Q) 5 35 [some (.ref 0), some (.int x1), some (.int x2), some (.int x3), some (.int x4)] [] (bW9 S) := by
    intro n
    induction n using Nat.strongRecOn with
    | _ n ih =>
      intro x1 x2 x3 x4 S hi
      exact t_X9_storm_35b C hR S x1 x2 x3 x4 Q _ (fun x1 x2 x3 x4 S hb => by obtain ⟨n2, hn, hi2⟩ := hb; exact ih n2 hn x1 x2 x3 x4 S hi2) (hI n x1 x2 x3 x4 S hi)
  exact key n0 x1 x2 x3 x4 S h0
def wp_X9_storm (S : bT9) (a1 : Int32) (a2 : Int32) (Q : Int32 → (bT9) → Prop) : Prop := (∀ S5 : bT9, S5 = (b9s_told S (0 : Int32)) → (wp_X9_isIn S5 (a1) ((1 : Int32)) ((200 : Int32)) (fun r6 => ((r6 = 0 → (Q (-1 : Int32) S5)) ∧ (¬ r6 = 0 → (wp_X9_isIn S5 (a2) ((1 : Int32)) ((8 : Int32)) (fun r8 => ((¬ r8 = 0 → (wp_X9_storm_35 S5 (a1) (a2) ((0 : Int32)) ((0 : Int32)) Q)) ∧ (r8 = 0 → (Q (-1 : Int32) S5))))))))))
set_option maxRecDepth 20000 in
theorem t_X9_storm {X : bf_X} (C : bf_C X RX9 cX9_storm 5 (some .int)) (hR : bf_Rm X 8 187) (S : bT9) (a1 : Int32) (a2 : Int32) (Q : Int32 → (bT9) → Prop) (h : wp_X9_storm S a1 a2 Q) : bf_A X (bf_Zi X bW9 Q) 5 0 [some (.ref 0), some (.int a1), some (.int a2), none, none] [] (bW9 S) := by
  unfold wp_X9_storm at h
  refine bs_aload_n C (bf_dk dd_X9_storm 0 rfl) rfl ?_
  refine bs_iconst C (bf_dk dd_X9_storm 1 rfl) (0 : Int32) (by decide) ?_
  refine bs_put C (bf_dk dd_X9_storm 2 rfl) tyX9_ok nmX9 cl_9 in_9 0 (Nat.le_of_ble_eq_true rfl) rfl f_9_75 rfl (ge_bW9_0 S) (Nat.le_of_ble_eq_true rfl) rfl rfl (pu_bW9_0_0 S (0 : Int32)) ?_
  refine bs_nameS bW9 (fun S5 eS5 => ?_)
  replace h := h S5 eS5
  refine bs_aload_n C (bf_dk dd_X9_storm 3 rfl) rfl ?_
  refine bs_iload_n C (bf_dk dd_X9_storm 4 rfl) rfl ?_
  refine bs_iconst C (bf_dk dd_X9_storm 5 rfl) (1 : Int32) (by decide) ?_
  refine bs_sipush C (bf_dk dd_X9_storm 6 rfl) (200 : Int32) (by decide) ?_
  refine bs_selfPV_i C hR (c_X9_isIn _ _ _ _ _ S5 (a1) ((1 : Int32)) ((200 : Int32)) _ h) my_X9_isIn m_9_82 rfl cl_9 (ge_bW9_0 _) rfl (Nat.le_of_ble_eq_true rfl) (Nat.le_of_ble_eq_true rfl) (st := []) (Nat.le_of_ble_eq_true rfl) (bf_dk dd_X9_storm 7 rfl) rfl (fun r6 h => ?_)
  refine bs_if_eq C (bf_dk dd_X9_storm 8 rfl) (tgt := 28) rfl (fun c => ?_) (fun c => ?_)
  · replace h := h.1 c
    refine bs_iconst C (bf_dk dd_X9_storm 15 rfl) (-1 : Int32) (by decide) ?_
    exact bs_iret (u := S5) C (bf_dk dd_X9_storm 16 rfl) rfl h
  · replace h := h.2 c
    refine bs_aload_n C (bf_dk dd_X9_storm 9 rfl) rfl ?_
    refine bs_iload_n C (bf_dk dd_X9_storm 10 rfl) rfl ?_
    refine bs_iconst C (bf_dk dd_X9_storm 11 rfl) (1 : Int32) (by decide) ?_
    refine bs_bipush C (bf_dk dd_X9_storm 12 rfl) (8 : Int32) (by decide) ?_
    refine bs_selfPV_i C hR (c_X9_isIn _ _ _ _ _ S5 (a2) ((1 : Int32)) ((8 : Int32)) _ h) my_X9_isIn m_9_82 rfl cl_9 (ge_bW9_0 _) rfl (Nat.le_of_ble_eq_true rfl) (Nat.le_of_ble_eq_true rfl) (st := []) (Nat.le_of_ble_eq_true rfl) (bf_dk dd_X9_storm 13 rfl) rfl (fun r8 h => ?_)
    refine bs_if_ne C (bf_dk dd_X9_storm 14 rfl) (tgt := 30) rfl (fun c => ?_) (fun c => ?_)
    · replace h := h.1 c
      refine bs_iconst C (bf_dk dd_X9_storm 17 rfl) (0 : Int32) (by decide) ?_
      refine bs_istore_n C (bf_dk dd_X9_storm 18 rfl) rfl (Nat.le_of_ble_eq_true rfl) (Nat.le_of_ble_eq_true rfl) (lv2 := [some (.ref 0), some (.int a1), some (.int a2), some (.int (0 : Int32)), none]) rfl ?_
      refine bs_iconst C (bf_dk dd_X9_storm 19 rfl) (0 : Int32) (by decide) ?_
      refine bs_istore C (bf_dk dd_X9_storm 20 rfl) (Nat.le_of_ble_eq_true rfl) (Nat.le_of_ble_eq_true rfl) (lv2 := [some (.ref 0), some (.int a1), some (.int a2), some (.int (0 : Int32)), some (.int (0 : Int32))]) rfl ?_
      exact bs_weak (bf_s1 (bf_s1 (bf_s1 (bf_s1 (bf_s1 bf_s0))))) (t_X9_storm_35 C hR S5 (a1) (a2) ((0 : Int32)) ((0 : Int32)) Q h)
    · replace h := h.2 c
      refine bs_iconst C (bf_dk dd_X9_storm 15 rfl) (-1 : Int32) (by decide) ?_
      exact bs_iret (u := S5) C (bf_dk dd_X9_storm 16 rfl) rfl h
theorem c_X9_storm (l : Launch) (dC : Nat → ClassId) (dI : Nat → Nat → Nat) (ac : Nat → ClassId) (al : Nat → Nat) (S : bT9) (a1 : Int32) (a2 : Int32) (Q : Int32 → (bT9) → Prop) (h : wp_X9_storm S a1 a2 Q) : bf_M l yX9_storm cX9_storm 5 (some .int) 8 187 dC dI ac al [.ref 0, .int a1, .int a2] (bW9 S) (bf_Ki dC dI ac al bW9 Q) := by
  refine bf_start [some (.ref 0), some (.int a1), some (.int a2), none, none] (by decide) (Nat.le_of_ble_eq_true rfl) (bf_s1 (bf_s1 (bf_s1 (bf_en 2)))) ?_
  intro X hl C hR e1 e2 e3 e4
  subst e1; subst e2; subst e3; subst e4
  exact t_X9_storm C hR S a1 a2 Q h
def wp_X9_stormRange_116 (S : bT9) (x1 : Int32) (x2 : Int32) (x3 : Int32) (x4 : Int32) (x5 : Int32) (t1 : Int64) (t2 : Int32) (Q : Int32 → (bT9) → Prop) (B48 : Int32 → Int32 → Int32 → Int32 → Int32 → (bT9) → Prop) : Prop := (∀ v1 : Int64, v1 = (t1 + ((t2).toInt64 <<< ((((64 : Int32) - ((8 : Int32) * (b9g_drawnLength S)))).toInt64 &&& 63))) → (∀ S2 : bT9, S2 = (b9s_toKey S v1) → (∀ S3 : bT9, S3 = (b9s_toLength S2 (b9g_drawnLength S2)) → (wp_X9_asksRange S3 (fun r4 u5 => (B48 (x1) (x2) (x3) ((x4 + r4)) ((x5 + (1 : Int32))) u5))))))
set_option maxRecDepth 20000 in
theorem t_X9_stormRange_116 {X : bf_X} (C : bf_C X RX9 cX9_stormRange 7 (some .int)) (hR : bf_Rm X 6 135) (S : bT9) (x1 : Int32) (x2 : Int32) (x3 : Int32) (x4 : Int32) (x5 : Int32) (t1 : Int64) (t2 : Int32) (Q : Int32 → (bT9) → Prop) (B48 : Int32 → Int32 → Int32 → Int32 → Int32 → (bT9) → Prop) (hB48 : ∀ (x1 : Int32) (x2 : Int32) (x3 : Int32) (x4 : Int32) (x5 : Int32) (S : bT9), B48 x1 x2 x3 x4 x5 S → bf_A X (bf_Zi X bW9 Q) 7 48 [some (.ref 0), some (.int x1), some (.int x2), some (.int x3), some (.int x4), some (.int x5), none] [] (bW9 S)) (h : wp_X9_stormRange_116 S x1 x2 x3 x4 x5 t1 t2 Q B48) : bf_A X (bf_Zi X bW9 Q) 7 116 [some (.ref 0), some (.int x1), some (.int x2), some (.int x3), some (.int x4), some (.int x5), none] [.int t2, .long t1, .ref 0] (bW9 S) := by
  unfold wp_X9_stormRange_116 at h
  refine bs_i2l C (bf_dk dd_X9_stormRange 63 rfl) ?_
  refine bs_bipush C (bf_dk dd_X9_stormRange 64 rfl) (64 : Int32) (by decide) ?_
  refine bs_bipush C (bf_dk dd_X9_stormRange 65 rfl) (8 : Int32) (by decide) ?_
  refine bs_aload_n C (bf_dk dd_X9_stormRange 66 rfl) rfl ?_
  refine bs_get C (bf_dk dd_X9_stormRange 67 rfl) cl_9 in_9 5 (Nat.le_of_ble_eq_true rfl) rfl f_9_132 (ge_bW9_0 S) rfl ?_
  refine bs_imul C (bf_dk dd_X9_stormRange 68 rfl) ?_
  refine bs_isub C (bf_dk dd_X9_stormRange 69 rfl) ?_
  refine bs_lshl C (bf_dk dd_X9_stormRange 70 rfl) ?_
  refine bs_ladd C (bf_dk dd_X9_stormRange 71 rfl) ?_
  refine bs_nameL (fun v1 ev1 => ?_)
  replace h := h v1 ev1
  refine bs_put C (bf_dk dd_X9_stormRange 72 rfl) tyX9_ok nmX9 cl_9 in_9 33 (Nat.le_of_ble_eq_true rfl) rfl f_9_339 rfl (ge_bW9_0 S) (Nat.le_of_ble_eq_true rfl) rfl rfl (pu_bW9_0_33 S v1) ?_
  refine bs_nameS bW9 (fun S2 eS2 => ?_)
  replace h := h S2 eS2
  refine bs_aload_n C (bf_dk dd_X9_stormRange 73 rfl) rfl ?_
  refine bs_aload_n C (bf_dk dd_X9_stormRange 74 rfl) rfl ?_
  refine bs_get C (bf_dk dd_X9_stormRange 75 rfl) cl_9 in_9 5 (Nat.le_of_ble_eq_true rfl) rfl f_9_132 (ge_bW9_0 S2) rfl ?_
  refine bs_put C (bf_dk dd_X9_stormRange 76 rfl) tyX9_ok nmX9 cl_9 in_9 35 (Nat.le_of_ble_eq_true rfl) rfl f_9_342 rfl (ge_bW9_0 S2) (Nat.le_of_ble_eq_true rfl) rfl rfl (pu_bW9_0_35 S2 (b9g_drawnLength S2)) ?_
  refine bs_nameS bW9 (fun S3 eS3 => ?_)
  replace h := h S3 eS3
  refine bs_iload C (bf_dk dd_X9_stormRange 77 rfl) rfl ?_
  refine bs_aload_n C (bf_dk dd_X9_stormRange 78 rfl) rfl ?_
  refine bs_selfV_i C hR (c_X9_asksRange _ _ _ _ _ S3 _ h) my_X9_asksRange m_9_360 rfl cl_9 (ge_bW9_0 _) rfl (Nat.le_of_ble_eq_true rfl) (Nat.le_of_ble_eq_true rfl) (st := [.int x4]) (Nat.le_of_ble_eq_true rfl) (bf_dk dd_X9_stormRange 79 rfl) rfl (len := 21) (fun _ => rfl) (fun r4 u5 h => ?_)
  refine bs_iadd C (bf_dk dd_X9_stormRange 80 rfl) ?_
  refine bs_istore C (bf_dk dd_X9_stormRange 81 rfl) (Nat.le_of_ble_eq_true rfl) (Nat.le_of_ble_eq_true rfl) (lv2 := [some (.ref 0), some (.int x1), some (.int x2), some (.int x3), some (.int (x4 + r4)), some (.int x5), none]) rfl ?_
  refine bs_iinc C (bf_dk dd_X9_stormRange 82 rfl) (x5 + (1 : Int32)) rfl rfl (Nat.le_of_ble_eq_true rfl) (Nat.le_of_ble_eq_true rfl) (lv2 := [some (.ref 0), some (.int x1), some (.int x2), some (.int x3), some (.int (x4 + r4)), some (.int (x5 + (1 : Int32))), none]) rfl ?_
  refine bs_goto C (bf_dk dd_X9_stormRange 83 rfl) (tgt := 48) rfl ?_
  exact bs_weak (bf_s1 (bf_s1 (bf_s1 (bf_s1 (bf_s1 (bf_s1 (bf_sn bf_s0))))))) (hB48 (x1) (x2) (x3) ((x4 + r4)) ((x5 + (1 : Int32))) u5 h)
def wp_X9_stormRange_48b (S : bT9) (x1 : Int32) (x2 : Int32) (x3 : Int32) (x4 : Int32) (x5 : Int32) (Q : Int32 → (bT9) → Prop) (B48 : Int32 → Int32 → Int32 → Int32 → Int32 → (bT9) → Prop) : Prop := ((x1 ≤ x5 → (Q x4 S)) ∧ (¬ x1 ≤ x5 → (wp_X9_draws S (x2) (fun u7 => (wp_X9_byteOf u7 ((b9g_drawn u7)) (((b9g_drawnLength u7) - (1 : Int32))) (fun r8 => (∀ S10 : bT9, S10 = (b9s_fromKey u7 (b9g_drawn u7)) → (∀ S11 : bT9, S11 = (b9s_fromLength S10 (b9g_drawnLength S10)) → (((r8 + x3) ≤ (255 : Int32) → (wp_X9_stormRange_116 S11 (x1) (x2) (x3) (x4) (x5) ((b9g_drawn S11)) (x3) Q B48)) ∧ (¬ (r8 + x3) ≤ (255 : Int32) → (wp_X9_stormRange_116 S11 (x1) (x2) (x3) (x4) (x5) ((b9g_drawn S11)) (((255 : Int32) - r8)) Q B48)))))))))))
set_option maxRecDepth 20000 in
theorem t_X9_stormRange_48b {X : bf_X} (C : bf_C X RX9 cX9_stormRange 7 (some .int)) (hR : bf_Rm X 6 135) (S : bT9) (x1 : Int32) (x2 : Int32) (x3 : Int32) (x4 : Int32) (x5 : Int32) (Q : Int32 → (bT9) → Prop) (B48 : Int32 → Int32 → Int32 → Int32 → Int32 → (bT9) → Prop) (hB48 : ∀ (x1 : Int32) (x2 : Int32) (x3 : Int32) (x4 : Int32) (x5 : Int32) (S : bT9), B48 x1 x2 x3 x4 x5 S → bf_A X (bf_Zi X bW9 Q) 7 48 [some (.ref 0), some (.int x1), some (.int x2), some (.int x3), some (.int x4), some (.int x5), none] [] (bW9 S)) (h : wp_X9_stormRange_48b S x1 x2 x3 x4 x5 Q B48) : bf_A X (bf_Zi X bW9 Q) 7 48 [some (.ref 0), some (.int x1), some (.int x2), some (.int x3), some (.int x4), some (.int x5), none] [] (bW9 S) := by
  unfold wp_X9_stormRange_48b at h
  refine bs_iload C (bf_dk dd_X9_stormRange 27 rfl) rfl ?_
  refine bs_iload_n C (bf_dk dd_X9_stormRange 28 rfl) rfl ?_
  refine bs_icmp_ge C (bf_dk dd_X9_stormRange 29 rfl) (tgt := 155) rfl (fun c => ?_) (fun c => ?_)
  · replace h := h.1 c
    refine bs_iload C (bf_dk dd_X9_stormRange 84 rfl) rfl ?_
    exact bs_iret (u := S) C (bf_dk dd_X9_stormRange 85 rfl) rfl h
  · replace h := h.2 c
    refine bs_aload_n C (bf_dk dd_X9_stormRange 30 rfl) rfl ?_
    refine bs_iload_n C (bf_dk dd_X9_stormRange 31 rfl) rfl ?_
    refine bs_selfV_v C hR (c_X9_draws _ _ _ _ _ S (x2) _ h) my_X9_draws m_9_142 rfl cl_9 (ge_bW9_0 _) rfl (Nat.le_of_ble_eq_true rfl) (Nat.le_of_ble_eq_true rfl) (st := []) (Nat.le_of_ble_eq_true rfl) (bf_dk dd_X9_stormRange 32 rfl) rfl (len := 21) (fun _ => rfl) (fun u7 h => ?_)
    refine bs_aload_n C (bf_dk dd_X9_stormRange 33 rfl) rfl ?_
    refine bs_aload_n C (bf_dk dd_X9_stormRange 34 rfl) rfl ?_
    refine bs_get C (bf_dk dd_X9_stormRange 35 rfl) cl_9 in_9 4 (Nat.le_of_ble_eq_true rfl) rfl f_9_135 (ge_bW9_0 u7) rfl ?_
    refine bs_aload_n C (bf_dk dd_X9_stormRange 36 rfl) rfl ?_
    refine bs_get C (bf_dk dd_X9_stormRange 37 rfl) cl_9 in_9 5 (Nat.le_of_ble_eq_true rfl) rfl f_9_132 (ge_bW9_0 u7) rfl ?_
    refine bs_iconst C (bf_dk dd_X9_stormRange 38 rfl) (1 : Int32) (by decide) ?_
    refine bs_isub C (bf_dk dd_X9_stormRange 39 rfl) ?_
    refine bs_selfPV_i C hR (c_X9_byteOf _ _ _ _ _ u7 ((b9g_drawn u7)) (((b9g_drawnLength u7) - (1 : Int32))) _ h) my_X9_byteOf m_9_181 rfl cl_9 (ge_bW9_0 _) rfl (Nat.le_of_ble_eq_true rfl) (Nat.le_of_ble_eq_true rfl) (st := []) (Nat.le_of_ble_eq_true rfl) (bf_dk dd_X9_stormRange 40 rfl) rfl (fun r8 h => ?_)
    refine bs_istore C (bf_dk dd_X9_stormRange 41 rfl) (Nat.le_of_ble_eq_true rfl) (Nat.le_of_ble_eq_true rfl) (lv2 := [some (.ref 0), some (.int x1), some (.int x2), some (.int x3), some (.int x4), some (.int x5), some (.int r8)]) rfl ?_
    refine bs_aload_n C (bf_dk dd_X9_stormRange 42 rfl) rfl ?_
    refine bs_aload_n C (bf_dk dd_X9_stormRange 43 rfl) rfl ?_
    refine bs_get C (bf_dk dd_X9_stormRange 44 rfl) cl_9 in_9 4 (Nat.le_of_ble_eq_true rfl) rfl f_9_135 (ge_bW9_0 u7) rfl ?_
    refine bs_put C (bf_dk dd_X9_stormRange 45 rfl) tyX9_ok nmX9 cl_9 in_9 32 (Nat.le_of_ble_eq_true rfl) rfl f_9_333 rfl (ge_bW9_0 u7) (Nat.le_of_ble_eq_true rfl) rfl rfl (pu_bW9_0_32 u7 (b9g_drawn u7)) ?_
    refine bs_nameS bW9 (fun S10 eS10 => ?_)
    replace h := h S10 eS10
    refine bs_aload_n C (bf_dk dd_X9_stormRange 46 rfl) rfl ?_
    refine bs_aload_n C (bf_dk dd_X9_stormRange 47 rfl) rfl ?_
    refine bs_get C (bf_dk dd_X9_stormRange 48 rfl) cl_9 in_9 5 (Nat.le_of_ble_eq_true rfl) rfl f_9_132 (ge_bW9_0 S10) rfl ?_
    refine bs_put C (bf_dk dd_X9_stormRange 49 rfl) tyX9_ok nmX9 cl_9 in_9 34 (Nat.le_of_ble_eq_true rfl) rfl f_9_336 rfl (ge_bW9_0 S10) (Nat.le_of_ble_eq_true rfl) rfl rfl (pu_bW9_0_34 S10 (b9g_drawnLength S10)) ?_
    refine bs_nameS bW9 (fun S11 eS11 => ?_)
    replace h := h S11 eS11
    refine bs_aload_n C (bf_dk dd_X9_stormRange 50 rfl) rfl ?_
    refine bs_aload_n C (bf_dk dd_X9_stormRange 51 rfl) rfl ?_
    refine bs_get C (bf_dk dd_X9_stormRange 52 rfl) cl_9 in_9 4 (Nat.le_of_ble_eq_true rfl) rfl f_9_135 (ge_bW9_0 S11) rfl ?_
    refine bs_iload C (bf_dk dd_X9_stormRange 53 rfl) rfl ?_
    refine bs_iload_n C (bf_dk dd_X9_stormRange 54 rfl) rfl ?_
    refine bs_iadd C (bf_dk dd_X9_stormRange 55 rfl) ?_
    refine bs_sipush C (bf_dk dd_X9_stormRange 56 rfl) (255 : Int32) (by decide) ?_
    refine bs_icmp_le C (bf_dk dd_X9_stormRange 57 rfl) (tgt := 115) rfl (fun c => ?_) (fun c => ?_)
    · replace h := h.1 c
      refine bs_iload_n C (bf_dk dd_X9_stormRange 62 rfl) rfl ?_
      exact bs_weak (bf_s1 (bf_s1 (bf_s1 (bf_s1 (bf_s1 (bf_s1 (bf_sn bf_s0))))))) (t_X9_stormRange_116 C hR S11 (x1) (x2) (x3) (x4) (x5) ((b9g_drawn S11)) (x3) Q B48 hB48 h)
    · replace h := h.2 c
      refine bs_sipush C (bf_dk dd_X9_stormRange 58 rfl) (255 : Int32) (by decide) ?_
      refine bs_iload C (bf_dk dd_X9_stormRange 59 rfl) rfl ?_
      refine bs_isub C (bf_dk dd_X9_stormRange 60 rfl) ?_
      refine bs_goto C (bf_dk dd_X9_stormRange 61 rfl) (tgt := 116) rfl ?_
      exact bs_weak (bf_s1 (bf_s1 (bf_s1 (bf_s1 (bf_s1 (bf_s1 (bf_sn bf_s0))))))) (t_X9_stormRange_116 C hR S11 (x1) (x2) (x3) (x4) (x5) ((b9g_drawn S11)) (((255 : Int32) - r8)) Q B48 hB48 h)
def wp_X9_stormRange_48 (S : bT9) (x1 : Int32) (x2 : Int32) (x3 : Int32) (x4 : Int32) (x5 : Int32) (Q : Int32 → (bT9) → Prop) : Prop := ∃ I : Nat → Int32 → Int32 → Int32 → Int32 → Int32 → (bT9) → Prop, (∃ n : Nat, I n x1 x2 x3 x4 x5 S) ∧ ∀ (n : Nat) (x1 : Int32) (x2 : Int32) (x3 : Int32) (x4 : Int32) (x5 : Int32) (S : bT9), I n x1 x2 x3 x4 x5 S → wp_X9_stormRange_48b S x1 x2 x3 x4 x5 Q (fun x1 x2 x3 x4 x5 S => ∃ n2 : Nat, n2 < n ∧ I n2 x1 x2 x3 x4 x5 S)
theorem t_X9_stormRange_48 {X : bf_X} (C : bf_C X RX9 cX9_stormRange 7 (some .int)) (hR : bf_Rm X 6 135) (S : bT9) (x1 : Int32) (x2 : Int32) (x3 : Int32) (x4 : Int32) (x5 : Int32) (Q : Int32 → (bT9) → Prop) (h : wp_X9_stormRange_48 S x1 x2 x3 x4 x5 Q) : bf_A X (bf_Zi X bW9 Q) 7 48 [some (.ref 0), some (.int x1), some (.int x2), some (.int x3), some (.int x4), some (.int x5), none] [] (bW9 S) := by
  obtain ⟨I, ⟨n0, h0⟩, hI⟩ := h
  have key : ∀ (n : Nat) (x1 : Int32) (x2 : Int32) (x3 : Int32) (x4 : Int32) (x5 : Int32) (S : bT9), I n x1 x2 x3 x4 x5 S → bf_A X (bf_Zi X bW9 Q) 7 48 [some (.ref 0), some (.int x1), some (.int x2), some (.int x3), some (.int x4), some (.int x5), none] [] (bW9 S) := by
    intro n
    induction n using Nat.strongRecOn with
    | _ n ih =>
      intro x1 x2 x3 x4 x5 S hi
      exact t_X9_stormRange_48b C hR S x1 x2 x3 x4 x5 Q _ (fun x1 x2 x3 x4 x5 S hb => by obtain ⟨n2, hn, hi2⟩ := hb; exact ih n2 hn x1 x2 x3 x4 x5 S hi2) (hI n x1 x2 x3 x4 x5 S hi)
  exact key n0 x1 x2 x3 x4 x5 S h0
def wp_X9_stormRange (S : bT9) (a1 : Int32) (a2 : Int32) (a3 : Int32) (Q : Int32 → (bT9) → Prop) : Prop := (∀ S12 : bT9, S12 = (b9s_told S (0 : Int32)) → (wp_X9_isIn S12 (a1) ((1 : Int32)) ((200 : Int32)) (fun r13 => ((r13 = 0 → (Q (-1 : Int32) S12)) ∧ (¬ r13 = 0 → (wp_X9_isIn S12 (a2) ((1 : Int32)) ((8 : Int32)) (fun r15 => ((r15 = 0 → (Q (-1 : Int32) S12)) ∧ (¬ r15 = 0 → (wp_X9_isIn S12 (a3) ((0 : Int32)) ((255 : Int32)) (fun r17 => ((¬ r17 = 0 → (wp_X9_stormRange_48 S12 (a1) (a2) (a3) ((0 : Int32)) ((0 : Int32)) Q)) ∧ (r17 = 0 → (Q (-1 : Int32) S12))))))))))))))
set_option maxRecDepth 20000 in
theorem t_X9_stormRange {X : bf_X} (C : bf_C X RX9 cX9_stormRange 7 (some .int)) (hR : bf_Rm X 6 135) (S : bT9) (a1 : Int32) (a2 : Int32) (a3 : Int32) (Q : Int32 → (bT9) → Prop) (h : wp_X9_stormRange S a1 a2 a3 Q) : bf_A X (bf_Zi X bW9 Q) 7 0 [some (.ref 0), some (.int a1), some (.int a2), some (.int a3), none, none, none] [] (bW9 S) := by
  unfold wp_X9_stormRange at h
  refine bs_aload_n C (bf_dk dd_X9_stormRange 0 rfl) rfl ?_
  refine bs_iconst C (bf_dk dd_X9_stormRange 1 rfl) (0 : Int32) (by decide) ?_
  refine bs_put C (bf_dk dd_X9_stormRange 2 rfl) tyX9_ok nmX9 cl_9 in_9 0 (Nat.le_of_ble_eq_true rfl) rfl f_9_75 rfl (ge_bW9_0 S) (Nat.le_of_ble_eq_true rfl) rfl rfl (pu_bW9_0_0 S (0 : Int32)) ?_
  refine bs_nameS bW9 (fun S12 eS12 => ?_)
  replace h := h S12 eS12
  refine bs_aload_n C (bf_dk dd_X9_stormRange 3 rfl) rfl ?_
  refine bs_iload_n C (bf_dk dd_X9_stormRange 4 rfl) rfl ?_
  refine bs_iconst C (bf_dk dd_X9_stormRange 5 rfl) (1 : Int32) (by decide) ?_
  refine bs_sipush C (bf_dk dd_X9_stormRange 6 rfl) (200 : Int32) (by decide) ?_
  refine bs_selfPV_i C hR (c_X9_isIn _ _ _ _ _ S12 (a1) ((1 : Int32)) ((200 : Int32)) _ h) my_X9_isIn m_9_82 rfl cl_9 (ge_bW9_0 _) rfl (Nat.le_of_ble_eq_true rfl) (Nat.le_of_ble_eq_true rfl) (st := []) (Nat.le_of_ble_eq_true rfl) (bf_dk dd_X9_stormRange 7 rfl) rfl (fun r13 h => ?_)
  refine bs_if_eq C (bf_dk dd_X9_stormRange 8 rfl) (tgt := 40) rfl (fun c => ?_) (fun c => ?_)
  · replace h := h.1 c
    refine bs_iconst C (bf_dk dd_X9_stormRange 21 rfl) (-1 : Int32) (by decide) ?_
    exact bs_iret (u := S12) C (bf_dk dd_X9_stormRange 22 rfl) rfl h
  · replace h := h.2 c
    refine bs_aload_n C (bf_dk dd_X9_stormRange 9 rfl) rfl ?_
    refine bs_iload_n C (bf_dk dd_X9_stormRange 10 rfl) rfl ?_
    refine bs_iconst C (bf_dk dd_X9_stormRange 11 rfl) (1 : Int32) (by decide) ?_
    refine bs_bipush C (bf_dk dd_X9_stormRange 12 rfl) (8 : Int32) (by decide) ?_
    refine bs_selfPV_i C hR (c_X9_isIn _ _ _ _ _ S12 (a2) ((1 : Int32)) ((8 : Int32)) _ h) my_X9_isIn m_9_82 rfl cl_9 (ge_bW9_0 _) rfl (Nat.le_of_ble_eq_true rfl) (Nat.le_of_ble_eq_true rfl) (st := []) (Nat.le_of_ble_eq_true rfl) (bf_dk dd_X9_stormRange 13 rfl) rfl (fun r15 h => ?_)
    refine bs_if_eq C (bf_dk dd_X9_stormRange 14 rfl) (tgt := 40) rfl (fun c => ?_) (fun c => ?_)
    · replace h := h.1 c
      refine bs_iconst C (bf_dk dd_X9_stormRange 21 rfl) (-1 : Int32) (by decide) ?_
      exact bs_iret (u := S12) C (bf_dk dd_X9_stormRange 22 rfl) rfl h
    · replace h := h.2 c
      refine bs_aload_n C (bf_dk dd_X9_stormRange 15 rfl) rfl ?_
      refine bs_iload_n C (bf_dk dd_X9_stormRange 16 rfl) rfl ?_
      refine bs_iconst C (bf_dk dd_X9_stormRange 17 rfl) (0 : Int32) (by decide) ?_
      refine bs_sipush C (bf_dk dd_X9_stormRange 18 rfl) (255 : Int32) (by decide) ?_
      refine bs_selfPV_i C hR (c_X9_isIn _ _ _ _ _ S12 (a3) ((0 : Int32)) ((255 : Int32)) _ h) my_X9_isIn m_9_82 rfl cl_9 (ge_bW9_0 _) rfl (Nat.le_of_ble_eq_true rfl) (Nat.le_of_ble_eq_true rfl) (st := []) (Nat.le_of_ble_eq_true rfl) (bf_dk dd_X9_stormRange 19 rfl) rfl (fun r17 h => ?_)
      refine bs_if_ne C (bf_dk dd_X9_stormRange 20 rfl) (tgt := 42) rfl (fun c => ?_) (fun c => ?_)
      · replace h := h.1 c
        refine bs_iconst C (bf_dk dd_X9_stormRange 23 rfl) (0 : Int32) (by decide) ?_
        refine bs_istore C (bf_dk dd_X9_stormRange 24 rfl) (Nat.le_of_ble_eq_true rfl) (Nat.le_of_ble_eq_true rfl) (lv2 := [some (.ref 0), some (.int a1), some (.int a2), some (.int a3), some (.int (0 : Int32)), none, none]) rfl ?_
        refine bs_iconst C (bf_dk dd_X9_stormRange 25 rfl) (0 : Int32) (by decide) ?_
        refine bs_istore C (bf_dk dd_X9_stormRange 26 rfl) (Nat.le_of_ble_eq_true rfl) (Nat.le_of_ble_eq_true rfl) (lv2 := [some (.ref 0), some (.int a1), some (.int a2), some (.int a3), some (.int (0 : Int32)), some (.int (0 : Int32)), none]) rfl ?_
        exact bs_weak (bf_s1 (bf_s1 (bf_s1 (bf_s1 (bf_s1 (bf_s1 (bf_sn bf_s0))))))) (t_X9_stormRange_48 C hR S12 (a1) (a2) (a3) ((0 : Int32)) ((0 : Int32)) Q h)
      · replace h := h.2 c
        refine bs_iconst C (bf_dk dd_X9_stormRange 21 rfl) (-1 : Int32) (by decide) ?_
        exact bs_iret (u := S12) C (bf_dk dd_X9_stormRange 22 rfl) rfl h
theorem c_X9_stormRange (l : Launch) (dC : Nat → ClassId) (dI : Nat → Nat → Nat) (ac : Nat → ClassId) (al : Nat → Nat) (S : bT9) (a1 : Int32) (a2 : Int32) (a3 : Int32) (Q : Int32 → (bT9) → Prop) (h : wp_X9_stormRange S a1 a2 a3 Q) : bf_M l yX9_stormRange cX9_stormRange 7 (some .int) 6 135 dC dI ac al [.ref 0, .int a1, .int a2, .int a3] (bW9 S) (bf_Ki dC dI ac al bW9 Q) := by
  refine bf_start [some (.ref 0), some (.int a1), some (.int a2), some (.int a3), none, none, none] (by decide) (Nat.le_of_ble_eq_true rfl) (bf_s1 (bf_s1 (bf_s1 (bf_s1 (bf_en 3))))) ?_
  intro X hl C hR e1 e2 e3 e4
  subst e1; subst e2; subst e3; subst e4
  exact t_X9_stormRange C hR S a1 a2 a3 Q h
def wp_X9_account (S : bT9) (a1 : Int32) (Q : Int32 → (bT9) → Prop) : Prop := (∀ S1 : bT9, S1 = (b9s_told S (0 : Int32)) → (wp_X9_isIn S1 (a1) ((0 : Int32)) ((5 : Int32)) (fun r2 => ((r2 = 0 → (Q (-1 : Int32) S1)) ∧ (¬ r2 = 0 → (vp_in ((17 : Int32) + a1) 23 ∧ (Q ((b9g_now S1) (((17 : Int32) + a1)).toNatClampNeg) S1)))))))
set_option maxRecDepth 20000 in
theorem t_X9_account {X : bf_X} (C : bf_C X RX9 cX9_account 2 (some .int)) (hR : bf_Rm X 1 23) (S : bT9) (a1 : Int32) (Q : Int32 → (bT9) → Prop) (h : wp_X9_account S a1 Q) : bf_A X (bf_Zi X bW9 Q) 2 0 [some (.ref 0), some (.int a1)] [] (bW9 S) := by
  unfold wp_X9_account at h
  refine bs_aload_n C (bf_dk dd_X9_account 0 rfl) rfl ?_
  refine bs_iconst C (bf_dk dd_X9_account 1 rfl) (0 : Int32) (by decide) ?_
  refine bs_put C (bf_dk dd_X9_account 2 rfl) tyX9_ok nmX9 cl_9 in_9 0 (Nat.le_of_ble_eq_true rfl) rfl f_9_75 rfl (ge_bW9_0 S) (Nat.le_of_ble_eq_true rfl) rfl rfl (pu_bW9_0_0 S (0 : Int32)) ?_
  refine bs_nameS bW9 (fun S1 eS1 => ?_)
  replace h := h S1 eS1
  refine bs_aload_n C (bf_dk dd_X9_account 3 rfl) rfl ?_
  refine bs_iload_n C (bf_dk dd_X9_account 4 rfl) rfl ?_
  refine bs_iconst C (bf_dk dd_X9_account 5 rfl) (0 : Int32) (by decide) ?_
  refine bs_iconst C (bf_dk dd_X9_account 6 rfl) (5 : Int32) (by decide) ?_
  refine bs_selfPV_i C hR (c_X9_isIn _ _ _ _ _ S1 (a1) ((0 : Int32)) ((5 : Int32)) _ h) my_X9_isIn m_9_82 rfl cl_9 (ge_bW9_0 _) rfl (Nat.le_of_ble_eq_true rfl) (Nat.le_of_ble_eq_true rfl) (st := []) (Nat.le_of_ble_eq_true rfl) (bf_dk dd_X9_account 7 rfl) rfl (fun r2 h => ?_)
  refine bs_if_eq C (bf_dk dd_X9_account 8 rfl) (tgt := 27) rfl (fun c => ?_) (fun c => ?_)
  · replace h := h.1 c
    refine bs_iconst C (bf_dk dd_X9_account 16 rfl) (-1 : Int32) (by decide) ?_
    exact bs_iret (u := S1) C (bf_dk dd_X9_account 17 rfl) rfl h
  · replace h := h.2 c
    refine bs_aload_n C (bf_dk dd_X9_account 9 rfl) rfl ?_
    refine bs_get C (bf_dk dd_X9_account 10 rfl) cl_9 in_9 1 (Nat.le_of_ble_eq_true rfl) rfl f_9_7 (ge_bW9_0 S1) rfl ?_
    refine bs_bipush C (bf_dk dd_X9_account 11 rfl) (17 : Int32) (by decide) ?_
    refine bs_iload_n C (bf_dk dd_X9_account 12 rfl) rfl ?_
    refine bs_iadd C (bf_dk dd_X9_account 13 rfl) ?_
    obtain ⟨hi, h⟩ := h
    refine bs_iald C (bf_dk dd_X9_account 14 rfl) (ge_bW9_1 S1) hi ?_
    refine bs_goto C (bf_dk dd_X9_account 15 rfl) (tgt := 28) rfl ?_
    exact bs_iret (u := S1) C (bf_dk dd_X9_account 17 rfl) rfl h
theorem c_X9_account (l : Launch) (dC : Nat → ClassId) (dI : Nat → Nat → Nat) (ac : Nat → ClassId) (al : Nat → Nat) (S : bT9) (a1 : Int32) (Q : Int32 → (bT9) → Prop) (h : wp_X9_account S a1 Q) : bf_M l yX9_account cX9_account 2 (some .int) 1 23 dC dI ac al [.ref 0, .int a1] (bW9 S) (bf_Ki dC dI ac al bW9 Q) := by
  refine bf_start [some (.ref 0), some (.int a1)] (by decide) (Nat.le_of_ble_eq_true rfl) (bf_s1 (bf_s1 bf_s0)) ?_
  intro X hl C hR e1 e2 e3 e4
  subst e1; subst e2; subst e3; subst e4
  exact t_X9_account C hR S a1 Q h
def wp_X9_lackMany_77 (S : bT9) (x1 : Int32) (x2 : Int32) (x3 : Int32) (x4 : Int32) (x5 : Int32) (x6 : Int32) (x7 : Int32) (Q : Int32 → (bT9) → Prop) (B6 : Int32 → Int32 → Int32 → Int32 → Int32 → Int32 → Int32 → (bT9) → Prop) : Prop := (B6 (x1) (x2) (x3) (x4) (x5) (x6) ((x7 + (1 : Int32))) S)
set_option maxRecDepth 20000 in
theorem t_X9_lackMany_77 {X : bf_X} (C : bf_C X RX9 cX9_lackMany 8 (some .int)) (hR : bf_Rm X 7 163) (S : bT9) (x1 : Int32) (x2 : Int32) (x3 : Int32) (x4 : Int32) (x5 : Int32) (x6 : Int32) (x7 : Int32) (Q : Int32 → (bT9) → Prop) (B6 : Int32 → Int32 → Int32 → Int32 → Int32 → Int32 → Int32 → (bT9) → Prop) (hB6 : ∀ (x1 : Int32) (x2 : Int32) (x3 : Int32) (x4 : Int32) (x5 : Int32) (x6 : Int32) (x7 : Int32) (S : bT9), B6 x1 x2 x3 x4 x5 x6 x7 S → bf_A X (bf_Zi X bW9 Q) 8 6 [some (.ref 0), some (.int x1), some (.int x2), some (.int x3), some (.int x4), some (.int x5), some (.int x6), some (.int x7)] [] (bW9 S)) (h : wp_X9_lackMany_77 S x1 x2 x3 x4 x5 x6 x7 Q B6) : bf_A X (bf_Zi X bW9 Q) 8 77 [some (.ref 0), some (.int x1), some (.int x2), some (.int x3), some (.int x4), some (.int x5), some (.int x6), some (.int x7)] [] (bW9 S) := by
  unfold wp_X9_lackMany_77 at h
  refine bs_iinc C (bf_dk dd_X9_lackMany 46 rfl) (x7 + (1 : Int32)) rfl rfl (Nat.le_of_ble_eq_true rfl) (Nat.le_of_ble_eq_true rfl) (lv2 := [some (.ref 0), some (.int x1), some (.int x2), some (.int x3), some (.int x4), some (.int x5), some (.int x6), some (.int (x7 + (1 : Int32)))]) rfl ?_
  refine bs_goto C (bf_dk dd_X9_lackMany 47 rfl) (tgt := 6) rfl ?_
  exact bs_weak (bf_s1 (bf_s1 (bf_s1 (bf_s1 (bf_s1 (bf_s1 (bf_s1 (bf_s1 bf_s0)))))))) (hB6 (x1) (x2) (x3) (x4) (x5) (x6) ((x7 + (1 : Int32))) S h)
def wp_X9_lackMany_71 (S : bT9) (x1 : Int32) (x2 : Int32) (x3 : Int32) (x4 : Int32) (x5 : Int32) (x6 : Int32) (x7 : Int32) (Q : Int32 → (bT9) → Prop) (B6 : Int32 → Int32 → Int32 → Int32 → Int32 → Int32 → Int32 → (bT9) → Prop) : Prop := (wp_X9_lackMany_77 S (x1) (x2) (x3) (x4) (x5) ((x6 + (1 : Int32))) (x7) Q B6)
set_option maxRecDepth 20000 in
theorem t_X9_lackMany_71 {X : bf_X} (C : bf_C X RX9 cX9_lackMany 8 (some .int)) (hR : bf_Rm X 7 163) (S : bT9) (x1 : Int32) (x2 : Int32) (x3 : Int32) (x4 : Int32) (x5 : Int32) (x6 : Int32) (x7 : Int32) (Q : Int32 → (bT9) → Prop) (B6 : Int32 → Int32 → Int32 → Int32 → Int32 → Int32 → Int32 → (bT9) → Prop) (hB6 : ∀ (x1 : Int32) (x2 : Int32) (x3 : Int32) (x4 : Int32) (x5 : Int32) (x6 : Int32) (x7 : Int32) (S : bT9), B6 x1 x2 x3 x4 x5 x6 x7 S → bf_A X (bf_Zi X bW9 Q) 8 6 [some (.ref 0), some (.int x1), some (.int x2), some (.int x3), some (.int x4), some (.int x5), some (.int x6), some (.int x7)] [] (bW9 S)) (h : wp_X9_lackMany_71 S x1 x2 x3 x4 x5 x6 x7 Q B6) : bf_A X (bf_Zi X bW9 Q) 8 71 [some (.ref 0), some (.int x1), some (.int x2), some (.int x3), some (.int x4), some (.int x5), some (.int x6), some (.int x7)] [] (bW9 S) := by
  unfold wp_X9_lackMany_71 at h
  refine bs_iload C (bf_dk dd_X9_lackMany 42 rfl) rfl ?_
  refine bs_iconst C (bf_dk dd_X9_lackMany 43 rfl) (1 : Int32) (by decide) ?_
  refine bs_iadd C (bf_dk dd_X9_lackMany 44 rfl) ?_
  refine bs_istore C (bf_dk dd_X9_lackMany 45 rfl) (Nat.le_of_ble_eq_true rfl) (Nat.le_of_ble_eq_true rfl) (lv2 := [some (.ref 0), some (.int x1), some (.int x2), some (.int x3), some (.int x4), some (.int x5), some (.int (x6 + (1 : Int32))), some (.int x7)]) rfl ?_
  exact bs_weak (bf_s1 (bf_s1 (bf_s1 (bf_s1 (bf_s1 (bf_s1 (bf_s1 (bf_s1 bf_s0)))))))) (t_X9_lackMany_77 C hR S (x1) (x2) (x3) (x4) (x5) ((x6 + (1 : Int32))) (x7) Q B6 hB6 h)
def wp_X9_lackMany_6b (S : bT9) (x1 : Int32) (x2 : Int32) (x3 : Int32) (x4 : Int32) (x5 : Int32) (x6 : Int32) (x7 : Int32) (Q : Int32 → (bT9) → Prop) (B6 : Int32 → Int32 → Int32 → Int32 → Int32 → Int32 → Int32 → (bT9) → Prop) : Prop := ((x2 ≤ x7 → (Q x6 S)) ∧ (¬ x2 ≤ x7 → (vp_in (x1 + x7) 144 ∧ (vp_in (x1 + x7) 144 ∧ (wp_X9_find S (x3) (x4) (((b9g_keys S) ((x1 + x7)).toNatClampNeg)) (((b9g_lengths S) ((x1 + x7)).toNatClampNeg)) (fun r1 => ((¬ r1 = (-1 : Int32) → (wp_X9_lackMany_77 S (x1) (x2) (x3) (x4) (x5) (x6) (x7) Q B6)) ∧ (r1 = (-1 : Int32) → ((x5 = 0 → (wp_X9_lackMany_71 S (x1) (x2) (x3) (x4) (x5) (x6) (x7) Q B6)) ∧ (¬ x5 = 0 → (vp_in (x1 + x7) 144 ∧ (vp_in (x1 + x7) 144 ∧ (wp_X9_mayNow S (((b9g_keys S) ((x1 + x7)).toNatClampNeg)) (((b9g_lengths S) ((x1 + x7)).toNatClampNeg)) (fun r3 u4 => ((r3 = 0 → (wp_X9_lackMany_77 u4 (x1) (x2) (x3) (x4) (x5) (x6) (x7) Q B6)) ∧ (¬ r3 = 0 → (wp_X9_lackMany_71 u4 (x1) (x2) (x3) (x4) (x5) (x6) (x7) Q B6)))))))))))))))))
set_option maxRecDepth 20000 in
theorem t_X9_lackMany_6b {X : bf_X} (C : bf_C X RX9 cX9_lackMany 8 (some .int)) (hR : bf_Rm X 7 163) (S : bT9) (x1 : Int32) (x2 : Int32) (x3 : Int32) (x4 : Int32) (x5 : Int32) (x6 : Int32) (x7 : Int32) (Q : Int32 → (bT9) → Prop) (B6 : Int32 → Int32 → Int32 → Int32 → Int32 → Int32 → Int32 → (bT9) → Prop) (hB6 : ∀ (x1 : Int32) (x2 : Int32) (x3 : Int32) (x4 : Int32) (x5 : Int32) (x6 : Int32) (x7 : Int32) (S : bT9), B6 x1 x2 x3 x4 x5 x6 x7 S → bf_A X (bf_Zi X bW9 Q) 8 6 [some (.ref 0), some (.int x1), some (.int x2), some (.int x3), some (.int x4), some (.int x5), some (.int x6), some (.int x7)] [] (bW9 S)) (h : wp_X9_lackMany_6b S x1 x2 x3 x4 x5 x6 x7 Q B6) : bf_A X (bf_Zi X bW9 Q) 8 6 [some (.ref 0), some (.int x1), some (.int x2), some (.int x3), some (.int x4), some (.int x5), some (.int x6), some (.int x7)] [] (bW9 S) := by
  unfold wp_X9_lackMany_6b at h
  refine bs_iload C (bf_dk dd_X9_lackMany 4 rfl) rfl ?_
  refine bs_iload_n C (bf_dk dd_X9_lackMany 5 rfl) rfl ?_
  refine bs_icmp_ge C (bf_dk dd_X9_lackMany 6 rfl) (tgt := 83) rfl (fun c => ?_) (fun c => ?_)
  · replace h := h.1 c
    refine bs_iload C (bf_dk dd_X9_lackMany 48 rfl) rfl ?_
    exact bs_iret (u := S) C (bf_dk dd_X9_lackMany 49 rfl) rfl h
  · replace h := h.2 c
    refine bs_aload_n C (bf_dk dd_X9_lackMany 7 rfl) rfl ?_
    refine bs_iload_n C (bf_dk dd_X9_lackMany 8 rfl) rfl ?_
    refine bs_iload C (bf_dk dd_X9_lackMany 9 rfl) rfl ?_
    refine bs_aload_n C (bf_dk dd_X9_lackMany 10 rfl) rfl ?_
    refine bs_get C (bf_dk dd_X9_lackMany 11 rfl) cl_9 in_9 2 (Nat.le_of_ble_eq_true rfl) rfl f_9_13 (ge_bW9_0 S) rfl ?_
    refine bs_iload_n C (bf_dk dd_X9_lackMany 12 rfl) rfl ?_
    refine bs_iload C (bf_dk dd_X9_lackMany 13 rfl) rfl ?_
    refine bs_iadd C (bf_dk dd_X9_lackMany 14 rfl) ?_
    obtain ⟨hi, h⟩ := h
    refine bs_lald C (bf_dk dd_X9_lackMany 15 rfl) (ge_bW9_2 S) hi ?_
    refine bs_aload_n C (bf_dk dd_X9_lackMany 16 rfl) rfl ?_
    refine bs_get C (bf_dk dd_X9_lackMany 17 rfl) cl_9 in_9 3 (Nat.le_of_ble_eq_true rfl) rfl f_9_17 (ge_bW9_0 S) rfl ?_
    refine bs_iload_n C (bf_dk dd_X9_lackMany 18 rfl) rfl ?_
    refine bs_iload C (bf_dk dd_X9_lackMany 19 rfl) rfl ?_
    refine bs_iadd C (bf_dk dd_X9_lackMany 20 rfl) ?_
    obtain ⟨hi, h⟩ := h
    refine bs_iald C (bf_dk dd_X9_lackMany 21 rfl) (ge_bW9_3 S) hi ?_
    refine bs_selfPV_i C hR (c_X9_find _ _ _ _ _ S (x3) (x4) (((b9g_keys S) ((x1 + x7)).toNatClampNeg)) (((b9g_lengths S) ((x1 + x7)).toNatClampNeg)) _ h) my_X9_find m_9_114 rfl cl_9 (ge_bW9_0 _) rfl (Nat.le_of_ble_eq_true rfl) (Nat.le_of_ble_eq_true rfl) (st := []) (Nat.le_of_ble_eq_true rfl) (bf_dk dd_X9_lackMany 22 rfl) rfl (fun r1 h => ?_)
    refine bs_iconst C (bf_dk dd_X9_lackMany 23 rfl) (-1 : Int32) (by decide) ?_
    refine bs_icmp_ne C (bf_dk dd_X9_lackMany 24 rfl) (tgt := 77) rfl (fun c => ?_) (fun c => ?_)
    · replace h := h.1 c
      exact bs_weak (bf_s1 (bf_s1 (bf_s1 (bf_s1 (bf_s1 (bf_s1 (bf_s1 (bf_s1 bf_s0)))))))) (t_X9_lackMany_77 C hR S (x1) (x2) (x3) (x4) (x5) (x6) (x7) Q B6 hB6 h)
    · replace h := h.2 c
      refine bs_iload C (bf_dk dd_X9_lackMany 25 rfl) rfl ?_
      refine bs_if_eq C (bf_dk dd_X9_lackMany 26 rfl) (tgt := 71) rfl (fun c => ?_) (fun c => ?_)
      · replace h := h.1 c
        exact bs_weak (bf_s1 (bf_s1 (bf_s1 (bf_s1 (bf_s1 (bf_s1 (bf_s1 (bf_s1 bf_s0)))))))) (t_X9_lackMany_71 C hR S (x1) (x2) (x3) (x4) (x5) (x6) (x7) Q B6 hB6 h)
      · replace h := h.2 c
        refine bs_aload_n C (bf_dk dd_X9_lackMany 27 rfl) rfl ?_
        refine bs_aload_n C (bf_dk dd_X9_lackMany 28 rfl) rfl ?_
        refine bs_get C (bf_dk dd_X9_lackMany 29 rfl) cl_9 in_9 2 (Nat.le_of_ble_eq_true rfl) rfl f_9_13 (ge_bW9_0 S) rfl ?_
        refine bs_iload_n C (bf_dk dd_X9_lackMany 30 rfl) rfl ?_
        refine bs_iload C (bf_dk dd_X9_lackMany 31 rfl) rfl ?_
        refine bs_iadd C (bf_dk dd_X9_lackMany 32 rfl) ?_
        obtain ⟨hi, h⟩ := h
        refine bs_lald C (bf_dk dd_X9_lackMany 33 rfl) (ge_bW9_2 S) hi ?_
        refine bs_aload_n C (bf_dk dd_X9_lackMany 34 rfl) rfl ?_
        refine bs_get C (bf_dk dd_X9_lackMany 35 rfl) cl_9 in_9 3 (Nat.le_of_ble_eq_true rfl) rfl f_9_17 (ge_bW9_0 S) rfl ?_
        refine bs_iload_n C (bf_dk dd_X9_lackMany 36 rfl) rfl ?_
        refine bs_iload C (bf_dk dd_X9_lackMany 37 rfl) rfl ?_
        refine bs_iadd C (bf_dk dd_X9_lackMany 38 rfl) ?_
        obtain ⟨hi, h⟩ := h
        refine bs_iald C (bf_dk dd_X9_lackMany 39 rfl) (ge_bW9_3 S) hi ?_
        refine bs_selfV_i C hR (c_X9_mayNow _ _ _ _ _ S (((b9g_keys S) ((x1 + x7)).toNatClampNeg)) (((b9g_lengths S) ((x1 + x7)).toNatClampNeg)) _ h) my_X9_mayNow m_9_320 rfl cl_9 (ge_bW9_0 _) rfl (Nat.le_of_ble_eq_true rfl) (Nat.le_of_ble_eq_true rfl) (st := []) (Nat.le_of_ble_eq_true rfl) (bf_dk dd_X9_lackMany 40 rfl) rfl (len := 21) (fun _ => rfl) (fun r3 u4 h => ?_)
        refine bs_if_eq C (bf_dk dd_X9_lackMany 41 rfl) (tgt := 77) rfl (fun c => ?_) (fun c => ?_)
        · replace h := h.1 c
          exact bs_weak (bf_s1 (bf_s1 (bf_s1 (bf_s1 (bf_s1 (bf_s1 (bf_s1 (bf_s1 bf_s0)))))))) (t_X9_lackMany_77 C hR u4 (x1) (x2) (x3) (x4) (x5) (x6) (x7) Q B6 hB6 h)
        · replace h := h.2 c
          exact bs_weak (bf_s1 (bf_s1 (bf_s1 (bf_s1 (bf_s1 (bf_s1 (bf_s1 (bf_s1 bf_s0)))))))) (t_X9_lackMany_71 C hR u4 (x1) (x2) (x3) (x4) (x5) (x6) (x7) Q B6 hB6 h)
def wp_X9_lackMany_6 (S : bT9) (x1 : Int32) (x2 : Int32) (x3 : Int32) (x4 : Int32) (x5 : Int32) (x6 : Int32) (x7 : Int32) (Q : Int32 → (bT9) → Prop) : Prop := ∃ I : Nat → Int32 → Int32 → Int32 → Int32 → Int32 → Int32 → Int32 → (bT9) → Prop, (∃ n : Nat, I n x1 x2 x3 x4 x5 x6 x7 S) ∧ ∀ (n : Nat) (x1 : Int32) (x2 : Int32) (x3 : Int32) (x4 : Int32) (x5 : Int32) (x6 : Int32) (x7 : Int32) (S : bT9), I n x1 x2 x3 x4 x5 x6 x7 S → wp_X9_lackMany_6b S x1 x2 x3 x4 x5 x6 x7 Q (fun x1 x2 x3 x4 x5 x6 x7 S => ∃ n2 : Nat, n2 < n ∧ I n2 x1 x2 x3 x4 x5 x6 x7 S)
theorem t_X9_lackMany_6 {X : bf_X} (C : bf_C X RX9 cX9_lackMany 8 (some .int)) (hR : bf_Rm X 7 163) (S : bT9) (x1 : Int32) (x2 : Int32) (x3 : Int32) (x4 : Int32) (x5 : Int32) (x6 : Int32) (x7 : Int32) (Q : Int32 → (bT9) → Prop) (h : wp_X9_lackMany_6 S x1 x2 x3 x4 x5 x6 x7 Q) : bf_A X (bf_Zi X bW9 Q) 8 6 [some (.ref 0), some (.int x1), some (.int x2), some (.int x3), some (.int x4), some (.int x5), some (.int x6), some (.int x7)] [] (bW9 S) := by
  obtain ⟨I, ⟨n0, h0⟩, hI⟩ := h
  have key : ∀ (n : Nat) (x1 : Int32) (x2 : Int32) (x3 : Int32) (x4 : Int32) (x5 : Int32) (x6 : Int32) (x7 : Int32) (S : bT9), I n x1 x2 x3 x4 x5 x6 x7 S → bf_A X (bf_Zi X bW9 Q) 8 6 [some (.ref 0), some (.int x1), some (.int x2), some (.int x3), some (.int x4), some (.int x5), some (.int x6), some (.int x7)] [] (bW9 S) := by
    intro n
    induction n using Nat.strongRecOn with
    | _ n ih =>
      intro x1 x2 x3 x4 x5 x6 x7 S hi
      exact t_X9_lackMany_6b C hR S x1 x2 x3 x4 x5 x6 x7 Q _ (fun x1 x2 x3 x4 x5 x6 x7 S hb => by obtain ⟨n2, hn, hi2⟩ := hb; exact ih n2 hn x1 x2 x3 x4 x5 x6 x7 S hi2) (hI n x1 x2 x3 x4 x5 x6 x7 S hi)
  exact key n0 x1 x2 x3 x4 x5 x6 x7 S h0
def wp_X9_lackMany (S : bT9) (a1 : Int32) (a2 : Int32) (a3 : Int32) (a4 : Int32) (a5 : Int32) (Q : Int32 → (bT9) → Prop) : Prop := (wp_X9_lackMany_6 S (a1) (a2) (a3) (a4) (a5) ((0 : Int32)) ((0 : Int32)) Q)
set_option maxRecDepth 20000 in
theorem t_X9_lackMany {X : bf_X} (C : bf_C X RX9 cX9_lackMany 8 (some .int)) (hR : bf_Rm X 7 163) (S : bT9) (a1 : Int32) (a2 : Int32) (a3 : Int32) (a4 : Int32) (a5 : Int32) (Q : Int32 → (bT9) → Prop) (h : wp_X9_lackMany S a1 a2 a3 a4 a5 Q) : bf_A X (bf_Zi X bW9 Q) 8 0 [some (.ref 0), some (.int a1), some (.int a2), some (.int a3), some (.int a4), some (.int a5), none, none] [] (bW9 S) := by
  unfold wp_X9_lackMany at h
  refine bs_iconst C (bf_dk dd_X9_lackMany 0 rfl) (0 : Int32) (by decide) ?_
  refine bs_istore C (bf_dk dd_X9_lackMany 1 rfl) (Nat.le_of_ble_eq_true rfl) (Nat.le_of_ble_eq_true rfl) (lv2 := [some (.ref 0), some (.int a1), some (.int a2), some (.int a3), some (.int a4), some (.int a5), some (.int (0 : Int32)), none]) rfl ?_
  refine bs_iconst C (bf_dk dd_X9_lackMany 2 rfl) (0 : Int32) (by decide) ?_
  refine bs_istore C (bf_dk dd_X9_lackMany 3 rfl) (Nat.le_of_ble_eq_true rfl) (Nat.le_of_ble_eq_true rfl) (lv2 := [some (.ref 0), some (.int a1), some (.int a2), some (.int a3), some (.int a4), some (.int a5), some (.int (0 : Int32)), some (.int (0 : Int32))]) rfl ?_
  exact bs_weak (bf_s1 (bf_s1 (bf_s1 (bf_s1 (bf_s1 (bf_s1 (bf_s1 (bf_s1 bf_s0)))))))) (t_X9_lackMany_6 C hR S (a1) (a2) (a3) (a4) (a5) ((0 : Int32)) ((0 : Int32)) Q h)
theorem c_X9_lackMany (l : Launch) (dC : Nat → ClassId) (dI : Nat → Nat → Nat) (ac : Nat → ClassId) (al : Nat → Nat) (S : bT9) (a1 : Int32) (a2 : Int32) (a3 : Int32) (a4 : Int32) (a5 : Int32) (Q : Int32 → (bT9) → Prop) (h : wp_X9_lackMany S a1 a2 a3 a4 a5 Q) : bf_M l yX9_lackMany cX9_lackMany 8 (some .int) 7 163 dC dI ac al [.ref 0, .int a1, .int a2, .int a3, .int a4, .int a5] (bW9 S) (bf_Ki dC dI ac al bW9 Q) := by
  refine bf_start [some (.ref 0), some (.int a1), some (.int a2), some (.int a3), some (.int a4), some (.int a5), none, none] (by decide) (Nat.le_of_ble_eq_true rfl) (bf_s1 (bf_s1 (bf_s1 (bf_s1 (bf_s1 (bf_s1 (bf_en 2))))))) ?_
  intro X hl C hR e1 e2 e3 e4
  subst e1; subst e2; subst e3; subst e4
  exact t_X9_lackMany C hR S a1 a2 a3 a4 a5 Q h
def wp_X9_since_75 (S : bT9) (t1 : Int32) (t2 : Int32) (t3 : Int32) (t4 : Int32) (t5 : Int32) (Q : Int32 → (bT9) → Prop) : Prop := (wp_X9_lackMany S (t1) (t2) (t3) (t4) (t5) (fun r1 u2 => (Q r1 u2)))
set_option maxRecDepth 20000 in
theorem t_X9_since_75 {X : bf_X} (C : bf_C X RX9 cX9_since 2 (some .int)) (hR : bf_Rm X 8 190) (S : bT9) (t1 : Int32) (t2 : Int32) (t3 : Int32) (t4 : Int32) (t5 : Int32) (Q : Int32 → (bT9) → Prop) (h : wp_X9_since_75 S t1 t2 t3 t4 t5 Q) : bf_A X (bf_Zi X bW9 Q) 2 75 [none, none] [.int t5, .int t4, .int t3, .int t2, .int t1, .ref 0] (bW9 S) := by
  unfold wp_X9_since_75 at h
  refine bs_selfV_i C hR (c_X9_lackMany _ _ _ _ _ S (t1) (t2) (t3) (t4) (t5) _ h) my_X9_lackMany m_9_427 rfl cl_9 (ge_bW9_0 _) rfl (Nat.le_of_ble_eq_true rfl) (Nat.le_of_ble_eq_true rfl) (st := []) (Nat.le_of_ble_eq_true rfl) (bf_dk dd_X9_since 45 rfl) rfl (len := 21) (fun _ => rfl) (fun r1 u2 h => ?_)
  exact bs_iret (u := u2) C (bf_dk dd_X9_since 46 rfl) rfl h
def wp_X9_since (S : bT9) (a1 : Int32) (Q : Int32 → (bT9) → Prop) : Prop := (∀ S3 : bT9, S3 = (b9s_told S (0 : Int32)) → (wp_X9_isIn S3 (a1) ((0 : Int32)) ((2 : Int32)) (fun r4 => ((¬ r4 = 0 → ((¬ a1 = (2 : Int32) → (vp_in (8 : Int32) 23 ∧ (vp_in (9 : Int32) 23 ∧ ((¬ a1 = (1 : Int32) → (wp_X9_since_75 S3 ((0 : Int32)) (((b9g_now S3) ((8 : Int32)).toNatClampNeg)) ((64 : Int32)) (((b9g_now S3) ((9 : Int32)).toNatClampNeg)) ((0 : Int32)) Q)) ∧ (a1 = (1 : Int32) → (wp_X9_since_75 S3 ((0 : Int32)) (((b9g_now S3) ((8 : Int32)).toNatClampNeg)) ((64 : Int32)) (((b9g_now S3) ((9 : Int32)).toNatClampNeg)) ((1 : Int32)) Q)))))) ∧ (a1 = (2 : Int32) → (vp_in (9 : Int32) 23 ∧ (vp_in (8 : Int32) 23 ∧ (wp_X9_lackMany S3 ((64 : Int32)) (((b9g_now S3) ((9 : Int32)).toNatClampNeg)) ((0 : Int32)) (((b9g_now S3) ((8 : Int32)).toNatClampNeg)) ((0 : Int32)) (fun r6 u7 => (Q r6 u7)))))))) ∧ (r4 = 0 → (Q (-1 : Int32) S3))))))
set_option maxRecDepth 20000 in
theorem t_X9_since {X : bf_X} (C : bf_C X RX9 cX9_since 2 (some .int)) (hR : bf_Rm X 8 190) (S : bT9) (a1 : Int32) (Q : Int32 → (bT9) → Prop) (h : wp_X9_since S a1 Q) : bf_A X (bf_Zi X bW9 Q) 2 0 [some (.ref 0), some (.int a1)] [] (bW9 S) := by
  unfold wp_X9_since at h
  refine bs_aload_n C (bf_dk dd_X9_since 0 rfl) rfl ?_
  refine bs_iconst C (bf_dk dd_X9_since 1 rfl) (0 : Int32) (by decide) ?_
  refine bs_put C (bf_dk dd_X9_since 2 rfl) tyX9_ok nmX9 cl_9 in_9 0 (Nat.le_of_ble_eq_true rfl) rfl f_9_75 rfl (ge_bW9_0 S) (Nat.le_of_ble_eq_true rfl) rfl rfl (pu_bW9_0_0 S (0 : Int32)) ?_
  refine bs_nameS bW9 (fun S3 eS3 => ?_)
  replace h := h S3 eS3
  refine bs_aload_n C (bf_dk dd_X9_since 3 rfl) rfl ?_
  refine bs_iload_n C (bf_dk dd_X9_since 4 rfl) rfl ?_
  refine bs_iconst C (bf_dk dd_X9_since 5 rfl) (0 : Int32) (by decide) ?_
  refine bs_iconst C (bf_dk dd_X9_since 6 rfl) (2 : Int32) (by decide) ?_
  refine bs_selfPV_i C hR (c_X9_isIn _ _ _ _ _ S3 (a1) ((0 : Int32)) ((2 : Int32)) _ h) my_X9_isIn m_9_82 rfl cl_9 (ge_bW9_0 _) rfl (Nat.le_of_ble_eq_true rfl) (Nat.le_of_ble_eq_true rfl) (st := []) (Nat.le_of_ble_eq_true rfl) (bf_dk dd_X9_since 7 rfl) rfl (fun r4 h => ?_)
  refine bs_if_ne C (bf_dk dd_X9_since 8 rfl) (tgt := 17) rfl (fun c => ?_) (fun c => ?_)
  · replace h := h.1 c
    refine bs_iload_n C (bf_dk dd_X9_since 11 rfl) rfl ?_
    refine bs_iconst C (bf_dk dd_X9_since 12 rfl) (2 : Int32) (by decide) ?_
    refine bs_icmp_ne C (bf_dk dd_X9_since 13 rfl) (tgt := 47) rfl (fun c => ?_) (fun c => ?_)
    · replace h := h.1 c
      refine bs_aload_n C (bf_dk dd_X9_since 28 rfl) rfl ?_
      refine bs_iconst C (bf_dk dd_X9_since 29 rfl) (0 : Int32) (by decide) ?_
      refine bs_aload_n C (bf_dk dd_X9_since 30 rfl) rfl ?_
      refine bs_get C (bf_dk dd_X9_since 31 rfl) cl_9 in_9 1 (Nat.le_of_ble_eq_true rfl) rfl f_9_7 (ge_bW9_0 S3) rfl ?_
      refine bs_bipush C (bf_dk dd_X9_since 32 rfl) (8 : Int32) (by decide) ?_
      obtain ⟨hi, h⟩ := h
      refine bs_iald C (bf_dk dd_X9_since 33 rfl) (ge_bW9_1 S3) hi ?_
      refine bs_bipush C (bf_dk dd_X9_since 34 rfl) (64 : Int32) (by decide) ?_
      refine bs_aload_n C (bf_dk dd_X9_since 35 rfl) rfl ?_
      refine bs_get C (bf_dk dd_X9_since 36 rfl) cl_9 in_9 1 (Nat.le_of_ble_eq_true rfl) rfl f_9_7 (ge_bW9_0 S3) rfl ?_
      refine bs_bipush C (bf_dk dd_X9_since 37 rfl) (9 : Int32) (by decide) ?_
      obtain ⟨hi, h⟩ := h
      refine bs_iald C (bf_dk dd_X9_since 38 rfl) (ge_bW9_1 S3) hi ?_
      refine bs_iload_n C (bf_dk dd_X9_since 39 rfl) rfl ?_
      refine bs_iconst C (bf_dk dd_X9_since 40 rfl) (1 : Int32) (by decide) ?_
      refine bs_icmp_ne C (bf_dk dd_X9_since 41 rfl) (tgt := 74) rfl (fun c => ?_) (fun c => ?_)
      · replace h := h.1 c
        refine bs_iconst C (bf_dk dd_X9_since 44 rfl) (0 : Int32) (by decide) ?_
        exact bs_weak (bf_sn (bf_sn bf_s0)) (t_X9_since_75 C hR S3 ((0 : Int32)) (((b9g_now S3) ((8 : Int32)).toNatClampNeg)) ((64 : Int32)) (((b9g_now S3) ((9 : Int32)).toNatClampNeg)) ((0 : Int32)) Q h)
      · replace h := h.2 c
        refine bs_iconst C (bf_dk dd_X9_since 42 rfl) (1 : Int32) (by decide) ?_
        refine bs_goto C (bf_dk dd_X9_since 43 rfl) (tgt := 75) rfl ?_
        exact bs_weak (bf_sn (bf_sn bf_s0)) (t_X9_since_75 C hR S3 ((0 : Int32)) (((b9g_now S3) ((8 : Int32)).toNatClampNeg)) ((64 : Int32)) (((b9g_now S3) ((9 : Int32)).toNatClampNeg)) ((1 : Int32)) Q h)
    · replace h := h.2 c
      refine bs_aload_n C (bf_dk dd_X9_since 14 rfl) rfl ?_
      refine bs_bipush C (bf_dk dd_X9_since 15 rfl) (64 : Int32) (by decide) ?_
      refine bs_aload_n C (bf_dk dd_X9_since 16 rfl) rfl ?_
      refine bs_get C (bf_dk dd_X9_since 17 rfl) cl_9 in_9 1 (Nat.le_of_ble_eq_true rfl) rfl f_9_7 (ge_bW9_0 S3) rfl ?_
      refine bs_bipush C (bf_dk dd_X9_since 18 rfl) (9 : Int32) (by decide) ?_
      obtain ⟨hi, h⟩ := h
      refine bs_iald C (bf_dk dd_X9_since 19 rfl) (ge_bW9_1 S3) hi ?_
      refine bs_iconst C (bf_dk dd_X9_since 20 rfl) (0 : Int32) (by decide) ?_
      refine bs_aload_n C (bf_dk dd_X9_since 21 rfl) rfl ?_
      refine bs_get C (bf_dk dd_X9_since 22 rfl) cl_9 in_9 1 (Nat.le_of_ble_eq_true rfl) rfl f_9_7 (ge_bW9_0 S3) rfl ?_
      refine bs_bipush C (bf_dk dd_X9_since 23 rfl) (8 : Int32) (by decide) ?_
      obtain ⟨hi, h⟩ := h
      refine bs_iald C (bf_dk dd_X9_since 24 rfl) (ge_bW9_1 S3) hi ?_
      refine bs_iconst C (bf_dk dd_X9_since 25 rfl) (0 : Int32) (by decide) ?_
      refine bs_selfV_i C hR (c_X9_lackMany _ _ _ _ _ S3 ((64 : Int32)) (((b9g_now S3) ((9 : Int32)).toNatClampNeg)) ((0 : Int32)) (((b9g_now S3) ((8 : Int32)).toNatClampNeg)) ((0 : Int32)) _ h) my_X9_lackMany m_9_427 rfl cl_9 (ge_bW9_0 _) rfl (Nat.le_of_ble_eq_true rfl) (Nat.le_of_ble_eq_true rfl) (st := []) (Nat.le_of_ble_eq_true rfl) (bf_dk dd_X9_since 26 rfl) rfl (len := 21) (fun _ => rfl) (fun r6 u7 h => ?_)
      refine bs_goto C (bf_dk dd_X9_since 27 rfl) (tgt := 78) rfl ?_
      exact bs_iret (u := u7) C (bf_dk dd_X9_since 46 rfl) rfl h
  · replace h := h.2 c
    refine bs_iconst C (bf_dk dd_X9_since 9 rfl) (-1 : Int32) (by decide) ?_
    exact bs_iret (u := S3) C (bf_dk dd_X9_since 10 rfl) rfl h
theorem c_X9_since (l : Launch) (dC : Nat → ClassId) (dI : Nat → Nat → Nat) (ac : Nat → ClassId) (al : Nat → Nat) (S : bT9) (a1 : Int32) (Q : Int32 → (bT9) → Prop) (h : wp_X9_since S a1 Q) : bf_M l yX9_since cX9_since 2 (some .int) 8 190 dC dI ac al [.ref 0, .int a1] (bW9 S) (bf_Ki dC dI ac al bW9 Q) := by
  refine bf_start [some (.ref 0), some (.int a1)] (by decide) (Nat.le_of_ble_eq_true rfl) (bf_s1 (bf_s1 bf_s0)) ?_
  intro X hl C hR e1 e2 e3 e4
  subst e1; subst e2; subst e3; subst e4
  exact t_X9_since C hR S a1 Q h
