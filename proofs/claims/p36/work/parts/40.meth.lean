def wp_X9_powerOf (S : bT9) (a1 : Int32) (Q : Int64 → Prop) : Prop := (Q ((1 : Int64) <<< ((((8 : Int32) * a1)).toInt64 &&& 63)))
set_option maxRecDepth 20000 in
theorem t_X9_powerOf {X : bf_X} (C : bf_C X RX9 cX9_powerOf 2 (some .long)) (hR : bf_Rm X 0 0) (S : bT9) (a1 : Int32) (Q : Int64 → Prop) (h : wp_X9_powerOf S a1 Q) : bf_A X (bf_Zl X bW9 (fun r u => u = S ∧ Q r)) 2 0 [some (.ref 0), some (.int a1)] [] (bW9 S) := by
  unfold wp_X9_powerOf at h
  refine bs_lconst C (bf_dk dd_X9_powerOf 0 rfl) (1 : Int64) (by decide) ?_
  refine bs_bipush C (bf_dk dd_X9_powerOf 1 rfl) (8 : Int32) (by decide) ?_
  refine bs_iload_n C (bf_dk dd_X9_powerOf 2 rfl) rfl ?_
  refine bs_imul C (bf_dk dd_X9_powerOf 3 rfl) ?_
  refine bs_lshl C (bf_dk dd_X9_powerOf 4 rfl) ?_
  exact bs_lret (u := S) C (bf_dk dd_X9_powerOf 5 rfl) rfl ⟨rfl, h⟩
theorem c_X9_powerOf (l : Launch) (dC : Nat → ClassId) (dI : Nat → Nat → Nat) (ac : Nat → ClassId) (al : Nat → Nat) (S : bT9) (a1 : Int32) (Q : Int64 → Prop) (h : wp_X9_powerOf S a1 Q) : bf_M l yX9_powerOf cX9_powerOf 2 (some .long) 0 0 dC dI ac al [.ref 0, .int a1] (bW9 S) (bf_Kl dC dI ac al bW9 (fun r u => u = S ∧ Q r)) := by
  refine bf_start [some (.ref 0), some (.int a1)] (by decide) (Nat.le_of_ble_eq_true rfl) (bf_s1 (bf_s1 bf_s0)) ?_
  intro X hl C hR e1 e2 e3 e4
  subst e1; subst e2; subst e3; subst e4
  exact t_X9_powerOf C hR S a1 Q h
def wp_X9_lessKeys_21 (S : bT9) (x3 : Int32) (x4 : Int32) (t0 : Int64) (Q : Int64 → Prop) : Prop := ((x3 ≤ x4 → (Q t0)) ∧ (¬ x3 ≤ x4 → (Q (t0 + (1 : Int64)))))
set_option maxRecDepth 20000 in
theorem t_X9_lessKeys_21 {X : bf_X} (C : bf_C X RX9 cX9_lessKeys 7 (some .long)) (hR : bf_Rm X 0 0) (S : bT9) (x3 : Int32) (x4 : Int32) (t0 : Int64) (Q : Int64 → Prop) (h : wp_X9_lessKeys_21 S x3 x4 t0 Q) : bf_A X (bf_Zl X bW9 (fun r u => u = S ∧ Q r)) 7 21 [none, none, none, some (.int x3), some (.int x4), none, none] [.long t0] (bW9 S) := by
  unfold wp_X9_lessKeys_21 at h
  refine bs_lstore C (bf_dk dd_X9_lessKeys 12 rfl) (Nat.le_of_ble_eq_true rfl) (Nat.le_of_ble_eq_true rfl) (lv2 := [none, none, none, some (.int x3), some (.int x4), some (.long t0), none]) rfl ?_
  refine bs_iload_n C (bf_dk dd_X9_lessKeys 13 rfl) rfl ?_
  refine bs_iload C (bf_dk dd_X9_lessKeys 14 rfl) rfl ?_
  refine bs_icmp_le C (bf_dk dd_X9_lessKeys 15 rfl) (tgt := 36) rfl (fun c => ?_) (fun c => ?_)
  · replace h := h.1 c
    refine bs_lload C (bf_dk dd_X9_lessKeys 20 rfl) rfl ?_
    exact bs_lret (u := S) C (bf_dk dd_X9_lessKeys 21 rfl) rfl ⟨rfl, h⟩
  · replace h := h.2 c
    refine bs_lload C (bf_dk dd_X9_lessKeys 16 rfl) rfl ?_
    refine bs_lconst C (bf_dk dd_X9_lessKeys 17 rfl) (1 : Int64) (by decide) ?_
    refine bs_ladd C (bf_dk dd_X9_lessKeys 18 rfl) ?_
    refine bs_goto C (bf_dk dd_X9_lessKeys 19 rfl) (tgt := 38) rfl ?_
    exact bs_lret (u := S) C (bf_dk dd_X9_lessKeys 21 rfl) rfl ⟨rfl, h⟩
def wp_X9_lessKeys (S : bT9) (a1 : Int64) (a3 : Int32) (a4 : Int32) (Q : Int64 → Prop) : Prop := ((¬ a4 = (8 : Int32) → (wp_X9_lessKeys_21 S (a3) (a4) ((((a1).toUInt64 >>> ((((64 : Int32) - ((8 : Int32) * a4))).toInt64.toUInt64 &&& Int64.toUInt64 63)).toInt64)) Q)) ∧ (a4 = (8 : Int32) → (wp_X9_lessKeys_21 S (a3) (a4) ((0 : Int64)) Q)))
set_option maxRecDepth 20000 in
theorem t_X9_lessKeys {X : bf_X} (C : bf_C X RX9 cX9_lessKeys 7 (some .long)) (hR : bf_Rm X 0 0) (S : bT9) (a1 : Int64) (a3 : Int32) (a4 : Int32) (Q : Int64 → Prop) (h : wp_X9_lessKeys S a1 a3 a4 Q) : bf_A X (bf_Zl X bW9 (fun r u => u = S ∧ Q r)) 7 0 [some (.ref 0), some (.long a1), none, some (.int a3), some (.int a4), none, none] [] (bW9 S) := by
  unfold wp_X9_lessKeys at h
  refine bs_iload C (bf_dk dd_X9_lessKeys 0 rfl) rfl ?_
  refine bs_bipush C (bf_dk dd_X9_lessKeys 1 rfl) (8 : Int32) (by decide) ?_
  refine bs_icmp_ne C (bf_dk dd_X9_lessKeys 2 rfl) (tgt := 11) rfl (fun c => ?_) (fun c => ?_)
  · replace h := h.1 c
    refine bs_lload_n C (bf_dk dd_X9_lessKeys 5 rfl) rfl ?_
    refine bs_bipush C (bf_dk dd_X9_lessKeys 6 rfl) (64 : Int32) (by decide) ?_
    refine bs_bipush C (bf_dk dd_X9_lessKeys 7 rfl) (8 : Int32) (by decide) ?_
    refine bs_iload C (bf_dk dd_X9_lessKeys 8 rfl) rfl ?_
    refine bs_imul C (bf_dk dd_X9_lessKeys 9 rfl) ?_
    refine bs_isub C (bf_dk dd_X9_lessKeys 10 rfl) ?_
    refine bs_lushr C (bf_dk dd_X9_lessKeys 11 rfl) ?_
    exact bs_weak (bf_sn (bf_sn (bf_sn (bf_s1 (bf_s1 (bf_sn (bf_sn bf_s0))))))) (t_X9_lessKeys_21 C hR S (a3) (a4) ((((a1).toUInt64 >>> ((((64 : Int32) - ((8 : Int32) * a4))).toInt64.toUInt64 &&& Int64.toUInt64 63)).toInt64)) Q h)
  · replace h := h.2 c
    refine bs_lconst C (bf_dk dd_X9_lessKeys 3 rfl) (0 : Int64) (by decide) ?_
    refine bs_goto C (bf_dk dd_X9_lessKeys 4 rfl) (tgt := 21) rfl ?_
    exact bs_weak (bf_sn (bf_sn (bf_sn (bf_s1 (bf_s1 (bf_sn (bf_sn bf_s0))))))) (t_X9_lessKeys_21 C hR S (a3) (a4) ((0 : Int64)) Q h)
theorem c_X9_lessKeys (l : Launch) (dC : Nat → ClassId) (dI : Nat → Nat → Nat) (ac : Nat → ClassId) (al : Nat → Nat) (S : bT9) (a1 : Int64) (a3 : Int32) (a4 : Int32) (Q : Int64 → Prop) (h : wp_X9_lessKeys S a1 a3 a4 Q) : bf_M l yX9_lessKeys cX9_lessKeys 7 (some .long) 0 0 dC dI ac al [.ref 0, .long a1, .int a3, .int a4] (bW9 S) (bf_Kl dC dI ac al bW9 (fun r u => u = S ∧ Q r)) := by
  refine bf_start [some (.ref 0), some (.long a1), none, some (.int a3), some (.int a4), none, none] (by decide) (Nat.le_of_ble_eq_true rfl) (bf_s1 (bf_s1 (bf_sn (bf_s1 (bf_s1 (bf_en 2)))))) ?_
  intro X hl C hR e1 e2 e3 e4
  subst e1; subst e2; subst e3; subst e4
  exact t_X9_lessKeys C hR S a1 a3 a4 Q h
def wp_X9_notMoreKeys (S : bT9) (a1 : Int64) (a3 : Int32) (a4 : Int32) (Q : Int64 → Prop) : Prop := (wp_X9_lessKeys S (a1) (a3) (a4) (fun r1 => ((¬ a3 = a4 → (Q (r1 + (0 : Int64)))) ∧ (a3 = a4 → (Q (r1 + (1 : Int64)))))))
set_option maxRecDepth 20000 in
theorem t_X9_notMoreKeys {X : bf_X} (C : bf_C X RX9 cX9_notMoreKeys 5 (some .long)) (hR : bf_Rm X 1 26) (S : bT9) (a1 : Int64) (a3 : Int32) (a4 : Int32) (Q : Int64 → Prop) (h : wp_X9_notMoreKeys S a1 a3 a4 Q) : bf_A X (bf_Zl X bW9 (fun r u => u = S ∧ Q r)) 5 0 [some (.ref 0), some (.long a1), none, some (.int a3), some (.int a4)] [] (bW9 S) := by
  unfold wp_X9_notMoreKeys at h
  refine bs_aload_n C (bf_dk dd_X9_notMoreKeys 0 rfl) rfl ?_
  refine bs_lload_n C (bf_dk dd_X9_notMoreKeys 1 rfl) rfl ?_
  refine bs_iload_n C (bf_dk dd_X9_notMoreKeys 2 rfl) rfl ?_
  refine bs_iload C (bf_dk dd_X9_notMoreKeys 3 rfl) rfl ?_
  refine bs_selfPV_l C hR (c_X9_lessKeys _ _ _ _ _ S (a1) (a3) (a4) _ h) my_X9_lessKeys m_9_411 rfl cl_9 (ge_bW9_0 _) rfl (Nat.le_of_ble_eq_true rfl) (Nat.le_of_ble_eq_true rfl) (st := []) (Nat.le_of_ble_eq_true rfl) (bf_dk dd_X9_notMoreKeys 4 rfl) rfl (fun r1 h => ?_)
  refine bs_iload_n C (bf_dk dd_X9_notMoreKeys 5 rfl) rfl ?_
  refine bs_iload C (bf_dk dd_X9_notMoreKeys 6 rfl) rfl ?_
  refine bs_icmp_ne C (bf_dk dd_X9_notMoreKeys 7 rfl) (tgt := 18) rfl (fun c => ?_) (fun c => ?_)
  · replace h := h.1 c
    refine bs_lconst C (bf_dk dd_X9_notMoreKeys 10 rfl) (0 : Int64) (by decide) ?_
    refine bs_ladd C (bf_dk dd_X9_notMoreKeys 11 rfl) ?_
    exact bs_lret (u := S) C (bf_dk dd_X9_notMoreKeys 12 rfl) rfl ⟨rfl, h⟩
  · replace h := h.2 c
    refine bs_lconst C (bf_dk dd_X9_notMoreKeys 8 rfl) (1 : Int64) (by decide) ?_
    refine bs_goto C (bf_dk dd_X9_notMoreKeys 9 rfl) (tgt := 19) rfl ?_
    refine bs_ladd C (bf_dk dd_X9_notMoreKeys 11 rfl) ?_
    exact bs_lret (u := S) C (bf_dk dd_X9_notMoreKeys 12 rfl) rfl ⟨rfl, h⟩
theorem c_X9_notMoreKeys (l : Launch) (dC : Nat → ClassId) (dI : Nat → Nat → Nat) (ac : Nat → ClassId) (al : Nat → Nat) (S : bT9) (a1 : Int64) (a3 : Int32) (a4 : Int32) (Q : Int64 → Prop) (h : wp_X9_notMoreKeys S a1 a3 a4 Q) : bf_M l yX9_notMoreKeys cX9_notMoreKeys 5 (some .long) 1 26 dC dI ac al [.ref 0, .long a1, .int a3, .int a4] (bW9 S) (bf_Kl dC dI ac al bW9 (fun r u => u = S ∧ Q r)) := by
  refine bf_start [some (.ref 0), some (.long a1), none, some (.int a3), some (.int a4)] (by decide) (Nat.le_of_ble_eq_true rfl) (bf_s1 (bf_s1 (bf_sn (bf_s1 (bf_s1 bf_s0))))) ?_
  intro X hl C hR e1 e2 e3 e4
  subst e1; subst e2; subst e3; subst e4
  exact t_X9_notMoreKeys C hR S a1 a3 a4 Q h
def wp_X9_coverOf_5b (S : bT9) (x1 : Int32) (x2 : Int64) (x4 : Int32) (Q : Int64 → (bT9) → Prop) (B5 : Int32 → Int64 → Int32 → (bT9) → Prop) : Prop := (wp_X9_leaves S (fun r1 u2 => ((r1 ≤ x4 → (Q x2 u2)) ∧ (¬ r1 ≤ x4 → (wp_X9_nextBits u2 (fun r3 => (wp_X9_bounds u2 (x4) (r3) (fun u6 => (wp_X9_notMoreKeys u6 ((b9g_highKey u6)) ((b9g_highLength u6)) (x1) (fun r7 => (wp_X9_lessKeys u6 ((b9g_lowKey u6)) ((b9g_lowLength u6)) (x1) (fun r9 => (B5 (x1) (((x2 + r7) - r9)) ((x4 + (1 : Int32))) u6)))))))))))))
set_option maxRecDepth 20000 in
theorem t_X9_coverOf_5b {X : bf_X} (C : bf_C X RX9 cX9_coverOf 5 (some .long)) (hR : bf_Rm X 4 89) (S : bT9) (x1 : Int32) (x2 : Int64) (x4 : Int32) (Q : Int64 → (bT9) → Prop) (B5 : Int32 → Int64 → Int32 → (bT9) → Prop) (hB5 : ∀ (x1 : Int32) (x2 : Int64) (x4 : Int32) (S : bT9), B5 x1 x2 x4 S → bf_A X (bf_Zl X bW9 Q) 5 5 [some (.ref 0), some (.int x1), some (.long x2), none, some (.int x4)] [] (bW9 S)) (h : wp_X9_coverOf_5b S x1 x2 x4 Q B5) : bf_A X (bf_Zl X bW9 Q) 5 5 [some (.ref 0), some (.int x1), some (.long x2), none, some (.int x4)] [] (bW9 S) := by
  unfold wp_X9_coverOf_5b at h
  refine bs_iload C (bf_dk dd_X9_coverOf 4 rfl) rfl ?_
  refine bs_aload_n C (bf_dk dd_X9_coverOf 5 rfl) rfl ?_
  refine bs_selfV_i C hR (c_X9_leaves _ _ _ _ _ S _ h) my_X9_leaves m_9_268 rfl cl_9 (ge_bW9_0 _) rfl (Nat.le_of_ble_eq_true rfl) (Nat.le_of_ble_eq_true rfl) (st := [.int x4]) (Nat.le_of_ble_eq_true rfl) (bf_dk dd_X9_coverOf 6 rfl) rfl (len := 21) (fun _ => rfl) (fun r1 u2 h => ?_)
  refine bs_icmp_ge C (bf_dk dd_X9_coverOf 7 rfl) (tgt := 60) rfl (fun c => ?_) (fun c => ?_)
  · replace h := h.1 c
    refine bs_lload_n C (bf_dk dd_X9_coverOf 33 rfl) rfl ?_
    exact bs_lret (u := u2) C (bf_dk dd_X9_coverOf 34 rfl) rfl h
  · replace h := h.2 c
    refine bs_aload_n C (bf_dk dd_X9_coverOf 8 rfl) rfl ?_
    refine bs_iload C (bf_dk dd_X9_coverOf 9 rfl) rfl ?_
    refine bs_aload_n C (bf_dk dd_X9_coverOf 10 rfl) rfl ?_
    refine bs_selfPV_i C hR (c_X9_nextBits _ _ _ _ _ u2 _ h) my_X9_nextBits m_9_313 rfl cl_9 (ge_bW9_0 _) rfl (Nat.le_of_ble_eq_true rfl) (Nat.le_of_ble_eq_true rfl) (st := [.int x4, .ref 0]) (Nat.le_of_ble_eq_true rfl) (bf_dk dd_X9_coverOf 11 rfl) rfl (fun r3 h => ?_)
    refine bs_selfV_v C hR (c_X9_bounds _ _ _ _ _ u2 (x4) (r3) _ h) my_X9_bounds m_9_292 rfl cl_9 (ge_bW9_0 _) rfl (Nat.le_of_ble_eq_true rfl) (Nat.le_of_ble_eq_true rfl) (st := []) (Nat.le_of_ble_eq_true rfl) (bf_dk dd_X9_coverOf 12 rfl) rfl (len := 21) (fun _ => rfl) (fun u6 h => ?_)
    refine bs_lload_n C (bf_dk dd_X9_coverOf 13 rfl) rfl ?_
    refine bs_aload_n C (bf_dk dd_X9_coverOf 14 rfl) rfl ?_
    refine bs_aload_n C (bf_dk dd_X9_coverOf 15 rfl) rfl ?_
    refine bs_get C (bf_dk dd_X9_coverOf 16 rfl) cl_9 in_9 29 (Nat.le_of_ble_eq_true rfl) rfl f_9_277 (ge_bW9_0 u6) rfl ?_
    refine bs_aload_n C (bf_dk dd_X9_coverOf 17 rfl) rfl ?_
    refine bs_get C (bf_dk dd_X9_coverOf 18 rfl) cl_9 in_9 31 (Nat.le_of_ble_eq_true rfl) rfl f_9_280 (ge_bW9_0 u6) rfl ?_
    refine bs_iload_n C (bf_dk dd_X9_coverOf 19 rfl) rfl ?_
    refine bs_selfPV_l C hR (c_X9_notMoreKeys _ _ _ _ _ u6 ((b9g_highKey u6)) ((b9g_highLength u6)) (x1) _ h) my_X9_notMoreKeys m_9_415 rfl cl_9 (ge_bW9_0 _) rfl (Nat.le_of_ble_eq_true rfl) (Nat.le_of_ble_eq_true rfl) (st := [.long x2]) (Nat.le_of_ble_eq_true rfl) (bf_dk dd_X9_coverOf 20 rfl) rfl (fun r7 h => ?_)
    refine bs_ladd C (bf_dk dd_X9_coverOf 21 rfl) ?_
    refine bs_aload_n C (bf_dk dd_X9_coverOf 22 rfl) rfl ?_
    refine bs_aload_n C (bf_dk dd_X9_coverOf 23 rfl) rfl ?_
    refine bs_get C (bf_dk dd_X9_coverOf 24 rfl) cl_9 in_9 28 (Nat.le_of_ble_eq_true rfl) rfl f_9_271 (ge_bW9_0 u6) rfl ?_
    refine bs_aload_n C (bf_dk dd_X9_coverOf 25 rfl) rfl ?_
    refine bs_get C (bf_dk dd_X9_coverOf 26 rfl) cl_9 in_9 30 (Nat.le_of_ble_eq_true rfl) rfl f_9_274 (ge_bW9_0 u6) rfl ?_
    refine bs_iload_n C (bf_dk dd_X9_coverOf 27 rfl) rfl ?_
    refine bs_selfPV_l C hR (c_X9_lessKeys _ _ _ _ _ u6 ((b9g_lowKey u6)) ((b9g_lowLength u6)) (x1) _ h) my_X9_lessKeys m_9_411 rfl cl_9 (ge_bW9_0 _) rfl (Nat.le_of_ble_eq_true rfl) (Nat.le_of_ble_eq_true rfl) (st := [.long (x2 + r7)]) (Nat.le_of_ble_eq_true rfl) (bf_dk dd_X9_coverOf 28 rfl) rfl (fun r9 h => ?_)
    refine bs_lsub C (bf_dk dd_X9_coverOf 29 rfl) ?_
    refine bs_lstore_n C (bf_dk dd_X9_coverOf 30 rfl) rfl (Nat.le_of_ble_eq_true rfl) (Nat.le_of_ble_eq_true rfl) (lv2 := [some (.ref 0), some (.int x1), some (.long ((x2 + r7) - r9)), none, some (.int x4)]) rfl ?_
    refine bs_iinc C (bf_dk dd_X9_coverOf 31 rfl) (x4 + (1 : Int32)) rfl rfl (Nat.le_of_ble_eq_true rfl) (Nat.le_of_ble_eq_true rfl) (lv2 := [some (.ref 0), some (.int x1), some (.long ((x2 + r7) - r9)), none, some (.int (x4 + (1 : Int32)))]) rfl ?_
    refine bs_goto C (bf_dk dd_X9_coverOf 32 rfl) (tgt := 5) rfl ?_
    exact bs_weak (bf_s1 (bf_s1 (bf_s1 (bf_sn (bf_s1 bf_s0))))) (hB5 (x1) (((x2 + r7) - r9)) ((x4 + (1 : Int32))) u6 h)
def wp_X9_coverOf_5 (S : bT9) (x1 : Int32) (x2 : Int64) (x4 : Int32) (Q : Int64 → (bT9) → Prop) : Prop := ∃ I : Nat → Int32 → Int64 → Int32 → (bT9) → Prop, (∃ n : Nat, I n x1 x2 x4 S) ∧ ∀ (n : Nat) (x1 : Int32) (x2 : Int64) (x4 : Int32) (S : bT9), I n x1 x2 x4 S → wp_X9_coverOf_5b S x1 x2 x4 Q (fun x1 x2 x4 S => ∃ n2 : Nat, n2 < n ∧ I n2 x1 x2 x4 S)
theorem t_X9_coverOf_5 {X : bf_X} (C : bf_C X RX9 cX9_coverOf 5 (some .long)) (hR : bf_Rm X 4 89) (S : bT9) (x1 : Int32) (x2 : Int64) (x4 : Int32) (Q : Int64 → (bT9) → Prop) (h : wp_X9_coverOf_5 S x1 x2 x4 Q) : bf_A X (bf_Zl X bW9 Q) 5 5 [some (.ref 0), some (.int x1), some (.long x2), none, some (.int x4)] [] (bW9 S) := by
  obtain ⟨I, ⟨n0, h0⟩, hI⟩ := h
  have key : ∀ (n : Nat) (x1 : Int32) (x2 : Int64) (x4 : Int32) (S : bT9), I n x1 x2 x4 S → bf_A X (bf_Zl X bW9 Q) 5 5 [some (.ref 0), some (.int x1), some (.long x2), none, some (.int x4)] [] (bW9 S) := by
    intro n
    induction n using Nat.strongRecOn with
    | _ n ih =>
      intro x1 x2 x4 S hi
      exact t_X9_coverOf_5b C hR S x1 x2 x4 Q _ (fun x1 x2 x4 S hb => by obtain ⟨n2, hn, hi2⟩ := hb; exact ih n2 hn x1 x2 x4 S hi2) (hI n x1 x2 x4 S hi)
  exact key n0 x1 x2 x4 S h0
def wp_X9_coverOf (S : bT9) (a1 : Int32) (Q : Int64 → (bT9) → Prop) : Prop := (wp_X9_coverOf_5 S (a1) ((0 : Int64)) ((0 : Int32)) Q)
set_option maxRecDepth 20000 in
theorem t_X9_coverOf {X : bf_X} (C : bf_C X RX9 cX9_coverOf 5 (some .long)) (hR : bf_Rm X 4 89) (S : bT9) (a1 : Int32) (Q : Int64 → (bT9) → Prop) (h : wp_X9_coverOf S a1 Q) : bf_A X (bf_Zl X bW9 Q) 5 0 [some (.ref 0), some (.int a1), none, none, none] [] (bW9 S) := by
  unfold wp_X9_coverOf at h
  refine bs_lconst C (bf_dk dd_X9_coverOf 0 rfl) (0 : Int64) (by decide) ?_
  refine bs_lstore_n C (bf_dk dd_X9_coverOf 1 rfl) rfl (Nat.le_of_ble_eq_true rfl) (Nat.le_of_ble_eq_true rfl) (lv2 := [some (.ref 0), some (.int a1), some (.long (0 : Int64)), none, none]) rfl ?_
  refine bs_iconst C (bf_dk dd_X9_coverOf 2 rfl) (0 : Int32) (by decide) ?_
  refine bs_istore C (bf_dk dd_X9_coverOf 3 rfl) (Nat.le_of_ble_eq_true rfl) (Nat.le_of_ble_eq_true rfl) (lv2 := [some (.ref 0), some (.int a1), some (.long (0 : Int64)), none, some (.int (0 : Int32))]) rfl ?_
  exact bs_weak (bf_s1 (bf_s1 (bf_s1 (bf_sn (bf_s1 bf_s0))))) (t_X9_coverOf_5 C hR S (a1) ((0 : Int64)) ((0 : Int32)) Q h)
theorem c_X9_coverOf (l : Launch) (dC : Nat → ClassId) (dI : Nat → Nat → Nat) (ac : Nat → ClassId) (al : Nat → Nat) (S : bT9) (a1 : Int32) (Q : Int64 → (bT9) → Prop) (h : wp_X9_coverOf S a1 Q) : bf_M l yX9_coverOf cX9_coverOf 5 (some .long) 4 89 dC dI ac al [.ref 0, .int a1] (bW9 S) (bf_Kl dC dI ac al bW9 Q) := by
  refine bf_start [some (.ref 0), some (.int a1), none, none, none] (by decide) (Nat.le_of_ble_eq_true rfl) (bf_s1 (bf_s1 (bf_en 3))) ?_
  intro X hl C hR e1 e2 e3 e4
  subst e1; subst e2; subst e3; subst e4
  exact t_X9_coverOf C hR S a1 Q h
def wp_X9_cover (S : bT9) (a1 : Int32) (Q : Int64 → (bT9) → Prop) : Prop := (∀ S1 : bT9, S1 = (b9s_told S (0 : Int32)) → (wp_X9_isIn S1 (a1) ((1 : Int32)) ((7 : Int32)) (fun r2 => ((r2 = 0 → (Q (-1 : Int64) S1)) ∧ (¬ r2 = 0 → (wp_X9_coverOf S1 (a1) (fun r4 u5 => (Q r4 u5))))))))
set_option maxRecDepth 20000 in
theorem t_X9_cover {X : bf_X} (C : bf_C X RX9 cX9_cover 2 (some .long)) (hR : bf_Rm X 5 113) (S : bT9) (a1 : Int32) (Q : Int64 → (bT9) → Prop) (h : wp_X9_cover S a1 Q) : bf_A X (bf_Zl X bW9 Q) 2 0 [some (.ref 0), some (.int a1)] [] (bW9 S) := by
  unfold wp_X9_cover at h
  refine bs_aload_n C (bf_dk dd_X9_cover 0 rfl) rfl ?_
  refine bs_iconst C (bf_dk dd_X9_cover 1 rfl) (0 : Int32) (by decide) ?_
  refine bs_put C (bf_dk dd_X9_cover 2 rfl) tyX9_ok nmX9 cl_9 in_9 0 (Nat.le_of_ble_eq_true rfl) rfl f_9_75 rfl (ge_bW9_0 S) (Nat.le_of_ble_eq_true rfl) rfl rfl (pu_bW9_0_0 S (0 : Int32)) ?_
  refine bs_nameS bW9 (fun S1 eS1 => ?_)
  replace h := h S1 eS1
  refine bs_aload_n C (bf_dk dd_X9_cover 3 rfl) rfl ?_
  refine bs_iload_n C (bf_dk dd_X9_cover 4 rfl) rfl ?_
  refine bs_iconst C (bf_dk dd_X9_cover 5 rfl) (1 : Int32) (by decide) ?_
  refine bs_bipush C (bf_dk dd_X9_cover 6 rfl) (7 : Int32) (by decide) ?_
  refine bs_selfPV_i C hR (c_X9_isIn _ _ _ _ _ S1 (a1) ((1 : Int32)) ((7 : Int32)) _ h) my_X9_isIn m_9_82 rfl cl_9 (ge_bW9_0 _) rfl (Nat.le_of_ble_eq_true rfl) (Nat.le_of_ble_eq_true rfl) (st := []) (Nat.le_of_ble_eq_true rfl) (bf_dk dd_X9_cover 7 rfl) rfl (fun r2 h => ?_)
  refine bs_if_eq C (bf_dk dd_X9_cover 8 rfl) (tgt := 24) rfl (fun c => ?_) (fun c => ?_)
  · replace h := h.1 c
    refine bs_ldc2 C (bf_dk dd_X9_cover 13 rfl) k_9_290 ?_
    exact bs_lret (u := S1) C (bf_dk dd_X9_cover 14 rfl) rfl h
  · replace h := h.2 c
    refine bs_aload_n C (bf_dk dd_X9_cover 9 rfl) rfl ?_
    refine bs_iload_n C (bf_dk dd_X9_cover 10 rfl) rfl ?_
    refine bs_selfV_l C hR (c_X9_coverOf _ _ _ _ _ S1 (a1) _ h) my_X9_coverOf m_9_418 rfl cl_9 (ge_bW9_0 _) rfl (Nat.le_of_ble_eq_true rfl) (Nat.le_of_ble_eq_true rfl) (st := []) (Nat.le_of_ble_eq_true rfl) (bf_dk dd_X9_cover 11 rfl) rfl (len := 21) (fun _ => rfl) (fun r4 u5 h => ?_)
    refine bs_goto C (bf_dk dd_X9_cover 12 rfl) (tgt := 27) rfl ?_
    exact bs_lret (u := u5) C (bf_dk dd_X9_cover 14 rfl) rfl h
theorem c_X9_cover (l : Launch) (dC : Nat → ClassId) (dI : Nat → Nat → Nat) (ac : Nat → ClassId) (al : Nat → Nat) (S : bT9) (a1 : Int32) (Q : Int64 → (bT9) → Prop) (h : wp_X9_cover S a1 Q) : bf_M l yX9_cover cX9_cover 2 (some .long) 5 113 dC dI ac al [.ref 0, .int a1] (bW9 S) (bf_Kl dC dI ac al bW9 Q) := by
  refine bf_start [some (.ref 0), some (.int a1)] (by decide) (Nat.le_of_ble_eq_true rfl) (bf_s1 (bf_s1 bf_s0)) ?_
  intro X hl C hR e1 e2 e3 e4
  subst e1; subst e2; subst e3; subst e4
  exact t_X9_cover C hR S a1 Q h
def wp_X9_loose_55 (S : bT9) (x1 : Int32) (x2 : Int64) (x4 : Int32) (Q : Int64 → (bT9) → Prop) (B29 : Int32 → Int64 → Int32 → (bT9) → Prop) : Prop := (B29 (x1) (x2) ((x4 + (1 : Int32))) S)
set_option maxRecDepth 20000 in
theorem t_X9_loose_55 {X : bf_X} (C : bf_C X RX9 cX9_loose 5 (some .long)) (hR : bf_Rm X 5 113) (S : bT9) (x1 : Int32) (x2 : Int64) (x4 : Int32) (Q : Int64 → (bT9) → Prop) (B29 : Int32 → Int64 → Int32 → (bT9) → Prop) (hB29 : ∀ (x1 : Int32) (x2 : Int64) (x4 : Int32) (S : bT9), B29 x1 x2 x4 S → bf_A X (bf_Zl X bW9 Q) 5 29 [some (.ref 0), some (.int x1), some (.long x2), none, some (.int x4)] [] (bW9 S)) (h : wp_X9_loose_55 S x1 x2 x4 Q B29) : bf_A X (bf_Zl X bW9 Q) 5 55 [some (.ref 0), some (.int x1), some (.long x2), none, some (.int x4)] [] (bW9 S) := by
  unfold wp_X9_loose_55 at h
  refine bs_iinc C (bf_dk dd_X9_loose 32 rfl) (x4 + (1 : Int32)) rfl rfl (Nat.le_of_ble_eq_true rfl) (Nat.le_of_ble_eq_true rfl) (lv2 := [some (.ref 0), some (.int x1), some (.long x2), none, some (.int (x4 + (1 : Int32)))]) rfl ?_
  refine bs_goto C (bf_dk dd_X9_loose 33 rfl) (tgt := 29) rfl ?_
  exact bs_weak (bf_s1 (bf_s1 (bf_s1 (bf_sn (bf_s1 bf_s0))))) (hB29 (x1) (x2) ((x4 + (1 : Int32))) S h)
def wp_X9_loose_29b (S : bT9) (x1 : Int32) (x2 : Int64) (x4 : Int32) (Q : Int64 → (bT9) → Prop) (B29 : Int32 → Int64 → Int32 → (bT9) → Prop) : Prop := (vp_in (9 : Int32) 23 ∧ ((((b9g_now S) ((9 : Int32)).toNatClampNeg) ≤ x4 → (Q x2 S)) ∧ (¬ ((b9g_now S) ((9 : Int32)).toNatClampNeg) ≤ x4 → (wp_X9_lengthOf S (x4) (fun r1 => ((¬ r1 = x1 → (wp_X9_loose_55 S (x1) (x2) (x4) Q B29)) ∧ (r1 = x1 → (wp_X9_loose_55 S (x1) ((x2 - (1 : Int64))) (x4) Q B29))))))))
set_option maxRecDepth 20000 in
theorem t_X9_loose_29b {X : bf_X} (C : bf_C X RX9 cX9_loose 5 (some .long)) (hR : bf_Rm X 5 113) (S : bT9) (x1 : Int32) (x2 : Int64) (x4 : Int32) (Q : Int64 → (bT9) → Prop) (B29 : Int32 → Int64 → Int32 → (bT9) → Prop) (hB29 : ∀ (x1 : Int32) (x2 : Int64) (x4 : Int32) (S : bT9), B29 x1 x2 x4 S → bf_A X (bf_Zl X bW9 Q) 5 29 [some (.ref 0), some (.int x1), some (.long x2), none, some (.int x4)] [] (bW9 S)) (h : wp_X9_loose_29b S x1 x2 x4 Q B29) : bf_A X (bf_Zl X bW9 Q) 5 29 [some (.ref 0), some (.int x1), some (.long x2), none, some (.int x4)] [] (bW9 S) := by
  unfold wp_X9_loose_29b at h
  refine bs_iload C (bf_dk dd_X9_loose 17 rfl) rfl ?_
  refine bs_aload_n C (bf_dk dd_X9_loose 18 rfl) rfl ?_
  refine bs_get C (bf_dk dd_X9_loose 19 rfl) cl_9 in_9 1 (Nat.le_of_ble_eq_true rfl) rfl f_9_7 (ge_bW9_0 S) rfl ?_
  refine bs_bipush C (bf_dk dd_X9_loose 20 rfl) (9 : Int32) (by decide) ?_
  obtain ⟨hi, h⟩ := h
  refine bs_iald C (bf_dk dd_X9_loose 21 rfl) (ge_bW9_1 S) hi ?_
  refine bs_icmp_ge C (bf_dk dd_X9_loose 22 rfl) (tgt := 61) rfl (fun c => ?_) (fun c => ?_)
  · replace h := h.1 c
    refine bs_lload_n C (bf_dk dd_X9_loose 34 rfl) rfl ?_
    exact bs_lret (u := S) C (bf_dk dd_X9_loose 35 rfl) rfl h
  · replace h := h.2 c
    refine bs_aload_n C (bf_dk dd_X9_loose 23 rfl) rfl ?_
    refine bs_iload C (bf_dk dd_X9_loose 24 rfl) rfl ?_
    refine bs_selfPV_i C hR (c_X9_lengthOf _ _ _ _ _ S (x4) _ h) my_X9_lengthOf m_9_175 rfl cl_9 (ge_bW9_0 _) rfl (Nat.le_of_ble_eq_true rfl) (Nat.le_of_ble_eq_true rfl) (st := []) (Nat.le_of_ble_eq_true rfl) (bf_dk dd_X9_loose 25 rfl) rfl (fun r1 h => ?_)
    refine bs_iload_n C (bf_dk dd_X9_loose 26 rfl) rfl ?_
    refine bs_icmp_ne C (bf_dk dd_X9_loose 27 rfl) (tgt := 55) rfl (fun c => ?_) (fun c => ?_)
    · replace h := h.1 c
      exact bs_weak (bf_s1 (bf_s1 (bf_s1 (bf_sn (bf_s1 bf_s0))))) (t_X9_loose_55 C hR S (x1) (x2) (x4) Q B29 hB29 h)
    · replace h := h.2 c
      refine bs_lload_n C (bf_dk dd_X9_loose 28 rfl) rfl ?_
      refine bs_lconst C (bf_dk dd_X9_loose 29 rfl) (1 : Int64) (by decide) ?_
      refine bs_lsub C (bf_dk dd_X9_loose 30 rfl) ?_
      refine bs_lstore_n C (bf_dk dd_X9_loose 31 rfl) rfl (Nat.le_of_ble_eq_true rfl) (Nat.le_of_ble_eq_true rfl) (lv2 := [some (.ref 0), some (.int x1), some (.long (x2 - (1 : Int64))), none, some (.int x4)]) rfl ?_
      exact bs_weak (bf_s1 (bf_s1 (bf_s1 (bf_sn (bf_s1 bf_s0))))) (t_X9_loose_55 C hR S (x1) ((x2 - (1 : Int64))) (x4) Q B29 hB29 h)
def wp_X9_loose_29 (S : bT9) (x1 : Int32) (x2 : Int64) (x4 : Int32) (Q : Int64 → (bT9) → Prop) : Prop := ∃ I : Nat → Int32 → Int64 → Int32 → (bT9) → Prop, (∃ n : Nat, I n x1 x2 x4 S) ∧ ∀ (n : Nat) (x1 : Int32) (x2 : Int64) (x4 : Int32) (S : bT9), I n x1 x2 x4 S → wp_X9_loose_29b S x1 x2 x4 Q (fun x1 x2 x4 S => ∃ n2 : Nat, n2 < n ∧ I n2 x1 x2 x4 S)
theorem t_X9_loose_29 {X : bf_X} (C : bf_C X RX9 cX9_loose 5 (some .long)) (hR : bf_Rm X 5 113) (S : bT9) (x1 : Int32) (x2 : Int64) (x4 : Int32) (Q : Int64 → (bT9) → Prop) (h : wp_X9_loose_29 S x1 x2 x4 Q) : bf_A X (bf_Zl X bW9 Q) 5 29 [some (.ref 0), some (.int x1), some (.long x2), none, some (.int x4)] [] (bW9 S) := by
  obtain ⟨I, ⟨n0, h0⟩, hI⟩ := h
  have key : ∀ (n : Nat) (x1 : Int32) (x2 : Int64) (x4 : Int32) (S : bT9), I n x1 x2 x4 S → bf_A X (bf_Zl X bW9 Q) 5 29 [some (.ref 0), some (.int x1), some (.long x2), none, some (.int x4)] [] (bW9 S) := by
    intro n
    induction n using Nat.strongRecOn with
    | _ n ih =>
      intro x1 x2 x4 S hi
      exact t_X9_loose_29b C hR S x1 x2 x4 Q _ (fun x1 x2 x4 S hb => by obtain ⟨n2, hn, hi2⟩ := hb; exact ih n2 hn x1 x2 x4 S hi2) (hI n x1 x2 x4 S hi)
  exact key n0 x1 x2 x4 S h0
def wp_X9_loose (S : bT9) (a1 : Int32) (Q : Int64 → (bT9) → Prop) : Prop := (∀ S3 : bT9, S3 = (b9s_told S (0 : Int32)) → (wp_X9_isIn S3 (a1) ((1 : Int32)) ((7 : Int32)) (fun r4 => ((¬ r4 = 0 → (wp_X9_coverOf S3 (a1) (fun r6 u7 => (wp_X9_loose_29 u7 (a1) (r6) ((0 : Int32)) Q)))) ∧ (r4 = 0 → (Q (-1 : Int64) S3))))))
set_option maxRecDepth 20000 in
theorem t_X9_loose {X : bf_X} (C : bf_C X RX9 cX9_loose 5 (some .long)) (hR : bf_Rm X 5 113) (S : bT9) (a1 : Int32) (Q : Int64 → (bT9) → Prop) (h : wp_X9_loose S a1 Q) : bf_A X (bf_Zl X bW9 Q) 5 0 [some (.ref 0), some (.int a1), none, none, none] [] (bW9 S) := by
  unfold wp_X9_loose at h
  refine bs_aload_n C (bf_dk dd_X9_loose 0 rfl) rfl ?_
  refine bs_iconst C (bf_dk dd_X9_loose 1 rfl) (0 : Int32) (by decide) ?_
  refine bs_put C (bf_dk dd_X9_loose 2 rfl) tyX9_ok nmX9 cl_9 in_9 0 (Nat.le_of_ble_eq_true rfl) rfl f_9_75 rfl (ge_bW9_0 S) (Nat.le_of_ble_eq_true rfl) rfl rfl (pu_bW9_0_0 S (0 : Int32)) ?_
  refine bs_nameS bW9 (fun S3 eS3 => ?_)
  replace h := h S3 eS3
  refine bs_aload_n C (bf_dk dd_X9_loose 3 rfl) rfl ?_
  refine bs_iload_n C (bf_dk dd_X9_loose 4 rfl) rfl ?_
  refine bs_iconst C (bf_dk dd_X9_loose 5 rfl) (1 : Int32) (by decide) ?_
  refine bs_bipush C (bf_dk dd_X9_loose 6 rfl) (7 : Int32) (by decide) ?_
  refine bs_selfPV_i C hR (c_X9_isIn _ _ _ _ _ S3 (a1) ((1 : Int32)) ((7 : Int32)) _ h) my_X9_isIn m_9_82 rfl cl_9 (ge_bW9_0 _) rfl (Nat.le_of_ble_eq_true rfl) (Nat.le_of_ble_eq_true rfl) (st := []) (Nat.le_of_ble_eq_true rfl) (bf_dk dd_X9_loose 7 rfl) rfl (fun r4 h => ?_)
  refine bs_if_ne C (bf_dk dd_X9_loose 8 rfl) (tgt := 20) rfl (fun c => ?_) (fun c => ?_)
  · replace h := h.1 c
    refine bs_aload_n C (bf_dk dd_X9_loose 11 rfl) rfl ?_
    refine bs_iload_n C (bf_dk dd_X9_loose 12 rfl) rfl ?_
    refine bs_selfV_l C hR (c_X9_coverOf _ _ _ _ _ S3 (a1) _ h) my_X9_coverOf m_9_418 rfl cl_9 (ge_bW9_0 _) rfl (Nat.le_of_ble_eq_true rfl) (Nat.le_of_ble_eq_true rfl) (st := []) (Nat.le_of_ble_eq_true rfl) (bf_dk dd_X9_loose 13 rfl) rfl (len := 21) (fun _ => rfl) (fun r6 u7 h => ?_)
    refine bs_lstore_n C (bf_dk dd_X9_loose 14 rfl) rfl (Nat.le_of_ble_eq_true rfl) (Nat.le_of_ble_eq_true rfl) (lv2 := [some (.ref 0), some (.int a1), some (.long r6), none, none]) rfl ?_
    refine bs_iconst C (bf_dk dd_X9_loose 15 rfl) (0 : Int32) (by decide) ?_
    refine bs_istore C (bf_dk dd_X9_loose 16 rfl) (Nat.le_of_ble_eq_true rfl) (Nat.le_of_ble_eq_true rfl) (lv2 := [some (.ref 0), some (.int a1), some (.long r6), none, some (.int (0 : Int32))]) rfl ?_
    exact bs_weak (bf_s1 (bf_s1 (bf_s1 (bf_sn (bf_s1 bf_s0))))) (t_X9_loose_29 C hR u7 (a1) (r6) ((0 : Int32)) Q h)
  · replace h := h.2 c
    refine bs_ldc2 C (bf_dk dd_X9_loose 9 rfl) k_9_290 ?_
    exact bs_lret (u := S3) C (bf_dk dd_X9_loose 10 rfl) rfl h
theorem c_X9_loose (l : Launch) (dC : Nat → ClassId) (dI : Nat → Nat → Nat) (ac : Nat → ClassId) (al : Nat → Nat) (S : bT9) (a1 : Int32) (Q : Int64 → (bT9) → Prop) (h : wp_X9_loose S a1 Q) : bf_M l yX9_loose cX9_loose 5 (some .long) 5 113 dC dI ac al [.ref 0, .int a1] (bW9 S) (bf_Kl dC dI ac al bW9 Q) := by
  refine bf_start [some (.ref 0), some (.int a1), none, none, none] (by decide) (Nat.le_of_ble_eq_true rfl) (bf_s1 (bf_s1 (bf_en 3))) ?_
  intro X hl C hR e1 e2 e3 e4
  subst e1; subst e2; subst e3; subst e4
  exact t_X9_loose C hR S a1 Q h
def wp_X9_free_64 (S : bT9) (x1 : Int32) (x2 : Int32) (x3 : Int64) (Q : Int64 → (bT9) → Prop) : Prop := (vp_in (9 : Int32) 23 ∧ ((¬ x1 = ((b9g_now S) ((9 : Int32)).toNatClampNeg) → (wp_X9_nextBits S (fun r1 => (wp_X9_bounds S (x1) (r1) (fun u4 => (wp_X9_lessKeys u4 ((b9g_lowKey u4)) ((b9g_lowLength u4)) (x2) (fun r5 => (Q (r5 - x3) u4)))))))) ∧ (x1 = ((b9g_now S) ((9 : Int32)).toNatClampNeg) → (wp_X9_powerOf S (x2) (fun r7 => (Q (r7 - x3) S))))))
set_option maxRecDepth 20000 in
theorem t_X9_free_64 {X : bf_X} (C : bf_C X RX9 cX9_free 5 (some .long)) (hR : bf_Rm X 4 89) (S : bT9) (x1 : Int32) (x2 : Int32) (x3 : Int64) (Q : Int64 → (bT9) → Prop) (h : wp_X9_free_64 S x1 x2 x3 Q) : bf_A X (bf_Zl X bW9 Q) 5 64 [some (.ref 0), some (.int x1), some (.int x2), some (.long x3), none] [] (bW9 S) := by
  unfold wp_X9_free_64 at h
  refine bs_iload_n C (bf_dk dd_X9_free 37 rfl) rfl ?_
  refine bs_aload_n C (bf_dk dd_X9_free 38 rfl) rfl ?_
  refine bs_get C (bf_dk dd_X9_free 39 rfl) cl_9 in_9 1 (Nat.le_of_ble_eq_true rfl) rfl f_9_7 (ge_bW9_0 S) rfl ?_
  refine bs_bipush C (bf_dk dd_X9_free 40 rfl) (9 : Int32) (by decide) ?_
  obtain ⟨hi, h⟩ := h
  refine bs_iald C (bf_dk dd_X9_free 41 rfl) (ge_bW9_1 S) hi ?_
  refine bs_icmp_ne C (bf_dk dd_X9_free 42 rfl) (tgt := 83) rfl (fun c => ?_) (fun c => ?_)
  · replace h := h.1 c
    refine bs_aload_n C (bf_dk dd_X9_free 49 rfl) rfl ?_
    refine bs_iload_n C (bf_dk dd_X9_free 50 rfl) rfl ?_
    refine bs_aload_n C (bf_dk dd_X9_free 51 rfl) rfl ?_
    refine bs_selfPV_i C hR (c_X9_nextBits _ _ _ _ _ S _ h) my_X9_nextBits m_9_313 rfl cl_9 (ge_bW9_0 _) rfl (Nat.le_of_ble_eq_true rfl) (Nat.le_of_ble_eq_true rfl) (st := [.int x1, .ref 0]) (Nat.le_of_ble_eq_true rfl) (bf_dk dd_X9_free 52 rfl) rfl (fun r1 h => ?_)
    refine bs_selfV_v C hR (c_X9_bounds _ _ _ _ _ S (x1) (r1) _ h) my_X9_bounds m_9_292 rfl cl_9 (ge_bW9_0 _) rfl (Nat.le_of_ble_eq_true rfl) (Nat.le_of_ble_eq_true rfl) (st := []) (Nat.le_of_ble_eq_true rfl) (bf_dk dd_X9_free 53 rfl) rfl (len := 21) (fun _ => rfl) (fun u4 h => ?_)
    refine bs_aload_n C (bf_dk dd_X9_free 54 rfl) rfl ?_
    refine bs_aload_n C (bf_dk dd_X9_free 55 rfl) rfl ?_
    refine bs_get C (bf_dk dd_X9_free 56 rfl) cl_9 in_9 28 (Nat.le_of_ble_eq_true rfl) rfl f_9_271 (ge_bW9_0 u4) rfl ?_
    refine bs_aload_n C (bf_dk dd_X9_free 57 rfl) rfl ?_
    refine bs_get C (bf_dk dd_X9_free 58 rfl) cl_9 in_9 30 (Nat.le_of_ble_eq_true rfl) rfl f_9_274 (ge_bW9_0 u4) rfl ?_
    refine bs_iload_n C (bf_dk dd_X9_free 59 rfl) rfl ?_
    refine bs_selfPV_l C hR (c_X9_lessKeys _ _ _ _ _ u4 ((b9g_lowKey u4)) ((b9g_lowLength u4)) (x2) _ h) my_X9_lessKeys m_9_411 rfl cl_9 (ge_bW9_0 _) rfl (Nat.le_of_ble_eq_true rfl) (Nat.le_of_ble_eq_true rfl) (st := []) (Nat.le_of_ble_eq_true rfl) (bf_dk dd_X9_free 60 rfl) rfl (fun r5 h => ?_)
    refine bs_lload_n C (bf_dk dd_X9_free 61 rfl) rfl ?_
    refine bs_lsub C (bf_dk dd_X9_free 62 rfl) ?_
    exact bs_lret (u := u4) C (bf_dk dd_X9_free 63 rfl) rfl h
  · replace h := h.2 c
    refine bs_aload_n C (bf_dk dd_X9_free 43 rfl) rfl ?_
    refine bs_iload_n C (bf_dk dd_X9_free 44 rfl) rfl ?_
    refine bs_selfPV_l C hR (c_X9_powerOf _ _ _ _ _ S (x2) _ h) my_X9_powerOf m_9_421 rfl cl_9 (ge_bW9_0 _) rfl (Nat.le_of_ble_eq_true rfl) (Nat.le_of_ble_eq_true rfl) (st := []) (Nat.le_of_ble_eq_true rfl) (bf_dk dd_X9_free 45 rfl) rfl (fun r7 h => ?_)
    refine bs_lload_n C (bf_dk dd_X9_free 46 rfl) rfl ?_
    refine bs_lsub C (bf_dk dd_X9_free 47 rfl) ?_
    exact bs_lret (u := S) C (bf_dk dd_X9_free 48 rfl) rfl h
def wp_X9_free (S : bT9) (a1 : Int32) (a2 : Int32) (Q : Int64 → (bT9) → Prop) : Prop := (∀ S9 : bT9, S9 = (b9s_told S (0 : Int32)) → (wp_X9_leaves S9 (fun r10 u11 => (wp_X9_isIn u11 (a1) ((0 : Int32)) (r10) (fun r12 => ((r12 = 0 → (Q (-1 : Int64) u11)) ∧ (¬ r12 = 0 → (wp_X9_isIn u11 (a2) ((1 : Int32)) ((7 : Int32)) (fun r14 => ((¬ r14 = 0 → ((a1 ≤ 0 → (wp_X9_free_64 u11 (a1) (a2) ((0 : Int64)) Q)) ∧ (¬ a1 ≤ 0 → (wp_X9_nextBits u11 (fun r16 => (wp_X9_bounds u11 ((a1 - (1 : Int32))) (r16) (fun u19 => (wp_X9_notMoreKeys u19 ((b9g_highKey u19)) ((b9g_highLength u19)) (a2) (fun r20 => (wp_X9_free_64 u19 (a1) (a2) (r20) Q)))))))))) ∧ (r14 = 0 → (Q (-1 : Int64) u11))))))))))))
set_option maxRecDepth 20000 in
theorem t_X9_free {X : bf_X} (C : bf_C X RX9 cX9_free 5 (some .long)) (hR : bf_Rm X 4 89) (S : bT9) (a1 : Int32) (a2 : Int32) (Q : Int64 → (bT9) → Prop) (h : wp_X9_free S a1 a2 Q) : bf_A X (bf_Zl X bW9 Q) 5 0 [some (.ref 0), some (.int a1), some (.int a2), none, none] [] (bW9 S) := by
  unfold wp_X9_free at h
  refine bs_aload_n C (bf_dk dd_X9_free 0 rfl) rfl ?_
  refine bs_iconst C (bf_dk dd_X9_free 1 rfl) (0 : Int32) (by decide) ?_
  refine bs_put C (bf_dk dd_X9_free 2 rfl) tyX9_ok nmX9 cl_9 in_9 0 (Nat.le_of_ble_eq_true rfl) rfl f_9_75 rfl (ge_bW9_0 S) (Nat.le_of_ble_eq_true rfl) rfl rfl (pu_bW9_0_0 S (0 : Int32)) ?_
  refine bs_nameS bW9 (fun S9 eS9 => ?_)
  replace h := h S9 eS9
  refine bs_aload_n C (bf_dk dd_X9_free 3 rfl) rfl ?_
  refine bs_iload_n C (bf_dk dd_X9_free 4 rfl) rfl ?_
  refine bs_iconst C (bf_dk dd_X9_free 5 rfl) (0 : Int32) (by decide) ?_
  refine bs_aload_n C (bf_dk dd_X9_free 6 rfl) rfl ?_
  refine bs_selfV_i C hR (c_X9_leaves _ _ _ _ _ S9 _ h) my_X9_leaves m_9_268 rfl cl_9 (ge_bW9_0 _) rfl (Nat.le_of_ble_eq_true rfl) (Nat.le_of_ble_eq_true rfl) (st := [.int (0 : Int32), .int a1, .ref 0]) (Nat.le_of_ble_eq_true rfl) (bf_dk dd_X9_free 7 rfl) rfl (len := 21) (fun _ => rfl) (fun r10 u11 h => ?_)
  refine bs_selfPV_i C hR (c_X9_isIn _ _ _ _ _ u11 (a1) ((0 : Int32)) (r10) _ h) my_X9_isIn m_9_82 rfl cl_9 (ge_bW9_0 _) rfl (Nat.le_of_ble_eq_true rfl) (Nat.le_of_ble_eq_true rfl) (st := []) (Nat.le_of_ble_eq_true rfl) (bf_dk dd_X9_free 8 rfl) rfl (fun r12 h => ?_)
  refine bs_if_eq C (bf_dk dd_X9_free 9 rfl) (tgt := 29) rfl (fun c => ?_) (fun c => ?_)
  · replace h := h.1 c
    refine bs_ldc2 C (bf_dk dd_X9_free 16 rfl) k_9_290 ?_
    exact bs_lret (u := u11) C (bf_dk dd_X9_free 17 rfl) rfl h
  · replace h := h.2 c
    refine bs_aload_n C (bf_dk dd_X9_free 10 rfl) rfl ?_
    refine bs_iload_n C (bf_dk dd_X9_free 11 rfl) rfl ?_
    refine bs_iconst C (bf_dk dd_X9_free 12 rfl) (1 : Int32) (by decide) ?_
    refine bs_bipush C (bf_dk dd_X9_free 13 rfl) (7 : Int32) (by decide) ?_
    refine bs_selfPV_i C hR (c_X9_isIn _ _ _ _ _ u11 (a2) ((1 : Int32)) ((7 : Int32)) _ h) my_X9_isIn m_9_82 rfl cl_9 (ge_bW9_0 _) rfl (Nat.le_of_ble_eq_true rfl) (Nat.le_of_ble_eq_true rfl) (st := []) (Nat.le_of_ble_eq_true rfl) (bf_dk dd_X9_free 14 rfl) rfl (fun r14 h => ?_)
    refine bs_if_ne C (bf_dk dd_X9_free 15 rfl) (tgt := 33) rfl (fun c => ?_) (fun c => ?_)
    · replace h := h.1 c
      refine bs_lconst C (bf_dk dd_X9_free 18 rfl) (0 : Int64) (by decide) ?_
      refine bs_lstore_n C (bf_dk dd_X9_free 19 rfl) rfl (Nat.le_of_ble_eq_true rfl) (Nat.le_of_ble_eq_true rfl) (lv2 := [some (.ref 0), some (.int a1), some (.int a2), some (.long (0 : Int64)), none]) rfl ?_
      refine bs_iload_n C (bf_dk dd_X9_free 20 rfl) rfl ?_
      refine bs_if_le C (bf_dk dd_X9_free 21 rfl) (tgt := 64) rfl (fun c => ?_) (fun c => ?_)
      · replace h := h.1 c
        exact bs_weak (bf_s1 (bf_s1 (bf_s1 (bf_s1 (bf_sn bf_s0))))) (t_X9_free_64 C hR u11 (a1) (a2) ((0 : Int64)) Q h)
      · replace h := h.2 c
        refine bs_aload_n C (bf_dk dd_X9_free 22 rfl) rfl ?_
        refine bs_iload_n C (bf_dk dd_X9_free 23 rfl) rfl ?_
        refine bs_iconst C (bf_dk dd_X9_free 24 rfl) (1 : Int32) (by decide) ?_
        refine bs_isub C (bf_dk dd_X9_free 25 rfl) ?_
        refine bs_aload_n C (bf_dk dd_X9_free 26 rfl) rfl ?_
        refine bs_selfPV_i C hR (c_X9_nextBits _ _ _ _ _ u11 _ h) my_X9_nextBits m_9_313 rfl cl_9 (ge_bW9_0 _) rfl (Nat.le_of_ble_eq_true rfl) (Nat.le_of_ble_eq_true rfl) (st := [.int (a1 - (1 : Int32)), .ref 0]) (Nat.le_of_ble_eq_true rfl) (bf_dk dd_X9_free 27 rfl) rfl (fun r16 h => ?_)
        refine bs_selfV_v C hR (c_X9_bounds _ _ _ _ _ u11 ((a1 - (1 : Int32))) (r16) _ h) my_X9_bounds m_9_292 rfl cl_9 (ge_bW9_0 _) rfl (Nat.le_of_ble_eq_true rfl) (Nat.le_of_ble_eq_true rfl) (st := []) (Nat.le_of_ble_eq_true rfl) (bf_dk dd_X9_free 28 rfl) rfl (len := 21) (fun _ => rfl) (fun u19 h => ?_)
        refine bs_aload_n C (bf_dk dd_X9_free 29 rfl) rfl ?_
        refine bs_aload_n C (bf_dk dd_X9_free 30 rfl) rfl ?_
        refine bs_get C (bf_dk dd_X9_free 31 rfl) cl_9 in_9 29 (Nat.le_of_ble_eq_true rfl) rfl f_9_277 (ge_bW9_0 u19) rfl ?_
        refine bs_aload_n C (bf_dk dd_X9_free 32 rfl) rfl ?_
        refine bs_get C (bf_dk dd_X9_free 33 rfl) cl_9 in_9 31 (Nat.le_of_ble_eq_true rfl) rfl f_9_280 (ge_bW9_0 u19) rfl ?_
        refine bs_iload_n C (bf_dk dd_X9_free 34 rfl) rfl ?_
        refine bs_selfPV_l C hR (c_X9_notMoreKeys _ _ _ _ _ u19 ((b9g_highKey u19)) ((b9g_highLength u19)) (a2) _ h) my_X9_notMoreKeys m_9_415 rfl cl_9 (ge_bW9_0 _) rfl (Nat.le_of_ble_eq_true rfl) (Nat.le_of_ble_eq_true rfl) (st := []) (Nat.le_of_ble_eq_true rfl) (bf_dk dd_X9_free 35 rfl) rfl (fun r20 h => ?_)
        refine bs_lstore_n C (bf_dk dd_X9_free 36 rfl) rfl (Nat.le_of_ble_eq_true rfl) (Nat.le_of_ble_eq_true rfl) (lv2 := [some (.ref 0), some (.int a1), some (.int a2), some (.long r20), none]) rfl ?_
        exact bs_weak (bf_s1 (bf_s1 (bf_s1 (bf_s1 (bf_sn bf_s0))))) (t_X9_free_64 C hR u19 (a1) (a2) (r20) Q h)
    · replace h := h.2 c
      refine bs_ldc2 C (bf_dk dd_X9_free 16 rfl) k_9_290 ?_
      exact bs_lret (u := u11) C (bf_dk dd_X9_free 17 rfl) rfl h
theorem c_X9_free (l : Launch) (dC : Nat → ClassId) (dI : Nat → Nat → Nat) (ac : Nat → ClassId) (al : Nat → Nat) (S : bT9) (a1 : Int32) (a2 : Int32) (Q : Int64 → (bT9) → Prop) (h : wp_X9_free S a1 a2 Q) : bf_M l yX9_free cX9_free 5 (some .long) 4 89 dC dI ac al [.ref 0, .int a1, .int a2] (bW9 S) (bf_Kl dC dI ac al bW9 Q) := by
  refine bf_start [some (.ref 0), some (.int a1), some (.int a2), none, none] (by decide) (Nat.le_of_ble_eq_true rfl) (bf_s1 (bf_s1 (bf_s1 (bf_en 2)))) ?_
  intro X hl C hR e1 e2 e3 e4
  subst e1; subst e2; subst e3; subst e4
  exact t_X9_free C hR S a1 a2 Q h
def wp_X9_spread_112 (S : bT9) (x1 : Int32) (x2 : Int32) (x3 : Int32) (x4 : Int32) (x5 : Int32) (x6 : Int32) (x7 : Int32) (x8 : Int32) (Q : Int32 → (bT9) → Prop) (B43 : Int32 → Int32 → Int32 → Int32 → Int32 → Int32 → Int32 → Int32 → (bT9) → Prop) : Prop := (B43 (x1) (x2) (x3) (x4) (x5) (x6) (x7) ((x8 + (-1 : Int32))) S)
set_option maxRecDepth 20000 in
theorem t_X9_spread_112 {X : bf_X} (C : bf_C X RX9 cX9_spread 11 (some .int)) (hR : bf_Rm X 7 163) (S : bT9) (x1 : Int32) (x2 : Int32) (x3 : Int32) (x4 : Int32) (x5 : Int32) (x6 : Int32) (x7 : Int32) (x8 : Int32) (Q : Int32 → (bT9) → Prop) (B43 : Int32 → Int32 → Int32 → Int32 → Int32 → Int32 → Int32 → Int32 → (bT9) → Prop) (hB43 : ∀ (x1 : Int32) (x2 : Int32) (x3 : Int32) (x4 : Int32) (x5 : Int32) (x6 : Int32) (x7 : Int32) (x8 : Int32) (S : bT9), B43 x1 x2 x3 x4 x5 x6 x7 x8 S → bf_A X (bf_Zi X bW9 Q) 11 43 [some (.ref 0), some (.int x1), some (.int x2), some (.int x3), some (.int x4), some (.int x5), some (.int x6), some (.int x7), some (.int x8), none, none] [] (bW9 S)) (h : wp_X9_spread_112 S x1 x2 x3 x4 x5 x6 x7 x8 Q B43) : bf_A X (bf_Zi X bW9 Q) 11 112 [some (.ref 0), some (.int x1), some (.int x2), some (.int x3), some (.int x4), some (.int x5), some (.int x6), some (.int x7), some (.int x8), none, none] [] (bW9 S) := by
  unfold wp_X9_spread_112 at h
  refine bs_iinc C (bf_dk dd_X9_spread 67 rfl) (x8 + (-1 : Int32)) rfl rfl (Nat.le_of_ble_eq_true rfl) (Nat.le_of_ble_eq_true rfl) (lv2 := [some (.ref 0), some (.int x1), some (.int x2), some (.int x3), some (.int x4), some (.int x5), some (.int x6), some (.int x7), some (.int (x8 + (-1 : Int32))), none, none]) rfl ?_
  refine bs_goto C (bf_dk dd_X9_spread 68 rfl) (tgt := 43) rfl ?_
  exact bs_weak (bf_s1 (bf_s1 (bf_s1 (bf_s1 (bf_s1 (bf_s1 (bf_s1 (bf_s1 (bf_s1 (bf_sn (bf_sn bf_s0))))))))))) (hB43 (x1) (x2) (x3) (x4) (x5) (x6) (x7) ((x8 + (-1 : Int32))) S h)
def wp_X9_spread_43b (S : bT9) (x1 : Int32) (x2 : Int32) (x3 : Int32) (x4 : Int32) (x5 : Int32) (x6 : Int32) (x7 : Int32) (x8 : Int32) (Q : Int32 → (bT9) → Prop) (B43 : Int32 → Int32 → Int32 → Int32 → Int32 → Int32 → Int32 → Int32 → (bT9) → Prop) : Prop := ((x8 < 0 → ((¬ x4 = 0 → ((¬ x4 = (1 : Int32) → (Q x7 S)) ∧ (x4 = (1 : Int32) → (Q x6 S)))) ∧ (x4 = 0 → (Q x5 S)))) ∧ (¬ x8 < 0 → (wp_X9_keyOf S (x1) (x2) (x3) (fun r1 => (∀ v3 : Int64, v3 = (r1 ||| ((x8).toInt64 <<< ((((56 : Int32) - ((8 : Int32) * x3))).toInt64 &&& 63))) → (wp_X9_mayNow S (v3) ((x3 + (1 : Int32))) (fun r4 u5 => ((¬ r4 = 0 → (wp_X9_isOfFilter u5 (v3) ((x3 + (1 : Int32))) (fun r6 => ((¬ r6 = 0 → (wp_X9_spread_112 u5 (x1) (x2) (x3) (x4) ((x5 + (1 : Int32))) (x6) (x8) (x8) Q B43)) ∧ (r6 = 0 → (wp_X9_spread_112 u5 (x1) (x2) (x3) (x4) ((x5 + (1 : Int32))) ((x6 + (1 : Int32))) (x8) (x8) Q B43)))))) ∧ (r4 = 0 → (wp_X9_spread_112 u5 (x1) (x2) (x3) (x4) (x5) (x6) (x7) (x8) Q B43))))))))))
set_option maxRecDepth 20000 in
theorem t_X9_spread_43b {X : bf_X} (C : bf_C X RX9 cX9_spread 11 (some .int)) (hR : bf_Rm X 7 163) (S : bT9) (x1 : Int32) (x2 : Int32) (x3 : Int32) (x4 : Int32) (x5 : Int32) (x6 : Int32) (x7 : Int32) (x8 : Int32) (Q : Int32 → (bT9) → Prop) (B43 : Int32 → Int32 → Int32 → Int32 → Int32 → Int32 → Int32 → Int32 → (bT9) → Prop) (hB43 : ∀ (x1 : Int32) (x2 : Int32) (x3 : Int32) (x4 : Int32) (x5 : Int32) (x6 : Int32) (x7 : Int32) (x8 : Int32) (S : bT9), B43 x1 x2 x3 x4 x5 x6 x7 x8 S → bf_A X (bf_Zi X bW9 Q) 11 43 [some (.ref 0), some (.int x1), some (.int x2), some (.int x3), some (.int x4), some (.int x5), some (.int x6), some (.int x7), some (.int x8), none, none] [] (bW9 S)) (h : wp_X9_spread_43b S x1 x2 x3 x4 x5 x6 x7 x8 Q B43) : bf_A X (bf_Zi X bW9 Q) 11 43 [some (.ref 0), some (.int x1), some (.int x2), some (.int x3), some (.int x4), some (.int x5), some (.int x6), some (.int x7), some (.int x8), none, none] [] (bW9 S) := by
  unfold wp_X9_spread_43b at h
  refine bs_iload C (bf_dk dd_X9_spread 25 rfl) rfl ?_
  refine bs_if_lt C (bf_dk dd_X9_spread 26 rfl) (tgt := 118) rfl (fun c => ?_) (fun c => ?_)
  · replace h := h.1 c
    refine bs_iload C (bf_dk dd_X9_spread 69 rfl) rfl ?_
    refine bs_if_ne C (bf_dk dd_X9_spread 70 rfl) (tgt := 128) rfl (fun c => ?_) (fun c => ?_)
    · replace h := h.1 c
      refine bs_iload C (bf_dk dd_X9_spread 73 rfl) rfl ?_
      refine bs_iconst C (bf_dk dd_X9_spread 74 rfl) (1 : Int32) (by decide) ?_
      refine bs_icmp_ne C (bf_dk dd_X9_spread 75 rfl) (tgt := 139) rfl (fun c => ?_) (fun c => ?_)
      · replace h := h.1 c
        refine bs_iload C (bf_dk dd_X9_spread 78 rfl) rfl ?_
        exact bs_iret (u := S) C (bf_dk dd_X9_spread 79 rfl) rfl h
      · replace h := h.2 c
        refine bs_iload C (bf_dk dd_X9_spread 76 rfl) rfl ?_
        refine bs_goto C (bf_dk dd_X9_spread 77 rfl) (tgt := 141) rfl ?_
        exact bs_iret (u := S) C (bf_dk dd_X9_spread 79 rfl) rfl h
    · replace h := h.2 c
      refine bs_iload C (bf_dk dd_X9_spread 71 rfl) rfl ?_
      refine bs_goto C (bf_dk dd_X9_spread 72 rfl) (tgt := 141) rfl ?_
      exact bs_iret (u := S) C (bf_dk dd_X9_spread 79 rfl) rfl h
  · replace h := h.2 c
    refine bs_aload_n C (bf_dk dd_X9_spread 27 rfl) rfl ?_
    refine bs_iload_n C (bf_dk dd_X9_spread 28 rfl) rfl ?_
    refine bs_iload_n C (bf_dk dd_X9_spread 29 rfl) rfl ?_
    refine bs_iload_n C (bf_dk dd_X9_spread 30 rfl) rfl ?_
    refine bs_selfPV_l C hR (c_X9_keyOf _ _ _ _ _ S (x1) (x2) (x3) _ h) my_X9_keyOf m_9_121 rfl cl_9 (ge_bW9_0 _) rfl (Nat.le_of_ble_eq_true rfl) (Nat.le_of_ble_eq_true rfl) (st := []) (Nat.le_of_ble_eq_true rfl) (bf_dk dd_X9_spread 31 rfl) rfl (fun r1 h => ?_)
    refine bs_iload C (bf_dk dd_X9_spread 32 rfl) rfl ?_
    refine bs_i2l C (bf_dk dd_X9_spread 33 rfl) ?_
    refine bs_bipush C (bf_dk dd_X9_spread 34 rfl) (56 : Int32) (by decide) ?_
    refine bs_bipush C (bf_dk dd_X9_spread 35 rfl) (8 : Int32) (by decide) ?_
    refine bs_iload_n C (bf_dk dd_X9_spread 36 rfl) rfl ?_
    refine bs_imul C (bf_dk dd_X9_spread 37 rfl) ?_
    refine bs_isub C (bf_dk dd_X9_spread 38 rfl) ?_
    refine bs_lshl C (bf_dk dd_X9_spread 39 rfl) ?_
    refine bs_lor C (bf_dk dd_X9_spread 40 rfl) ?_
    refine bs_nameL (fun v3 ev3 => ?_)
    replace h := h v3 ev3
    refine bs_lstore C (bf_dk dd_X9_spread 41 rfl) (Nat.le_of_ble_eq_true rfl) (Nat.le_of_ble_eq_true rfl) (lv2 := [some (.ref 0), some (.int x1), some (.int x2), some (.int x3), some (.int x4), some (.int x5), some (.int x6), some (.int x7), some (.int x8), some (.long v3), none]) rfl ?_
    refine bs_aload_n C (bf_dk dd_X9_spread 42 rfl) rfl ?_
    refine bs_lload C (bf_dk dd_X9_spread 43 rfl) rfl ?_
    refine bs_iload_n C (bf_dk dd_X9_spread 44 rfl) rfl ?_
    refine bs_iconst C (bf_dk dd_X9_spread 45 rfl) (1 : Int32) (by decide) ?_
    refine bs_iadd C (bf_dk dd_X9_spread 46 rfl) ?_
    refine bs_selfV_i C hR (c_X9_mayNow _ _ _ _ _ S (v3) ((x3 + (1 : Int32))) _ h) my_X9_mayNow m_9_320 rfl cl_9 (ge_bW9_0 _) rfl (Nat.le_of_ble_eq_true rfl) (Nat.le_of_ble_eq_true rfl) (st := []) (Nat.le_of_ble_eq_true rfl) (bf_dk dd_X9_spread 47 rfl) rfl (len := 21) (fun _ => rfl) (fun r4 u5 h => ?_)
    refine bs_if_ne C (bf_dk dd_X9_spread 48 rfl) (tgt := 84) rfl (fun c => ?_) (fun c => ?_)
    · replace h := h.1 c
      refine bs_iload C (bf_dk dd_X9_spread 50 rfl) rfl ?_
      refine bs_iconst C (bf_dk dd_X9_spread 51 rfl) (1 : Int32) (by decide) ?_
      refine bs_iadd C (bf_dk dd_X9_spread 52 rfl) ?_
      refine bs_istore C (bf_dk dd_X9_spread 53 rfl) (Nat.le_of_ble_eq_true rfl) (Nat.le_of_ble_eq_true rfl) (lv2 := [some (.ref 0), some (.int x1), some (.int x2), some (.int x3), some (.int x4), some (.int (x5 + (1 : Int32))), some (.int x6), some (.int x7), some (.int x8), some (.long v3), none]) rfl ?_
      refine bs_iload C (bf_dk dd_X9_spread 54 rfl) rfl ?_
      refine bs_istore C (bf_dk dd_X9_spread 55 rfl) (Nat.le_of_ble_eq_true rfl) (Nat.le_of_ble_eq_true rfl) (lv2 := [some (.ref 0), some (.int x1), some (.int x2), some (.int x3), some (.int x4), some (.int (x5 + (1 : Int32))), some (.int x6), some (.int x8), some (.int x8), some (.long v3), none]) rfl ?_
      refine bs_aload_n C (bf_dk dd_X9_spread 56 rfl) rfl ?_
      refine bs_lload C (bf_dk dd_X9_spread 57 rfl) rfl ?_
      refine bs_iload_n C (bf_dk dd_X9_spread 58 rfl) rfl ?_
      refine bs_iconst C (bf_dk dd_X9_spread 59 rfl) (1 : Int32) (by decide) ?_
      refine bs_iadd C (bf_dk dd_X9_spread 60 rfl) ?_
      refine bs_selfPV_i C hR (c_X9_isOfFilter _ _ _ _ _ u5 (v3) ((x3 + (1 : Int32))) _ h) my_X9_isOfFilter m_9_323 rfl cl_9 (ge_bW9_0 _) rfl (Nat.le_of_ble_eq_true rfl) (Nat.le_of_ble_eq_true rfl) (st := []) (Nat.le_of_ble_eq_true rfl) (bf_dk dd_X9_spread 61 rfl) rfl (fun r6 h => ?_)
      refine bs_if_ne C (bf_dk dd_X9_spread 62 rfl) (tgt := 112) rfl (fun c => ?_) (fun c => ?_)
      · replace h := h.1 c
        exact bs_weak (bf_s1 (bf_s1 (bf_s1 (bf_s1 (bf_s1 (bf_s1 (bf_s1 (bf_s1 (bf_s1 (bf_sn (bf_sn bf_s0))))))))))) (t_X9_spread_112 C hR u5 (x1) (x2) (x3) (x4) ((x5 + (1 : Int32))) (x6) (x8) (x8) Q B43 hB43 h)
      · replace h := h.2 c
        refine bs_iload C (bf_dk dd_X9_spread 63 rfl) rfl ?_
        refine bs_iconst C (bf_dk dd_X9_spread 64 rfl) (1 : Int32) (by decide) ?_
        refine bs_iadd C (bf_dk dd_X9_spread 65 rfl) ?_
        refine bs_istore C (bf_dk dd_X9_spread 66 rfl) (Nat.le_of_ble_eq_true rfl) (Nat.le_of_ble_eq_true rfl) (lv2 := [some (.ref 0), some (.int x1), some (.int x2), some (.int x3), some (.int x4), some (.int (x5 + (1 : Int32))), some (.int (x6 + (1 : Int32))), some (.int x8), some (.int x8), some (.long v3), none]) rfl ?_
        exact bs_weak (bf_s1 (bf_s1 (bf_s1 (bf_s1 (bf_s1 (bf_s1 (bf_s1 (bf_s1 (bf_s1 (bf_sn (bf_sn bf_s0))))))))))) (t_X9_spread_112 C hR u5 (x1) (x2) (x3) (x4) ((x5 + (1 : Int32))) ((x6 + (1 : Int32))) (x8) (x8) Q B43 hB43 h)
    · replace h := h.2 c
      refine bs_goto C (bf_dk dd_X9_spread 49 rfl) (tgt := 112) rfl ?_
      exact bs_weak (bf_s1 (bf_s1 (bf_s1 (bf_s1 (bf_s1 (bf_s1 (bf_s1 (bf_s1 (bf_s1 (bf_sn (bf_sn bf_s0))))))))))) (t_X9_spread_112 C hR u5 (x1) (x2) (x3) (x4) (x5) (x6) (x7) (x8) Q B43 hB43 h)
def wp_X9_spread_43 (S : bT9) (x1 : Int32) (x2 : Int32) (x3 : Int32) (x4 : Int32) (x5 : Int32) (x6 : Int32) (x7 : Int32) (x8 : Int32) (Q : Int32 → (bT9) → Prop) : Prop := ∃ I : Nat → Int32 → Int32 → Int32 → Int32 → Int32 → Int32 → Int32 → Int32 → (bT9) → Prop, (∃ n : Nat, I n x1 x2 x3 x4 x5 x6 x7 x8 S) ∧ ∀ (n : Nat) (x1 : Int32) (x2 : Int32) (x3 : Int32) (x4 : Int32) (x5 : Int32) (x6 : Int32) (x7 : Int32) (x8 : Int32) (S : bT9), I n x1 x2 x3 x4 x5 x6 x7 x8 S → wp_X9_spread_43b S x1 x2 x3 x4 x5 x6 x7 x8 Q (fun x1 x2 x3 x4 x5 x6 x7 x8 S => ∃ n2 : Nat, n2 < n ∧ I n2 x1 x2 x3 x4 x5 x6 x7 x8 S)
theorem t_X9_spread_43 {X : bf_X} (C : bf_C X RX9 cX9_spread 11 (some .int)) (hR : bf_Rm X 7 163) (S : bT9) (x1 : Int32) (x2 : Int32) (x3 : Int32) (x4 : Int32) (x5 : Int32) (x6 : Int32) (x7 : Int32) (x8 : Int32) (Q : Int32 → (bT9) → Prop) (h : wp_X9_spread_43 S x1 x2 x3 x4 x5 x6 x7 x8 Q) : bf_A X (bf_Zi X bW9 Q) 11 43 [some (.ref 0), some (.int x1), some (.int x2), some (.int x3), some (.int x4), some (.int x5), some (.int x6), some (.int x7), some (.int x8), none, none] [] (bW9 S) := by
  obtain ⟨I, ⟨n0, h0⟩, hI⟩ := h
  have key : ∀ (n : Nat) (x1 : Int32) (x2 : Int32) (x3 : Int32) (x4 : Int32) (x5 : Int32) (x6 : Int32) (x7 : Int32) (x8 : Int32) (S : bT9), I n x1 x2 x3 x4 x5 x6 x7 x8 S → bf_A X (bf_Zi X bW9 Q) 11 43 [some (.ref 0), some (.int x1), some (.int x2), some (.int x3), some (.int x4), some (.int x5), some (.int x6), some (.int x7), some (.int x8), none, none] [] (bW9 S) := by
    intro n
    induction n using Nat.strongRecOn with
    | _ n ih =>
      intro x1 x2 x3 x4 x5 x6 x7 x8 S hi
      exact t_X9_spread_43b C hR S x1 x2 x3 x4 x5 x6 x7 x8 Q _ (fun x1 x2 x3 x4 x5 x6 x7 x8 S hb => by obtain ⟨n2, hn, hi2⟩ := hb; exact ih n2 hn x1 x2 x3 x4 x5 x6 x7 x8 S hi2) (hI n x1 x2 x3 x4 x5 x6 x7 x8 S hi)
  exact key n0 x1 x2 x3 x4 x5 x6 x7 x8 S h0
def wp_X9_spread (S : bT9) (a1 : Int32) (a2 : Int32) (a3 : Int32) (a4 : Int32) (Q : Int32 → (bT9) → Prop) : Prop := (∀ S8 : bT9, S8 = (b9s_told S (0 : Int32)) → (wp_X9_isIn S8 (a3) ((1 : Int32)) ((7 : Int32)) (fun r9 => ((r9 = 0 → (Q (-1 : Int32) S8)) ∧ (¬ r9 = 0 → (wp_X9_isIn S8 (a4) ((0 : Int32)) ((2 : Int32)) (fun r11 => ((¬ r11 = 0 → (wp_X9_spread_43 S8 (a1) (a2) (a3) (a4) ((0 : Int32)) ((0 : Int32)) ((-1 : Int32)) ((255 : Int32)) Q)) ∧ (r11 = 0 → (Q (-1 : Int32) S8))))))))))
set_option maxRecDepth 20000 in
theorem t_X9_spread {X : bf_X} (C : bf_C X RX9 cX9_spread 11 (some .int)) (hR : bf_Rm X 7 163) (S : bT9) (a1 : Int32) (a2 : Int32) (a3 : Int32) (a4 : Int32) (Q : Int32 → (bT9) → Prop) (h : wp_X9_spread S a1 a2 a3 a4 Q) : bf_A X (bf_Zi X bW9 Q) 11 0 [some (.ref 0), some (.int a1), some (.int a2), some (.int a3), some (.int a4), none, none, none, none, none, none] [] (bW9 S) := by
  unfold wp_X9_spread at h
  refine bs_aload_n C (bf_dk dd_X9_spread 0 rfl) rfl ?_
  refine bs_iconst C (bf_dk dd_X9_spread 1 rfl) (0 : Int32) (by decide) ?_
  refine bs_put C (bf_dk dd_X9_spread 2 rfl) tyX9_ok nmX9 cl_9 in_9 0 (Nat.le_of_ble_eq_true rfl) rfl f_9_75 rfl (ge_bW9_0 S) (Nat.le_of_ble_eq_true rfl) rfl rfl (pu_bW9_0_0 S (0 : Int32)) ?_
  refine bs_nameS bW9 (fun S8 eS8 => ?_)
  replace h := h S8 eS8
  refine bs_aload_n C (bf_dk dd_X9_spread 3 rfl) rfl ?_
  refine bs_iload_n C (bf_dk dd_X9_spread 4 rfl) rfl ?_
  refine bs_iconst C (bf_dk dd_X9_spread 5 rfl) (1 : Int32) (by decide) ?_
  refine bs_bipush C (bf_dk dd_X9_spread 6 rfl) (7 : Int32) (by decide) ?_
  refine bs_selfPV_i C hR (c_X9_isIn _ _ _ _ _ S8 (a3) ((1 : Int32)) ((7 : Int32)) _ h) my_X9_isIn m_9_82 rfl cl_9 (ge_bW9_0 _) rfl (Nat.le_of_ble_eq_true rfl) (Nat.le_of_ble_eq_true rfl) (st := []) (Nat.le_of_ble_eq_true rfl) (bf_dk dd_X9_spread 7 rfl) rfl (fun r9 h => ?_)
  refine bs_if_eq C (bf_dk dd_X9_spread 8 rfl) (tgt := 27) rfl (fun c => ?_) (fun c => ?_)
  · replace h := h.1 c
    refine bs_iconst C (bf_dk dd_X9_spread 15 rfl) (-1 : Int32) (by decide) ?_
    exact bs_iret (u := S8) C (bf_dk dd_X9_spread 16 rfl) rfl h
  · replace h := h.2 c
    refine bs_aload_n C (bf_dk dd_X9_spread 9 rfl) rfl ?_
    refine bs_iload C (bf_dk dd_X9_spread 10 rfl) rfl ?_
    refine bs_iconst C (bf_dk dd_X9_spread 11 rfl) (0 : Int32) (by decide) ?_
    refine bs_iconst C (bf_dk dd_X9_spread 12 rfl) (2 : Int32) (by decide) ?_
    refine bs_selfPV_i C hR (c_X9_isIn _ _ _ _ _ S8 (a4) ((0 : Int32)) ((2 : Int32)) _ h) my_X9_isIn m_9_82 rfl cl_9 (ge_bW9_0 _) rfl (Nat.le_of_ble_eq_true rfl) (Nat.le_of_ble_eq_true rfl) (st := []) (Nat.le_of_ble_eq_true rfl) (bf_dk dd_X9_spread 13 rfl) rfl (fun r11 h => ?_)
    refine bs_if_ne C (bf_dk dd_X9_spread 14 rfl) (tgt := 29) rfl (fun c => ?_) (fun c => ?_)
    · replace h := h.1 c
      refine bs_iconst C (bf_dk dd_X9_spread 17 rfl) (0 : Int32) (by decide) ?_
      refine bs_istore C (bf_dk dd_X9_spread 18 rfl) (Nat.le_of_ble_eq_true rfl) (Nat.le_of_ble_eq_true rfl) (lv2 := [some (.ref 0), some (.int a1), some (.int a2), some (.int a3), some (.int a4), some (.int (0 : Int32)), none, none, none, none, none]) rfl ?_
      refine bs_iconst C (bf_dk dd_X9_spread 19 rfl) (0 : Int32) (by decide) ?_
      refine bs_istore C (bf_dk dd_X9_spread 20 rfl) (Nat.le_of_ble_eq_true rfl) (Nat.le_of_ble_eq_true rfl) (lv2 := [some (.ref 0), some (.int a1), some (.int a2), some (.int a3), some (.int a4), some (.int (0 : Int32)), some (.int (0 : Int32)), none, none, none, none]) rfl ?_
      refine bs_iconst C (bf_dk dd_X9_spread 21 rfl) (-1 : Int32) (by decide) ?_
      refine bs_istore C (bf_dk dd_X9_spread 22 rfl) (Nat.le_of_ble_eq_true rfl) (Nat.le_of_ble_eq_true rfl) (lv2 := [some (.ref 0), some (.int a1), some (.int a2), some (.int a3), some (.int a4), some (.int (0 : Int32)), some (.int (0 : Int32)), some (.int (-1 : Int32)), none, none, none]) rfl ?_
      refine bs_sipush C (bf_dk dd_X9_spread 23 rfl) (255 : Int32) (by decide) ?_
      refine bs_istore C (bf_dk dd_X9_spread 24 rfl) (Nat.le_of_ble_eq_true rfl) (Nat.le_of_ble_eq_true rfl) (lv2 := [some (.ref 0), some (.int a1), some (.int a2), some (.int a3), some (.int a4), some (.int (0 : Int32)), some (.int (0 : Int32)), some (.int (-1 : Int32)), some (.int (255 : Int32)), none, none]) rfl ?_
      exact bs_weak (bf_s1 (bf_s1 (bf_s1 (bf_s1 (bf_s1 (bf_s1 (bf_s1 (bf_s1 (bf_s1 (bf_sn (bf_sn bf_s0))))))))))) (t_X9_spread_43 C hR S8 (a1) (a2) (a3) (a4) ((0 : Int32)) ((0 : Int32)) ((-1 : Int32)) ((255 : Int32)) Q h)
    · replace h := h.2 c
      refine bs_iconst C (bf_dk dd_X9_spread 15 rfl) (-1 : Int32) (by decide) ?_
      exact bs_iret (u := S8) C (bf_dk dd_X9_spread 16 rfl) rfl h
theorem c_X9_spread (l : Launch) (dC : Nat → ClassId) (dI : Nat → Nat → Nat) (ac : Nat → ClassId) (al : Nat → Nat) (S : bT9) (a1 : Int32) (a2 : Int32) (a3 : Int32) (a4 : Int32) (Q : Int32 → (bT9) → Prop) (h : wp_X9_spread S a1 a2 a3 a4 Q) : bf_M l yX9_spread cX9_spread 11 (some .int) 7 163 dC dI ac al [.ref 0, .int a1, .int a2, .int a3, .int a4] (bW9 S) (bf_Ki dC dI ac al bW9 Q) := by
  refine bf_start [some (.ref 0), some (.int a1), some (.int a2), some (.int a3), some (.int a4), none, none, none, none, none, none] (by decide) (Nat.le_of_ble_eq_true rfl) (bf_s1 (bf_s1 (bf_s1 (bf_s1 (bf_s1 (bf_en 6)))))) ?_
  intro X hl C hR e1 e2 e3 e4
  subst e1; subst e2; subst e3; subst e4
  exact t_X9_spread C hR S a1 a2 a3 a4 Q h
def wp_X9_question (S : bT9) (a1 : Int32) (a2 : Int32) (a3 : Int32) (Q : Int32 → (bT9) → Prop) : Prop := (∀ S1 : bT9, S1 = (b9s_told S (0 : Int32)) → (wp_X9_isKey S1 (a3) (fun r2 => ((r2 = 0 → (Q (-1 : Int32) S1)) ∧ (¬ r2 = 0 → (vp_in (10 : Int32) 23 ∧ ((¬ ((b9g_now S1) ((10 : Int32)).toNatClampNeg) = (16 : Int32) → (vp_in (10 : Int32) 23 ∧ (wp_X9_keyOf S1 (a1) (a2) (a3) (fun r4 => (vp_in ((128 : Int32) + ((b9g_now S1) ((10 : Int32)).toNatClampNeg)) 144 ∧ (∀ S6 : bT9, S6 = (b9s_keys S1 (vp_updL (b9g_keys S1) (((128 : Int32) + ((b9g_now S1) ((10 : Int32)).toNatClampNeg))).toNatClampNeg r4)) → (vp_in (10 : Int32) 23 ∧ (vp_in ((128 : Int32) + ((b9g_now S6) ((10 : Int32)).toNatClampNeg)) 144 ∧ (∀ S7 : bT9, S7 = (b9s_lengths S6 (upd (b9g_lengths S6) (((128 : Int32) + ((b9g_now S6) ((10 : Int32)).toNatClampNeg))).toNatClampNeg a3)) → (vp_in (10 : Int32) 23 ∧ (vp_in (10 : Int32) 23 ∧ (∀ S8 : bT9, S8 = (b9s_now S7 (upd (b9g_now S7) ((10 : Int32)).toNatClampNeg (((b9g_now S7) ((10 : Int32)).toNatClampNeg) + (1 : Int32)))) → (vp_in (10 : Int32) 23 ∧ (Q ((b9g_now S8) ((10 : Int32)).toNatClampNeg) S8)))))))))))))) ∧ (((b9g_now S1) ((10 : Int32)).toNatClampNeg) = (16 : Int32) → (Q (-1 : Int32) S1)))))))))
set_option maxRecDepth 20000 in
theorem t_X9_question {X : bf_X} (C : bf_C X RX9 cX9_question 4 (some .int)) (hR : bf_Rm X 2 46) (S : bT9) (a1 : Int32) (a2 : Int32) (a3 : Int32) (Q : Int32 → (bT9) → Prop) (h : wp_X9_question S a1 a2 a3 Q) : bf_A X (bf_Zi X bW9 Q) 4 0 [some (.ref 0), some (.int a1), some (.int a2), some (.int a3)] [] (bW9 S) := by
  unfold wp_X9_question at h
  refine bs_aload_n C (bf_dk dd_X9_question 0 rfl) rfl ?_
  refine bs_iconst C (bf_dk dd_X9_question 1 rfl) (0 : Int32) (by decide) ?_
  refine bs_put C (bf_dk dd_X9_question 2 rfl) tyX9_ok nmX9 cl_9 in_9 0 (Nat.le_of_ble_eq_true rfl) rfl f_9_75 rfl (ge_bW9_0 S) (Nat.le_of_ble_eq_true rfl) rfl rfl (pu_bW9_0_0 S (0 : Int32)) ?_
  refine bs_nameS bW9 (fun S1 eS1 => ?_)
  replace h := h S1 eS1
  refine bs_aload_n C (bf_dk dd_X9_question 3 rfl) rfl ?_
  refine bs_iload_n C (bf_dk dd_X9_question 4 rfl) rfl ?_
  refine bs_selfPV_i C hR (c_X9_isKey _ _ _ _ _ S1 (a3) _ h) my_X9_isKey m_9_117 rfl cl_9 (ge_bW9_0 _) rfl (Nat.le_of_ble_eq_true rfl) (Nat.le_of_ble_eq_true rfl) (st := []) (Nat.le_of_ble_eq_true rfl) (bf_dk dd_X9_question 5 rfl) rfl (fun r2 h => ?_)
  refine bs_if_eq C (bf_dk dd_X9_question 6 rfl) (tgt := 25) rfl (fun c => ?_) (fun c => ?_)
  · replace h := h.1 c
    refine bs_iconst C (bf_dk dd_X9_question 13 rfl) (-1 : Int32) (by decide) ?_
    exact bs_iret (u := S1) C (bf_dk dd_X9_question 14 rfl) rfl h
  · replace h := h.2 c
    refine bs_aload_n C (bf_dk dd_X9_question 7 rfl) rfl ?_
    refine bs_get C (bf_dk dd_X9_question 8 rfl) cl_9 in_9 1 (Nat.le_of_ble_eq_true rfl) rfl f_9_7 (ge_bW9_0 S1) rfl ?_
    refine bs_bipush C (bf_dk dd_X9_question 9 rfl) (10 : Int32) (by decide) ?_
    obtain ⟨hi, h⟩ := h
    refine bs_iald C (bf_dk dd_X9_question 10 rfl) (ge_bW9_1 S1) hi ?_
    refine bs_bipush C (bf_dk dd_X9_question 11 rfl) (16 : Int32) (by decide) ?_
    refine bs_icmp_ne C (bf_dk dd_X9_question 12 rfl) (tgt := 27) rfl (fun c => ?_) (fun c => ?_)
    · replace h := h.1 c
      refine bs_aload_n C (bf_dk dd_X9_question 15 rfl) rfl ?_
      refine bs_get C (bf_dk dd_X9_question 16 rfl) cl_9 in_9 2 (Nat.le_of_ble_eq_true rfl) rfl f_9_13 (ge_bW9_0 S1) rfl ?_
      refine bs_sipush C (bf_dk dd_X9_question 17 rfl) (128 : Int32) (by decide) ?_
      refine bs_aload_n C (bf_dk dd_X9_question 18 rfl) rfl ?_
      refine bs_get C (bf_dk dd_X9_question 19 rfl) cl_9 in_9 1 (Nat.le_of_ble_eq_true rfl) rfl f_9_7 (ge_bW9_0 S1) rfl ?_
      refine bs_bipush C (bf_dk dd_X9_question 20 rfl) (10 : Int32) (by decide) ?_
      obtain ⟨hi, h⟩ := h
      refine bs_iald C (bf_dk dd_X9_question 21 rfl) (ge_bW9_1 S1) hi ?_
      refine bs_iadd C (bf_dk dd_X9_question 22 rfl) ?_
      refine bs_aload_n C (bf_dk dd_X9_question 23 rfl) rfl ?_
      refine bs_iload_n C (bf_dk dd_X9_question 24 rfl) rfl ?_
      refine bs_iload_n C (bf_dk dd_X9_question 25 rfl) rfl ?_
      refine bs_iload_n C (bf_dk dd_X9_question 26 rfl) rfl ?_
      refine bs_selfPV_l C hR (c_X9_keyOf _ _ _ _ _ S1 (a1) (a2) (a3) _ h) my_X9_keyOf m_9_121 rfl cl_9 (ge_bW9_0 _) rfl (Nat.le_of_ble_eq_true rfl) (Nat.le_of_ble_eq_true rfl) (st := [.int ((128 : Int32) + ((b9g_now S1) ((10 : Int32)).toNatClampNeg)), .ref 2]) (Nat.le_of_ble_eq_true rfl) (bf_dk dd_X9_question 27 rfl) rfl (fun r4 h => ?_)
      obtain ⟨hi, h⟩ := h
      refine bs_last C (bf_dk dd_X9_question 28 rfl) (ge_bW9_2 S1) hi (ar_bW9_2 S1 _) ?_
      refine bs_nameS bW9 (fun S6 eS6 => ?_)
      replace h := h S6 eS6
      refine bs_aload_n C (bf_dk dd_X9_question 29 rfl) rfl ?_
      refine bs_get C (bf_dk dd_X9_question 30 rfl) cl_9 in_9 3 (Nat.le_of_ble_eq_true rfl) rfl f_9_17 (ge_bW9_0 S6) rfl ?_
      refine bs_sipush C (bf_dk dd_X9_question 31 rfl) (128 : Int32) (by decide) ?_
      refine bs_aload_n C (bf_dk dd_X9_question 32 rfl) rfl ?_
      refine bs_get C (bf_dk dd_X9_question 33 rfl) cl_9 in_9 1 (Nat.le_of_ble_eq_true rfl) rfl f_9_7 (ge_bW9_0 S6) rfl ?_
      refine bs_bipush C (bf_dk dd_X9_question 34 rfl) (10 : Int32) (by decide) ?_
      obtain ⟨hi, h⟩ := h
      refine bs_iald C (bf_dk dd_X9_question 35 rfl) (ge_bW9_1 S6) hi ?_
      refine bs_iadd C (bf_dk dd_X9_question 36 rfl) ?_
      refine bs_iload_n C (bf_dk dd_X9_question 37 rfl) rfl ?_
      obtain ⟨hi, h⟩ := h
      refine bs_iast C (bf_dk dd_X9_question 38 rfl) (ge_bW9_3 S6) hi (ar_bW9_3 S6 _) ?_
      refine bs_nameS bW9 (fun S7 eS7 => ?_)
      replace h := h S7 eS7
      refine bs_aload_n C (bf_dk dd_X9_question 39 rfl) rfl ?_
      refine bs_get C (bf_dk dd_X9_question 40 rfl) cl_9 in_9 1 (Nat.le_of_ble_eq_true rfl) rfl f_9_7 (ge_bW9_0 S7) rfl ?_
      refine bs_bipush C (bf_dk dd_X9_question 41 rfl) (10 : Int32) (by decide) ?_
      refine bs_aload_n C (bf_dk dd_X9_question 42 rfl) rfl ?_
      refine bs_get C (bf_dk dd_X9_question 43 rfl) cl_9 in_9 1 (Nat.le_of_ble_eq_true rfl) rfl f_9_7 (ge_bW9_0 S7) rfl ?_
      refine bs_bipush C (bf_dk dd_X9_question 44 rfl) (10 : Int32) (by decide) ?_
      obtain ⟨hi, h⟩ := h
      refine bs_iald C (bf_dk dd_X9_question 45 rfl) (ge_bW9_1 S7) hi ?_
      refine bs_iconst C (bf_dk dd_X9_question 46 rfl) (1 : Int32) (by decide) ?_
      refine bs_iadd C (bf_dk dd_X9_question 47 rfl) ?_
      obtain ⟨hi, h⟩ := h
      refine bs_iast C (bf_dk dd_X9_question 48 rfl) (ge_bW9_1 S7) hi (ar_bW9_1 S7 _) ?_
      refine bs_nameS bW9 (fun S8 eS8 => ?_)
      replace h := h S8 eS8
      refine bs_aload_n C (bf_dk dd_X9_question 49 rfl) rfl ?_
      refine bs_get C (bf_dk dd_X9_question 50 rfl) cl_9 in_9 1 (Nat.le_of_ble_eq_true rfl) rfl f_9_7 (ge_bW9_0 S8) rfl ?_
      refine bs_bipush C (bf_dk dd_X9_question 51 rfl) (10 : Int32) (by decide) ?_
      obtain ⟨hi, h⟩ := h
      refine bs_iald C (bf_dk dd_X9_question 52 rfl) (ge_bW9_1 S8) hi ?_
      exact bs_iret (u := S8) C (bf_dk dd_X9_question 53 rfl) rfl h
    · replace h := h.2 c
      refine bs_iconst C (bf_dk dd_X9_question 13 rfl) (-1 : Int32) (by decide) ?_
      exact bs_iret (u := S1) C (bf_dk dd_X9_question 14 rfl) rfl h
theorem c_X9_question (l : Launch) (dC : Nat → ClassId) (dI : Nat → Nat → Nat) (ac : Nat → ClassId) (al : Nat → Nat) (S : bT9) (a1 : Int32) (a2 : Int32) (a3 : Int32) (Q : Int32 → (bT9) → Prop) (h : wp_X9_question S a1 a2 a3 Q) : bf_M l yX9_question cX9_question 4 (some .int) 2 46 dC dI ac al [.ref 0, .int a1, .int a2, .int a3] (bW9 S) (bf_Ki dC dI ac al bW9 Q) := by
  refine bf_start [some (.ref 0), some (.int a1), some (.int a2), some (.int a3)] (by decide) (Nat.le_of_ble_eq_true rfl) (bf_s1 (bf_s1 (bf_s1 (bf_s1 bf_s0)))) ?_
  intro X hl C hR e1 e2 e3 e4
  subst e1; subst e2; subst e3; subst e4
  exact t_X9_question C hR S a1 a2 a3 Q h
def wp_X9_forget (S : bT9) (Q : Int32 → (bT9) → Prop) : Prop := (∀ S1 : bT9, S1 = (b9s_told S (0 : Int32)) → (vp_in (10 : Int32) 23 ∧ (vp_in (10 : Int32) 23 ∧ (∀ S2 : bT9, S2 = (b9s_now S1 (upd (b9g_now S1) ((10 : Int32)).toNatClampNeg (0 : Int32))) → (Q ((b9g_now S1) ((10 : Int32)).toNatClampNeg) S2)))))
set_option maxRecDepth 20000 in
theorem t_X9_forget {X : bf_X} (C : bf_C X RX9 cX9_forget 2 (some .int)) (hR : bf_Rm X 0 0) (S : bT9) (Q : Int32 → (bT9) → Prop) (h : wp_X9_forget S Q) : bf_A X (bf_Zi X bW9 Q) 2 0 [some (.ref 0), none] [] (bW9 S) := by
  unfold wp_X9_forget at h
  refine bs_aload_n C (bf_dk dd_X9_forget 0 rfl) rfl ?_
  refine bs_iconst C (bf_dk dd_X9_forget 1 rfl) (0 : Int32) (by decide) ?_
  refine bs_put C (bf_dk dd_X9_forget 2 rfl) tyX9_ok nmX9 cl_9 in_9 0 (Nat.le_of_ble_eq_true rfl) rfl f_9_75 rfl (ge_bW9_0 S) (Nat.le_of_ble_eq_true rfl) rfl rfl (pu_bW9_0_0 S (0 : Int32)) ?_
  refine bs_nameS bW9 (fun S1 eS1 => ?_)
  replace h := h S1 eS1
  refine bs_aload_n C (bf_dk dd_X9_forget 3 rfl) rfl ?_
  refine bs_get C (bf_dk dd_X9_forget 4 rfl) cl_9 in_9 1 (Nat.le_of_ble_eq_true rfl) rfl f_9_7 (ge_bW9_0 S1) rfl ?_
  refine bs_bipush C (bf_dk dd_X9_forget 5 rfl) (10 : Int32) (by decide) ?_
  obtain ⟨hi, h⟩ := h
  refine bs_iald C (bf_dk dd_X9_forget 6 rfl) (ge_bW9_1 S1) hi ?_
  refine bs_istore_n C (bf_dk dd_X9_forget 7 rfl) rfl (Nat.le_of_ble_eq_true rfl) (Nat.le_of_ble_eq_true rfl) (lv2 := [some (.ref 0), some (.int ((b9g_now S1) ((10 : Int32)).toNatClampNeg))]) rfl ?_
  refine bs_aload_n C (bf_dk dd_X9_forget 8 rfl) rfl ?_
  refine bs_get C (bf_dk dd_X9_forget 9 rfl) cl_9 in_9 1 (Nat.le_of_ble_eq_true rfl) rfl f_9_7 (ge_bW9_0 S1) rfl ?_
  refine bs_bipush C (bf_dk dd_X9_forget 10 rfl) (10 : Int32) (by decide) ?_
  refine bs_iconst C (bf_dk dd_X9_forget 11 rfl) (0 : Int32) (by decide) ?_
  obtain ⟨hi, h⟩ := h
  refine bs_iast C (bf_dk dd_X9_forget 12 rfl) (ge_bW9_1 S1) hi (ar_bW9_1 S1 _) ?_
  refine bs_nameS bW9 (fun S2 eS2 => ?_)
  replace h := h S2 eS2
  refine bs_iload_n C (bf_dk dd_X9_forget 13 rfl) rfl ?_
  exact bs_iret (u := S2) C (bf_dk dd_X9_forget 14 rfl) rfl h
theorem c_X9_forget (l : Launch) (dC : Nat → ClassId) (dI : Nat → Nat → Nat) (ac : Nat → ClassId) (al : Nat → Nat) (S : bT9) (Q : Int32 → (bT9) → Prop) (h : wp_X9_forget S Q) : bf_M l yX9_forget cX9_forget 2 (some .int) 0 0 dC dI ac al [.ref 0] (bW9 S) (bf_Ki dC dI ac al bW9 Q) := by
  refine bf_start [some (.ref 0), none] (by decide) (Nat.le_of_ble_eq_true rfl) (bf_s1 (bf_en 1)) ?_
  intro X hl C hR e1 e2 e3 e4
  subst e1; subst e2; subst e3; subst e4
  exact t_X9_forget C hR S Q h
def wp_X9_wrongBy_71 (S : bT9) (x1 : Int32) (x2 : Int32) (x3 : Int32) (x4 : Int32) (Q : Int32 → (bT9) → Prop) (B5 : Int32 → Int32 → Int32 → Int32 → (bT9) → Prop) : Prop := (B5 (x1) (x2) (x3) ((x4 + (1 : Int32))) S)
set_option maxRecDepth 20000 in
theorem t_X9_wrongBy_71 {X : bf_X} (C : bf_C X RX9 cX9_wrongBy 8 (some .int)) (hR : bf_Rm X 6 140) (S : bT9) (x1 : Int32) (x2 : Int32) (x3 : Int32) (x4 : Int32) (Q : Int32 → (bT9) → Prop) (B5 : Int32 → Int32 → Int32 → Int32 → (bT9) → Prop) (hB5 : ∀ (x1 : Int32) (x2 : Int32) (x3 : Int32) (x4 : Int32) (S : bT9), B5 x1 x2 x3 x4 S → bf_A X (bf_Zi X bW9 Q) 8 5 [some (.ref 0), some (.int x1), some (.int x2), some (.int x3), some (.int x4), none, none, none] [] (bW9 S)) (h : wp_X9_wrongBy_71 S x1 x2 x3 x4 Q B5) : bf_A X (bf_Zi X bW9 Q) 8 71 [some (.ref 0), some (.int x1), some (.int x2), some (.int x3), some (.int x4), none, none, none] [] (bW9 S) := by
  unfold wp_X9_wrongBy_71 at h
  refine bs_iinc C (bf_dk dd_X9_wrongBy 40 rfl) (x4 + (1 : Int32)) rfl rfl (Nat.le_of_ble_eq_true rfl) (Nat.le_of_ble_eq_true rfl) (lv2 := [some (.ref 0), some (.int x1), some (.int x2), some (.int x3), some (.int (x4 + (1 : Int32))), none, none, none]) rfl ?_
  refine bs_goto C (bf_dk dd_X9_wrongBy 41 rfl) (tgt := 5) rfl ?_
  exact bs_weak (bf_s1 (bf_s1 (bf_s1 (bf_s1 (bf_s1 (bf_sn (bf_sn (bf_sn bf_s0)))))))) (hB5 (x1) (x2) (x3) ((x4 + (1 : Int32))) S h)
def wp_X9_wrongBy_5b (S : bT9) (x1 : Int32) (x2 : Int32) (x3 : Int32) (x4 : Int32) (Q : Int32 → (bT9) → Prop) (B5 : Int32 → Int32 → Int32 → Int32 → (bT9) → Prop) : Prop := (vp_in (10 : Int32) 23 ∧ ((((b9g_now S) ((10 : Int32)).toNatClampNeg) ≤ x4 → (Q x3 S)) ∧ (¬ ((b9g_now S) ((10 : Int32)).toNatClampNeg) ≤ x4 → (vp_in ((128 : Int32) + x4) 144 ∧ (vp_in ((128 : Int32) + x4) 144 ∧ (wp_X9_mayBe S (((b9g_keys S) (((128 : Int32) + x4)).toNatClampNeg)) (((b9g_lengths S) (((128 : Int32) + x4)).toNatClampNeg)) (x1) (x2) (fun r1 u2 => ((r1 = 0 → (wp_X9_wrongBy_71 u2 (x1) (x2) (x3) (x4) Q B5)) ∧ (¬ r1 = 0 → (wp_X9_isOfFilter u2 (((b9g_keys S) (((128 : Int32) + x4)).toNatClampNeg)) (((b9g_lengths S) (((128 : Int32) + x4)).toNatClampNeg)) (fun r3 => ((¬ r3 = 0 → (wp_X9_wrongBy_71 u2 (x1) (x2) (x3) (x4) Q B5)) ∧ (r3 = 0 → (wp_X9_wrongBy_71 u2 (x1) (x2) ((x3 + (1 : Int32))) (x4) Q B5))))))))))))))
set_option maxRecDepth 20000 in
theorem t_X9_wrongBy_5b {X : bf_X} (C : bf_C X RX9 cX9_wrongBy 8 (some .int)) (hR : bf_Rm X 6 140) (S : bT9) (x1 : Int32) (x2 : Int32) (x3 : Int32) (x4 : Int32) (Q : Int32 → (bT9) → Prop) (B5 : Int32 → Int32 → Int32 → Int32 → (bT9) → Prop) (hB5 : ∀ (x1 : Int32) (x2 : Int32) (x3 : Int32) (x4 : Int32) (S : bT9), B5 x1 x2 x3 x4 S → bf_A X (bf_Zi X bW9 Q) 8 5 [some (.ref 0), some (.int x1), some (.int x2), some (.int x3), some (.int x4), none, none, none] [] (bW9 S)) (h : wp_X9_wrongBy_5b S x1 x2 x3 x4 Q B5) : bf_A X (bf_Zi X bW9 Q) 8 5 [some (.ref 0), some (.int x1), some (.int x2), some (.int x3), some (.int x4), none, none, none] [] (bW9 S) := by
  unfold wp_X9_wrongBy_5b at h
  refine bs_iload C (bf_dk dd_X9_wrongBy 4 rfl) rfl ?_
  refine bs_aload_n C (bf_dk dd_X9_wrongBy 5 rfl) rfl ?_
  refine bs_get C (bf_dk dd_X9_wrongBy 6 rfl) cl_9 in_9 1 (Nat.le_of_ble_eq_true rfl) rfl f_9_7 (ge_bW9_0 S) rfl ?_
  refine bs_bipush C (bf_dk dd_X9_wrongBy 7 rfl) (10 : Int32) (by decide) ?_
  obtain ⟨hi, h⟩ := h
  refine bs_iald C (bf_dk dd_X9_wrongBy 8 rfl) (ge_bW9_1 S) hi ?_
  refine bs_icmp_ge C (bf_dk dd_X9_wrongBy 9 rfl) (tgt := 77) rfl (fun c => ?_) (fun c => ?_)
  · replace h := h.1 c
    refine bs_iload_n C (bf_dk dd_X9_wrongBy 42 rfl) rfl ?_
    exact bs_iret (u := S) C (bf_dk dd_X9_wrongBy 43 rfl) rfl h
  · replace h := h.2 c
    refine bs_aload_n C (bf_dk dd_X9_wrongBy 10 rfl) rfl ?_
    refine bs_get C (bf_dk dd_X9_wrongBy 11 rfl) cl_9 in_9 2 (Nat.le_of_ble_eq_true rfl) rfl f_9_13 (ge_bW9_0 S) rfl ?_
    refine bs_sipush C (bf_dk dd_X9_wrongBy 12 rfl) (128 : Int32) (by decide) ?_
    refine bs_iload C (bf_dk dd_X9_wrongBy 13 rfl) rfl ?_
    refine bs_iadd C (bf_dk dd_X9_wrongBy 14 rfl) ?_
    obtain ⟨hi, h⟩ := h
    refine bs_lald C (bf_dk dd_X9_wrongBy 15 rfl) (ge_bW9_2 S) hi ?_
    refine bs_lstore C (bf_dk dd_X9_wrongBy 16 rfl) (Nat.le_of_ble_eq_true rfl) (Nat.le_of_ble_eq_true rfl) (lv2 := [some (.ref 0), some (.int x1), some (.int x2), some (.int x3), some (.int x4), some (.long ((b9g_keys S) (((128 : Int32) + x4)).toNatClampNeg)), none, none]) rfl ?_
    refine bs_aload_n C (bf_dk dd_X9_wrongBy 17 rfl) rfl ?_
    refine bs_get C (bf_dk dd_X9_wrongBy 18 rfl) cl_9 in_9 3 (Nat.le_of_ble_eq_true rfl) rfl f_9_17 (ge_bW9_0 S) rfl ?_
    refine bs_sipush C (bf_dk dd_X9_wrongBy 19 rfl) (128 : Int32) (by decide) ?_
    refine bs_iload C (bf_dk dd_X9_wrongBy 20 rfl) rfl ?_
    refine bs_iadd C (bf_dk dd_X9_wrongBy 21 rfl) ?_
    obtain ⟨hi, h⟩ := h
    refine bs_iald C (bf_dk dd_X9_wrongBy 22 rfl) (ge_bW9_3 S) hi ?_
    refine bs_istore C (bf_dk dd_X9_wrongBy 23 rfl) (Nat.le_of_ble_eq_true rfl) (Nat.le_of_ble_eq_true rfl) (lv2 := [some (.ref 0), some (.int x1), some (.int x2), some (.int x3), some (.int x4), some (.long ((b9g_keys S) (((128 : Int32) + x4)).toNatClampNeg)), none, some (.int ((b9g_lengths S) (((128 : Int32) + x4)).toNatClampNeg))]) rfl ?_
    refine bs_aload_n C (bf_dk dd_X9_wrongBy 24 rfl) rfl ?_
    refine bs_lload C (bf_dk dd_X9_wrongBy 25 rfl) rfl ?_
    refine bs_iload C (bf_dk dd_X9_wrongBy 26 rfl) rfl ?_
    refine bs_iload_n C (bf_dk dd_X9_wrongBy 27 rfl) rfl ?_
    refine bs_iload_n C (bf_dk dd_X9_wrongBy 28 rfl) rfl ?_
    refine bs_selfV_i C hR (c_X9_mayBe _ _ _ _ _ S (((b9g_keys S) (((128 : Int32) + x4)).toNatClampNeg)) (((b9g_lengths S) (((128 : Int32) + x4)).toNatClampNeg)) (x1) (x2) _ h) my_X9_mayBe m_9_316 rfl cl_9 (ge_bW9_0 _) rfl (Nat.le_of_ble_eq_true rfl) (Nat.le_of_ble_eq_true rfl) (st := []) (Nat.le_of_ble_eq_true rfl) (bf_dk dd_X9_wrongBy 29 rfl) rfl (len := 21) (fun _ => rfl) (fun r1 u2 h => ?_)
    refine bs_if_eq C (bf_dk dd_X9_wrongBy 30 rfl) (tgt := 71) rfl (fun c => ?_) (fun c => ?_)
    · replace h := h.1 c
      exact bs_weak (bf_s1 (bf_s1 (bf_s1 (bf_s1 (bf_s1 (bf_sn (bf_sn (bf_sn bf_s0)))))))) (t_X9_wrongBy_71 C hR u2 (x1) (x2) (x3) (x4) Q B5 hB5 h)
    · replace h := h.2 c
      refine bs_aload_n C (bf_dk dd_X9_wrongBy 31 rfl) rfl ?_
      refine bs_lload C (bf_dk dd_X9_wrongBy 32 rfl) rfl ?_
      refine bs_iload C (bf_dk dd_X9_wrongBy 33 rfl) rfl ?_
      refine bs_selfPV_i C hR (c_X9_isOfFilter _ _ _ _ _ u2 (((b9g_keys S) (((128 : Int32) + x4)).toNatClampNeg)) (((b9g_lengths S) (((128 : Int32) + x4)).toNatClampNeg)) _ h) my_X9_isOfFilter m_9_323 rfl cl_9 (ge_bW9_0 _) rfl (Nat.le_of_ble_eq_true rfl) (Nat.le_of_ble_eq_true rfl) (st := []) (Nat.le_of_ble_eq_true rfl) (bf_dk dd_X9_wrongBy 34 rfl) rfl (fun r3 h => ?_)
      refine bs_if_ne C (bf_dk dd_X9_wrongBy 35 rfl) (tgt := 71) rfl (fun c => ?_) (fun c => ?_)
      · replace h := h.1 c
        exact bs_weak (bf_s1 (bf_s1 (bf_s1 (bf_s1 (bf_s1 (bf_sn (bf_sn (bf_sn bf_s0)))))))) (t_X9_wrongBy_71 C hR u2 (x1) (x2) (x3) (x4) Q B5 hB5 h)
      · replace h := h.2 c
        refine bs_iload_n C (bf_dk dd_X9_wrongBy 36 rfl) rfl ?_
        refine bs_iconst C (bf_dk dd_X9_wrongBy 37 rfl) (1 : Int32) (by decide) ?_
        refine bs_iadd C (bf_dk dd_X9_wrongBy 38 rfl) ?_
        refine bs_istore_n C (bf_dk dd_X9_wrongBy 39 rfl) rfl (Nat.le_of_ble_eq_true rfl) (Nat.le_of_ble_eq_true rfl) (lv2 := [some (.ref 0), some (.int x1), some (.int x2), some (.int (x3 + (1 : Int32))), some (.int x4), some (.long ((b9g_keys S) (((128 : Int32) + x4)).toNatClampNeg)), none, some (.int ((b9g_lengths S) (((128 : Int32) + x4)).toNatClampNeg))]) rfl ?_
        exact bs_weak (bf_s1 (bf_s1 (bf_s1 (bf_s1 (bf_s1 (bf_sn (bf_sn (bf_sn bf_s0)))))))) (t_X9_wrongBy_71 C hR u2 (x1) (x2) ((x3 + (1 : Int32))) (x4) Q B5 hB5 h)
def wp_X9_wrongBy_5 (S : bT9) (x1 : Int32) (x2 : Int32) (x3 : Int32) (x4 : Int32) (Q : Int32 → (bT9) → Prop) : Prop := ∃ I : Nat → Int32 → Int32 → Int32 → Int32 → (bT9) → Prop, (∃ n : Nat, I n x1 x2 x3 x4 S) ∧ ∀ (n : Nat) (x1 : Int32) (x2 : Int32) (x3 : Int32) (x4 : Int32) (S : bT9), I n x1 x2 x3 x4 S → wp_X9_wrongBy_5b S x1 x2 x3 x4 Q (fun x1 x2 x3 x4 S => ∃ n2 : Nat, n2 < n ∧ I n2 x1 x2 x3 x4 S)
theorem t_X9_wrongBy_5 {X : bf_X} (C : bf_C X RX9 cX9_wrongBy 8 (some .int)) (hR : bf_Rm X 6 140) (S : bT9) (x1 : Int32) (x2 : Int32) (x3 : Int32) (x4 : Int32) (Q : Int32 → (bT9) → Prop) (h : wp_X9_wrongBy_5 S x1 x2 x3 x4 Q) : bf_A X (bf_Zi X bW9 Q) 8 5 [some (.ref 0), some (.int x1), some (.int x2), some (.int x3), some (.int x4), none, none, none] [] (bW9 S) := by
  obtain ⟨I, ⟨n0, h0⟩, hI⟩ := h
  have key : ∀ (n : Nat) (x1 : Int32) (x2 : Int32) (x3 : Int32) (x4 : Int32) (S : bT9), I n x1 x2 x3 x4 S → bf_A X (bf_Zi X bW9 Q) 8 5 [some (.ref 0), some (.int x1), some (.int x2), some (.int x3), some (.int x4), none, none, none] [] (bW9 S) := by
    intro n
    induction n using Nat.strongRecOn with
    | _ n ih =>
      intro x1 x2 x3 x4 S hi
      exact t_X9_wrongBy_5b C hR S x1 x2 x3 x4 Q _ (fun x1 x2 x3 x4 S hb => by obtain ⟨n2, hn, hi2⟩ := hb; exact ih n2 hn x1 x2 x3 x4 S hi2) (hI n x1 x2 x3 x4 S hi)
  exact key n0 x1 x2 x3 x4 S h0
def wp_X9_wrongBy (S : bT9) (a1 : Int32) (a2 : Int32) (Q : Int32 → (bT9) → Prop) : Prop := (wp_X9_wrongBy_5 S (a1) (a2) ((0 : Int32)) ((0 : Int32)) Q)
set_option maxRecDepth 20000 in
theorem t_X9_wrongBy {X : bf_X} (C : bf_C X RX9 cX9_wrongBy 8 (some .int)) (hR : bf_Rm X 6 140) (S : bT9) (a1 : Int32) (a2 : Int32) (Q : Int32 → (bT9) → Prop) (h : wp_X9_wrongBy S a1 a2 Q) : bf_A X (bf_Zi X bW9 Q) 8 0 [some (.ref 0), some (.int a1), some (.int a2), none, none, none, none, none] [] (bW9 S) := by
  unfold wp_X9_wrongBy at h
  refine bs_iconst C (bf_dk dd_X9_wrongBy 0 rfl) (0 : Int32) (by decide) ?_
  refine bs_istore_n C (bf_dk dd_X9_wrongBy 1 rfl) rfl (Nat.le_of_ble_eq_true rfl) (Nat.le_of_ble_eq_true rfl) (lv2 := [some (.ref 0), some (.int a1), some (.int a2), some (.int (0 : Int32)), none, none, none, none]) rfl ?_
  refine bs_iconst C (bf_dk dd_X9_wrongBy 2 rfl) (0 : Int32) (by decide) ?_
  refine bs_istore C (bf_dk dd_X9_wrongBy 3 rfl) (Nat.le_of_ble_eq_true rfl) (Nat.le_of_ble_eq_true rfl) (lv2 := [some (.ref 0), some (.int a1), some (.int a2), some (.int (0 : Int32)), some (.int (0 : Int32)), none, none, none]) rfl ?_
  exact bs_weak (bf_s1 (bf_s1 (bf_s1 (bf_s1 (bf_s1 (bf_sn (bf_sn (bf_sn bf_s0)))))))) (t_X9_wrongBy_5 C hR S (a1) (a2) ((0 : Int32)) ((0 : Int32)) Q h)
theorem c_X9_wrongBy (l : Launch) (dC : Nat → ClassId) (dI : Nat → Nat → Nat) (ac : Nat → ClassId) (al : Nat → Nat) (S : bT9) (a1 : Int32) (a2 : Int32) (Q : Int32 → (bT9) → Prop) (h : wp_X9_wrongBy S a1 a2 Q) : bf_M l yX9_wrongBy cX9_wrongBy 8 (some .int) 6 140 dC dI ac al [.ref 0, .int a1, .int a2] (bW9 S) (bf_Ki dC dI ac al bW9 Q) := by
  refine bf_start [some (.ref 0), some (.int a1), some (.int a2), none, none, none, none, none] (by decide) (Nat.le_of_ble_eq_true rfl) (bf_s1 (bf_s1 (bf_s1 (bf_en 5)))) ?_
  intro X hl C hR e1 e2 e3 e4
  subst e1; subst e2; subst e3; subst e4
  exact t_X9_wrongBy C hR S a1 a2 Q h
def wp_X9_tuned_117 (S : bT9) (x1 : Int32) (x2 : Int32) (x3 : Int32) (x4 : Int32) (x5 : Int32) (Q : Int32 → (bT9) → Prop) (B37 : Int32 → Int32 → Int32 → Int32 → Int32 → (bT9) → Prop) : Prop := (B37 (x1) (x2) (x3) (x4) ((x5 + (1 : Int32))) S)
set_option maxRecDepth 20000 in
theorem t_X9_tuned_117 {X : bf_X} (C : bf_C X RX9 cX9_tuned 8 (some .int)) (hR : bf_Rm X 7 167) (S : bT9) (x1 : Int32) (x2 : Int32) (x3 : Int32) (x4 : Int32) (x5 : Int32) (Q : Int32 → (bT9) → Prop) (B37 : Int32 → Int32 → Int32 → Int32 → Int32 → (bT9) → Prop) (hB37 : ∀ (x1 : Int32) (x2 : Int32) (x3 : Int32) (x4 : Int32) (x5 : Int32) (S : bT9), B37 x1 x2 x3 x4 x5 S → bf_A X (bf_Zi X bW9 Q) 8 37 [some (.ref 0), some (.int x1), some (.int x2), some (.int x3), some (.int x4), some (.int x5), none, none] [] (bW9 S)) (h : wp_X9_tuned_117 S x1 x2 x3 x4 x5 Q B37) : bf_A X (bf_Zi X bW9 Q) 8 117 [some (.ref 0), some (.int x1), some (.int x2), some (.int x3), some (.int x4), some (.int x5), none, none] [] (bW9 S) := by
  unfold wp_X9_tuned_117 at h
  refine bs_iinc C (bf_dk dd_X9_tuned 63 rfl) (x5 + (1 : Int32)) rfl rfl (Nat.le_of_ble_eq_true rfl) (Nat.le_of_ble_eq_true rfl) (lv2 := [some (.ref 0), some (.int x1), some (.int x2), some (.int x3), some (.int x4), some (.int (x5 + (1 : Int32))), none, none]) rfl ?_
  refine bs_goto C (bf_dk dd_X9_tuned 64 rfl) (tgt := 37) rfl ?_
  exact bs_weak (bf_s1 (bf_s1 (bf_s1 (bf_s1 (bf_s1 (bf_s1 (bf_sn (bf_sn bf_s0)))))))) (hB37 (x1) (x2) (x3) (x4) ((x5 + (1 : Int32))) S h)
def wp_X9_tuned_111 (S : bT9) (x1 : Int32) (x2 : Int32) (x3 : Int32) (x4 : Int32) (x5 : Int32) (x6 : Int32) (Q : Int32 → (bT9) → Prop) (B37 : Int32 → Int32 → Int32 → Int32 → Int32 → (bT9) → Prop) (B46 : Int32 → Int32 → Int32 → Int32 → Int32 → Int32 → (bT9) → Prop) : Prop := (B46 (x1) (x2) (x3) (x4) (x5) ((x6 + (1 : Int32))) S)
set_option maxRecDepth 20000 in
theorem t_X9_tuned_111 {X : bf_X} (C : bf_C X RX9 cX9_tuned 8 (some .int)) (hR : bf_Rm X 7 167) (S : bT9) (x1 : Int32) (x2 : Int32) (x3 : Int32) (x4 : Int32) (x5 : Int32) (x6 : Int32) (Q : Int32 → (bT9) → Prop) (B37 : Int32 → Int32 → Int32 → Int32 → Int32 → (bT9) → Prop) (B46 : Int32 → Int32 → Int32 → Int32 → Int32 → Int32 → (bT9) → Prop) (hB37 : ∀ (x1 : Int32) (x2 : Int32) (x3 : Int32) (x4 : Int32) (x5 : Int32) (S : bT9), B37 x1 x2 x3 x4 x5 S → bf_A X (bf_Zi X bW9 Q) 8 37 [some (.ref 0), some (.int x1), some (.int x2), some (.int x3), some (.int x4), some (.int x5), none, none] [] (bW9 S)) (hB46 : ∀ (x1 : Int32) (x2 : Int32) (x3 : Int32) (x4 : Int32) (x5 : Int32) (x6 : Int32) (S : bT9), B46 x1 x2 x3 x4 x5 x6 S → bf_A X (bf_Zi X bW9 Q) 8 46 [some (.ref 0), some (.int x1), some (.int x2), some (.int x3), some (.int x4), some (.int x5), some (.int x6), none] [] (bW9 S)) (h : wp_X9_tuned_111 S x1 x2 x3 x4 x5 x6 Q B37 B46) : bf_A X (bf_Zi X bW9 Q) 8 111 [some (.ref 0), some (.int x1), some (.int x2), some (.int x3), some (.int x4), some (.int x5), some (.int x6), none] [] (bW9 S) := by
  unfold wp_X9_tuned_111 at h
  refine bs_iinc C (bf_dk dd_X9_tuned 61 rfl) (x6 + (1 : Int32)) rfl rfl (Nat.le_of_ble_eq_true rfl) (Nat.le_of_ble_eq_true rfl) (lv2 := [some (.ref 0), some (.int x1), some (.int x2), some (.int x3), some (.int x4), some (.int x5), some (.int (x6 + (1 : Int32))), none]) rfl ?_
  refine bs_goto C (bf_dk dd_X9_tuned 62 rfl) (tgt := 46) rfl ?_
  exact bs_weak (bf_s1 (bf_s1 (bf_s1 (bf_s1 (bf_s1 (bf_s1 (bf_s1 (bf_sn bf_s0)))))))) (hB46 (x1) (x2) (x3) (x4) (x5) ((x6 + (1 : Int32))) S h)
def wp_X9_tuned_46b (S : bT9) (x1 : Int32) (x2 : Int32) (x3 : Int32) (x4 : Int32) (x5 : Int32) (x6 : Int32) (Q : Int32 → (bT9) → Prop) (B37 : Int32 → Int32 → Int32 → Int32 → Int32 → (bT9) → Prop) (B46 : Int32 → Int32 → Int32 → Int32 → Int32 → Int32 → (bT9) → Prop) : Prop := (((8 : Int32) < x6 → (wp_X9_tuned_117 S (x1) (x2) (x3) (x4) (x5) Q B37)) ∧ (¬ (8 : Int32) < x6 → ((x5 < x6 → (wp_X9_tuned_117 S (x1) (x2) (x3) (x4) (x5) Q B37)) ∧ (¬ x5 < x6 → (((x5 - x6) ≤ (8 : Int32) → (wp_X9_wrongBy S (x6) ((x5 - x6)) (fun r1 u2 => ((r1 < x3 → (wp_X9_tuned_111 u2 (x1) (x2) (r1) (((((9 : Int32) * x6) + x5) - x6)) (x5) (x6) Q B37 B46)) ∧ (¬ r1 < x3 → (wp_X9_tuned_111 u2 (x1) (x2) (x3) (x4) (x5) (x6) Q B37 B46)))))) ∧ (¬ (x5 - x6) ≤ (8 : Int32) → (wp_X9_tuned_111 S (x1) (x2) (x3) (x4) (x5) (x6) Q B37 B46)))))))
set_option maxRecDepth 20000 in
theorem t_X9_tuned_46b {X : bf_X} (C : bf_C X RX9 cX9_tuned 8 (some .int)) (hR : bf_Rm X 7 167) (S : bT9) (x1 : Int32) (x2 : Int32) (x3 : Int32) (x4 : Int32) (x5 : Int32) (x6 : Int32) (Q : Int32 → (bT9) → Prop) (B37 : Int32 → Int32 → Int32 → Int32 → Int32 → (bT9) → Prop) (B46 : Int32 → Int32 → Int32 → Int32 → Int32 → Int32 → (bT9) → Prop) (hB37 : ∀ (x1 : Int32) (x2 : Int32) (x3 : Int32) (x4 : Int32) (x5 : Int32) (S : bT9), B37 x1 x2 x3 x4 x5 S → bf_A X (bf_Zi X bW9 Q) 8 37 [some (.ref 0), some (.int x1), some (.int x2), some (.int x3), some (.int x4), some (.int x5), none, none] [] (bW9 S)) (hB46 : ∀ (x1 : Int32) (x2 : Int32) (x3 : Int32) (x4 : Int32) (x5 : Int32) (x6 : Int32) (S : bT9), B46 x1 x2 x3 x4 x5 x6 S → bf_A X (bf_Zi X bW9 Q) 8 46 [some (.ref 0), some (.int x1), some (.int x2), some (.int x3), some (.int x4), some (.int x5), some (.int x6), none] [] (bW9 S)) (h : wp_X9_tuned_46b S x1 x2 x3 x4 x5 x6 Q B37 B46) : bf_A X (bf_Zi X bW9 Q) 8 46 [some (.ref 0), some (.int x1), some (.int x2), some (.int x3), some (.int x4), some (.int x5), some (.int x6), none] [] (bW9 S) := by
  unfold wp_X9_tuned_46b at h
  refine bs_iload C (bf_dk dd_X9_tuned 28 rfl) rfl ?_
  refine bs_bipush C (bf_dk dd_X9_tuned 29 rfl) (8 : Int32) (by decide) ?_
  refine bs_icmp_gt C (bf_dk dd_X9_tuned 30 rfl) (tgt := 117) rfl (fun c => ?_) (fun c => ?_)
  · replace h := h.1 c
    exact bs_weak (bf_s1 (bf_s1 (bf_s1 (bf_s1 (bf_s1 (bf_s1 (bf_sn (bf_sn bf_s0)))))))) (t_X9_tuned_117 C hR S (x1) (x2) (x3) (x4) (x5) Q B37 hB37 h)
  · replace h := h.2 c
    refine bs_iload C (bf_dk dd_X9_tuned 31 rfl) rfl ?_
    refine bs_iload C (bf_dk dd_X9_tuned 32 rfl) rfl ?_
    refine bs_icmp_gt C (bf_dk dd_X9_tuned 33 rfl) (tgt := 117) rfl (fun c => ?_) (fun c => ?_)
    · replace h := h.1 c
      exact bs_weak (bf_s1 (bf_s1 (bf_s1 (bf_s1 (bf_s1 (bf_s1 (bf_sn (bf_sn bf_s0)))))))) (t_X9_tuned_117 C hR S (x1) (x2) (x3) (x4) (x5) Q B37 hB37 h)
    · replace h := h.2 c
      refine bs_iload C (bf_dk dd_X9_tuned 34 rfl) rfl ?_
      refine bs_iload C (bf_dk dd_X9_tuned 35 rfl) rfl ?_
      refine bs_isub C (bf_dk dd_X9_tuned 36 rfl) ?_
      refine bs_bipush C (bf_dk dd_X9_tuned 37 rfl) (8 : Int32) (by decide) ?_
      refine bs_icmp_le C (bf_dk dd_X9_tuned 38 rfl) (tgt := 73) rfl (fun c => ?_) (fun c => ?_)
      · replace h := h.1 c
        refine bs_aload_n C (bf_dk dd_X9_tuned 40 rfl) rfl ?_
        refine bs_iload C (bf_dk dd_X9_tuned 41 rfl) rfl ?_
        refine bs_iload C (bf_dk dd_X9_tuned 42 rfl) rfl ?_
        refine bs_iload C (bf_dk dd_X9_tuned 43 rfl) rfl ?_
        refine bs_isub C (bf_dk dd_X9_tuned 44 rfl) ?_
        refine bs_selfV_i C hR (c_X9_wrongBy _ _ _ _ _ S (x6) ((x5 - x6)) _ h) my_X9_wrongBy m_9_424 rfl cl_9 (ge_bW9_0 _) rfl (Nat.le_of_ble_eq_true rfl) (Nat.le_of_ble_eq_true rfl) (st := []) (Nat.le_of_ble_eq_true rfl) (bf_dk dd_X9_tuned 45 rfl) rfl (len := 21) (fun _ => rfl) (fun r1 u2 h => ?_)
        refine bs_istore C (bf_dk dd_X9_tuned 46 rfl) (Nat.le_of_ble_eq_true rfl) (Nat.le_of_ble_eq_true rfl) (lv2 := [some (.ref 0), some (.int x1), some (.int x2), some (.int x3), some (.int x4), some (.int x5), some (.int x6), some (.int r1)]) rfl ?_
        refine bs_iload C (bf_dk dd_X9_tuned 47 rfl) rfl ?_
        refine bs_iload_n C (bf_dk dd_X9_tuned 48 rfl) rfl ?_
        refine bs_icmp_lt C (bf_dk dd_X9_tuned 49 rfl) (tgt := 95) rfl (fun c => ?_) (fun c => ?_)
        · replace h := h.1 c
          refine bs_iload C (bf_dk dd_X9_tuned 51 rfl) rfl ?_
          refine bs_istore_n C (bf_dk dd_X9_tuned 52 rfl) rfl (Nat.le_of_ble_eq_true rfl) (Nat.le_of_ble_eq_true rfl) (lv2 := [some (.ref 0), some (.int x1), some (.int x2), some (.int r1), some (.int x4), some (.int x5), some (.int x6), some (.int r1)]) rfl ?_
          refine bs_bipush C (bf_dk dd_X9_tuned 53 rfl) (9 : Int32) (by decide) ?_
          refine bs_iload C (bf_dk dd_X9_tuned 54 rfl) rfl ?_
          refine bs_imul C (bf_dk dd_X9_tuned 55 rfl) ?_
          refine bs_iload C (bf_dk dd_X9_tuned 56 rfl) rfl ?_
          refine bs_iadd C (bf_dk dd_X9_tuned 57 rfl) ?_
          refine bs_iload C (bf_dk dd_X9_tuned 58 rfl) rfl ?_
          refine bs_isub C (bf_dk dd_X9_tuned 59 rfl) ?_
          refine bs_istore C (bf_dk dd_X9_tuned 60 rfl) (Nat.le_of_ble_eq_true rfl) (Nat.le_of_ble_eq_true rfl) (lv2 := [some (.ref 0), some (.int x1), some (.int x2), some (.int r1), some (.int ((((9 : Int32) * x6) + x5) - x6)), some (.int x5), some (.int x6), some (.int r1)]) rfl ?_
          exact bs_weak (bf_s1 (bf_s1 (bf_s1 (bf_s1 (bf_s1 (bf_s1 (bf_s1 (bf_sn bf_s0)))))))) (t_X9_tuned_111 C hR u2 (x1) (x2) (r1) (((((9 : Int32) * x6) + x5) - x6)) (x5) (x6) Q B37 B46 hB37 hB46 h)
        · replace h := h.2 c
          refine bs_goto C (bf_dk dd_X9_tuned 50 rfl) (tgt := 111) rfl ?_
          exact bs_weak (bf_s1 (bf_s1 (bf_s1 (bf_s1 (bf_s1 (bf_s1 (bf_s1 (bf_sn bf_s0)))))))) (t_X9_tuned_111 C hR u2 (x1) (x2) (x3) (x4) (x5) (x6) Q B37 B46 hB37 hB46 h)
      · replace h := h.2 c
        refine bs_goto C (bf_dk dd_X9_tuned 39 rfl) (tgt := 111) rfl ?_
        exact bs_weak (bf_s1 (bf_s1 (bf_s1 (bf_s1 (bf_s1 (bf_s1 (bf_s1 (bf_sn bf_s0)))))))) (t_X9_tuned_111 C hR S (x1) (x2) (x3) (x4) (x5) (x6) Q B37 B46 hB37 hB46 h)
def wp_X9_tuned_46 (S : bT9) (x1 : Int32) (x2 : Int32) (x3 : Int32) (x4 : Int32) (x5 : Int32) (x6 : Int32) (Q : Int32 → (bT9) → Prop) (B37 : Int32 → Int32 → Int32 → Int32 → Int32 → (bT9) → Prop) : Prop := ∃ I : Nat → Int32 → Int32 → Int32 → Int32 → Int32 → Int32 → (bT9) → Prop, (∃ n : Nat, I n x1 x2 x3 x4 x5 x6 S) ∧ ∀ (n : Nat) (x1 : Int32) (x2 : Int32) (x3 : Int32) (x4 : Int32) (x5 : Int32) (x6 : Int32) (S : bT9), I n x1 x2 x3 x4 x5 x6 S → wp_X9_tuned_46b S x1 x2 x3 x4 x5 x6 Q B37 (fun x1 x2 x3 x4 x5 x6 S => ∃ n2 : Nat, n2 < n ∧ I n2 x1 x2 x3 x4 x5 x6 S)
theorem t_X9_tuned_46 {X : bf_X} (C : bf_C X RX9 cX9_tuned 8 (some .int)) (hR : bf_Rm X 7 167) (S : bT9) (x1 : Int32) (x2 : Int32) (x3 : Int32) (x4 : Int32) (x5 : Int32) (x6 : Int32) (Q : Int32 → (bT9) → Prop) (B37 : Int32 → Int32 → Int32 → Int32 → Int32 → (bT9) → Prop) (hB37 : ∀ (x1 : Int32) (x2 : Int32) (x3 : Int32) (x4 : Int32) (x5 : Int32) (S : bT9), B37 x1 x2 x3 x4 x5 S → bf_A X (bf_Zi X bW9 Q) 8 37 [some (.ref 0), some (.int x1), some (.int x2), some (.int x3), some (.int x4), some (.int x5), none, none] [] (bW9 S)) (h : wp_X9_tuned_46 S x1 x2 x3 x4 x5 x6 Q B37) : bf_A X (bf_Zi X bW9 Q) 8 46 [some (.ref 0), some (.int x1), some (.int x2), some (.int x3), some (.int x4), some (.int x5), some (.int x6), none] [] (bW9 S) := by
  obtain ⟨I, ⟨n0, h0⟩, hI⟩ := h
  have key : ∀ (n : Nat) (x1 : Int32) (x2 : Int32) (x3 : Int32) (x4 : Int32) (x5 : Int32) (x6 : Int32) (S : bT9), I n x1 x2 x3 x4 x5 x6 S → bf_A X (bf_Zi X bW9 Q) 8 46 [some (.ref 0), some (.int x1), some (.int x2), some (.int x3), some (.int x4), some (.int x5), some (.int x6), none] [] (bW9 S) := by
    intro n
    induction n using Nat.strongRecOn with
    | _ n ih =>
      intro x1 x2 x3 x4 x5 x6 S hi
      exact t_X9_tuned_46b C hR S x1 x2 x3 x4 x5 x6 Q B37 _ hB37 (fun x1 x2 x3 x4 x5 x6 S hb => by obtain ⟨n2, hn, hi2⟩ := hb; exact ih n2 hn x1 x2 x3 x4 x5 x6 S hi2) (hI n x1 x2 x3 x4 x5 x6 S hi)
  exact key n0 x1 x2 x3 x4 x5 x6 S h0
def wp_X9_tuned_37b (S : bT9) (x1 : Int32) (x2 : Int32) (x3 : Int32) (x4 : Int32) (x5 : Int32) (Q : Int32 → (bT9) → Prop) (B37 : Int32 → Int32 → Int32 → Int32 → Int32 → (bT9) → Prop) : Prop := ((x1 < x5 → ((¬ x2 = 0 → ((¬ x2 = (1 : Int32) → (Q x3 S)) ∧ (x2 = (1 : Int32) → (¬ (9 : Int32) = 0 ∧ (Q (x4 - x4 / (9 : Int32) * (9 : Int32)) S))))) ∧ (x2 = 0 → (¬ (9 : Int32) = 0 ∧ (Q (x4 / (9 : Int32)) S))))) ∧ (¬ x1 < x5 → (wp_X9_tuned_46 S (x1) (x2) (x3) (x4) (x5) ((0 : Int32)) Q B37)))
set_option maxRecDepth 20000 in
theorem t_X9_tuned_37b {X : bf_X} (C : bf_C X RX9 cX9_tuned 8 (some .int)) (hR : bf_Rm X 7 167) (S : bT9) (x1 : Int32) (x2 : Int32) (x3 : Int32) (x4 : Int32) (x5 : Int32) (Q : Int32 → (bT9) → Prop) (B37 : Int32 → Int32 → Int32 → Int32 → Int32 → (bT9) → Prop) (hB37 : ∀ (x1 : Int32) (x2 : Int32) (x3 : Int32) (x4 : Int32) (x5 : Int32) (S : bT9), B37 x1 x2 x3 x4 x5 S → bf_A X (bf_Zi X bW9 Q) 8 37 [some (.ref 0), some (.int x1), some (.int x2), some (.int x3), some (.int x4), some (.int x5), none, none] [] (bW9 S)) (h : wp_X9_tuned_37b S x1 x2 x3 x4 x5 Q B37) : bf_A X (bf_Zi X bW9 Q) 8 37 [some (.ref 0), some (.int x1), some (.int x2), some (.int x3), some (.int x4), some (.int x5), none, none] [] (bW9 S) := by
  unfold wp_X9_tuned_37b at h
  refine bs_iload C (bf_dk dd_X9_tuned 23 rfl) rfl ?_
  refine bs_iload_n C (bf_dk dd_X9_tuned 24 rfl) rfl ?_
  refine bs_icmp_gt C (bf_dk dd_X9_tuned 25 rfl) (tgt := 123) rfl (fun c => ?_) (fun c => ?_)
  · replace h := h.1 c
    refine bs_iload_n C (bf_dk dd_X9_tuned 65 rfl) rfl ?_
    refine bs_if_ne C (bf_dk dd_X9_tuned 66 rfl) (tgt := 135) rfl (fun c => ?_) (fun c => ?_)
    · replace h := h.1 c
      refine bs_iload_n C (bf_dk dd_X9_tuned 71 rfl) rfl ?_
      refine bs_iconst C (bf_dk dd_X9_tuned 72 rfl) (1 : Int32) (by decide) ?_
      refine bs_icmp_ne C (bf_dk dd_X9_tuned 73 rfl) (tgt := 148) rfl (fun c => ?_) (fun c => ?_)
      · replace h := h.1 c
        refine bs_iload_n C (bf_dk dd_X9_tuned 78 rfl) rfl ?_
        exact bs_iret (u := S) C (bf_dk dd_X9_tuned 79 rfl) rfl h
      · replace h := h.2 c
        refine bs_iload C (bf_dk dd_X9_tuned 74 rfl) rfl ?_
        refine bs_bipush C (bf_dk dd_X9_tuned 75 rfl) (9 : Int32) (by decide) ?_
        obtain ⟨hi, h⟩ := h
        refine bs_irem C (bf_dk dd_X9_tuned 76 rfl) hi ?_
        refine bs_goto C (bf_dk dd_X9_tuned 77 rfl) (tgt := 149) rfl ?_
        exact bs_iret (u := S) C (bf_dk dd_X9_tuned 79 rfl) rfl h
    · replace h := h.2 c
      refine bs_iload C (bf_dk dd_X9_tuned 67 rfl) rfl ?_
      refine bs_bipush C (bf_dk dd_X9_tuned 68 rfl) (9 : Int32) (by decide) ?_
      obtain ⟨hi, h⟩ := h
      refine bs_idiv C (bf_dk dd_X9_tuned 69 rfl) hi ?_
      refine bs_goto C (bf_dk dd_X9_tuned 70 rfl) (tgt := 149) rfl ?_
      exact bs_iret (u := S) C (bf_dk dd_X9_tuned 79 rfl) rfl h
  · replace h := h.2 c
    refine bs_iconst C (bf_dk dd_X9_tuned 26 rfl) (0 : Int32) (by decide) ?_
    refine bs_istore C (bf_dk dd_X9_tuned 27 rfl) (Nat.le_of_ble_eq_true rfl) (Nat.le_of_ble_eq_true rfl) (lv2 := [some (.ref 0), some (.int x1), some (.int x2), some (.int x3), some (.int x4), some (.int x5), some (.int (0 : Int32)), none]) rfl ?_
    exact bs_weak (bf_s1 (bf_s1 (bf_s1 (bf_s1 (bf_s1 (bf_s1 (bf_s1 (bf_sn bf_s0)))))))) (t_X9_tuned_46 C hR S (x1) (x2) (x3) (x4) (x5) ((0 : Int32)) Q B37 hB37 h)
def wp_X9_tuned_37 (S : bT9) (x1 : Int32) (x2 : Int32) (x3 : Int32) (x4 : Int32) (x5 : Int32) (Q : Int32 → (bT9) → Prop) : Prop := ∃ I : Nat → Int32 → Int32 → Int32 → Int32 → Int32 → (bT9) → Prop, (∃ n : Nat, I n x1 x2 x3 x4 x5 S) ∧ ∀ (n : Nat) (x1 : Int32) (x2 : Int32) (x3 : Int32) (x4 : Int32) (x5 : Int32) (S : bT9), I n x1 x2 x3 x4 x5 S → wp_X9_tuned_37b S x1 x2 x3 x4 x5 Q (fun x1 x2 x3 x4 x5 S => ∃ n2 : Nat, n2 < n ∧ I n2 x1 x2 x3 x4 x5 S)
theorem t_X9_tuned_37 {X : bf_X} (C : bf_C X RX9 cX9_tuned 8 (some .int)) (hR : bf_Rm X 7 167) (S : bT9) (x1 : Int32) (x2 : Int32) (x3 : Int32) (x4 : Int32) (x5 : Int32) (Q : Int32 → (bT9) → Prop) (h : wp_X9_tuned_37 S x1 x2 x3 x4 x5 Q) : bf_A X (bf_Zi X bW9 Q) 8 37 [some (.ref 0), some (.int x1), some (.int x2), some (.int x3), some (.int x4), some (.int x5), none, none] [] (bW9 S) := by
  obtain ⟨I, ⟨n0, h0⟩, hI⟩ := h
  have key : ∀ (n : Nat) (x1 : Int32) (x2 : Int32) (x3 : Int32) (x4 : Int32) (x5 : Int32) (S : bT9), I n x1 x2 x3 x4 x5 S → bf_A X (bf_Zi X bW9 Q) 8 37 [some (.ref 0), some (.int x1), some (.int x2), some (.int x3), some (.int x4), some (.int x5), none, none] [] (bW9 S) := by
    intro n
    induction n using Nat.strongRecOn with
    | _ n ih =>
      intro x1 x2 x3 x4 x5 S hi
      exact t_X9_tuned_37b C hR S x1 x2 x3 x4 x5 Q _ (fun x1 x2 x3 x4 x5 S hb => by obtain ⟨n2, hn, hi2⟩ := hb; exact ih n2 hn x1 x2 x3 x4 x5 S hi2) (hI n x1 x2 x3 x4 x5 S hi)
  exact key n0 x1 x2 x3 x4 x5 S h0
def wp_X9_tuned (S : bT9) (a1 : Int32) (a2 : Int32) (Q : Int32 → (bT9) → Prop) : Prop := (∀ S3 : bT9, S3 = (b9s_told S (0 : Int32)) → (wp_X9_isIn S3 (a1) ((0 : Int32)) ((16 : Int32)) (fun r4 => ((r4 = 0 → (Q (-1 : Int32) S3)) ∧ (¬ r4 = 0 → (wp_X9_isIn S3 (a2) ((0 : Int32)) ((2 : Int32)) (fun r6 => ((¬ r6 = 0 → (wp_X9_tuned_37 S3 (a1) (a2) ((17 : Int32)) ((0 : Int32)) ((0 : Int32)) Q)) ∧ (r6 = 0 → (Q (-1 : Int32) S3))))))))))
set_option maxRecDepth 20000 in
theorem t_X9_tuned {X : bf_X} (C : bf_C X RX9 cX9_tuned 8 (some .int)) (hR : bf_Rm X 7 167) (S : bT9) (a1 : Int32) (a2 : Int32) (Q : Int32 → (bT9) → Prop) (h : wp_X9_tuned S a1 a2 Q) : bf_A X (bf_Zi X bW9 Q) 8 0 [some (.ref 0), some (.int a1), some (.int a2), none, none, none, none, none] [] (bW9 S) := by
  unfold wp_X9_tuned at h
  refine bs_aload_n C (bf_dk dd_X9_tuned 0 rfl) rfl ?_
  refine bs_iconst C (bf_dk dd_X9_tuned 1 rfl) (0 : Int32) (by decide) ?_
  refine bs_put C (bf_dk dd_X9_tuned 2 rfl) tyX9_ok nmX9 cl_9 in_9 0 (Nat.le_of_ble_eq_true rfl) rfl f_9_75 rfl (ge_bW9_0 S) (Nat.le_of_ble_eq_true rfl) rfl rfl (pu_bW9_0_0 S (0 : Int32)) ?_
  refine bs_nameS bW9 (fun S3 eS3 => ?_)
  replace h := h S3 eS3
  refine bs_aload_n C (bf_dk dd_X9_tuned 3 rfl) rfl ?_
  refine bs_iload_n C (bf_dk dd_X9_tuned 4 rfl) rfl ?_
  refine bs_iconst C (bf_dk dd_X9_tuned 5 rfl) (0 : Int32) (by decide) ?_
  refine bs_bipush C (bf_dk dd_X9_tuned 6 rfl) (16 : Int32) (by decide) ?_
  refine bs_selfPV_i C hR (c_X9_isIn _ _ _ _ _ S3 (a1) ((0 : Int32)) ((16 : Int32)) _ h) my_X9_isIn m_9_82 rfl cl_9 (ge_bW9_0 _) rfl (Nat.le_of_ble_eq_true rfl) (Nat.le_of_ble_eq_true rfl) (st := []) (Nat.le_of_ble_eq_true rfl) (bf_dk dd_X9_tuned 7 rfl) rfl (fun r4 h => ?_)
  refine bs_if_eq C (bf_dk dd_X9_tuned 8 rfl) (tgt := 26) rfl (fun c => ?_) (fun c => ?_)
  · replace h := h.1 c
    refine bs_iconst C (bf_dk dd_X9_tuned 15 rfl) (-1 : Int32) (by decide) ?_
    exact bs_iret (u := S3) C (bf_dk dd_X9_tuned 16 rfl) rfl h
  · replace h := h.2 c
    refine bs_aload_n C (bf_dk dd_X9_tuned 9 rfl) rfl ?_
    refine bs_iload_n C (bf_dk dd_X9_tuned 10 rfl) rfl ?_
    refine bs_iconst C (bf_dk dd_X9_tuned 11 rfl) (0 : Int32) (by decide) ?_
    refine bs_iconst C (bf_dk dd_X9_tuned 12 rfl) (2 : Int32) (by decide) ?_
    refine bs_selfPV_i C hR (c_X9_isIn _ _ _ _ _ S3 (a2) ((0 : Int32)) ((2 : Int32)) _ h) my_X9_isIn m_9_82 rfl cl_9 (ge_bW9_0 _) rfl (Nat.le_of_ble_eq_true rfl) (Nat.le_of_ble_eq_true rfl) (st := []) (Nat.le_of_ble_eq_true rfl) (bf_dk dd_X9_tuned 13 rfl) rfl (fun r6 h => ?_)
    refine bs_if_ne C (bf_dk dd_X9_tuned 14 rfl) (tgt := 28) rfl (fun c => ?_) (fun c => ?_)
    · replace h := h.1 c
      refine bs_bipush C (bf_dk dd_X9_tuned 17 rfl) (17 : Int32) (by decide) ?_
      refine bs_istore_n C (bf_dk dd_X9_tuned 18 rfl) rfl (Nat.le_of_ble_eq_true rfl) (Nat.le_of_ble_eq_true rfl) (lv2 := [some (.ref 0), some (.int a1), some (.int a2), some (.int (17 : Int32)), none, none, none, none]) rfl ?_
      refine bs_iconst C (bf_dk dd_X9_tuned 19 rfl) (0 : Int32) (by decide) ?_
      refine bs_istore C (bf_dk dd_X9_tuned 20 rfl) (Nat.le_of_ble_eq_true rfl) (Nat.le_of_ble_eq_true rfl) (lv2 := [some (.ref 0), some (.int a1), some (.int a2), some (.int (17 : Int32)), some (.int (0 : Int32)), none, none, none]) rfl ?_
      refine bs_iconst C (bf_dk dd_X9_tuned 21 rfl) (0 : Int32) (by decide) ?_
      refine bs_istore C (bf_dk dd_X9_tuned 22 rfl) (Nat.le_of_ble_eq_true rfl) (Nat.le_of_ble_eq_true rfl) (lv2 := [some (.ref 0), some (.int a1), some (.int a2), some (.int (17 : Int32)), some (.int (0 : Int32)), some (.int (0 : Int32)), none, none]) rfl ?_
      exact bs_weak (bf_s1 (bf_s1 (bf_s1 (bf_s1 (bf_s1 (bf_s1 (bf_sn (bf_sn bf_s0)))))))) (t_X9_tuned_37 C hR S3 (a1) (a2) ((17 : Int32)) ((0 : Int32)) ((0 : Int32)) Q h)
    · replace h := h.2 c
      refine bs_iconst C (bf_dk dd_X9_tuned 15 rfl) (-1 : Int32) (by decide) ?_
      exact bs_iret (u := S3) C (bf_dk dd_X9_tuned 16 rfl) rfl h
theorem c_X9_tuned (l : Launch) (dC : Nat → ClassId) (dI : Nat → Nat → Nat) (ac : Nat → ClassId) (al : Nat → Nat) (S : bT9) (a1 : Int32) (a2 : Int32) (Q : Int32 → (bT9) → Prop) (h : wp_X9_tuned S a1 a2 Q) : bf_M l yX9_tuned cX9_tuned 8 (some .int) 7 167 dC dI ac al [.ref 0, .int a1, .int a2] (bW9 S) (bf_Ki dC dI ac al bW9 Q) := by
  refine bf_start [some (.ref 0), some (.int a1), some (.int a2), none, none, none, none, none] (by decide) (Nat.le_of_ble_eq_true rfl) (bf_s1 (bf_s1 (bf_s1 (bf_en 5)))) ?_
  intro X hl C hR e1 e2 e3 e4
  subst e1; subst e2; subst e3; subst e4
  exact t_X9_tuned C hR S a1 a2 Q h
def wp_X9_storm_35b (S : bT9) (x1 : Int32) (x2 : Int32) (x3 : Int32) (x4 : Int32) (Q : Int32 → (bT9) → Prop) (B35 : Int32 → Int32 → Int32 → Int32 → (bT9) → Prop) : Prop := ((x1 ≤ x4 → (Q x3 S)) ∧ (¬ x1 ≤ x4 → (wp_X9_draws S (x2) (fun u2 => (wp_X9_asks u2 ((b9g_drawn u2)) ((b9g_drawnLength u2)) (fun r3 u4 => (B35 (x1) (x2) ((x3 + r3)) ((x4 + (1 : Int32))) u4)))))))
set_option maxRecDepth 20000 in
theorem t_X9_storm_35b {X : bf_X} (C : bf_C X RX9 cX9_storm 5 (some .int)) (hR : bf_Rm X 8 187) (S : bT9) (x1 : Int32) (x2 : Int32) (x3 : Int32) (x4 : Int32) (Q : Int32 → (bT9) → Prop) (B35 : Int32 → Int32 → Int32 → Int32 → (bT9) → Prop) (hB35 : ∀ (x1 : Int32) (x2 : Int32) (x3 : Int32) (x4 : Int32) (S : bT9), B35 x1 x2 x3 x4 S → bf_A X (bf_Zi X bW9 Q) 5 35 [some (.ref 0), some (.int x1), some (.int x2), some (.int x3), some (.int x4)] [] (bW9 S)) (h : wp_X9_storm_35b S x1 x2 x3 x4 Q B35) : bf_A X (bf_Zi X bW9 Q) 5 35 [some (.ref 0), some (.int x1), some (.int x2), some (.int x3), some (.int x4)] [] (bW9 S) := by
  unfold wp_X9_storm_35b at h
  refine bs_iload C (bf_dk dd_X9_storm 21 rfl) rfl ?_
  refine bs_iload_n C (bf_dk dd_X9_storm 22 rfl) rfl ?_
  refine bs_icmp_ge C (bf_dk dd_X9_storm 23 rfl) (tgt := 67) rfl (fun c => ?_) (fun c => ?_)
  · replace h := h.1 c
    refine bs_iload_n C (bf_dk dd_X9_storm 38 rfl) rfl ?_
    exact bs_iret (u := S) C (bf_dk dd_X9_storm 39 rfl) rfl h
  · replace h := h.2 c
    refine bs_aload_n C (bf_dk dd_X9_storm 24 rfl) rfl ?_
    refine bs_iload_n C (bf_dk dd_X9_storm 25 rfl) rfl ?_
    refine bs_selfV_v C hR (c_X9_draws _ _ _ _ _ S (x2) _ h) my_X9_draws m_9_142 rfl cl_9 (ge_bW9_0 _) rfl (Nat.le_of_ble_eq_true rfl) (Nat.le_of_ble_eq_true rfl) (st := []) (Nat.le_of_ble_eq_true rfl) (bf_dk dd_X9_storm 26 rfl) rfl (len := 21) (fun _ => rfl) (fun u2 h => ?_)
    refine bs_iload_n C (bf_dk dd_X9_storm 27 rfl) rfl ?_
    refine bs_aload_n C (bf_dk dd_X9_storm 28 rfl) rfl ?_
    refine bs_aload_n C (bf_dk dd_X9_storm 29 rfl) rfl ?_
    refine bs_get C (bf_dk dd_X9_storm 30 rfl) cl_9 in_9 4 (Nat.le_of_ble_eq_true rfl) rfl f_9_135 (ge_bW9_0 u2) rfl ?_
    refine bs_aload_n C (bf_dk dd_X9_storm 31 rfl) rfl ?_
    refine bs_get C (bf_dk dd_X9_storm 32 rfl) cl_9 in_9 5 (Nat.le_of_ble_eq_true rfl) rfl f_9_132 (ge_bW9_0 u2) rfl ?_
    refine bs_selfV_i C hR (c_X9_asks _ _ _ _ _ u2 ((b9g_drawn u2)) ((b9g_drawnLength u2)) _ h) my_X9_asks m_9_330 rfl cl_9 (ge_bW9_0 _) rfl (Nat.le_of_ble_eq_true rfl) (Nat.le_of_ble_eq_true rfl) (st := [.int x3]) (Nat.le_of_ble_eq_true rfl) (bf_dk dd_X9_storm 33 rfl) rfl (len := 21) (fun _ => rfl) (fun r3 u4 h => ?_)
    refine bs_iadd C (bf_dk dd_X9_storm 34 rfl) ?_
    refine bs_istore_n C (bf_dk dd_X9_storm 35 rfl) rfl (Nat.le_of_ble_eq_true rfl) (Nat.le_of_ble_eq_true rfl) (lv2 := [some (.ref 0), some (.int x1), some (.int x2), some (.int (x3 + r3)), some (.int x4)]) rfl ?_
    refine bs_iinc C (bf_dk dd_X9_storm 36 rfl) (x4 + (1 : Int32)) rfl rfl (Nat.le_of_ble_eq_true rfl) (Nat.le_of_ble_eq_true rfl) (lv2 := [some (.ref 0), some (.int x1), some (.int x2), some (.int (x3 + r3)), some (.int (x4 + (1 : Int32)))]) rfl ?_
    refine bs_goto C (bf_dk dd_X9_storm 37 rfl) (tgt := 35) rfl ?_
    exact bs_weak (bf_s1 (bf_s1 (bf_s1 (bf_s1 (bf_s1 bf_s0))))) (hB35 (x1) (x2) ((x3 + r3)) ((x4 + (1 : Int32))) u4 h)
def wp_X9_storm_35 (S : bT9) (x1 : Int32) (x2 : Int32) (x3 : Int32) (x4 : Int32) (Q : Int32 → (bT9) → Prop) : Prop := ∃ I : Nat → Int32 → Int32 → Int32 → Int32 → (bT9) → Prop, (∃ n : Nat, I n x1 x2 x3 x4 S) ∧ ∀ (n : Nat) (x1 : Int32) (x2 : Int32) (x3 : Int32) (x4 : Int32) (S : bT9), I n x1 x2 x3 x4 S → wp_X9_storm_35b S x1 x2 x3 x4 Q (fun x1 x2 x3 x4 S => ∃ n2 : Nat, n2 < n ∧ I n2 x1 x2 x3 x4 S)
theorem t_X9_storm_35 {X : bf_X} (C : bf_C X RX9 cX9_storm 5 (some .int)) (hR : bf_Rm X 8 187) (S : bT9) (x1 : Int32) (x2 : Int32) (x3 : Int32) (x4 : Int32) (Q : Int32 → (bT9) → Prop) (h : wp_X9_storm_35 S x1 x2 x3 x4 Q) : bf_A X (bf_Zi X bW9 Q) 5 35 [some (.ref 0), some (.int x1), some (.int x2), some (.int x3), some (.int x4)] [] (bW9 S) := by
  obtain ⟨I, ⟨n0, h0⟩, hI⟩ := h
  have key : ∀ (n : Nat) (x1 : Int32) (x2 : Int32) (x3 : Int32) (x4 : Int32) (S : bT9), I n x1 x2 x3 x4 S → bf_A X (bf_Zi X bW9 Q) 5 35 [some (.ref 0), some (.int x1), some (.int x2), some (.int x3), some (.int x4)] [] (bW9 S) := by
    intro n
    induction n using Nat.strongRecOn with
    | _ n ih =>
      intro x1 x2 x3 x4 S hi
      exact t_X9_storm_35b C hR S x1 x2 x3 x4 Q _ (fun x1 x2 x3 x4 S hb => by obtain ⟨n2, hn, hi2⟩ := hb; exact ih n2 hn x1 x2 x3 x4 S hi2) (hI n x1 x2 x3 x4 S hi)
  exact key n0 x1 x2 x3 x4 S h0
def wp_X9_storm (S : bT9) (a1 : Int32) (a2 : Int32) (Q : Int32 → (bT9) → Prop) : Prop := (∀ S5 : bT9, S5 = (b9s_told S (0 : Int32)) → (wp_X9_isIn S5 (a1) ((1 : Int32)) ((200 : Int32)) (fun r6 => ((r6 = 0 → (Q (-1 : Int32) S5)) ∧ (¬ r6 = 0 → (wp_X9_isIn S5 (a2) ((1 : Int32)) ((8 : Int32)) (fun r8 => ((¬ r8 = 0 → (wp_X9_storm_35 S5 (a1) (a2) ((0 : Int32)) ((0 : Int32)) Q)) ∧ (r8 = 0 → (Q (-1 : Int32) S5))))))))))
set_option maxRecDepth 20000 in
theorem t_X9_storm {X : bf_X} (C : bf_C X RX9 cX9_storm 5 (some .int)) (hR : bf_Rm X 8 187) (S : bT9) (a1 : Int32) (a2 : Int32) (Q : Int32 → (bT9) → Prop) (h : wp_X9_storm S a1 a2 Q) : bf_A X (bf_Zi X bW9 Q) 5 0 [some (.ref 0), some (.int a1), some (.int a2), none, none] [] (bW9 S) := by
  unfold wp_X9_storm at h
  refine bs_aload_n C (bf_dk dd_X9_storm 0 rfl) rfl ?_
  refine bs_iconst C (bf_dk dd_X9_storm 1 rfl) (0 : Int32) (by decide) ?_
  refine bs_put C (bf_dk dd_X9_storm 2 rfl) tyX9_ok nmX9 cl_9 in_9 0 (Nat.le_of_ble_eq_true rfl) rfl f_9_75 rfl (ge_bW9_0 S) (Nat.le_of_ble_eq_true rfl) rfl rfl (pu_bW9_0_0 S (0 : Int32)) ?_
  refine bs_nameS bW9 (fun S5 eS5 => ?_)
  replace h := h S5 eS5
  refine bs_aload_n C (bf_dk dd_X9_storm 3 rfl) rfl ?_
  refine bs_iload_n C (bf_dk dd_X9_storm 4 rfl) rfl ?_
  refine bs_iconst C (bf_dk dd_X9_storm 5 rfl) (1 : Int32) (by decide) ?_
  refine bs_sipush C (bf_dk dd_X9_storm 6 rfl) (200 : Int32) (by decide) ?_
  refine bs_selfPV_i C hR (c_X9_isIn _ _ _ _ _ S5 (a1) ((1 : Int32)) ((200 : Int32)) _ h) my_X9_isIn m_9_82 rfl cl_9 (ge_bW9_0 _) rfl (Nat.le_of_ble_eq_true rfl) (Nat.le_of_ble_eq_true rfl) (st := []) (Nat.le_of_ble_eq_true rfl) (bf_dk dd_X9_storm 7 rfl) rfl (fun r6 h => ?_)
  refine bs_if_eq C (bf_dk dd_X9_storm 8 rfl) (tgt := 28) rfl (fun c => ?_) (fun c => ?_)
  · replace h := h.1 c
    refine bs_iconst C (bf_dk dd_X9_storm 15 rfl) (-1 : Int32) (by decide) ?_
    exact bs_iret (u := S5) C (bf_dk dd_X9_storm 16 rfl) rfl h
  · replace h := h.2 c
    refine bs_aload_n C (bf_dk dd_X9_storm 9 rfl) rfl ?_
    refine bs_iload_n C (bf_dk dd_X9_storm 10 rfl) rfl ?_
    refine bs_iconst C (bf_dk dd_X9_storm 11 rfl) (1 : Int32) (by decide) ?_
    refine bs_bipush C (bf_dk dd_X9_storm 12 rfl) (8 : Int32) (by decide) ?_
    refine bs_selfPV_i C hR (c_X9_isIn _ _ _ _ _ S5 (a2) ((1 : Int32)) ((8 : Int32)) _ h) my_X9_isIn m_9_82 rfl cl_9 (ge_bW9_0 _) rfl (Nat.le_of_ble_eq_true rfl) (Nat.le_of_ble_eq_true rfl) (st := []) (Nat.le_of_ble_eq_true rfl) (bf_dk dd_X9_storm 13 rfl) rfl (fun r8 h => ?_)
    refine bs_if_ne C (bf_dk dd_X9_storm 14 rfl) (tgt := 30) rfl (fun c => ?_) (fun c => ?_)
    · replace h := h.1 c
      refine bs_iconst C (bf_dk dd_X9_storm 17 rfl) (0 : Int32) (by decide) ?_
      refine bs_istore_n C (bf_dk dd_X9_storm 18 rfl) rfl (Nat.le_of_ble_eq_true rfl) (Nat.le_of_ble_eq_true rfl) (lv2 := [some (.ref 0), some (.int a1), some (.int a2), some (.int (0 : Int32)), none]) rfl ?_
      refine bs_iconst C (bf_dk dd_X9_storm 19 rfl) (0 : Int32) (by decide) ?_
      refine bs_istore C (bf_dk dd_X9_storm 20 rfl) (Nat.le_of_ble_eq_true rfl) (Nat.le_of_ble_eq_true rfl) (lv2 := [some (.ref 0), some (.int a1), some (.int a2), some (.int (0 : Int32)), some (.int (0 : Int32))]) rfl ?_
      exact bs_weak (bf_s1 (bf_s1 (bf_s1 (bf_s1 (bf_s1 bf_s0))))) (t_X9_storm_35 C hR S5 (a1) (a2) ((0 : Int32)) ((0 : Int32)) Q h)
    · replace h := h.2 c
      refine bs_iconst C (bf_dk dd_X9_storm 15 rfl) (-1 : Int32) (by decide) ?_
      exact bs_iret (u := S5) C (bf_dk dd_X9_storm 16 rfl) rfl h
theorem c_X9_storm (l : Launch) (dC : Nat → ClassId) (dI : Nat → Nat → Nat) (ac : Nat → ClassId) (al : Nat → Nat) (S : bT9) (a1 : Int32) (a2 : Int32) (Q : Int32 → (bT9) → Prop) (h : wp_X9_storm S a1 a2 Q) : bf_M l yX9_storm cX9_storm 5 (some .int) 8 187 dC dI ac al [.ref 0, .int a1, .int a2] (bW9 S) (bf_Ki dC dI ac al bW9 Q) := by
  refine bf_start [some (.ref 0), some (.int a1), some (.int a2), none, none] (by decide) (Nat.le_of_ble_eq_true rfl) (bf_s1 (bf_s1 (bf_s1 (bf_en 2)))) ?_
  intro X hl C hR e1 e2 e3 e4
  subst e1; subst e2; subst e3; subst e4
  exact t_X9_storm C hR S a1 a2 Q h
def wp_X9_stormRange_116 (S : bT9) (x1 : Int32) (x2 : Int32) (x3 : Int32) (x4 : Int32) (x5 : Int32) (t1 : Int64) (t2 : Int32) (Q : Int32 → (bT9) → Prop) (B48 : Int32 → Int32 → Int32 → Int32 → Int32 → (bT9) → Prop) : Prop := (∀ v1 : Int64, v1 = (t1 + ((t2).toInt64 <<< ((((64 : Int32) - ((8 : Int32) * (b9g_drawnLength S)))).toInt64 &&& 63))) → (∀ S2 : bT9, S2 = (b9s_toKey S v1) → (∀ S3 : bT9, S3 = (b9s_toLength S2 (b9g_drawnLength S2)) → (wp_X9_asksRange S3 (fun r4 u5 => (B48 (x1) (x2) (x3) ((x4 + r4)) ((x5 + (1 : Int32))) u5))))))
set_option maxRecDepth 20000 in
theorem t_X9_stormRange_116 {X : bf_X} (C : bf_C X RX9 cX9_stormRange 7 (some .int)) (hR : bf_Rm X 6 135) (S : bT9) (x1 : Int32) (x2 : Int32) (x3 : Int32) (x4 : Int32) (x5 : Int32) (t1 : Int64) (t2 : Int32) (Q : Int32 → (bT9) → Prop) (B48 : Int32 → Int32 → Int32 → Int32 → Int32 → (bT9) → Prop) (hB48 : ∀ (x1 : Int32) (x2 : Int32) (x3 : Int32) (x4 : Int32) (x5 : Int32) (S : bT9), B48 x1 x2 x3 x4 x5 S → bf_A X (bf_Zi X bW9 Q) 7 48 [some (.ref 0), some (.int x1), some (.int x2), some (.int x3), some (.int x4), some (.int x5), none] [] (bW9 S)) (h : wp_X9_stormRange_116 S x1 x2 x3 x4 x5 t1 t2 Q B48) : bf_A X (bf_Zi X bW9 Q) 7 116 [some (.ref 0), some (.int x1), some (.int x2), some (.int x3), some (.int x4), some (.int x5), none] [.int t2, .long t1, .ref 0] (bW9 S) := by
  unfold wp_X9_stormRange_116 at h
  refine bs_i2l C (bf_dk dd_X9_stormRange 63 rfl) ?_
  refine bs_bipush C (bf_dk dd_X9_stormRange 64 rfl) (64 : Int32) (by decide) ?_
  refine bs_bipush C (bf_dk dd_X9_stormRange 65 rfl) (8 : Int32) (by decide) ?_
  refine bs_aload_n C (bf_dk dd_X9_stormRange 66 rfl) rfl ?_
  refine bs_get C (bf_dk dd_X9_stormRange 67 rfl) cl_9 in_9 5 (Nat.le_of_ble_eq_true rfl) rfl f_9_132 (ge_bW9_0 S) rfl ?_
  refine bs_imul C (bf_dk dd_X9_stormRange 68 rfl) ?_
  refine bs_isub C (bf_dk dd_X9_stormRange 69 rfl) ?_
  refine bs_lshl C (bf_dk dd_X9_stormRange 70 rfl) ?_
  refine bs_ladd C (bf_dk dd_X9_stormRange 71 rfl) ?_
  refine bs_nameL (fun v1 ev1 => ?_)
  replace h := h v1 ev1
  refine bs_put C (bf_dk dd_X9_stormRange 72 rfl) tyX9_ok nmX9 cl_9 in_9 33 (Nat.le_of_ble_eq_true rfl) rfl f_9_339 rfl (ge_bW9_0 S) (Nat.le_of_ble_eq_true rfl) rfl rfl (pu_bW9_0_33 S v1) ?_
  refine bs_nameS bW9 (fun S2 eS2 => ?_)
  replace h := h S2 eS2
  refine bs_aload_n C (bf_dk dd_X9_stormRange 73 rfl) rfl ?_
  refine bs_aload_n C (bf_dk dd_X9_stormRange 74 rfl) rfl ?_
  refine bs_get C (bf_dk dd_X9_stormRange 75 rfl) cl_9 in_9 5 (Nat.le_of_ble_eq_true rfl) rfl f_9_132 (ge_bW9_0 S2) rfl ?_
  refine bs_put C (bf_dk dd_X9_stormRange 76 rfl) tyX9_ok nmX9 cl_9 in_9 35 (Nat.le_of_ble_eq_true rfl) rfl f_9_342 rfl (ge_bW9_0 S2) (Nat.le_of_ble_eq_true rfl) rfl rfl (pu_bW9_0_35 S2 (b9g_drawnLength S2)) ?_
  refine bs_nameS bW9 (fun S3 eS3 => ?_)
  replace h := h S3 eS3
  refine bs_iload C (bf_dk dd_X9_stormRange 77 rfl) rfl ?_
  refine bs_aload_n C (bf_dk dd_X9_stormRange 78 rfl) rfl ?_
  refine bs_selfV_i C hR (c_X9_asksRange _ _ _ _ _ S3 _ h) my_X9_asksRange m_9_360 rfl cl_9 (ge_bW9_0 _) rfl (Nat.le_of_ble_eq_true rfl) (Nat.le_of_ble_eq_true rfl) (st := [.int x4]) (Nat.le_of_ble_eq_true rfl) (bf_dk dd_X9_stormRange 79 rfl) rfl (len := 21) (fun _ => rfl) (fun r4 u5 h => ?_)
  refine bs_iadd C (bf_dk dd_X9_stormRange 80 rfl) ?_
  refine bs_istore C (bf_dk dd_X9_stormRange 81 rfl) (Nat.le_of_ble_eq_true rfl) (Nat.le_of_ble_eq_true rfl) (lv2 := [some (.ref 0), some (.int x1), some (.int x2), some (.int x3), some (.int (x4 + r4)), some (.int x5), none]) rfl ?_
  refine bs_iinc C (bf_dk dd_X9_stormRange 82 rfl) (x5 + (1 : Int32)) rfl rfl (Nat.le_of_ble_eq_true rfl) (Nat.le_of_ble_eq_true rfl) (lv2 := [some (.ref 0), some (.int x1), some (.int x2), some (.int x3), some (.int (x4 + r4)), some (.int (x5 + (1 : Int32))), none]) rfl ?_
  refine bs_goto C (bf_dk dd_X9_stormRange 83 rfl) (tgt := 48) rfl ?_
  exact bs_weak (bf_s1 (bf_s1 (bf_s1 (bf_s1 (bf_s1 (bf_s1 (bf_sn bf_s0))))))) (hB48 (x1) (x2) (x3) ((x4 + r4)) ((x5 + (1 : Int32))) u5 h)
def wp_X9_stormRange_48b (S : bT9) (x1 : Int32) (x2 : Int32) (x3 : Int32) (x4 : Int32) (x5 : Int32) (Q : Int32 → (bT9) → Prop) (B48 : Int32 → Int32 → Int32 → Int32 → Int32 → (bT9) → Prop) : Prop := ((x1 ≤ x5 → (Q x4 S)) ∧ (¬ x1 ≤ x5 → (wp_X9_draws S (x2) (fun u7 => (wp_X9_byteOf u7 ((b9g_drawn u7)) (((b9g_drawnLength u7) - (1 : Int32))) (fun r8 => (∀ S10 : bT9, S10 = (b9s_fromKey u7 (b9g_drawn u7)) → (∀ S11 : bT9, S11 = (b9s_fromLength S10 (b9g_drawnLength S10)) → (((r8 + x3) ≤ (255 : Int32) → (wp_X9_stormRange_116 S11 (x1) (x2) (x3) (x4) (x5) ((b9g_drawn S11)) (x3) Q B48)) ∧ (¬ (r8 + x3) ≤ (255 : Int32) → (wp_X9_stormRange_116 S11 (x1) (x2) (x3) (x4) (x5) ((b9g_drawn S11)) (((255 : Int32) - r8)) Q B48)))))))))))
set_option maxRecDepth 20000 in
theorem t_X9_stormRange_48b {X : bf_X} (C : bf_C X RX9 cX9_stormRange 7 (some .int)) (hR : bf_Rm X 6 135) (S : bT9) (x1 : Int32) (x2 : Int32) (x3 : Int32) (x4 : Int32) (x5 : Int32) (Q : Int32 → (bT9) → Prop) (B48 : Int32 → Int32 → Int32 → Int32 → Int32 → (bT9) → Prop) (hB48 : ∀ (x1 : Int32) (x2 : Int32) (x3 : Int32) (x4 : Int32) (x5 : Int32) (S : bT9), B48 x1 x2 x3 x4 x5 S → bf_A X (bf_Zi X bW9 Q) 7 48 [some (.ref 0), some (.int x1), some (.int x2), some (.int x3), some (.int x4), some (.int x5), none] [] (bW9 S)) (h : wp_X9_stormRange_48b S x1 x2 x3 x4 x5 Q B48) : bf_A X (bf_Zi X bW9 Q) 7 48 [some (.ref 0), some (.int x1), some (.int x2), some (.int x3), some (.int x4), some (.int x5), none] [] (bW9 S) := by
  unfold wp_X9_stormRange_48b at h
  refine bs_iload C (bf_dk dd_X9_stormRange 27 rfl) rfl ?_
  refine bs_iload_n C (bf_dk dd_X9_stormRange 28 rfl) rfl ?_
  refine bs_icmp_ge C (bf_dk dd_X9_stormRange 29 rfl) (tgt := 155) rfl (fun c => ?_) (fun c => ?_)
  · replace h := h.1 c
    refine bs_iload C (bf_dk dd_X9_stormRange 84 rfl) rfl ?_
    exact bs_iret (u := S) C (bf_dk dd_X9_stormRange 85 rfl) rfl h
  · replace h := h.2 c
    refine bs_aload_n C (bf_dk dd_X9_stormRange 30 rfl) rfl ?_
    refine bs_iload_n C (bf_dk dd_X9_stormRange 31 rfl) rfl ?_
    refine bs_selfV_v C hR (c_X9_draws _ _ _ _ _ S (x2) _ h) my_X9_draws m_9_142 rfl cl_9 (ge_bW9_0 _) rfl (Nat.le_of_ble_eq_true rfl) (Nat.le_of_ble_eq_true rfl) (st := []) (Nat.le_of_ble_eq_true rfl) (bf_dk dd_X9_stormRange 32 rfl) rfl (len := 21) (fun _ => rfl) (fun u7 h => ?_)
    refine bs_aload_n C (bf_dk dd_X9_stormRange 33 rfl) rfl ?_
    refine bs_aload_n C (bf_dk dd_X9_stormRange 34 rfl) rfl ?_
    refine bs_get C (bf_dk dd_X9_stormRange 35 rfl) cl_9 in_9 4 (Nat.le_of_ble_eq_true rfl) rfl f_9_135 (ge_bW9_0 u7) rfl ?_
    refine bs_aload_n C (bf_dk dd_X9_stormRange 36 rfl) rfl ?_
    refine bs_get C (bf_dk dd_X9_stormRange 37 rfl) cl_9 in_9 5 (Nat.le_of_ble_eq_true rfl) rfl f_9_132 (ge_bW9_0 u7) rfl ?_
    refine bs_iconst C (bf_dk dd_X9_stormRange 38 rfl) (1 : Int32) (by decide) ?_
    refine bs_isub C (bf_dk dd_X9_stormRange 39 rfl) ?_
    refine bs_selfPV_i C hR (c_X9_byteOf _ _ _ _ _ u7 ((b9g_drawn u7)) (((b9g_drawnLength u7) - (1 : Int32))) _ h) my_X9_byteOf m_9_181 rfl cl_9 (ge_bW9_0 _) rfl (Nat.le_of_ble_eq_true rfl) (Nat.le_of_ble_eq_true rfl) (st := []) (Nat.le_of_ble_eq_true rfl) (bf_dk dd_X9_stormRange 40 rfl) rfl (fun r8 h => ?_)
    refine bs_istore C (bf_dk dd_X9_stormRange 41 rfl) (Nat.le_of_ble_eq_true rfl) (Nat.le_of_ble_eq_true rfl) (lv2 := [some (.ref 0), some (.int x1), some (.int x2), some (.int x3), some (.int x4), some (.int x5), some (.int r8)]) rfl ?_
    refine bs_aload_n C (bf_dk dd_X9_stormRange 42 rfl) rfl ?_
    refine bs_aload_n C (bf_dk dd_X9_stormRange 43 rfl) rfl ?_
    refine bs_get C (bf_dk dd_X9_stormRange 44 rfl) cl_9 in_9 4 (Nat.le_of_ble_eq_true rfl) rfl f_9_135 (ge_bW9_0 u7) rfl ?_
    refine bs_put C (bf_dk dd_X9_stormRange 45 rfl) tyX9_ok nmX9 cl_9 in_9 32 (Nat.le_of_ble_eq_true rfl) rfl f_9_333 rfl (ge_bW9_0 u7) (Nat.le_of_ble_eq_true rfl) rfl rfl (pu_bW9_0_32 u7 (b9g_drawn u7)) ?_
    refine bs_nameS bW9 (fun S10 eS10 => ?_)
    replace h := h S10 eS10
    refine bs_aload_n C (bf_dk dd_X9_stormRange 46 rfl) rfl ?_
    refine bs_aload_n C (bf_dk dd_X9_stormRange 47 rfl) rfl ?_
    refine bs_get C (bf_dk dd_X9_stormRange 48 rfl) cl_9 in_9 5 (Nat.le_of_ble_eq_true rfl) rfl f_9_132 (ge_bW9_0 S10) rfl ?_
    refine bs_put C (bf_dk dd_X9_stormRange 49 rfl) tyX9_ok nmX9 cl_9 in_9 34 (Nat.le_of_ble_eq_true rfl) rfl f_9_336 rfl (ge_bW9_0 S10) (Nat.le_of_ble_eq_true rfl) rfl rfl (pu_bW9_0_34 S10 (b9g_drawnLength S10)) ?_
    refine bs_nameS bW9 (fun S11 eS11 => ?_)
    replace h := h S11 eS11
    refine bs_aload_n C (bf_dk dd_X9_stormRange 50 rfl) rfl ?_
    refine bs_aload_n C (bf_dk dd_X9_stormRange 51 rfl) rfl ?_
    refine bs_get C (bf_dk dd_X9_stormRange 52 rfl) cl_9 in_9 4 (Nat.le_of_ble_eq_true rfl) rfl f_9_135 (ge_bW9_0 S11) rfl ?_
    refine bs_iload C (bf_dk dd_X9_stormRange 53 rfl) rfl ?_
    refine bs_iload_n C (bf_dk dd_X9_stormRange 54 rfl) rfl ?_
    refine bs_iadd C (bf_dk dd_X9_stormRange 55 rfl) ?_
    refine bs_sipush C (bf_dk dd_X9_stormRange 56 rfl) (255 : Int32) (by decide) ?_
    refine bs_icmp_le C (bf_dk dd_X9_stormRange 57 rfl) (tgt := 115) rfl (fun c => ?_) (fun c => ?_)
    · replace h := h.1 c
      refine bs_iload_n C (bf_dk dd_X9_stormRange 62 rfl) rfl ?_
      exact bs_weak (bf_s1 (bf_s1 (bf_s1 (bf_s1 (bf_s1 (bf_s1 (bf_sn bf_s0))))))) (t_X9_stormRange_116 C hR S11 (x1) (x2) (x3) (x4) (x5) ((b9g_drawn S11)) (x3) Q B48 hB48 h)
    · replace h := h.2 c
      refine bs_sipush C (bf_dk dd_X9_stormRange 58 rfl) (255 : Int32) (by decide) ?_
      refine bs_iload C (bf_dk dd_X9_stormRange 59 rfl) rfl ?_
      refine bs_isub C (bf_dk dd_X9_stormRange 60 rfl) ?_
      refine bs_goto C (bf_dk dd_X9_stormRange 61 rfl) (tgt := 116) rfl ?_
      exact bs_weak (bf_s1 (bf_s1 (bf_s1 (bf_s1 (bf_s1 (bf_s1 (bf_sn bf_s0))))))) (t_X9_stormRange_116 C hR S11 (x1) (x2) (x3) (x4) (x5) ((b9g_drawn S11)) (((255 : Int32) - r8)) Q B48 hB48 h)
def wp_X9_stormRange_48 (S : bT9) (x1 : Int32) (x2 : Int32) (x3 : Int32) (x4 : Int32) (x5 : Int32) (Q : Int32 → (bT9) → Prop) : Prop := ∃ I : Nat → Int32 → Int32 → Int32 → Int32 → Int32 → (bT9) → Prop, (∃ n : Nat, I n x1 x2 x3 x4 x5 S) ∧ ∀ (n : Nat) (x1 : Int32) (x2 : Int32) (x3 : Int32) (x4 : Int32) (x5 : Int32) (S : bT9), I n x1 x2 x3 x4 x5 S → wp_X9_stormRange_48b S x1 x2 x3 x4 x5 Q (fun x1 x2 x3 x4 x5 S => ∃ n2 : Nat, n2 < n ∧ I n2 x1 x2 x3 x4 x5 S)
theorem t_X9_stormRange_48 {X : bf_X} (C : bf_C X RX9 cX9_stormRange 7 (some .int)) (hR : bf_Rm X 6 135) (S : bT9) (x1 : Int32) (x2 : Int32) (x3 : Int32) (x4 : Int32) (x5 : Int32) (Q : Int32 → (bT9) → Prop) (h : wp_X9_stormRange_48 S x1 x2 x3 x4 x5 Q) : bf_A X (bf_Zi X bW9 Q) 7 48 [some (.ref 0), some (.int x1), some (.int x2), some (.int x3), some (.int x4), some (.int x5), none] [] (bW9 S) := by
  obtain ⟨I, ⟨n0, h0⟩, hI⟩ := h
  have key : ∀ (n : Nat) (x1 : Int32) (x2 : Int32) (x3 : Int32) (x4 : Int32) (x5 : Int32) (S : bT9), I n x1 x2 x3 x4 x5 S → bf_A X (bf_Zi X bW9 Q) 7 48 [some (.ref 0), some (.int x1), some (.int x2), some (.int x3), some (.int x4), some (.int x5), none] [] (bW9 S) := by
    intro n
    induction n using Nat.strongRecOn with
    | _ n ih =>
      intro x1 x2 x3 x4 x5 S hi
      exact t_X9_stormRange_48b C hR S x1 x2 x3 x4 x5 Q _ (fun x1 x2 x3 x4 x5 S hb => by obtain ⟨n2, hn, hi2⟩ := hb; exact ih n2 hn x1 x2 x3 x4 x5 S hi2) (hI n x1 x2 x3 x4 x5 S hi)
  exact key n0 x1 x2 x3 x4 x5 S h0
def wp_X9_stormRange (S : bT9) (a1 : Int32) (a2 : Int32) (a3 : Int32) (Q : Int32 → (bT9) → Prop) : Prop := (∀ S12 : bT9, S12 = (b9s_told S (0 : Int32)) → (wp_X9_isIn S12 (a1) ((1 : Int32)) ((200 : Int32)) (fun r13 => ((r13 = 0 → (Q (-1 : Int32) S12)) ∧ (¬ r13 = 0 → (wp_X9_isIn S12 (a2) ((1 : Int32)) ((8 : Int32)) (fun r15 => ((r15 = 0 → (Q (-1 : Int32) S12)) ∧ (¬ r15 = 0 → (wp_X9_isIn S12 (a3) ((0 : Int32)) ((255 : Int32)) (fun r17 => ((¬ r17 = 0 → (wp_X9_stormRange_48 S12 (a1) (a2) (a3) ((0 : Int32)) ((0 : Int32)) Q)) ∧ (r17 = 0 → (Q (-1 : Int32) S12))))))))))))))
set_option maxRecDepth 20000 in
theorem t_X9_stormRange {X : bf_X} (C : bf_C X RX9 cX9_stormRange 7 (some .int)) (hR : bf_Rm X 6 135) (S : bT9) (a1 : Int32) (a2 : Int32) (a3 : Int32) (Q : Int32 → (bT9) → Prop) (h : wp_X9_stormRange S a1 a2 a3 Q) : bf_A X (bf_Zi X bW9 Q) 7 0 [some (.ref 0), some (.int a1), some (.int a2), some (.int a3), none, none, none] [] (bW9 S) := by
  unfold wp_X9_stormRange at h
  refine bs_aload_n C (bf_dk dd_X9_stormRange 0 rfl) rfl ?_
  refine bs_iconst C (bf_dk dd_X9_stormRange 1 rfl) (0 : Int32) (by decide) ?_
  refine bs_put C (bf_dk dd_X9_stormRange 2 rfl) tyX9_ok nmX9 cl_9 in_9 0 (Nat.le_of_ble_eq_true rfl) rfl f_9_75 rfl (ge_bW9_0 S) (Nat.le_of_ble_eq_true rfl) rfl rfl (pu_bW9_0_0 S (0 : Int32)) ?_
  refine bs_nameS bW9 (fun S12 eS12 => ?_)
  replace h := h S12 eS12
  refine bs_aload_n C (bf_dk dd_X9_stormRange 3 rfl) rfl ?_
  refine bs_iload_n C (bf_dk dd_X9_stormRange 4 rfl) rfl ?_
  refine bs_iconst C (bf_dk dd_X9_stormRange 5 rfl) (1 : Int32) (by decide) ?_
  refine bs_sipush C (bf_dk dd_X9_stormRange 6 rfl) (200 : Int32) (by decide) ?_
  refine bs_selfPV_i C hR (c_X9_isIn _ _ _ _ _ S12 (a1) ((1 : Int32)) ((200 : Int32)) _ h) my_X9_isIn m_9_82 rfl cl_9 (ge_bW9_0 _) rfl (Nat.le_of_ble_eq_true rfl) (Nat.le_of_ble_eq_true rfl) (st := []) (Nat.le_of_ble_eq_true rfl) (bf_dk dd_X9_stormRange 7 rfl) rfl (fun r13 h => ?_)
  refine bs_if_eq C (bf_dk dd_X9_stormRange 8 rfl) (tgt := 40) rfl (fun c => ?_) (fun c => ?_)
  · replace h := h.1 c
    refine bs_iconst C (bf_dk dd_X9_stormRange 21 rfl) (-1 : Int32) (by decide) ?_
    exact bs_iret (u := S12) C (bf_dk dd_X9_stormRange 22 rfl) rfl h
  · replace h := h.2 c
    refine bs_aload_n C (bf_dk dd_X9_stormRange 9 rfl) rfl ?_
    refine bs_iload_n C (bf_dk dd_X9_stormRange 10 rfl) rfl ?_
    refine bs_iconst C (bf_dk dd_X9_stormRange 11 rfl) (1 : Int32) (by decide) ?_
    refine bs_bipush C (bf_dk dd_X9_stormRange 12 rfl) (8 : Int32) (by decide) ?_
    refine bs_selfPV_i C hR (c_X9_isIn _ _ _ _ _ S12 (a2) ((1 : Int32)) ((8 : Int32)) _ h) my_X9_isIn m_9_82 rfl cl_9 (ge_bW9_0 _) rfl (Nat.le_of_ble_eq_true rfl) (Nat.le_of_ble_eq_true rfl) (st := []) (Nat.le_of_ble_eq_true rfl) (bf_dk dd_X9_stormRange 13 rfl) rfl (fun r15 h => ?_)
    refine bs_if_eq C (bf_dk dd_X9_stormRange 14 rfl) (tgt := 40) rfl (fun c => ?_) (fun c => ?_)
    · replace h := h.1 c
      refine bs_iconst C (bf_dk dd_X9_stormRange 21 rfl) (-1 : Int32) (by decide) ?_
      exact bs_iret (u := S12) C (bf_dk dd_X9_stormRange 22 rfl) rfl h
    · replace h := h.2 c
      refine bs_aload_n C (bf_dk dd_X9_stormRange 15 rfl) rfl ?_
      refine bs_iload_n C (bf_dk dd_X9_stormRange 16 rfl) rfl ?_
      refine bs_iconst C (bf_dk dd_X9_stormRange 17 rfl) (0 : Int32) (by decide) ?_
      refine bs_sipush C (bf_dk dd_X9_stormRange 18 rfl) (255 : Int32) (by decide) ?_
      refine bs_selfPV_i C hR (c_X9_isIn _ _ _ _ _ S12 (a3) ((0 : Int32)) ((255 : Int32)) _ h) my_X9_isIn m_9_82 rfl cl_9 (ge_bW9_0 _) rfl (Nat.le_of_ble_eq_true rfl) (Nat.le_of_ble_eq_true rfl) (st := []) (Nat.le_of_ble_eq_true rfl) (bf_dk dd_X9_stormRange 19 rfl) rfl (fun r17 h => ?_)
      refine bs_if_ne C (bf_dk dd_X9_stormRange 20 rfl) (tgt := 42) rfl (fun c => ?_) (fun c => ?_)
      · replace h := h.1 c
        refine bs_iconst C (bf_dk dd_X9_stormRange 23 rfl) (0 : Int32) (by decide) ?_
        refine bs_istore C (bf_dk dd_X9_stormRange 24 rfl) (Nat.le_of_ble_eq_true rfl) (Nat.le_of_ble_eq_true rfl) (lv2 := [some (.ref 0), some (.int a1), some (.int a2), some (.int a3), some (.int (0 : Int32)), none, none]) rfl ?_
        refine bs_iconst C (bf_dk dd_X9_stormRange 25 rfl) (0 : Int32) (by decide) ?_
        refine bs_istore C (bf_dk dd_X9_stormRange 26 rfl) (Nat.le_of_ble_eq_true rfl) (Nat.le_of_ble_eq_true rfl) (lv2 := [some (.ref 0), some (.int a1), some (.int a2), some (.int a3), some (.int (0 : Int32)), some (.int (0 : Int32)), none]) rfl ?_
        exact bs_weak (bf_s1 (bf_s1 (bf_s1 (bf_s1 (bf_s1 (bf_s1 (bf_sn bf_s0))))))) (t_X9_stormRange_48 C hR S12 (a1) (a2) (a3) ((0 : Int32)) ((0 : Int32)) Q h)
      · replace h := h.2 c
        refine bs_iconst C (bf_dk dd_X9_stormRange 21 rfl) (-1 : Int32) (by decide) ?_
        exact bs_iret (u := S12) C (bf_dk dd_X9_stormRange 22 rfl) rfl h
theorem c_X9_stormRange (l : Launch) (dC : Nat → ClassId) (dI : Nat → Nat → Nat) (ac : Nat → ClassId) (al : Nat → Nat) (S : bT9) (a1 : Int32) (a2 : Int32) (a3 : Int32) (Q : Int32 → (bT9) → Prop) (h : wp_X9_stormRange S a1 a2 a3 Q) : bf_M l yX9_stormRange cX9_stormRange 7 (some .int) 6 135 dC dI ac al [.ref 0, .int a1, .int a2, .int a3] (bW9 S) (bf_Ki dC dI ac al bW9 Q) := by
  refine bf_start [some (.ref 0), some (.int a1), some (.int a2), some (.int a3), none, none, none] (by decide) (Nat.le_of_ble_eq_true rfl) (bf_s1 (bf_s1 (bf_s1 (bf_s1 (bf_en 3))))) ?_
  intro X hl C hR e1 e2 e3 e4
  subst e1; subst e2; subst e3; subst e4
  exact t_X9_stormRange C hR S a1 a2 a3 Q h
def wp_X9_account (S : bT9) (a1 : Int32) (Q : Int32 → (bT9) → Prop) : Prop := (∀ S1 : bT9, S1 = (b9s_told S (0 : Int32)) → (wp_X9_isIn S1 (a1) ((0 : Int32)) ((5 : Int32)) (fun r2 => ((r2 = 0 → (Q (-1 : Int32) S1)) ∧ (¬ r2 = 0 → (vp_in ((17 : Int32) + a1) 23 ∧ (Q ((b9g_now S1) (((17 : Int32) + a1)).toNatClampNeg) S1)))))))
set_option maxRecDepth 20000 in
theorem t_X9_account {X : bf_X} (C : bf_C X RX9 cX9_account 2 (some .int)) (hR : bf_Rm X 1 23) (S : bT9) (a1 : Int32) (Q : Int32 → (bT9) → Prop) (h : wp_X9_account S a1 Q) : bf_A X (bf_Zi X bW9 Q) 2 0 [some (.ref 0), some (.int a1)] [] (bW9 S) := by
  unfold wp_X9_account at h
  refine bs_aload_n C (bf_dk dd_X9_account 0 rfl) rfl ?_
  refine bs_iconst C (bf_dk dd_X9_account 1 rfl) (0 : Int32) (by decide) ?_
  refine bs_put C (bf_dk dd_X9_account 2 rfl) tyX9_ok nmX9 cl_9 in_9 0 (Nat.le_of_ble_eq_true rfl) rfl f_9_75 rfl (ge_bW9_0 S) (Nat.le_of_ble_eq_true rfl) rfl rfl (pu_bW9_0_0 S (0 : Int32)) ?_
  refine bs_nameS bW9 (fun S1 eS1 => ?_)
  replace h := h S1 eS1
  refine bs_aload_n C (bf_dk dd_X9_account 3 rfl) rfl ?_
  refine bs_iload_n C (bf_dk dd_X9_account 4 rfl) rfl ?_
  refine bs_iconst C (bf_dk dd_X9_account 5 rfl) (0 : Int32) (by decide) ?_
  refine bs_iconst C (bf_dk dd_X9_account 6 rfl) (5 : Int32) (by decide) ?_
  refine bs_selfPV_i C hR (c_X9_isIn _ _ _ _ _ S1 (a1) ((0 : Int32)) ((5 : Int32)) _ h) my_X9_isIn m_9_82 rfl cl_9 (ge_bW9_0 _) rfl (Nat.le_of_ble_eq_true rfl) (Nat.le_of_ble_eq_true rfl) (st := []) (Nat.le_of_ble_eq_true rfl) (bf_dk dd_X9_account 7 rfl) rfl (fun r2 h => ?_)
  refine bs_if_eq C (bf_dk dd_X9_account 8 rfl) (tgt := 27) rfl (fun c => ?_) (fun c => ?_)
  · replace h := h.1 c
    refine bs_iconst C (bf_dk dd_X9_account 16 rfl) (-1 : Int32) (by decide) ?_
    exact bs_iret (u := S1) C (bf_dk dd_X9_account 17 rfl) rfl h
  · replace h := h.2 c
    refine bs_aload_n C (bf_dk dd_X9_account 9 rfl) rfl ?_
    refine bs_get C (bf_dk dd_X9_account 10 rfl) cl_9 in_9 1 (Nat.le_of_ble_eq_true rfl) rfl f_9_7 (ge_bW9_0 S1) rfl ?_
    refine bs_bipush C (bf_dk dd_X9_account 11 rfl) (17 : Int32) (by decide) ?_
    refine bs_iload_n C (bf_dk dd_X9_account 12 rfl) rfl ?_
    refine bs_iadd C (bf_dk dd_X9_account 13 rfl) ?_
    obtain ⟨hi, h⟩ := h
    refine bs_iald C (bf_dk dd_X9_account 14 rfl) (ge_bW9_1 S1) hi ?_
    refine bs_goto C (bf_dk dd_X9_account 15 rfl) (tgt := 28) rfl ?_
    exact bs_iret (u := S1) C (bf_dk dd_X9_account 17 rfl) rfl h
theorem c_X9_account (l : Launch) (dC : Nat → ClassId) (dI : Nat → Nat → Nat) (ac : Nat → ClassId) (al : Nat → Nat) (S : bT9) (a1 : Int32) (Q : Int32 → (bT9) → Prop) (h : wp_X9_account S a1 Q) : bf_M l yX9_account cX9_account 2 (some .int) 1 23 dC dI ac al [.ref 0, .int a1] (bW9 S) (bf_Ki dC dI ac al bW9 Q) := by
  refine bf_start [some (.ref 0), some (.int a1)] (by decide) (Nat.le_of_ble_eq_true rfl) (bf_s1 (bf_s1 bf_s0)) ?_
  intro X hl C hR e1 e2 e3 e4
  subst e1; subst e2; subst e3; subst e4
  exact t_X9_account C hR S a1 Q h
def wp_X9_lackMany_77 (S : bT9) (x1 : Int32) (x2 : Int32) (x3 : Int32) (x4 : Int32) (x5 : Int32) (x6 : Int32) (x7 : Int32) (Q : Int32 → (bT9) → Prop) (B6 : Int32 → Int32 → Int32 → Int32 → Int32 → Int32 → Int32 → (bT9) → Prop) : Prop := (B6 (x1) (x2) (x3) (x4) (x5) (x6) ((x7 + (1 : Int32))) S)
set_option maxRecDepth 20000 in
theorem t_X9_lackMany_77 {X : bf_X} (C : bf_C X RX9 cX9_lackMany 8 (some .int)) (hR : bf_Rm X 7 163) (S : bT9) (x1 : Int32) (x2 : Int32) (x3 : Int32) (x4 : Int32) (x5 : Int32) (x6 : Int32) (x7 : Int32) (Q : Int32 → (bT9) → Prop) (B6 : Int32 → Int32 → Int32 → Int32 → Int32 → Int32 → Int32 → (bT9) → Prop) (hB6 : ∀ (x1 : Int32) (x2 : Int32) (x3 : Int32) (x4 : Int32) (x5 : Int32) (x6 : Int32) (x7 : Int32) (S : bT9), B6 x1 x2 x3 x4 x5 x6 x7 S → bf_A X (bf_Zi X bW9 Q) 8 6 [some (.ref 0), some (.int x1), some (.int x2), some (.int x3), some (.int x4), some (.int x5), some (.int x6), some (.int x7)] [] (bW9 S)) (h : wp_X9_lackMany_77 S x1 x2 x3 x4 x5 x6 x7 Q B6) : bf_A X (bf_Zi X bW9 Q) 8 77 [some (.ref 0), some (.int x1), some (.int x2), some (.int x3), some (.int x4), some (.int x5), some (.int x6), some (.int x7)] [] (bW9 S) := by
  unfold wp_X9_lackMany_77 at h
  refine bs_iinc C (bf_dk dd_X9_lackMany 46 rfl) (x7 + (1 : Int32)) rfl rfl (Nat.le_of_ble_eq_true rfl) (Nat.le_of_ble_eq_true rfl) (lv2 := [some (.ref 0), some (.int x1), some (.int x2), some (.int x3), some (.int x4), some (.int x5), some (.int x6), some (.int (x7 + (1 : Int32)))]) rfl ?_
  refine bs_goto C (bf_dk dd_X9_lackMany 47 rfl) (tgt := 6) rfl ?_
  exact bs_weak (bf_s1 (bf_s1 (bf_s1 (bf_s1 (bf_s1 (bf_s1 (bf_s1 (bf_s1 bf_s0)))))))) (hB6 (x1) (x2) (x3) (x4) (x5) (x6) ((x7 + (1 : Int32))) S h)
def wp_X9_lackMany_71 (S : bT9) (x1 : Int32) (x2 : Int32) (x3 : Int32) (x4 : Int32) (x5 : Int32) (x6 : Int32) (x7 : Int32) (Q : Int32 → (bT9) → Prop) (B6 : Int32 → Int32 → Int32 → Int32 → Int32 → Int32 → Int32 → (bT9) → Prop) : Prop := (wp_X9_lackMany_77 S (x1) (x2) (x3) (x4) (x5) ((x6 + (1 : Int32))) (x7) Q B6)
set_option maxRecDepth 20000 in
theorem t_X9_lackMany_71 {X : bf_X} (C : bf_C X RX9 cX9_lackMany 8 (some .int)) (hR : bf_Rm X 7 163) (S : bT9) (x1 : Int32) (x2 : Int32) (x3 : Int32) (x4 : Int32) (x5 : Int32) (x6 : Int32) (x7 : Int32) (Q : Int32 → (bT9) → Prop) (B6 : Int32 → Int32 → Int32 → Int32 → Int32 → Int32 → Int32 → (bT9) → Prop) (hB6 : ∀ (x1 : Int32) (x2 : Int32) (x3 : Int32) (x4 : Int32) (x5 : Int32) (x6 : Int32) (x7 : Int32) (S : bT9), B6 x1 x2 x3 x4 x5 x6 x7 S → bf_A X (bf_Zi X bW9 Q) 8 6 [some (.ref 0), some (.int x1), some (.int x2), some (.int x3), some (.int x4), some (.int x5), some (.int x6), some (.int x7)] [] (bW9 S)) (h : wp_X9_lackMany_71 S x1 x2 x3 x4 x5 x6 x7 Q B6) : bf_A X (bf_Zi X bW9 Q) 8 71 [some (.ref 0), some (.int x1), some (.int x2), some (.int x3), some (.int x4), some (.int x5), some (.int x6), some (.int x7)] [] (bW9 S) := by
  unfold wp_X9_lackMany_71 at h
  refine bs_iload C (bf_dk dd_X9_lackMany 42 rfl) rfl ?_
  refine bs_iconst C (bf_dk dd_X9_lackMany 43 rfl) (1 : Int32) (by decide) ?_
  refine bs_iadd C (bf_dk dd_X9_lackMany 44 rfl) ?_
  refine bs_istore C (bf_dk dd_X9_lackMany 45 rfl) (Nat.le_of_ble_eq_true rfl) (Nat.le_of_ble_eq_true rfl) (lv2 := [some (.ref 0), some (.int x1), some (.int x2), some (.int x3), some (.int x4), some (.int x5), some (.int (x6 + (1 : Int32))), some (.int x7)]) rfl ?_
  exact bs_weak (bf_s1 (bf_s1 (bf_s1 (bf_s1 (bf_s1 (bf_s1 (bf_s1 (bf_s1 bf_s0)))))))) (t_X9_lackMany_77 C hR S (x1) (x2) (x3) (x4) (x5) ((x6 + (1 : Int32))) (x7) Q B6 hB6 h)
def wp_X9_lackMany_6b (S : bT9) (x1 : Int32) (x2 : Int32) (x3 : Int32) (x4 : Int32) (x5 : Int32) (x6 : Int32) (x7 : Int32) (Q : Int32 → (bT9) → Prop) (B6 : Int32 → Int32 → Int32 → Int32 → Int32 → Int32 → Int32 → (bT9) → Prop) : Prop := ((x2 ≤ x7 → (Q x6 S)) ∧ (¬ x2 ≤ x7 → (vp_in (x1 + x7) 144 ∧ (vp_in (x1 + x7) 144 ∧ (wp_X9_find S (x3) (x4) (((b9g_keys S) ((x1 + x7)).toNatClampNeg)) (((b9g_lengths S) ((x1 + x7)).toNatClampNeg)) (fun r1 => ((¬ r1 = (-1 : Int32) → (wp_X9_lackMany_77 S (x1) (x2) (x3) (x4) (x5) (x6) (x7) Q B6)) ∧ (r1 = (-1 : Int32) → ((x5 = 0 → (wp_X9_lackMany_71 S (x1) (x2) (x3) (x4) (x5) (x6) (x7) Q B6)) ∧ (¬ x5 = 0 → (vp_in (x1 + x7) 144 ∧ (vp_in (x1 + x7) 144 ∧ (wp_X9_mayNow S (((b9g_keys S) ((x1 + x7)).toNatClampNeg)) (((b9g_lengths S) ((x1 + x7)).toNatClampNeg)) (fun r3 u4 => ((r3 = 0 → (wp_X9_lackMany_77 u4 (x1) (x2) (x3) (x4) (x5) (x6) (x7) Q B6)) ∧ (¬ r3 = 0 → (wp_X9_lackMany_71 u4 (x1) (x2) (x3) (x4) (x5) (x6) (x7) Q B6)))))))))))))))))
set_option maxRecDepth 20000 in
theorem t_X9_lackMany_6b {X : bf_X} (C : bf_C X RX9 cX9_lackMany 8 (some .int)) (hR : bf_Rm X 7 163) (S : bT9) (x1 : Int32) (x2 : Int32) (x3 : Int32) (x4 : Int32) (x5 : Int32) (x6 : Int32) (x7 : Int32) (Q : Int32 → (bT9) → Prop) (B6 : Int32 → Int32 → Int32 → Int32 → Int32 → Int32 → Int32 → (bT9) → Prop) (hB6 : ∀ (x1 : Int32) (x2 : Int32) (x3 : Int32) (x4 : Int32) (x5 : Int32) (x6 : Int32) (x7 : Int32) (S : bT9), B6 x1 x2 x3 x4 x5 x6 x7 S → bf_A X (bf_Zi X bW9 Q) 8 6 [some (.ref 0), some (.int x1), some (.int x2), some (.int x3), some (.int x4), some (.int x5), some (.int x6), some (.int x7)] [] (bW9 S)) (h : wp_X9_lackMany_6b S x1 x2 x3 x4 x5 x6 x7 Q B6) : bf_A X (bf_Zi X bW9 Q) 8 6 [some (.ref 0), some (.int x1), some (.int x2), some (.int x3), some (.int x4), some (.int x5), some (.int x6), some (.int x7)] [] (bW9 S) := by
  unfold wp_X9_lackMany_6b at h
  refine bs_iload C (bf_dk dd_X9_lackMany 4 rfl) rfl ?_
  refine bs_iload_n C (bf_dk dd_X9_lackMany 5 rfl) rfl ?_
  refine bs_icmp_ge C (bf_dk dd_X9_lackMany 6 rfl) (tgt := 83) rfl (fun c => ?_) (fun c => ?_)
  · replace h := h.1 c
    refine bs_iload C (bf_dk dd_X9_lackMany 48 rfl) rfl ?_
    exact bs_iret (u := S) C (bf_dk dd_X9_lackMany 49 rfl) rfl h
  · replace h := h.2 c
    refine bs_aload_n C (bf_dk dd_X9_lackMany 7 rfl) rfl ?_
    refine bs_iload_n C (bf_dk dd_X9_lackMany 8 rfl) rfl ?_
    refine bs_iload C (bf_dk dd_X9_lackMany 9 rfl) rfl ?_
    refine bs_aload_n C (bf_dk dd_X9_lackMany 10 rfl) rfl ?_
    refine bs_get C (bf_dk dd_X9_lackMany 11 rfl) cl_9 in_9 2 (Nat.le_of_ble_eq_true rfl) rfl f_9_13 (ge_bW9_0 S) rfl ?_
    refine bs_iload_n C (bf_dk dd_X9_lackMany 12 rfl) rfl ?_
    refine bs_iload C (bf_dk dd_X9_lackMany 13 rfl) rfl ?_
    refine bs_iadd C (bf_dk dd_X9_lackMany 14 rfl) ?_
    obtain ⟨hi, h⟩ := h
    refine bs_lald C (bf_dk dd_X9_lackMany 15 rfl) (ge_bW9_2 S) hi ?_
    refine bs_aload_n C (bf_dk dd_X9_lackMany 16 rfl) rfl ?_
    refine bs_get C (bf_dk dd_X9_lackMany 17 rfl) cl_9 in_9 3 (Nat.le_of_ble_eq_true rfl) rfl f_9_17 (ge_bW9_0 S) rfl ?_
    refine bs_iload_n C (bf_dk dd_X9_lackMany 18 rfl) rfl ?_
    refine bs_iload C (bf_dk dd_X9_lackMany 19 rfl) rfl ?_
    refine bs_iadd C (bf_dk dd_X9_lackMany 20 rfl) ?_
    obtain ⟨hi, h⟩ := h
    refine bs_iald C (bf_dk dd_X9_lackMany 21 rfl) (ge_bW9_3 S) hi ?_
    refine bs_selfPV_i C hR (c_X9_find _ _ _ _ _ S (x3) (x4) (((b9g_keys S) ((x1 + x7)).toNatClampNeg)) (((b9g_lengths S) ((x1 + x7)).toNatClampNeg)) _ h) my_X9_find m_9_114 rfl cl_9 (ge_bW9_0 _) rfl (Nat.le_of_ble_eq_true rfl) (Nat.le_of_ble_eq_true rfl) (st := []) (Nat.le_of_ble_eq_true rfl) (bf_dk dd_X9_lackMany 22 rfl) rfl (fun r1 h => ?_)
    refine bs_iconst C (bf_dk dd_X9_lackMany 23 rfl) (-1 : Int32) (by decide) ?_
    refine bs_icmp_ne C (bf_dk dd_X9_lackMany 24 rfl) (tgt := 77) rfl (fun c => ?_) (fun c => ?_)
    · replace h := h.1 c
      exact bs_weak (bf_s1 (bf_s1 (bf_s1 (bf_s1 (bf_s1 (bf_s1 (bf_s1 (bf_s1 bf_s0)))))))) (t_X9_lackMany_77 C hR S (x1) (x2) (x3) (x4) (x5) (x6) (x7) Q B6 hB6 h)
    · replace h := h.2 c
      refine bs_iload C (bf_dk dd_X9_lackMany 25 rfl) rfl ?_
      refine bs_if_eq C (bf_dk dd_X9_lackMany 26 rfl) (tgt := 71) rfl (fun c => ?_) (fun c => ?_)
      · replace h := h.1 c
        exact bs_weak (bf_s1 (bf_s1 (bf_s1 (bf_s1 (bf_s1 (bf_s1 (bf_s1 (bf_s1 bf_s0)))))))) (t_X9_lackMany_71 C hR S (x1) (x2) (x3) (x4) (x5) (x6) (x7) Q B6 hB6 h)
      · replace h := h.2 c
        refine bs_aload_n C (bf_dk dd_X9_lackMany 27 rfl) rfl ?_
        refine bs_aload_n C (bf_dk dd_X9_lackMany 28 rfl) rfl ?_
        refine bs_get C (bf_dk dd_X9_lackMany 29 rfl) cl_9 in_9 2 (Nat.le_of_ble_eq_true rfl) rfl f_9_13 (ge_bW9_0 S) rfl ?_
        refine bs_iload_n C (bf_dk dd_X9_lackMany 30 rfl) rfl ?_
        refine bs_iload C (bf_dk dd_X9_lackMany 31 rfl) rfl ?_
        refine bs_iadd C (bf_dk dd_X9_lackMany 32 rfl) ?_
        obtain ⟨hi, h⟩ := h
        refine bs_lald C (bf_dk dd_X9_lackMany 33 rfl) (ge_bW9_2 S) hi ?_
        refine bs_aload_n C (bf_dk dd_X9_lackMany 34 rfl) rfl ?_
        refine bs_get C (bf_dk dd_X9_lackMany 35 rfl) cl_9 in_9 3 (Nat.le_of_ble_eq_true rfl) rfl f_9_17 (ge_bW9_0 S) rfl ?_
        refine bs_iload_n C (bf_dk dd_X9_lackMany 36 rfl) rfl ?_
        refine bs_iload C (bf_dk dd_X9_lackMany 37 rfl) rfl ?_
        refine bs_iadd C (bf_dk dd_X9_lackMany 38 rfl) ?_
        obtain ⟨hi, h⟩ := h
        refine bs_iald C (bf_dk dd_X9_lackMany 39 rfl) (ge_bW9_3 S) hi ?_
        refine bs_selfV_i C hR (c_X9_mayNow _ _ _ _ _ S (((b9g_keys S) ((x1 + x7)).toNatClampNeg)) (((b9g_lengths S) ((x1 + x7)).toNatClampNeg)) _ h) my_X9_mayNow m_9_320 rfl cl_9 (ge_bW9_0 _) rfl (Nat.le_of_ble_eq_true rfl) (Nat.le_of_ble_eq_true rfl) (st := []) (Nat.le_of_ble_eq_true rfl) (bf_dk dd_X9_lackMany 40 rfl) rfl (len := 21) (fun _ => rfl) (fun r3 u4 h => ?_)
        refine bs_if_eq C (bf_dk dd_X9_lackMany 41 rfl) (tgt := 77) rfl (fun c => ?_) (fun c => ?_)
        · replace h := h.1 c
          exact bs_weak (bf_s1 (bf_s1 (bf_s1 (bf_s1 (bf_s1 (bf_s1 (bf_s1 (bf_s1 bf_s0)))))))) (t_X9_lackMany_77 C hR u4 (x1) (x2) (x3) (x4) (x5) (x6) (x7) Q B6 hB6 h)
        · replace h := h.2 c
          exact bs_weak (bf_s1 (bf_s1 (bf_s1 (bf_s1 (bf_s1 (bf_s1 (bf_s1 (bf_s1 bf_s0)))))))) (t_X9_lackMany_71 C hR u4 (x1) (x2) (x3) (x4) (x5) (x6) (x7) Q B6 hB6 h)
def wp_X9_lackMany_6 (S : bT9) (x1 : Int32) (x2 : Int32) (x3 : Int32) (x4 : Int32) (x5 : Int32) (x6 : Int32) (x7 : Int32) (Q : Int32 → (bT9) → Prop) : Prop := ∃ I : Nat → Int32 → Int32 → Int32 → Int32 → Int32 → Int32 → Int32 → (bT9) → Prop, (∃ n : Nat, I n x1 x2 x3 x4 x5 x6 x7 S) ∧ ∀ (n : Nat) (x1 : Int32) (x2 : Int32) (x3 : Int32) (x4 : Int32) (x5 : Int32) (x6 : Int32) (x7 : Int32) (S : bT9), I n x1 x2 x3 x4 x5 x6 x7 S → wp_X9_lackMany_6b S x1 x2 x3 x4 x5 x6 x7 Q (fun x1 x2 x3 x4 x5 x6 x7 S => ∃ n2 : Nat, n2 < n ∧ I n2 x1 x2 x3 x4 x5 x6 x7 S)
theorem t_X9_lackMany_6 {X : bf_X} (C : bf_C X RX9 cX9_lackMany 8 (some .int)) (hR : bf_Rm X 7 163) (S : bT9) (x1 : Int32) (x2 : Int32) (x3 : Int32) (x4 : Int32) (x5 : Int32) (x6 : Int32) (x7 : Int32) (Q : Int32 → (bT9) → Prop) (h : wp_X9_lackMany_6 S x1 x2 x3 x4 x5 x6 x7 Q) : bf_A X (bf_Zi X bW9 Q) 8 6 [some (.ref 0), some (.int x1), some (.int x2), some (.int x3), some (.int x4), some (.int x5), some (.int x6), some (.int x7)] [] (bW9 S) := by
  obtain ⟨I, ⟨n0, h0⟩, hI⟩ := h
  have key : ∀ (n : Nat) (x1 : Int32) (x2 : Int32) (x3 : Int32) (x4 : Int32) (x5 : Int32) (x6 : Int32) (x7 : Int32) (S : bT9), I n x1 x2 x3 x4 x5 x6 x7 S → bf_A X (bf_Zi X bW9 Q) 8 6 [some (.ref 0), some (.int x1), some (.int x2), some (.int x3), some (.int x4), some (.int x5), some (.int x6), some (.int x7)] [] (bW9 S) := by
    intro n
    induction n using Nat.strongRecOn with
    | _ n ih =>
      intro x1 x2 x3 x4 x5 x6 x7 S hi
      exact t_X9_lackMany_6b C hR S x1 x2 x3 x4 x5 x6 x7 Q _ (fun x1 x2 x3 x4 x5 x6 x7 S hb => by obtain ⟨n2, hn, hi2⟩ := hb; exact ih n2 hn x1 x2 x3 x4 x5 x6 x7 S hi2) (hI n x1 x2 x3 x4 x5 x6 x7 S hi)
  exact key n0 x1 x2 x3 x4 x5 x6 x7 S h0
def wp_X9_lackMany (S : bT9) (a1 : Int32) (a2 : Int32) (a3 : Int32) (a4 : Int32) (a5 : Int32) (Q : Int32 → (bT9) → Prop) : Prop := (wp_X9_lackMany_6 S (a1) (a2) (a3) (a4) (a5) ((0 : Int32)) ((0 : Int32)) Q)
set_option maxRecDepth 20000 in
theorem t_X9_lackMany {X : bf_X} (C : bf_C X RX9 cX9_lackMany 8 (some .int)) (hR : bf_Rm X 7 163) (S : bT9) (a1 : Int32) (a2 : Int32) (a3 : Int32) (a4 : Int32) (a5 : Int32) (Q : Int32 → (bT9) → Prop) (h : wp_X9_lackMany S a1 a2 a3 a4 a5 Q) : bf_A X (bf_Zi X bW9 Q) 8 0 [some (.ref 0), some (.int a1), some (.int a2), some (.int a3), some (.int a4), some (.int a5), none, none] [] (bW9 S) := by
  unfold wp_X9_lackMany at h
  refine bs_iconst C (bf_dk dd_X9_lackMany 0 rfl) (0 : Int32) (by decide) ?_
  refine bs_istore C (bf_dk dd_X9_lackMany 1 rfl) (Nat.le_of_ble_eq_true rfl) (Nat.le_of_ble_eq_true rfl) (lv2 := [some (.ref 0), some (.int a1), some (.int a2), some (.int a3), some (.int a4), some (.int a5), some (.int (0 : Int32)), none]) rfl ?_
  refine bs_iconst C (bf_dk dd_X9_lackMany 2 rfl) (0 : Int32) (by decide) ?_
  refine bs_istore C (bf_dk dd_X9_lackMany 3 rfl) (Nat.le_of_ble_eq_true rfl) (Nat.le_of_ble_eq_true rfl) (lv2 := [some (.ref 0), some (.int a1), some (.int a2), some (.int a3), some (.int a4), some (.int a5), some (.int (0 : Int32)), some (.int (0 : Int32))]) rfl ?_
  exact bs_weak (bf_s1 (bf_s1 (bf_s1 (bf_s1 (bf_s1 (bf_s1 (bf_s1 (bf_s1 bf_s0)))))))) (t_X9_lackMany_6 C hR S (a1) (a2) (a3) (a4) (a5) ((0 : Int32)) ((0 : Int32)) Q h)
theorem c_X9_lackMany (l : Launch) (dC : Nat → ClassId) (dI : Nat → Nat → Nat) (ac : Nat → ClassId) (al : Nat → Nat) (S : bT9) (a1 : Int32) (a2 : Int32) (a3 : Int32) (a4 : Int32) (a5 : Int32) (Q : Int32 → (bT9) → Prop) (h : wp_X9_lackMany S a1 a2 a3 a4 a5 Q) : bf_M l yX9_lackMany cX9_lackMany 8 (some .int) 7 163 dC dI ac al [.ref 0, .int a1, .int a2, .int a3, .int a4, .int a5] (bW9 S) (bf_Ki dC dI ac al bW9 Q) := by
  refine bf_start [some (.ref 0), some (.int a1), some (.int a2), some (.int a3), some (.int a4), some (.int a5), none, none] (by decide) (Nat.le_of_ble_eq_true rfl) (bf_s1 (bf_s1 (bf_s1 (bf_s1 (bf_s1 (bf_s1 (bf_en 2))))))) ?_
  intro X hl C hR e1 e2 e3 e4
  subst e1; subst e2; subst e3; subst e4
  exact t_X9_lackMany C hR S a1 a2 a3 a4 a5 Q h
def wp_X9_since_75 (S : bT9) (t1 : Int32) (t2 : Int32) (t3 : Int32) (t4 : Int32) (t5 : Int32) (Q : Int32 → (bT9) → Prop) : Prop := (wp_X9_lackMany S (t1) (t2) (t3) (t4) (t5) (fun r1 u2 => (Q r1 u2)))
set_option maxRecDepth 20000 in
theorem t_X9_since_75 {X : bf_X} (C : bf_C X RX9 cX9_since 2 (some .int)) (hR : bf_Rm X 8 190) (S : bT9) (t1 : Int32) (t2 : Int32) (t3 : Int32) (t4 : Int32) (t5 : Int32) (Q : Int32 → (bT9) → Prop) (h : wp_X9_since_75 S t1 t2 t3 t4 t5 Q) : bf_A X (bf_Zi X bW9 Q) 2 75 [none, none] [.int t5, .int t4, .int t3, .int t2, .int t1, .ref 0] (bW9 S) := by
  unfold wp_X9_since_75 at h
  refine bs_selfV_i C hR (c_X9_lackMany _ _ _ _ _ S (t1) (t2) (t3) (t4) (t5) _ h) my_X9_lackMany m_9_427 rfl cl_9 (ge_bW9_0 _) rfl (Nat.le_of_ble_eq_true rfl) (Nat.le_of_ble_eq_true rfl) (st := []) (Nat.le_of_ble_eq_true rfl) (bf_dk dd_X9_since 45 rfl) rfl (len := 21) (fun _ => rfl) (fun r1 u2 h => ?_)
  exact bs_iret (u := u2) C (bf_dk dd_X9_since 46 rfl) rfl h
def wp_X9_since (S : bT9) (a1 : Int32) (Q : Int32 → (bT9) → Prop) : Prop := (∀ S3 : bT9, S3 = (b9s_told S (0 : Int32)) → (wp_X9_isIn S3 (a1) ((0 : Int32)) ((2 : Int32)) (fun r4 => ((¬ r4 = 0 → ((¬ a1 = (2 : Int32) → (vp_in (8 : Int32) 23 ∧ (vp_in (9 : Int32) 23 ∧ ((¬ a1 = (1 : Int32) → (wp_X9_since_75 S3 ((0 : Int32)) (((b9g_now S3) ((8 : Int32)).toNatClampNeg)) ((64 : Int32)) (((b9g_now S3) ((9 : Int32)).toNatClampNeg)) ((0 : Int32)) Q)) ∧ (a1 = (1 : Int32) → (wp_X9_since_75 S3 ((0 : Int32)) (((b9g_now S3) ((8 : Int32)).toNatClampNeg)) ((64 : Int32)) (((b9g_now S3) ((9 : Int32)).toNatClampNeg)) ((1 : Int32)) Q)))))) ∧ (a1 = (2 : Int32) → (vp_in (9 : Int32) 23 ∧ (vp_in (8 : Int32) 23 ∧ (wp_X9_lackMany S3 ((64 : Int32)) (((b9g_now S3) ((9 : Int32)).toNatClampNeg)) ((0 : Int32)) (((b9g_now S3) ((8 : Int32)).toNatClampNeg)) ((0 : Int32)) (fun r6 u7 => (Q r6 u7)))))))) ∧ (r4 = 0 → (Q (-1 : Int32) S3))))))
set_option maxRecDepth 20000 in
theorem t_X9_since {X : bf_X} (C : bf_C X RX9 cX9_since 2 (some .int)) (hR : bf_Rm X 8 190) (S : bT9) (a1 : Int32) (Q : Int32 → (bT9) → Prop) (h : wp_X9_since S a1 Q) : bf_A X (bf_Zi X bW9 Q) 2 0 [some (.ref 0), some (.int a1)] [] (bW9 S) := by
  unfold wp_X9_since at h
  refine bs_aload_n C (bf_dk dd_X9_since 0 rfl) rfl ?_
  refine bs_iconst C (bf_dk dd_X9_since 1 rfl) (0 : Int32) (by decide) ?_
  refine bs_put C (bf_dk dd_X9_since 2 rfl) tyX9_ok nmX9 cl_9 in_9 0 (Nat.le_of_ble_eq_true rfl) rfl f_9_75 rfl (ge_bW9_0 S) (Nat.le_of_ble_eq_true rfl) rfl rfl (pu_bW9_0_0 S (0 : Int32)) ?_
  refine bs_nameS bW9 (fun S3 eS3 => ?_)
  replace h := h S3 eS3
  refine bs_aload_n C (bf_dk dd_X9_since 3 rfl) rfl ?_
  refine bs_iload_n C (bf_dk dd_X9_since 4 rfl) rfl ?_
  refine bs_iconst C (bf_dk dd_X9_since 5 rfl) (0 : Int32) (by decide) ?_
  refine bs_iconst C (bf_dk dd_X9_since 6 rfl) (2 : Int32) (by decide) ?_
  refine bs_selfPV_i C hR (c_X9_isIn _ _ _ _ _ S3 (a1) ((0 : Int32)) ((2 : Int32)) _ h) my_X9_isIn m_9_82 rfl cl_9 (ge_bW9_0 _) rfl (Nat.le_of_ble_eq_true rfl) (Nat.le_of_ble_eq_true rfl) (st := []) (Nat.le_of_ble_eq_true rfl) (bf_dk dd_X9_since 7 rfl) rfl (fun r4 h => ?_)
  refine bs_if_ne C (bf_dk dd_X9_since 8 rfl) (tgt := 17) rfl (fun c => ?_) (fun c => ?_)
  · replace h := h.1 c
    refine bs_iload_n C (bf_dk dd_X9_since 11 rfl) rfl ?_
    refine bs_iconst C (bf_dk dd_X9_since 12 rfl) (2 : Int32) (by decide) ?_
    refine bs_icmp_ne C (bf_dk dd_X9_since 13 rfl) (tgt := 47) rfl (fun c => ?_) (fun c => ?_)
    · replace h := h.1 c
      refine bs_aload_n C (bf_dk dd_X9_since 28 rfl) rfl ?_
      refine bs_iconst C (bf_dk dd_X9_since 29 rfl) (0 : Int32) (by decide) ?_
      refine bs_aload_n C (bf_dk dd_X9_since 30 rfl) rfl ?_
      refine bs_get C (bf_dk dd_X9_since 31 rfl) cl_9 in_9 1 (Nat.le_of_ble_eq_true rfl) rfl f_9_7 (ge_bW9_0 S3) rfl ?_
      refine bs_bipush C (bf_dk dd_X9_since 32 rfl) (8 : Int32) (by decide) ?_
      obtain ⟨hi, h⟩ := h
      refine bs_iald C (bf_dk dd_X9_since 33 rfl) (ge_bW9_1 S3) hi ?_
      refine bs_bipush C (bf_dk dd_X9_since 34 rfl) (64 : Int32) (by decide) ?_
      refine bs_aload_n C (bf_dk dd_X9_since 35 rfl) rfl ?_
      refine bs_get C (bf_dk dd_X9_since 36 rfl) cl_9 in_9 1 (Nat.le_of_ble_eq_true rfl) rfl f_9_7 (ge_bW9_0 S3) rfl ?_
      refine bs_bipush C (bf_dk dd_X9_since 37 rfl) (9 : Int32) (by decide) ?_
      obtain ⟨hi, h⟩ := h
      refine bs_iald C (bf_dk dd_X9_since 38 rfl) (ge_bW9_1 S3) hi ?_
      refine bs_iload_n C (bf_dk dd_X9_since 39 rfl) rfl ?_
      refine bs_iconst C (bf_dk dd_X9_since 40 rfl) (1 : Int32) (by decide) ?_
      refine bs_icmp_ne C (bf_dk dd_X9_since 41 rfl) (tgt := 74) rfl (fun c => ?_) (fun c => ?_)
      · replace h := h.1 c
        refine bs_iconst C (bf_dk dd_X9_since 44 rfl) (0 : Int32) (by decide) ?_
        exact bs_weak (bf_sn (bf_sn bf_s0)) (t_X9_since_75 C hR S3 ((0 : Int32)) (((b9g_now S3) ((8 : Int32)).toNatClampNeg)) ((64 : Int32)) (((b9g_now S3) ((9 : Int32)).toNatClampNeg)) ((0 : Int32)) Q h)
      · replace h := h.2 c
        refine bs_iconst C (bf_dk dd_X9_since 42 rfl) (1 : Int32) (by decide) ?_
        refine bs_goto C (bf_dk dd_X9_since 43 rfl) (tgt := 75) rfl ?_
        exact bs_weak (bf_sn (bf_sn bf_s0)) (t_X9_since_75 C hR S3 ((0 : Int32)) (((b9g_now S3) ((8 : Int32)).toNatClampNeg)) ((64 : Int32)) (((b9g_now S3) ((9 : Int32)).toNatClampNeg)) ((1 : Int32)) Q h)
    · replace h := h.2 c
      refine bs_aload_n C (bf_dk dd_X9_since 14 rfl) rfl ?_
      refine bs_bipush C (bf_dk dd_X9_since 15 rfl) (64 : Int32) (by decide) ?_
      refine bs_aload_n C (bf_dk dd_X9_since 16 rfl) rfl ?_
      refine bs_get C (bf_dk dd_X9_since 17 rfl) cl_9 in_9 1 (Nat.le_of_ble_eq_true rfl) rfl f_9_7 (ge_bW9_0 S3) rfl ?_
      refine bs_bipush C (bf_dk dd_X9_since 18 rfl) (9 : Int32) (by decide) ?_
      obtain ⟨hi, h⟩ := h
      refine bs_iald C (bf_dk dd_X9_since 19 rfl) (ge_bW9_1 S3) hi ?_
      refine bs_iconst C (bf_dk dd_X9_since 20 rfl) (0 : Int32) (by decide) ?_
      refine bs_aload_n C (bf_dk dd_X9_since 21 rfl) rfl ?_
      refine bs_get C (bf_dk dd_X9_since 22 rfl) cl_9 in_9 1 (Nat.le_of_ble_eq_true rfl) rfl f_9_7 (ge_bW9_0 S3) rfl ?_
      refine bs_bipush C (bf_dk dd_X9_since 23 rfl) (8 : Int32) (by decide) ?_
      obtain ⟨hi, h⟩ := h
      refine bs_iald C (bf_dk dd_X9_since 24 rfl) (ge_bW9_1 S3) hi ?_
      refine bs_iconst C (bf_dk dd_X9_since 25 rfl) (0 : Int32) (by decide) ?_
      refine bs_selfV_i C hR (c_X9_lackMany _ _ _ _ _ S3 ((64 : Int32)) (((b9g_now S3) ((9 : Int32)).toNatClampNeg)) ((0 : Int32)) (((b9g_now S3) ((8 : Int32)).toNatClampNeg)) ((0 : Int32)) _ h) my_X9_lackMany m_9_427 rfl cl_9 (ge_bW9_0 _) rfl (Nat.le_of_ble_eq_true rfl) (Nat.le_of_ble_eq_true rfl) (st := []) (Nat.le_of_ble_eq_true rfl) (bf_dk dd_X9_since 26 rfl) rfl (len := 21) (fun _ => rfl) (fun r6 u7 h => ?_)
      refine bs_goto C (bf_dk dd_X9_since 27 rfl) (tgt := 78) rfl ?_
      exact bs_iret (u := u7) C (bf_dk dd_X9_since 46 rfl) rfl h
  · replace h := h.2 c
    refine bs_iconst C (bf_dk dd_X9_since 9 rfl) (-1 : Int32) (by decide) ?_
    exact bs_iret (u := S3) C (bf_dk dd_X9_since 10 rfl) rfl h
theorem c_X9_since (l : Launch) (dC : Nat → ClassId) (dI : Nat → Nat → Nat) (ac : Nat → ClassId) (al : Nat → Nat) (S : bT9) (a1 : Int32) (Q : Int32 → (bT9) → Prop) (h : wp_X9_since S a1 Q) : bf_M l yX9_since cX9_since 2 (some .int) 8 190 dC dI ac al [.ref 0, .int a1] (bW9 S) (bf_Ki dC dI ac al bW9 Q) := by
  refine bf_start [some (.ref 0), some (.int a1)] (by decide) (Nat.le_of_ble_eq_true rfl) (bf_s1 (bf_s1 bf_s0)) ?_
  intro X hl C hR e1 e2 e3 e4
  subst e1; subst e2; subst e3; subst e4
  exact t_X9_since C hR S a1 Q h
def wp_X9_says (S : bT9) (a1 : Int32) (Q : (bT9) → Prop) : Prop := (vp_in (b9g_signMany S) 200 ∧ (∀ S1 : bT9, S1 = (b9s_signs S (upd (b9g_signs S) ((b9g_signMany S)).toNatClampNeg a1)) → (∀ S2 : bT9, S2 = (b9s_signMany S1 ((b9g_signMany S1) + (1 : Int32))) → (Q S2))))
set_option maxRecDepth 20000 in
theorem t_X9_says {X : bf_X} (C : bf_C X RX9 cX9_says 2 none) (hR : bf_Rm X 0 0) (S : bT9) (a1 : Int32) (Q : (bT9) → Prop) (h : wp_X9_says S a1 Q) : bf_A X (bf_Zv X bW9 Q) 2 0 [some (.ref 0), some (.int a1)] [] (bW9 S) := by
  unfold wp_X9_says at h
  refine bs_aload_n C (bf_dk dd_X9_says 0 rfl) rfl ?_
  refine bs_get C (bf_dk dd_X9_says 1 rfl) cl_9 in_9 40 (Nat.le_of_ble_eq_true rfl) rfl f_9_63 (ge_bW9_0 S) rfl ?_
  refine bs_aload_n C (bf_dk dd_X9_says 2 rfl) rfl ?_
  refine bs_get C (bf_dk dd_X9_says 3 rfl) cl_9 in_9 41 (Nat.le_of_ble_eq_true rfl) rfl f_9_431 (ge_bW9_0 S) rfl ?_
  refine bs_iload_n C (bf_dk dd_X9_says 4 rfl) rfl ?_
  obtain ⟨hi, h⟩ := h
  refine bs_iast C (bf_dk dd_X9_says 5 rfl) (ge_bW9_17 S) hi (ar_bW9_17 S _) ?_
  refine bs_nameS bW9 (fun S1 eS1 => ?_)
  replace h := h S1 eS1
  refine bs_aload_n C (bf_dk dd_X9_says 6 rfl) rfl ?_
  refine bs_aload_n C (bf_dk dd_X9_says 7 rfl) rfl ?_
  refine bs_get C (bf_dk dd_X9_says 8 rfl) cl_9 in_9 41 (Nat.le_of_ble_eq_true rfl) rfl f_9_431 (ge_bW9_0 S1) rfl ?_
  refine bs_iconst C (bf_dk dd_X9_says 9 rfl) (1 : Int32) (by decide) ?_
  refine bs_iadd C (bf_dk dd_X9_says 10 rfl) ?_
  refine bs_put C (bf_dk dd_X9_says 11 rfl) tyX9_ok nmX9 cl_9 in_9 41 (Nat.le_of_ble_eq_true rfl) rfl f_9_431 rfl (ge_bW9_0 S1) (Nat.le_of_ble_eq_true rfl) rfl rfl (pu_bW9_0_41 S1 ((b9g_signMany S1) + (1 : Int32))) ?_
  refine bs_nameS bW9 (fun S2 eS2 => ?_)
  replace h := h S2 eS2
  exact bs_vret (u := S2) C (bf_dk dd_X9_says 12 rfl) rfl h
theorem c_X9_says (l : Launch) (dC : Nat → ClassId) (dI : Nat → Nat → Nat) (ac : Nat → ClassId) (al : Nat → Nat) (S : bT9) (a1 : Int32) (Q : (bT9) → Prop) (h : wp_X9_says S a1 Q) : bf_M l yX9_says cX9_says 2 none 0 0 dC dI ac al [.ref 0, .int a1] (bW9 S) (bf_Kv dC dI ac al bW9 Q) := by
  refine bf_start [some (.ref 0), some (.int a1)] (by decide) (Nat.le_of_ble_eq_true rfl) (bf_s1 (bf_s1 bf_s0)) ?_
  intro X hl C hR e1 e2 e3 e4
  subst e1; subst e2; subst e3; subst e4
  exact t_X9_says C hR S a1 Q h
def wp_X9_saysNumber_37 (S : bT9) (x1 : Int32) (Q : (bT9) → Prop) : Prop := (¬ (10 : Int32) = 0 ∧ (wp_X9_says S (((48 : Int32) + (x1 - x1 / (10 : Int32) * (10 : Int32)))) (fun u2 => (Q u2))))
set_option maxRecDepth 20000 in
theorem t_X9_saysNumber_37 {X : bf_X} (C : bf_C X RX9 cX9_saysNumber 2 none) (hR : bf_Rm X 1 21) (S : bT9) (x1 : Int32) (Q : (bT9) → Prop) (h : wp_X9_saysNumber_37 S x1 Q) : bf_A X (bf_Zv X bW9 Q) 2 37 [some (.ref 0), some (.int x1)] [] (bW9 S) := by
  unfold wp_X9_saysNumber_37 at h
  refine bs_aload_n C (bf_dk dd_X9_saysNumber 22 rfl) rfl ?_
  refine bs_bipush C (bf_dk dd_X9_saysNumber 23 rfl) (48 : Int32) (by decide) ?_
  refine bs_iload_n C (bf_dk dd_X9_saysNumber 24 rfl) rfl ?_
  refine bs_bipush C (bf_dk dd_X9_saysNumber 25 rfl) (10 : Int32) (by decide) ?_
  obtain ⟨hi, h⟩ := h
  refine bs_irem C (bf_dk dd_X9_saysNumber 26 rfl) hi ?_
  refine bs_iadd C (bf_dk dd_X9_saysNumber 27 rfl) ?_
  refine bs_selfV_v C hR (c_X9_says _ _ _ _ _ S (((48 : Int32) + (x1 - x1 / (10 : Int32) * (10 : Int32)))) _ h) my_X9_says m_9_434 rfl cl_9 (ge_bW9_0 _) rfl (Nat.le_of_ble_eq_true rfl) (Nat.le_of_ble_eq_true rfl) (st := []) (Nat.le_of_ble_eq_true rfl) (bf_dk dd_X9_saysNumber 28 rfl) rfl (len := 21) (fun _ => rfl) (fun u2 h => ?_)
  exact bs_vret (u := u2) C (bf_dk dd_X9_saysNumber 29 rfl) rfl h
def wp_X9_saysNumber_17 (S : bT9) (x1 : Int32) (Q : (bT9) → Prop) : Prop := ((x1 ≤ (9 : Int32) → (wp_X9_saysNumber_37 S (x1) Q)) ∧ (¬ x1 ≤ (9 : Int32) → (¬ (10 : Int32) = 0 ∧ (¬ (10 : Int32) = 0 ∧ (wp_X9_says S (((48 : Int32) + ((x1 / (10 : Int32)) - (x1 / (10 : Int32)) / (10 : Int32) * (10 : Int32)))) (fun u4 => (wp_X9_saysNumber_37 u4 (x1) Q)))))))
set_option maxRecDepth 20000 in
theorem t_X9_saysNumber_17 {X : bf_X} (C : bf_C X RX9 cX9_saysNumber 2 none) (hR : bf_Rm X 1 21) (S : bT9) (x1 : Int32) (Q : (bT9) → Prop) (h : wp_X9_saysNumber_17 S x1 Q) : bf_A X (bf_Zv X bW9 Q) 2 17 [some (.ref 0), some (.int x1)] [] (bW9 S) := by
  unfold wp_X9_saysNumber_17 at h
  refine bs_iload_n C (bf_dk dd_X9_saysNumber 10 rfl) rfl ?_
  refine bs_bipush C (bf_dk dd_X9_saysNumber 11 rfl) (9 : Int32) (by decide) ?_
  refine bs_icmp_le C (bf_dk dd_X9_saysNumber 12 rfl) (tgt := 37) rfl (fun c => ?_) (fun c => ?_)
  · replace h := h.1 c
    exact bs_weak (bf_s1 (bf_s1 bf_s0)) (t_X9_saysNumber_37 C hR S (x1) Q h)
  · replace h := h.2 c
    refine bs_aload_n C (bf_dk dd_X9_saysNumber 13 rfl) rfl ?_
    refine bs_bipush C (bf_dk dd_X9_saysNumber 14 rfl) (48 : Int32) (by decide) ?_
    refine bs_iload_n C (bf_dk dd_X9_saysNumber 15 rfl) rfl ?_
    refine bs_bipush C (bf_dk dd_X9_saysNumber 16 rfl) (10 : Int32) (by decide) ?_
    obtain ⟨hi, h⟩ := h
    refine bs_idiv C (bf_dk dd_X9_saysNumber 17 rfl) hi ?_
    refine bs_bipush C (bf_dk dd_X9_saysNumber 18 rfl) (10 : Int32) (by decide) ?_
    obtain ⟨hi, h⟩ := h
    refine bs_irem C (bf_dk dd_X9_saysNumber 19 rfl) hi ?_
    refine bs_iadd C (bf_dk dd_X9_saysNumber 20 rfl) ?_
    refine bs_selfV_v C hR (c_X9_says _ _ _ _ _ S (((48 : Int32) + ((x1 / (10 : Int32)) - (x1 / (10 : Int32)) / (10 : Int32) * (10 : Int32)))) _ h) my_X9_says m_9_434 rfl cl_9 (ge_bW9_0 _) rfl (Nat.le_of_ble_eq_true rfl) (Nat.le_of_ble_eq_true rfl) (st := []) (Nat.le_of_ble_eq_true rfl) (bf_dk dd_X9_saysNumber 21 rfl) rfl (len := 21) (fun _ => rfl) (fun u4 h => ?_)
    exact bs_weak (bf_s1 (bf_s1 bf_s0)) (t_X9_saysNumber_37 C hR u4 (x1) Q h)
def wp_X9_saysNumber (S : bT9) (a1 : Int32) (Q : (bT9) → Prop) : Prop := ((a1 ≤ (99 : Int32) → (wp_X9_saysNumber_17 S (a1) Q)) ∧ (¬ a1 ≤ (99 : Int32) → (¬ (100 : Int32) = 0 ∧ (wp_X9_says S (((48 : Int32) + (a1 / (100 : Int32)))) (fun u6 => (wp_X9_saysNumber_17 u6 (a1) Q))))))
set_option maxRecDepth 20000 in
theorem t_X9_saysNumber {X : bf_X} (C : bf_C X RX9 cX9_saysNumber 2 none) (hR : bf_Rm X 1 21) (S : bT9) (a1 : Int32) (Q : (bT9) → Prop) (h : wp_X9_saysNumber S a1 Q) : bf_A X (bf_Zv X bW9 Q) 2 0 [some (.ref 0), some (.int a1)] [] (bW9 S) := by
  unfold wp_X9_saysNumber at h
  refine bs_iload_n C (bf_dk dd_X9_saysNumber 0 rfl) rfl ?_
  refine bs_bipush C (bf_dk dd_X9_saysNumber 1 rfl) (99 : Int32) (by decide) ?_
  refine bs_icmp_le C (bf_dk dd_X9_saysNumber 2 rfl) (tgt := 17) rfl (fun c => ?_) (fun c => ?_)
  · replace h := h.1 c
    exact bs_weak (bf_s1 (bf_s1 bf_s0)) (t_X9_saysNumber_17 C hR S (a1) Q h)
  · replace h := h.2 c
    refine bs_aload_n C (bf_dk dd_X9_saysNumber 3 rfl) rfl ?_
    refine bs_bipush C (bf_dk dd_X9_saysNumber 4 rfl) (48 : Int32) (by decide) ?_
    refine bs_iload_n C (bf_dk dd_X9_saysNumber 5 rfl) rfl ?_
    refine bs_bipush C (bf_dk dd_X9_saysNumber 6 rfl) (100 : Int32) (by decide) ?_
    obtain ⟨hi, h⟩ := h
    refine bs_idiv C (bf_dk dd_X9_saysNumber 7 rfl) hi ?_
    refine bs_iadd C (bf_dk dd_X9_saysNumber 8 rfl) ?_
    refine bs_selfV_v C hR (c_X9_says _ _ _ _ _ S (((48 : Int32) + (a1 / (100 : Int32)))) _ h) my_X9_says m_9_434 rfl cl_9 (ge_bW9_0 _) rfl (Nat.le_of_ble_eq_true rfl) (Nat.le_of_ble_eq_true rfl) (st := []) (Nat.le_of_ble_eq_true rfl) (bf_dk dd_X9_saysNumber 9 rfl) rfl (len := 21) (fun _ => rfl) (fun u6 h => ?_)
    exact bs_weak (bf_s1 (bf_s1 bf_s0)) (t_X9_saysNumber_17 C hR u6 (a1) Q h)
theorem c_X9_saysNumber (l : Launch) (dC : Nat → ClassId) (dI : Nat → Nat → Nat) (ac : Nat → ClassId) (al : Nat → Nat) (S : bT9) (a1 : Int32) (Q : (bT9) → Prop) (h : wp_X9_saysNumber S a1 Q) : bf_M l yX9_saysNumber cX9_saysNumber 2 none 1 21 dC dI ac al [.ref 0, .int a1] (bW9 S) (bf_Kv dC dI ac al bW9 Q) := by
  refine bf_start [some (.ref 0), some (.int a1)] (by decide) (Nat.le_of_ble_eq_true rfl) (bf_s1 (bf_s1 bf_s0)) ?_
  intro X hl C hR e1 e2 e3 e4
  subst e1; subst e2; subst e3; subst e4
  exact t_X9_saysNumber C hR S a1 Q h
def wp_X9_saysHex_21 (S : bT9) (t1 : Int32) (Q : (bT9) → Prop) : Prop := (wp_X9_says S (t1) (fun u2 => (Q u2)))
set_option maxRecDepth 20000 in
theorem t_X9_saysHex_21 {X : bf_X} (C : bf_C X RX9 cX9_saysHex 2 none) (hR : bf_Rm X 1 21) (S : bT9) (t1 : Int32) (Q : (bT9) → Prop) (h : wp_X9_saysHex_21 S t1 Q) : bf_A X (bf_Zv X bW9 Q) 2 21 [none, none] [.int t1, .ref 0] (bW9 S) := by
  unfold wp_X9_saysHex_21 at h
  refine bs_selfV_v C hR (c_X9_says _ _ _ _ _ S (t1) _ h) my_X9_says m_9_434 rfl cl_9 (ge_bW9_0 _) rfl (Nat.le_of_ble_eq_true rfl) (Nat.le_of_ble_eq_true rfl) (st := []) (Nat.le_of_ble_eq_true rfl) (bf_dk dd_X9_saysHex 13 rfl) rfl (len := 21) (fun _ => rfl) (fun u2 h => ?_)
  exact bs_vret (u := u2) C (bf_dk dd_X9_saysHex 14 rfl) rfl h
def wp_X9_saysHex (S : bT9) (a1 : Int32) (Q : (bT9) → Prop) : Prop := (((10 : Int32) ≤ a1 → (wp_X9_saysHex_21 S ((((97 : Int32) + a1) - (10 : Int32))) Q)) ∧ (¬ (10 : Int32) ≤ a1 → (wp_X9_saysHex_21 S (((48 : Int32) + a1)) Q)))
set_option maxRecDepth 20000 in
theorem t_X9_saysHex {X : bf_X} (C : bf_C X RX9 cX9_saysHex 2 none) (hR : bf_Rm X 1 21) (S : bT9) (a1 : Int32) (Q : (bT9) → Prop) (h : wp_X9_saysHex S a1 Q) : bf_A X (bf_Zv X bW9 Q) 2 0 [some (.ref 0), some (.int a1)] [] (bW9 S) := by
  unfold wp_X9_saysHex at h
  refine bs_aload_n C (bf_dk dd_X9_saysHex 0 rfl) rfl ?_
  refine bs_iload_n C (bf_dk dd_X9_saysHex 1 rfl) rfl ?_
  refine bs_bipush C (bf_dk dd_X9_saysHex 2 rfl) (10 : Int32) (by decide) ?_
  refine bs_icmp_ge C (bf_dk dd_X9_saysHex 3 rfl) (tgt := 14) rfl (fun c => ?_) (fun c => ?_)
  · replace h := h.1 c
    refine bs_bipush C (bf_dk dd_X9_saysHex 8 rfl) (97 : Int32) (by decide) ?_
    refine bs_iload_n C (bf_dk dd_X9_saysHex 9 rfl) rfl ?_
    refine bs_iadd C (bf_dk dd_X9_saysHex 10 rfl) ?_
    refine bs_bipush C (bf_dk dd_X9_saysHex 11 rfl) (10 : Int32) (by decide) ?_
    refine bs_isub C (bf_dk dd_X9_saysHex 12 rfl) ?_
    exact bs_weak (bf_sn (bf_sn bf_s0)) (t_X9_saysHex_21 C hR S ((((97 : Int32) + a1) - (10 : Int32))) Q h)
  · replace h := h.2 c
    refine bs_bipush C (bf_dk dd_X9_saysHex 4 rfl) (48 : Int32) (by decide) ?_
    refine bs_iload_n C (bf_dk dd_X9_saysHex 5 rfl) rfl ?_
    refine bs_iadd C (bf_dk dd_X9_saysHex 6 rfl) ?_
    refine bs_goto C (bf_dk dd_X9_saysHex 7 rfl) (tgt := 21) rfl ?_
    exact bs_weak (bf_sn (bf_sn bf_s0)) (t_X9_saysHex_21 C hR S (((48 : Int32) + a1)) Q h)
theorem c_X9_saysHex (l : Launch) (dC : Nat → ClassId) (dI : Nat → Nat → Nat) (ac : Nat → ClassId) (al : Nat → Nat) (S : bT9) (a1 : Int32) (Q : (bT9) → Prop) (h : wp_X9_saysHex S a1 Q) : bf_M l yX9_saysHex cX9_saysHex 2 none 1 21 dC dI ac al [.ref 0, .int a1] (bW9 S) (bf_Kv dC dI ac al bW9 Q) := by
  refine bf_start [some (.ref 0), some (.int a1)] (by decide) (Nat.le_of_ble_eq_true rfl) (bf_s1 (bf_s1 bf_s0)) ?_
  intro X hl C hR e1 e2 e3 e4
  subst e1; subst e2; subst e3; subst e4
  exact t_X9_saysHex C hR S a1 Q h
def wp_X9_reportsAll_36 (S : bT9) (x1 : Int32) (t1 : Int32) (Q : (bT9) → Prop) (B2 : Int32 → (bT9) → Prop) : Prop := (wp_X9_says S (t1) (fun u2 => (wp_X9_levelOf u2 (x1) ((0 : Int32)) (fun r3 => (wp_X9_saysNumber u2 (r3) (fun u6 => (wp_X9_says u6 ((58 : Int32)) (fun u8 => (wp_X9_levelOf u8 (x1) ((1 : Int32)) (fun r9 => (wp_X9_saysNumber u8 (r9) (fun u12 => (B2 ((x1 + (1 : Int32))) u12)))))))))))))
set_option maxRecDepth 20000 in
theorem t_X9_reportsAll_36 {X : bf_X} (C : bf_C X RX9 cX9_reportsAll 2 none) (hR : bf_Rm X 6 138) (S : bT9) (x1 : Int32) (t1 : Int32) (Q : (bT9) → Prop) (B2 : Int32 → (bT9) → Prop) (hB2 : ∀ (x1 : Int32) (S : bT9), B2 x1 S → bf_A X (bf_Zv X bW9 Q) 2 2 [some (.ref 0), some (.int x1)] [] (bW9 S)) (h : wp_X9_reportsAll_36 S x1 t1 Q B2) : bf_A X (bf_Zv X bW9 Q) 2 36 [some (.ref 0), some (.int x1)] [.int t1, .ref 0] (bW9 S) := by
  unfold wp_X9_reportsAll_36 at h
  refine bs_selfV_v C hR (c_X9_says _ _ _ _ _ S (t1) _ h) my_X9_says m_9_434 rfl cl_9 (ge_bW9_0 _) rfl (Nat.le_of_ble_eq_true rfl) (Nat.le_of_ble_eq_true rfl) (st := []) (Nat.le_of_ble_eq_true rfl) (bf_dk dd_X9_reportsAll 19 rfl) rfl (len := 21) (fun _ => rfl) (fun u2 h => ?_)
  refine bs_aload_n C (bf_dk dd_X9_reportsAll 20 rfl) rfl ?_
  refine bs_aload_n C (bf_dk dd_X9_reportsAll 21 rfl) rfl ?_
  refine bs_iload_n C (bf_dk dd_X9_reportsAll 22 rfl) rfl ?_
  refine bs_iconst C (bf_dk dd_X9_reportsAll 23 rfl) (0 : Int32) (by decide) ?_
  refine bs_selfPV_i C hR (c_X9_levelOf _ _ _ _ _ u2 (x1) ((0 : Int32)) _ h) my_X9_levelOf m_9_381 rfl cl_9 (ge_bW9_0 _) rfl (Nat.le_of_ble_eq_true rfl) (Nat.le_of_ble_eq_true rfl) (st := [.ref 0]) (Nat.le_of_ble_eq_true rfl) (bf_dk dd_X9_reportsAll 24 rfl) rfl (fun r3 h => ?_)
  refine bs_selfV_v C hR (c_X9_saysNumber _ _ _ _ _ u2 (r3) _ h) my_X9_saysNumber m_9_437 rfl cl_9 (ge_bW9_0 _) rfl (Nat.le_of_ble_eq_true rfl) (Nat.le_of_ble_eq_true rfl) (st := []) (Nat.le_of_ble_eq_true rfl) (bf_dk dd_X9_reportsAll 25 rfl) rfl (len := 21) (fun _ => rfl) (fun u6 h => ?_)
  refine bs_aload_n C (bf_dk dd_X9_reportsAll 26 rfl) rfl ?_
  refine bs_bipush C (bf_dk dd_X9_reportsAll 27 rfl) (58 : Int32) (by decide) ?_
  refine bs_selfV_v C hR (c_X9_says _ _ _ _ _ u6 ((58 : Int32)) _ h) my_X9_says m_9_434 rfl cl_9 (ge_bW9_0 _) rfl (Nat.le_of_ble_eq_true rfl) (Nat.le_of_ble_eq_true rfl) (st := []) (Nat.le_of_ble_eq_true rfl) (bf_dk dd_X9_reportsAll 28 rfl) rfl (len := 21) (fun _ => rfl) (fun u8 h => ?_)
  refine bs_aload_n C (bf_dk dd_X9_reportsAll 29 rfl) rfl ?_
  refine bs_aload_n C (bf_dk dd_X9_reportsAll 30 rfl) rfl ?_
  refine bs_iload_n C (bf_dk dd_X9_reportsAll 31 rfl) rfl ?_
  refine bs_iconst C (bf_dk dd_X9_reportsAll 32 rfl) (1 : Int32) (by decide) ?_
  refine bs_selfPV_i C hR (c_X9_levelOf _ _ _ _ _ u8 (x1) ((1 : Int32)) _ h) my_X9_levelOf m_9_381 rfl cl_9 (ge_bW9_0 _) rfl (Nat.le_of_ble_eq_true rfl) (Nat.le_of_ble_eq_true rfl) (st := [.ref 0]) (Nat.le_of_ble_eq_true rfl) (bf_dk dd_X9_reportsAll 33 rfl) rfl (fun r9 h => ?_)
  refine bs_selfV_v C hR (c_X9_saysNumber _ _ _ _ _ u8 (r9) _ h) my_X9_saysNumber m_9_437 rfl cl_9 (ge_bW9_0 _) rfl (Nat.le_of_ble_eq_true rfl) (Nat.le_of_ble_eq_true rfl) (st := []) (Nat.le_of_ble_eq_true rfl) (bf_dk dd_X9_reportsAll 34 rfl) rfl (len := 21) (fun _ => rfl) (fun u12 h => ?_)
  refine bs_iinc C (bf_dk dd_X9_reportsAll 35 rfl) (x1 + (1 : Int32)) rfl rfl (Nat.le_of_ble_eq_true rfl) (Nat.le_of_ble_eq_true rfl) (lv2 := [some (.ref 0), some (.int (x1 + (1 : Int32)))]) rfl ?_
  refine bs_goto C (bf_dk dd_X9_reportsAll 36 rfl) (tgt := 2) rfl ?_
  exact bs_weak (bf_s1 (bf_s1 bf_s0)) (hB2 ((x1 + (1 : Int32))) u12 h)
def wp_X9_reportsAll_20 (S : bT9) (x1 : Int32) (Q : (bT9) → Prop) (B2 : Int32 → (bT9) → Prop) : Prop := (((b9g_upper S) ≤ x1 → (wp_X9_reportsAll_36 S (x1) ((115 : Int32)) Q B2)) ∧ (¬ (b9g_upper S) ≤ x1 → (wp_X9_reportsAll_36 S (x1) ((100 : Int32)) Q B2)))
set_option maxRecDepth 20000 in
theorem t_X9_reportsAll_20 {X : bf_X} (C : bf_C X RX9 cX9_reportsAll 2 none) (hR : bf_Rm X 6 138) (S : bT9) (x1 : Int32) (Q : (bT9) → Prop) (B2 : Int32 → (bT9) → Prop) (hB2 : ∀ (x1 : Int32) (S : bT9), B2 x1 S → bf_A X (bf_Zv X bW9 Q) 2 2 [some (.ref 0), some (.int x1)] [] (bW9 S)) (h : wp_X9_reportsAll_20 S x1 Q B2) : bf_A X (bf_Zv X bW9 Q) 2 20 [some (.ref 0), some (.int x1)] [] (bW9 S) := by
  unfold wp_X9_reportsAll_20 at h
  refine bs_aload_n C (bf_dk dd_X9_reportsAll 11 rfl) rfl ?_
  refine bs_iload_n C (bf_dk dd_X9_reportsAll 12 rfl) rfl ?_
  refine bs_aload_n C (bf_dk dd_X9_reportsAll 13 rfl) rfl ?_
  refine bs_get C (bf_dk dd_X9_reportsAll 14 rfl) cl_9 in_9 18 (Nat.le_of_ble_eq_true rfl) rfl f_9_213 (ge_bW9_0 S) rfl ?_
  refine bs_icmp_ge C (bf_dk dd_X9_reportsAll 15 rfl) (tgt := 34) rfl (fun c => ?_) (fun c => ?_)
  · replace h := h.1 c
    refine bs_bipush C (bf_dk dd_X9_reportsAll 18 rfl) (115 : Int32) (by decide) ?_
    exact bs_weak (bf_s1 (bf_s1 bf_s0)) (t_X9_reportsAll_36 C hR S (x1) ((115 : Int32)) Q B2 hB2 h)
  · replace h := h.2 c
    refine bs_bipush C (bf_dk dd_X9_reportsAll 16 rfl) (100 : Int32) (by decide) ?_
    refine bs_goto C (bf_dk dd_X9_reportsAll 17 rfl) (tgt := 36) rfl ?_
    exact bs_weak (bf_s1 (bf_s1 bf_s0)) (t_X9_reportsAll_36 C hR S (x1) ((100 : Int32)) Q B2 hB2 h)
def wp_X9_reportsAll_2b (S : bT9) (x1 : Int32) (Q : (bT9) → Prop) (B2 : Int32 → (bT9) → Prop) : Prop := (((b9g_levelMany S) ≤ x1 → (wp_X9_says S ((46 : Int32)) (fun u14 => (Q u14)))) ∧ (¬ (b9g_levelMany S) ≤ x1 → ((x1 ≤ 0 → (wp_X9_reportsAll_20 S (x1) Q B2)) ∧ (¬ x1 ≤ 0 → (wp_X9_says S ((44 : Int32)) (fun u16 => (wp_X9_reportsAll_20 u16 (x1) Q B2)))))))
set_option maxRecDepth 20000 in
theorem t_X9_reportsAll_2b {X : bf_X} (C : bf_C X RX9 cX9_reportsAll 2 none) (hR : bf_Rm X 6 138) (S : bT9) (x1 : Int32) (Q : (bT9) → Prop) (B2 : Int32 → (bT9) → Prop) (hB2 : ∀ (x1 : Int32) (S : bT9), B2 x1 S → bf_A X (bf_Zv X bW9 Q) 2 2 [some (.ref 0), some (.int x1)] [] (bW9 S)) (h : wp_X9_reportsAll_2b S x1 Q B2) : bf_A X (bf_Zv X bW9 Q) 2 2 [some (.ref 0), some (.int x1)] [] (bW9 S) := by
  unfold wp_X9_reportsAll_2b at h
  refine bs_iload_n C (bf_dk dd_X9_reportsAll 2 rfl) rfl ?_
  refine bs_aload_n C (bf_dk dd_X9_reportsAll 3 rfl) rfl ?_
  refine bs_get C (bf_dk dd_X9_reportsAll 4 rfl) cl_9 in_9 17 (Nat.le_of_ble_eq_true rfl) rfl f_9_201 (ge_bW9_0 S) rfl ?_
  refine bs_icmp_ge C (bf_dk dd_X9_reportsAll 5 rfl) (tgt := 71) rfl (fun c => ?_) (fun c => ?_)
  · replace h := h.1 c
    refine bs_aload_n C (bf_dk dd_X9_reportsAll 37 rfl) rfl ?_
    refine bs_bipush C (bf_dk dd_X9_reportsAll 38 rfl) (46 : Int32) (by decide) ?_
    refine bs_selfV_v C hR (c_X9_says _ _ _ _ _ S ((46 : Int32)) _ h) my_X9_says m_9_434 rfl cl_9 (ge_bW9_0 _) rfl (Nat.le_of_ble_eq_true rfl) (Nat.le_of_ble_eq_true rfl) (st := []) (Nat.le_of_ble_eq_true rfl) (bf_dk dd_X9_reportsAll 39 rfl) rfl (len := 21) (fun _ => rfl) (fun u14 h => ?_)
    exact bs_vret (u := u14) C (bf_dk dd_X9_reportsAll 40 rfl) rfl h
  · replace h := h.2 c
    refine bs_iload_n C (bf_dk dd_X9_reportsAll 6 rfl) rfl ?_
    refine bs_if_le C (bf_dk dd_X9_reportsAll 7 rfl) (tgt := 20) rfl (fun c => ?_) (fun c => ?_)
    · replace h := h.1 c
      exact bs_weak (bf_s1 (bf_s1 bf_s0)) (t_X9_reportsAll_20 C hR S (x1) Q B2 hB2 h)
    · replace h := h.2 c
      refine bs_aload_n C (bf_dk dd_X9_reportsAll 8 rfl) rfl ?_
      refine bs_bipush C (bf_dk dd_X9_reportsAll 9 rfl) (44 : Int32) (by decide) ?_
      refine bs_selfV_v C hR (c_X9_says _ _ _ _ _ S ((44 : Int32)) _ h) my_X9_says m_9_434 rfl cl_9 (ge_bW9_0 _) rfl (Nat.le_of_ble_eq_true rfl) (Nat.le_of_ble_eq_true rfl) (st := []) (Nat.le_of_ble_eq_true rfl) (bf_dk dd_X9_reportsAll 10 rfl) rfl (len := 21) (fun _ => rfl) (fun u16 h => ?_)
      exact bs_weak (bf_s1 (bf_s1 bf_s0)) (t_X9_reportsAll_20 C hR u16 (x1) Q B2 hB2 h)
def wp_X9_reportsAll_2 (S : bT9) (x1 : Int32) (Q : (bT9) → Prop) : Prop := ∃ I : Nat → Int32 → (bT9) → Prop, (∃ n : Nat, I n x1 S) ∧ ∀ (n : Nat) (x1 : Int32) (S : bT9), I n x1 S → wp_X9_reportsAll_2b S x1 Q (fun x1 S => ∃ n2 : Nat, n2 < n ∧ I n2 x1 S)
theorem t_X9_reportsAll_2 {X : bf_X} (C : bf_C X RX9 cX9_reportsAll 2 none) (hR : bf_Rm X 6 138) (S : bT9) (x1 : Int32) (Q : (bT9) → Prop) (h : wp_X9_reportsAll_2 S x1 Q) : bf_A X (bf_Zv X bW9 Q) 2 2 [some (.ref 0), some (.int x1)] [] (bW9 S) := by
  obtain ⟨I, ⟨n0, h0⟩, hI⟩ := h
  have key : ∀ (n : Nat) (x1 : Int32) (S : bT9), I n x1 S → bf_A X (bf_Zv X bW9 Q) 2 2 [some (.ref 0), some (.int x1)] [] (bW9 S) := by
    intro n
    induction n using Nat.strongRecOn with
    | _ n ih =>
      intro x1 S hi
      exact t_X9_reportsAll_2b C hR S x1 Q _ (fun x1 S hb => by obtain ⟨n2, hn, hi2⟩ := hb; exact ih n2 hn x1 S hi2) (hI n x1 S hi)
  exact key n0 x1 S h0
def wp_X9_reportsAll (S : bT9) (Q : (bT9) → Prop) : Prop := (wp_X9_reportsAll_2 S ((0 : Int32)) Q)
set_option maxRecDepth 20000 in
theorem t_X9_reportsAll {X : bf_X} (C : bf_C X RX9 cX9_reportsAll 2 none) (hR : bf_Rm X 6 138) (S : bT9) (Q : (bT9) → Prop) (h : wp_X9_reportsAll S Q) : bf_A X (bf_Zv X bW9 Q) 2 0 [some (.ref 0), none] [] (bW9 S) := by
  unfold wp_X9_reportsAll at h
  refine bs_iconst C (bf_dk dd_X9_reportsAll 0 rfl) (0 : Int32) (by decide) ?_
  refine bs_istore_n C (bf_dk dd_X9_reportsAll 1 rfl) rfl (Nat.le_of_ble_eq_true rfl) (Nat.le_of_ble_eq_true rfl) (lv2 := [some (.ref 0), some (.int (0 : Int32))]) rfl ?_
  exact bs_weak (bf_s1 (bf_s1 bf_s0)) (t_X9_reportsAll_2 C hR S ((0 : Int32)) Q h)
theorem c_X9_reportsAll (l : Launch) (dC : Nat → ClassId) (dI : Nat → Nat → Nat) (ac : Nat → ClassId) (al : Nat → Nat) (S : bT9) (Q : (bT9) → Prop) (h : wp_X9_reportsAll S Q) : bf_M l yX9_reportsAll cX9_reportsAll 2 none 6 138 dC dI ac al [.ref 0] (bW9 S) (bf_Kv dC dI ac al bW9 Q) := by
  refine bf_start [some (.ref 0), none] (by decide) (Nat.le_of_ble_eq_true rfl) (bf_s1 (bf_en 1)) ?_
  intro X hl C hR e1 e2 e3 e4
  subst e1; subst e2; subst e3; subst e4
  exact t_X9_reportsAll C hR S Q h
def wp_X9_reportsLeaf_109b (S : bT9) (x1 : Int32) (x2 : Int32) (Q : (bT9) → Prop) (B109 : Int32 → Int32 → (bT9) → Prop) : Prop := ((x2 < 0 → (Q S)) ∧ (¬ x2 < 0 → (wp_X9_key S (x1) (fun r1 => (vp_in x1 64 ∧ (wp_X9_nextBits S (fun r3 => (wp_X9_nextOf S (r1) (((b9g_beginning S) (x1).toNatClampNeg)) (r3) (fun r5 => (wp_X9_says S (((48 : Int32) + ((r5 >>> (x2 &&& 31)) &&& (1 : Int32)))) (fun u8 => (B109 (x1) ((x2 + (-1 : Int32))) u8))))))))))))
set_option maxRecDepth 20000 in
theorem t_X9_reportsLeaf_109b {X : bf_X} (C : bf_C X RX9 cX9_reportsLeaf 3 none) (hR : bf_Rm X 3 70) (S : bT9) (x1 : Int32) (x2 : Int32) (Q : (bT9) → Prop) (B109 : Int32 → Int32 → (bT9) → Prop) (hB109 : ∀ (x1 : Int32) (x2 : Int32) (S : bT9), B109 x1 x2 S → bf_A X (bf_Zv X bW9 Q) 3 109 [some (.ref 0), some (.int x1), some (.int x2)] [] (bW9 S)) (h : wp_X9_reportsLeaf_109b S x1 x2 Q B109) : bf_A X (bf_Zv X bW9 Q) 3 109 [some (.ref 0), some (.int x1), some (.int x2)] [] (bW9 S) := by
  unfold wp_X9_reportsLeaf_109b at h
  refine bs_iload_n C (bf_dk dd_X9_reportsLeaf 60 rfl) rfl ?_
  refine bs_if_lt C (bf_dk dd_X9_reportsLeaf 61 rfl) (tgt := 149) rfl (fun c => ?_) (fun c => ?_)
  · replace h := h.1 c
    exact bs_vret (u := S) C (bf_dk dd_X9_reportsLeaf 83 rfl) rfl h
  · replace h := h.2 c
    refine bs_aload_n C (bf_dk dd_X9_reportsLeaf 62 rfl) rfl ?_
    refine bs_bipush C (bf_dk dd_X9_reportsLeaf 63 rfl) (48 : Int32) (by decide) ?_
    refine bs_aload_n C (bf_dk dd_X9_reportsLeaf 64 rfl) rfl ?_
    refine bs_aload_n C (bf_dk dd_X9_reportsLeaf 65 rfl) rfl ?_
    refine bs_iload_n C (bf_dk dd_X9_reportsLeaf 66 rfl) rfl ?_
    refine bs_selfPV_l C hR (c_X9_key _ _ _ _ _ S (x1) _ h) my_X9_key m_9_178 rfl cl_9 (ge_bW9_0 _) rfl (Nat.le_of_ble_eq_true rfl) (Nat.le_of_ble_eq_true rfl) (st := [.ref 0, .int (48 : Int32), .ref 0]) (Nat.le_of_ble_eq_true rfl) (bf_dk dd_X9_reportsLeaf 67 rfl) rfl (fun r1 h => ?_)
    refine bs_aload_n C (bf_dk dd_X9_reportsLeaf 68 rfl) rfl ?_
    refine bs_get C (bf_dk dd_X9_reportsLeaf 69 rfl) cl_9 in_9 11 (Nat.le_of_ble_eq_true rfl) rfl f_9_29 (ge_bW9_0 S) rfl ?_
    refine bs_iload_n C (bf_dk dd_X9_reportsLeaf 70 rfl) rfl ?_
    obtain ⟨hi, h⟩ := h
    refine bs_iald C (bf_dk dd_X9_reportsLeaf 71 rfl) (ge_bW9_7 S) hi ?_
    refine bs_aload_n C (bf_dk dd_X9_reportsLeaf 72 rfl) rfl ?_
    refine bs_selfPV_i C hR (c_X9_nextBits _ _ _ _ _ S _ h) my_X9_nextBits m_9_313 rfl cl_9 (ge_bW9_0 _) rfl (Nat.le_of_ble_eq_true rfl) (Nat.le_of_ble_eq_true rfl) (st := [.int ((b9g_beginning S) (x1).toNatClampNeg), .long r1, .ref 0, .int (48 : Int32), .ref 0]) (Nat.le_of_ble_eq_true rfl) (bf_dk dd_X9_reportsLeaf 73 rfl) rfl (fun r3 h => ?_)
    refine bs_selfPV_i C hR (c_X9_nextOf _ _ _ _ _ S (r1) (((b9g_beginning S) (x1).toNatClampNeg)) (r3) _ h) my_X9_nextOf m_9_286 rfl cl_9 (ge_bW9_0 _) rfl (Nat.le_of_ble_eq_true rfl) (Nat.le_of_ble_eq_true rfl) (st := [.int (48 : Int32), .ref 0]) (Nat.le_of_ble_eq_true rfl) (bf_dk dd_X9_reportsLeaf 74 rfl) rfl (fun r5 h => ?_)
    refine bs_iload_n C (bf_dk dd_X9_reportsLeaf 75 rfl) rfl ?_
    refine bs_ishr C (bf_dk dd_X9_reportsLeaf 76 rfl) ?_
    refine bs_iconst C (bf_dk dd_X9_reportsLeaf 77 rfl) (1 : Int32) (by decide) ?_
    refine bs_iand C (bf_dk dd_X9_reportsLeaf 78 rfl) ?_
    refine bs_iadd C (bf_dk dd_X9_reportsLeaf 79 rfl) ?_
    refine bs_selfV_v C hR (c_X9_says _ _ _ _ _ S (((48 : Int32) + ((r5 >>> (x2 &&& 31)) &&& (1 : Int32)))) _ h) my_X9_says m_9_434 rfl cl_9 (ge_bW9_0 _) rfl (Nat.le_of_ble_eq_true rfl) (Nat.le_of_ble_eq_true rfl) (st := []) (Nat.le_of_ble_eq_true rfl) (bf_dk dd_X9_reportsLeaf 80 rfl) rfl (len := 21) (fun _ => rfl) (fun u8 h => ?_)
    refine bs_iinc C (bf_dk dd_X9_reportsLeaf 81 rfl) (x2 + (-1 : Int32)) rfl rfl (Nat.le_of_ble_eq_true rfl) (Nat.le_of_ble_eq_true rfl) (lv2 := [some (.ref 0), some (.int x1), some (.int (x2 + (-1 : Int32)))]) rfl ?_
    refine bs_goto C (bf_dk dd_X9_reportsLeaf 82 rfl) (tgt := 109) rfl ?_
    exact bs_weak (bf_s1 (bf_s1 (bf_s1 bf_s0))) (hB109 (x1) ((x2 + (-1 : Int32))) u8 h)
def wp_X9_reportsLeaf_109 (S : bT9) (x1 : Int32) (x2 : Int32) (Q : (bT9) → Prop) : Prop := ∃ I : Nat → Int32 → Int32 → (bT9) → Prop, (∃ n : Nat, I n x1 x2 S) ∧ ∀ (n : Nat) (x1 : Int32) (x2 : Int32) (S : bT9), I n x1 x2 S → wp_X9_reportsLeaf_109b S x1 x2 Q (fun x1 x2 S => ∃ n2 : Nat, n2 < n ∧ I n2 x1 x2 S)
theorem t_X9_reportsLeaf_109 {X : bf_X} (C : bf_C X RX9 cX9_reportsLeaf 3 none) (hR : bf_Rm X 3 70) (S : bT9) (x1 : Int32) (x2 : Int32) (Q : (bT9) → Prop) (h : wp_X9_reportsLeaf_109 S x1 x2 Q) : bf_A X (bf_Zv X bW9 Q) 3 109 [some (.ref 0), some (.int x1), some (.int x2)] [] (bW9 S) := by
  obtain ⟨I, ⟨n0, h0⟩, hI⟩ := h
  have key : ∀ (n : Nat) (x1 : Int32) (x2 : Int32) (S : bT9), I n x1 x2 S → bf_A X (bf_Zv X bW9 Q) 3 109 [some (.ref 0), some (.int x1), some (.int x2)] [] (bW9 S) := by
    intro n
    induction n using Nat.strongRecOn with
    | _ n ih =>
      intro x1 x2 S hi
      exact t_X9_reportsLeaf_109b C hR S x1 x2 Q _ (fun x1 x2 S hb => by obtain ⟨n2, hn, hi2⟩ := hb; exact ih n2 hn x1 x2 S hi2) (hI n x1 x2 S hi)
  exact key n0 x1 x2 S h0
def wp_X9_reportsLeaf_88 (S : bT9) (x1 : Int32) (Q : (bT9) → Prop) : Prop := (wp_X9_nextBits S (fun r9 => ((¬ r9 = 0 → (wp_X9_says S ((47 : Int32)) (fun u12 => (wp_X9_nextBits u12 (fun r13 => (wp_X9_reportsLeaf_109 u12 (x1) ((r13 - (1 : Int32))) Q)))))) ∧ (r9 = 0 → (Q S)))))
set_option maxRecDepth 20000 in
theorem t_X9_reportsLeaf_88 {X : bf_X} (C : bf_C X RX9 cX9_reportsLeaf 3 none) (hR : bf_Rm X 3 70) (S : bT9) (x1 : Int32) (Q : (bT9) → Prop) (h : wp_X9_reportsLeaf_88 S x1 Q) : bf_A X (bf_Zv X bW9 Q) 3 88 [some (.ref 0), some (.int x1), none] [] (bW9 S) := by
  unfold wp_X9_reportsLeaf_88 at h
  refine bs_aload_n C (bf_dk dd_X9_reportsLeaf 48 rfl) rfl ?_
  refine bs_selfPV_i C hR (c_X9_nextBits _ _ _ _ _ S _ h) my_X9_nextBits m_9_313 rfl cl_9 (ge_bW9_0 _) rfl (Nat.le_of_ble_eq_true rfl) (Nat.le_of_ble_eq_true rfl) (st := []) (Nat.le_of_ble_eq_true rfl) (bf_dk dd_X9_reportsLeaf 49 rfl) rfl (fun r9 h => ?_)
  refine bs_if_ne C (bf_dk dd_X9_reportsLeaf 50 rfl) (tgt := 96) rfl (fun c => ?_) (fun c => ?_)
  · replace h := h.1 c
    refine bs_aload_n C (bf_dk dd_X9_reportsLeaf 52 rfl) rfl ?_
    refine bs_bipush C (bf_dk dd_X9_reportsLeaf 53 rfl) (47 : Int32) (by decide) ?_
    refine bs_selfV_v C hR (c_X9_says _ _ _ _ _ S ((47 : Int32)) _ h) my_X9_says m_9_434 rfl cl_9 (ge_bW9_0 _) rfl (Nat.le_of_ble_eq_true rfl) (Nat.le_of_ble_eq_true rfl) (st := []) (Nat.le_of_ble_eq_true rfl) (bf_dk dd_X9_reportsLeaf 54 rfl) rfl (len := 21) (fun _ => rfl) (fun u12 h => ?_)
    refine bs_aload_n C (bf_dk dd_X9_reportsLeaf 55 rfl) rfl ?_
    refine bs_selfPV_i C hR (c_X9_nextBits _ _ _ _ _ u12 _ h) my_X9_nextBits m_9_313 rfl cl_9 (ge_bW9_0 _) rfl (Nat.le_of_ble_eq_true rfl) (Nat.le_of_ble_eq_true rfl) (st := []) (Nat.le_of_ble_eq_true rfl) (bf_dk dd_X9_reportsLeaf 56 rfl) rfl (fun r13 h => ?_)
    refine bs_iconst C (bf_dk dd_X9_reportsLeaf 57 rfl) (1 : Int32) (by decide) ?_
    refine bs_isub C (bf_dk dd_X9_reportsLeaf 58 rfl) ?_
    refine bs_istore_n C (bf_dk dd_X9_reportsLeaf 59 rfl) rfl (Nat.le_of_ble_eq_true rfl) (Nat.le_of_ble_eq_true rfl) (lv2 := [some (.ref 0), some (.int x1), some (.int (r13 - (1 : Int32)))]) rfl ?_
    exact bs_weak (bf_s1 (bf_s1 (bf_s1 bf_s0))) (t_X9_reportsLeaf_109 C hR u12 (x1) ((r13 - (1 : Int32))) Q h)
  · replace h := h.2 c
    exact bs_vret (u := S) C (bf_dk dd_X9_reportsLeaf 51 rfl) rfl h
def wp_X9_reportsLeaf_66 (S : bT9) (x1 : Int32) (Q : (bT9) → Prop) : Prop := (wp_X9_hashBits S (fun r15 => ((r15 ≤ 0 → (wp_X9_reportsLeaf_88 S (x1) Q)) ∧ (¬ r15 ≤ 0 → (wp_X9_says S ((35 : Int32)) (fun u18 => (wp_X9_hashOf u18 (x1) (fun r19 => (wp_X9_saysNumber u18 (r19) (fun u22 => (wp_X9_reportsLeaf_88 u22 (x1) Q)))))))))))
set_option maxRecDepth 20000 in
theorem t_X9_reportsLeaf_66 {X : bf_X} (C : bf_C X RX9 cX9_reportsLeaf 3 none) (hR : bf_Rm X 3 70) (S : bT9) (x1 : Int32) (Q : (bT9) → Prop) (h : wp_X9_reportsLeaf_66 S x1 Q) : bf_A X (bf_Zv X bW9 Q) 3 66 [some (.ref 0), some (.int x1), none] [] (bW9 S) := by
  unfold wp_X9_reportsLeaf_66 at h
  refine bs_aload_n C (bf_dk dd_X9_reportsLeaf 37 rfl) rfl ?_
  refine bs_selfPV_i C hR (c_X9_hashBits _ _ _ _ _ S _ h) my_X9_hashBits m_9_310 rfl cl_9 (ge_bW9_0 _) rfl (Nat.le_of_ble_eq_true rfl) (Nat.le_of_ble_eq_true rfl) (st := []) (Nat.le_of_ble_eq_true rfl) (bf_dk dd_X9_reportsLeaf 38 rfl) rfl (fun r15 h => ?_)
  refine bs_if_le C (bf_dk dd_X9_reportsLeaf 39 rfl) (tgt := 88) rfl (fun c => ?_) (fun c => ?_)
  · replace h := h.1 c
    exact bs_weak (bf_s1 (bf_s1 (bf_sn bf_s0))) (t_X9_reportsLeaf_88 C hR S (x1) Q h)
  · replace h := h.2 c
    refine bs_aload_n C (bf_dk dd_X9_reportsLeaf 40 rfl) rfl ?_
    refine bs_bipush C (bf_dk dd_X9_reportsLeaf 41 rfl) (35 : Int32) (by decide) ?_
    refine bs_selfV_v C hR (c_X9_says _ _ _ _ _ S ((35 : Int32)) _ h) my_X9_says m_9_434 rfl cl_9 (ge_bW9_0 _) rfl (Nat.le_of_ble_eq_true rfl) (Nat.le_of_ble_eq_true rfl) (st := []) (Nat.le_of_ble_eq_true rfl) (bf_dk dd_X9_reportsLeaf 42 rfl) rfl (len := 21) (fun _ => rfl) (fun u18 h => ?_)
    refine bs_aload_n C (bf_dk dd_X9_reportsLeaf 43 rfl) rfl ?_
    refine bs_aload_n C (bf_dk dd_X9_reportsLeaf 44 rfl) rfl ?_
    refine bs_iload_n C (bf_dk dd_X9_reportsLeaf 45 rfl) rfl ?_
    refine bs_selfPV_i C hR (c_X9_hashOf _ _ _ _ _ u18 (x1) _ h) my_X9_hashOf m_9_366 rfl cl_9 (ge_bW9_0 _) rfl (Nat.le_of_ble_eq_true rfl) (Nat.le_of_ble_eq_true rfl) (st := [.ref 0]) (Nat.le_of_ble_eq_true rfl) (bf_dk dd_X9_reportsLeaf 46 rfl) rfl (fun r19 h => ?_)
    refine bs_selfV_v C hR (c_X9_saysNumber _ _ _ _ _ u18 (r19) _ h) my_X9_saysNumber m_9_437 rfl cl_9 (ge_bW9_0 _) rfl (Nat.le_of_ble_eq_true rfl) (Nat.le_of_ble_eq_true rfl) (st := []) (Nat.le_of_ble_eq_true rfl) (bf_dk dd_X9_reportsLeaf 47 rfl) rfl (len := 21) (fun _ => rfl) (fun u22 h => ?_)
    exact bs_weak (bf_s1 (bf_s1 (bf_sn bf_s0))) (t_X9_reportsLeaf_88 C hR u22 (x1) Q h)
def wp_X9_reportsLeaf_2b (S : bT9) (x1 : Int32) (x2 : Int32) (Q : (bT9) → Prop) (B2 : Int32 → Int32 → (bT9) → Prop) : Prop := (vp_in x1 64 ∧ ((((b9g_beginning S) (x1).toNatClampNeg) ≤ x2 → (wp_X9_isEnded S (x1) (fun r23 => ((r23 = 0 → (wp_X9_reportsLeaf_66 S (x1) Q)) ∧ (¬ r23 = 0 → (wp_X9_says S ((36 : Int32)) (fun u26 => (wp_X9_reportsLeaf_66 u26 (x1) Q)))))))) ∧ (¬ ((b9g_beginning S) (x1).toNatClampNeg) ≤ x2 → (wp_X9_key S (x1) (fun r27 => (wp_X9_byteOf S (r27) (x2) (fun r29 => (¬ (16 : Int32) = 0 ∧ (wp_X9_saysHex S ((r29 / (16 : Int32))) (fun u32 => (wp_X9_key u32 (x1) (fun r33 => (wp_X9_byteOf u32 (r33) (x2) (fun r35 => (¬ (16 : Int32) = 0 ∧ (wp_X9_saysHex u32 ((r35 - r35 / (16 : Int32) * (16 : Int32))) (fun u38 => (B2 (x1) ((x2 + (1 : Int32))) u38))))))))))))))))))
set_option maxRecDepth 20000 in
theorem t_X9_reportsLeaf_2b {X : bf_X} (C : bf_C X RX9 cX9_reportsLeaf 3 none) (hR : bf_Rm X 3 70) (S : bT9) (x1 : Int32) (x2 : Int32) (Q : (bT9) → Prop) (B2 : Int32 → Int32 → (bT9) → Prop) (hB2 : ∀ (x1 : Int32) (x2 : Int32) (S : bT9), B2 x1 x2 S → bf_A X (bf_Zv X bW9 Q) 3 2 [some (.ref 0), some (.int x1), some (.int x2)] [] (bW9 S)) (h : wp_X9_reportsLeaf_2b S x1 x2 Q B2) : bf_A X (bf_Zv X bW9 Q) 3 2 [some (.ref 0), some (.int x1), some (.int x2)] [] (bW9 S) := by
  unfold wp_X9_reportsLeaf_2b at h
  refine bs_iload_n C (bf_dk dd_X9_reportsLeaf 2 rfl) rfl ?_
  refine bs_aload_n C (bf_dk dd_X9_reportsLeaf 3 rfl) rfl ?_
  refine bs_get C (bf_dk dd_X9_reportsLeaf 4 rfl) cl_9 in_9 11 (Nat.le_of_ble_eq_true rfl) rfl f_9_29 (ge_bW9_0 S) rfl ?_
  refine bs_iload_n C (bf_dk dd_X9_reportsLeaf 5 rfl) rfl ?_
  obtain ⟨hi, h⟩ := h
  refine bs_iald C (bf_dk dd_X9_reportsLeaf 6 rfl) (ge_bW9_7 S) hi ?_
  refine bs_icmp_ge C (bf_dk dd_X9_reportsLeaf 7 rfl) (tgt := 52) rfl (fun c => ?_) (fun c => ?_)
  · replace h := h.1 c
    refine bs_aload_n C (bf_dk dd_X9_reportsLeaf 30 rfl) rfl ?_
    refine bs_iload_n C (bf_dk dd_X9_reportsLeaf 31 rfl) rfl ?_
    refine bs_selfPV_i C hR (c_X9_isEnded _ _ _ _ _ S (x1) _ h) my_X9_isEnded m_9_283 rfl cl_9 (ge_bW9_0 _) rfl (Nat.le_of_ble_eq_true rfl) (Nat.le_of_ble_eq_true rfl) (st := []) (Nat.le_of_ble_eq_true rfl) (bf_dk dd_X9_reportsLeaf 32 rfl) rfl (fun r23 h => ?_)
    refine bs_if_eq C (bf_dk dd_X9_reportsLeaf 33 rfl) (tgt := 66) rfl (fun c => ?_) (fun c => ?_)
    · replace h := h.1 c
      exact bs_weak (bf_s1 (bf_s1 (bf_sn bf_s0))) (t_X9_reportsLeaf_66 C hR S (x1) Q h)
    · replace h := h.2 c
      refine bs_aload_n C (bf_dk dd_X9_reportsLeaf 34 rfl) rfl ?_
      refine bs_bipush C (bf_dk dd_X9_reportsLeaf 35 rfl) (36 : Int32) (by decide) ?_
      refine bs_selfV_v C hR (c_X9_says _ _ _ _ _ S ((36 : Int32)) _ h) my_X9_says m_9_434 rfl cl_9 (ge_bW9_0 _) rfl (Nat.le_of_ble_eq_true rfl) (Nat.le_of_ble_eq_true rfl) (st := []) (Nat.le_of_ble_eq_true rfl) (bf_dk dd_X9_reportsLeaf 36 rfl) rfl (len := 21) (fun _ => rfl) (fun u26 h => ?_)
      exact bs_weak (bf_s1 (bf_s1 (bf_sn bf_s0))) (t_X9_reportsLeaf_66 C hR u26 (x1) Q h)
  · replace h := h.2 c
    refine bs_aload_n C (bf_dk dd_X9_reportsLeaf 8 rfl) rfl ?_
    refine bs_aload_n C (bf_dk dd_X9_reportsLeaf 9 rfl) rfl ?_
    refine bs_aload_n C (bf_dk dd_X9_reportsLeaf 10 rfl) rfl ?_
    refine bs_iload_n C (bf_dk dd_X9_reportsLeaf 11 rfl) rfl ?_
    refine bs_selfPV_l C hR (c_X9_key _ _ _ _ _ S (x1) _ h) my_X9_key m_9_178 rfl cl_9 (ge_bW9_0 _) rfl (Nat.le_of_ble_eq_true rfl) (Nat.le_of_ble_eq_true rfl) (st := [.ref 0, .ref 0]) (Nat.le_of_ble_eq_true rfl) (bf_dk dd_X9_reportsLeaf 12 rfl) rfl (fun r27 h => ?_)
    refine bs_iload_n C (bf_dk dd_X9_reportsLeaf 13 rfl) rfl ?_
    refine bs_selfPV_i C hR (c_X9_byteOf _ _ _ _ _ S (r27) (x2) _ h) my_X9_byteOf m_9_181 rfl cl_9 (ge_bW9_0 _) rfl (Nat.le_of_ble_eq_true rfl) (Nat.le_of_ble_eq_true rfl) (st := [.ref 0]) (Nat.le_of_ble_eq_true rfl) (bf_dk dd_X9_reportsLeaf 14 rfl) rfl (fun r29 h => ?_)
    refine bs_bipush C (bf_dk dd_X9_reportsLeaf 15 rfl) (16 : Int32) (by decide) ?_
    obtain ⟨hi, h⟩ := h
    refine bs_idiv C (bf_dk dd_X9_reportsLeaf 16 rfl) hi ?_
    refine bs_selfV_v C hR (c_X9_saysHex _ _ _ _ _ S ((r29 / (16 : Int32))) _ h) my_X9_saysHex m_9_440 rfl cl_9 (ge_bW9_0 _) rfl (Nat.le_of_ble_eq_true rfl) (Nat.le_of_ble_eq_true rfl) (st := []) (Nat.le_of_ble_eq_true rfl) (bf_dk dd_X9_reportsLeaf 17 rfl) rfl (len := 21) (fun _ => rfl) (fun u32 h => ?_)
    refine bs_aload_n C (bf_dk dd_X9_reportsLeaf 18 rfl) rfl ?_
    refine bs_aload_n C (bf_dk dd_X9_reportsLeaf 19 rfl) rfl ?_
    refine bs_aload_n C (bf_dk dd_X9_reportsLeaf 20 rfl) rfl ?_
    refine bs_iload_n C (bf_dk dd_X9_reportsLeaf 21 rfl) rfl ?_
    refine bs_selfPV_l C hR (c_X9_key _ _ _ _ _ u32 (x1) _ h) my_X9_key m_9_178 rfl cl_9 (ge_bW9_0 _) rfl (Nat.le_of_ble_eq_true rfl) (Nat.le_of_ble_eq_true rfl) (st := [.ref 0, .ref 0]) (Nat.le_of_ble_eq_true rfl) (bf_dk dd_X9_reportsLeaf 22 rfl) rfl (fun r33 h => ?_)
    refine bs_iload_n C (bf_dk dd_X9_reportsLeaf 23 rfl) rfl ?_
    refine bs_selfPV_i C hR (c_X9_byteOf _ _ _ _ _ u32 (r33) (x2) _ h) my_X9_byteOf m_9_181 rfl cl_9 (ge_bW9_0 _) rfl (Nat.le_of_ble_eq_true rfl) (Nat.le_of_ble_eq_true rfl) (st := [.ref 0]) (Nat.le_of_ble_eq_true rfl) (bf_dk dd_X9_reportsLeaf 24 rfl) rfl (fun r35 h => ?_)
    refine bs_bipush C (bf_dk dd_X9_reportsLeaf 25 rfl) (16 : Int32) (by decide) ?_
    obtain ⟨hi, h⟩ := h
    refine bs_irem C (bf_dk dd_X9_reportsLeaf 26 rfl) hi ?_
    refine bs_selfV_v C hR (c_X9_saysHex _ _ _ _ _ u32 ((r35 - r35 / (16 : Int32) * (16 : Int32))) _ h) my_X9_saysHex m_9_440 rfl cl_9 (ge_bW9_0 _) rfl (Nat.le_of_ble_eq_true rfl) (Nat.le_of_ble_eq_true rfl) (st := []) (Nat.le_of_ble_eq_true rfl) (bf_dk dd_X9_reportsLeaf 27 rfl) rfl (len := 21) (fun _ => rfl) (fun u38 h => ?_)
    refine bs_iinc C (bf_dk dd_X9_reportsLeaf 28 rfl) (x2 + (1 : Int32)) rfl rfl (Nat.le_of_ble_eq_true rfl) (Nat.le_of_ble_eq_true rfl) (lv2 := [some (.ref 0), some (.int x1), some (.int (x2 + (1 : Int32)))]) rfl ?_
    refine bs_goto C (bf_dk dd_X9_reportsLeaf 29 rfl) (tgt := 2) rfl ?_
    exact bs_weak (bf_s1 (bf_s1 (bf_s1 bf_s0))) (hB2 (x1) ((x2 + (1 : Int32))) u38 h)
def wp_X9_reportsLeaf_2 (S : bT9) (x1 : Int32) (x2 : Int32) (Q : (bT9) → Prop) : Prop := ∃ I : Nat → Int32 → Int32 → (bT9) → Prop, (∃ n : Nat, I n x1 x2 S) ∧ ∀ (n : Nat) (x1 : Int32) (x2 : Int32) (S : bT9), I n x1 x2 S → wp_X9_reportsLeaf_2b S x1 x2 Q (fun x1 x2 S => ∃ n2 : Nat, n2 < n ∧ I n2 x1 x2 S)
theorem t_X9_reportsLeaf_2 {X : bf_X} (C : bf_C X RX9 cX9_reportsLeaf 3 none) (hR : bf_Rm X 3 70) (S : bT9) (x1 : Int32) (x2 : Int32) (Q : (bT9) → Prop) (h : wp_X9_reportsLeaf_2 S x1 x2 Q) : bf_A X (bf_Zv X bW9 Q) 3 2 [some (.ref 0), some (.int x1), some (.int x2)] [] (bW9 S) := by
  obtain ⟨I, ⟨n0, h0⟩, hI⟩ := h
  have key : ∀ (n : Nat) (x1 : Int32) (x2 : Int32) (S : bT9), I n x1 x2 S → bf_A X (bf_Zv X bW9 Q) 3 2 [some (.ref 0), some (.int x1), some (.int x2)] [] (bW9 S) := by
    intro n
    induction n using Nat.strongRecOn with
    | _ n ih =>
      intro x1 x2 S hi
      exact t_X9_reportsLeaf_2b C hR S x1 x2 Q _ (fun x1 x2 S hb => by obtain ⟨n2, hn, hi2⟩ := hb; exact ih n2 hn x1 x2 S hi2) (hI n x1 x2 S hi)
  exact key n0 x1 x2 S h0
def wp_X9_reportsLeaf (S : bT9) (a1 : Int32) (Q : (bT9) → Prop) : Prop := (wp_X9_reportsLeaf_2 S (a1) ((0 : Int32)) Q)
set_option maxRecDepth 20000 in
theorem t_X9_reportsLeaf {X : bf_X} (C : bf_C X RX9 cX9_reportsLeaf 3 none) (hR : bf_Rm X 3 70) (S : bT9) (a1 : Int32) (Q : (bT9) → Prop) (h : wp_X9_reportsLeaf S a1 Q) : bf_A X (bf_Zv X bW9 Q) 3 0 [some (.ref 0), some (.int a1), none] [] (bW9 S) := by
  unfold wp_X9_reportsLeaf at h
  refine bs_iconst C (bf_dk dd_X9_reportsLeaf 0 rfl) (0 : Int32) (by decide) ?_
  refine bs_istore_n C (bf_dk dd_X9_reportsLeaf 1 rfl) rfl (Nat.le_of_ble_eq_true rfl) (Nat.le_of_ble_eq_true rfl) (lv2 := [some (.ref 0), some (.int a1), some (.int (0 : Int32))]) rfl ?_
  exact bs_weak (bf_s1 (bf_s1 (bf_s1 bf_s0))) (t_X9_reportsLeaf_2 C hR S (a1) ((0 : Int32)) Q h)
theorem c_X9_reportsLeaf (l : Launch) (dC : Nat → ClassId) (dI : Nat → Nat → Nat) (ac : Nat → ClassId) (al : Nat → Nat) (S : bT9) (a1 : Int32) (Q : (bT9) → Prop) (h : wp_X9_reportsLeaf S a1 Q) : bf_M l yX9_reportsLeaf cX9_reportsLeaf 3 none 3 70 dC dI ac al [.ref 0, .int a1] (bW9 S) (bf_Kv dC dI ac al bW9 Q) := by
  refine bf_start [some (.ref 0), some (.int a1), none] (by decide) (Nat.le_of_ble_eq_true rfl) (bf_s1 (bf_s1 (bf_en 1))) ?_
  intro X hl C hR e1 e2 e3 e4
  subst e1; subst e2; subst e3; subst e4
  exact t_X9_reportsLeaf C hR S a1 Q h
def wp_X9_report_24 (S : bT9) (x1 : Int32) (Q : Int32 → (bT9) → Prop) : Prop := (∀ S1 : bT9, S1 = (b9s_signMany S (0 : Int32)) → ((¬ x1 = (-1 : Int32) → (wp_X9_reportsLeaf S1 (x1) (fun u3 => (Q (b9g_signMany u3) u3)))) ∧ (x1 = (-1 : Int32) → (wp_X9_reportsAll S1 (fun u5 => (Q (b9g_signMany u5) u5))))))
set_option maxRecDepth 20000 in
theorem t_X9_report_24 {X : bf_X} (C : bf_C X RX9 cX9_report 2 (some .int)) (hR : bf_Rm X 8 182) (S : bT9) (x1 : Int32) (Q : Int32 → (bT9) → Prop) (h : wp_X9_report_24 S x1 Q) : bf_A X (bf_Zi X bW9 Q) 2 24 [some (.ref 0), some (.int x1)] [] (bW9 S) := by
  unfold wp_X9_report_24 at h
  refine bs_aload_n C (bf_dk dd_X9_report 14 rfl) rfl ?_
  refine bs_iconst C (bf_dk dd_X9_report 15 rfl) (0 : Int32) (by decide) ?_
  refine bs_put C (bf_dk dd_X9_report 16 rfl) tyX9_ok nmX9 cl_9 in_9 41 (Nat.le_of_ble_eq_true rfl) rfl f_9_431 rfl (ge_bW9_0 S) (Nat.le_of_ble_eq_true rfl) rfl rfl (pu_bW9_0_41 S (0 : Int32)) ?_
  refine bs_nameS bW9 (fun S1 eS1 => ?_)
  replace h := h S1 eS1
  refine bs_iload_n C (bf_dk dd_X9_report 17 rfl) rfl ?_
  refine bs_iconst C (bf_dk dd_X9_report 18 rfl) (-1 : Int32) (by decide) ?_
  refine bs_icmp_ne C (bf_dk dd_X9_report 19 rfl) (tgt := 41) rfl (fun c => ?_) (fun c => ?_)
  · replace h := h.1 c
    refine bs_aload_n C (bf_dk dd_X9_report 23 rfl) rfl ?_
    refine bs_iload_n C (bf_dk dd_X9_report 24 rfl) rfl ?_
    refine bs_selfV_v C hR (c_X9_reportsLeaf _ _ _ _ _ S1 (x1) _ h) my_X9_reportsLeaf m_9_446 rfl cl_9 (ge_bW9_0 _) rfl (Nat.le_of_ble_eq_true rfl) (Nat.le_of_ble_eq_true rfl) (st := []) (Nat.le_of_ble_eq_true rfl) (bf_dk dd_X9_report 25 rfl) rfl (len := 21) (fun _ => rfl) (fun u3 h => ?_)
    refine bs_aload_n C (bf_dk dd_X9_report 26 rfl) rfl ?_
    refine bs_get C (bf_dk dd_X9_report 27 rfl) cl_9 in_9 41 (Nat.le_of_ble_eq_true rfl) rfl f_9_431 (ge_bW9_0 u3) rfl ?_
    exact bs_iret (u := u3) C (bf_dk dd_X9_report 28 rfl) rfl h
  · replace h := h.2 c
    refine bs_aload_n C (bf_dk dd_X9_report 20 rfl) rfl ?_
    refine bs_selfV_v C hR (c_X9_reportsAll _ _ _ _ _ S1 _ h) my_X9_reportsAll m_9_443 rfl cl_9 (ge_bW9_0 _) rfl (Nat.le_of_ble_eq_true rfl) (Nat.le_of_ble_eq_true rfl) (st := []) (Nat.le_of_ble_eq_true rfl) (bf_dk dd_X9_report 21 rfl) rfl (len := 21) (fun _ => rfl) (fun u5 h => ?_)
    refine bs_goto C (bf_dk dd_X9_report 22 rfl) (tgt := 46) rfl ?_
    refine bs_aload_n C (bf_dk dd_X9_report 26 rfl) rfl ?_
    refine bs_get C (bf_dk dd_X9_report 27 rfl) cl_9 in_9 41 (Nat.le_of_ble_eq_true rfl) rfl f_9_431 (ge_bW9_0 u5) rfl ?_
    exact bs_iret (u := u5) C (bf_dk dd_X9_report 28 rfl) rfl h
def wp_X9_report (S : bT9) (a1 : Int32) (Q : Int32 → (bT9) → Prop) : Prop := (∀ S6 : bT9, S6 = (b9s_told S (0 : Int32)) → (wp_X9_laysNodes S6 (fun u8 => ((a1 = (-1 : Int32) → (wp_X9_report_24 u8 (a1) Q)) ∧ (¬ a1 = (-1 : Int32) → (wp_X9_isLeaf u8 (a1) (fun r9 u10 => ((¬ r9 = 0 → (wp_X9_report_24 u10 (a1) Q)) ∧ (r9 = 0 → (Q (-1 : Int32) u10))))))))))
set_option maxRecDepth 20000 in
theorem t_X9_report {X : bf_X} (C : bf_C X RX9 cX9_report 2 (some .int)) (hR : bf_Rm X 8 182) (S : bT9) (a1 : Int32) (Q : Int32 → (bT9) → Prop) (h : wp_X9_report S a1 Q) : bf_A X (bf_Zi X bW9 Q) 2 0 [some (.ref 0), some (.int a1)] [] (bW9 S) := by
  unfold wp_X9_report at h
  refine bs_aload_n C (bf_dk dd_X9_report 0 rfl) rfl ?_
  refine bs_iconst C (bf_dk dd_X9_report 1 rfl) (0 : Int32) (by decide) ?_
  refine bs_put C (bf_dk dd_X9_report 2 rfl) tyX9_ok nmX9 cl_9 in_9 0 (Nat.le_of_ble_eq_true rfl) rfl f_9_75 rfl (ge_bW9_0 S) (Nat.le_of_ble_eq_true rfl) rfl rfl (pu_bW9_0_0 S (0 : Int32)) ?_
  refine bs_nameS bW9 (fun S6 eS6 => ?_)
  replace h := h S6 eS6
  refine bs_aload_n C (bf_dk dd_X9_report 3 rfl) rfl ?_
  refine bs_selfV_v C hR (c_X9_laysNodes _ _ _ _ _ S6 _ h) my_X9_laysNodes m_9_262 rfl cl_9 (ge_bW9_0 _) rfl (Nat.le_of_ble_eq_true rfl) (Nat.le_of_ble_eq_true rfl) (st := []) (Nat.le_of_ble_eq_true rfl) (bf_dk dd_X9_report 4 rfl) rfl (len := 21) (fun _ => rfl) (fun u8 h => ?_)
  refine bs_iload_n C (bf_dk dd_X9_report 5 rfl) rfl ?_
  refine bs_iconst C (bf_dk dd_X9_report 6 rfl) (-1 : Int32) (by decide) ?_
  refine bs_icmp_eq C (bf_dk dd_X9_report 7 rfl) (tgt := 24) rfl (fun c => ?_) (fun c => ?_)
  · replace h := h.1 c
    exact bs_weak (bf_s1 (bf_s1 bf_s0)) (t_X9_report_24 C hR u8 (a1) Q h)
  · replace h := h.2 c
    refine bs_aload_n C (bf_dk dd_X9_report 8 rfl) rfl ?_
    refine bs_iload_n C (bf_dk dd_X9_report 9 rfl) rfl ?_
    refine bs_selfV_i C hR (c_X9_isLeaf _ _ _ _ _ u8 (a1) _ h) my_X9_isLeaf m_9_363 rfl cl_9 (ge_bW9_0 _) rfl (Nat.le_of_ble_eq_true rfl) (Nat.le_of_ble_eq_true rfl) (st := []) (Nat.le_of_ble_eq_true rfl) (bf_dk dd_X9_report 10 rfl) rfl (len := 21) (fun _ => rfl) (fun r9 u10 h => ?_)
    refine bs_if_ne C (bf_dk dd_X9_report 11 rfl) (tgt := 24) rfl (fun c => ?_) (fun c => ?_)
    · replace h := h.1 c
      exact bs_weak (bf_s1 (bf_s1 bf_s0)) (t_X9_report_24 C hR u10 (a1) Q h)
    · replace h := h.2 c
      refine bs_iconst C (bf_dk dd_X9_report 12 rfl) (-1 : Int32) (by decide) ?_
      exact bs_iret (u := u10) C (bf_dk dd_X9_report 13 rfl) rfl h
theorem c_X9_report (l : Launch) (dC : Nat → ClassId) (dI : Nat → Nat → Nat) (ac : Nat → ClassId) (al : Nat → Nat) (S : bT9) (a1 : Int32) (Q : Int32 → (bT9) → Prop) (h : wp_X9_report S a1 Q) : bf_M l yX9_report cX9_report 2 (some .int) 8 182 dC dI ac al [.ref 0, .int a1] (bW9 S) (bf_Ki dC dI ac al bW9 Q) := by
  refine bf_start [some (.ref 0), some (.int a1)] (by decide) (Nat.le_of_ble_eq_true rfl) (bf_s1 (bf_s1 bf_s0)) ?_
  intro X hl C hR e1 e2 e3 e4
  subst e1; subst e2; subst e3; subst e4
  exact t_X9_report C hR S a1 Q h
def wp_X9_sign (S : bT9) (a1 : Int32) (Q : Int32 → (bT9) → Prop) : Prop := (∀ S1 : bT9, S1 = (b9s_told S (0 : Int32)) → (wp_X9_isIn S1 (a1) ((0 : Int32)) (((b9g_signMany S1) - (1 : Int32))) (fun r2 => ((r2 = 0 → (Q (-1 : Int32) S1)) ∧ (¬ r2 = 0 → (vp_in a1 200 ∧ (Q ((b9g_signs S1) (a1).toNatClampNeg) S1)))))))
set_option maxRecDepth 20000 in
theorem t_X9_sign {X : bf_X} (C : bf_C X RX9 cX9_sign 2 (some .int)) (hR : bf_Rm X 1 23) (S : bT9) (a1 : Int32) (Q : Int32 → (bT9) → Prop) (h : wp_X9_sign S a1 Q) : bf_A X (bf_Zi X bW9 Q) 2 0 [some (.ref 0), some (.int a1)] [] (bW9 S) := by
  unfold wp_X9_sign at h
  refine bs_aload_n C (bf_dk dd_X9_sign 0 rfl) rfl ?_
  refine bs_iconst C (bf_dk dd_X9_sign 1 rfl) (0 : Int32) (by decide) ?_
  refine bs_put C (bf_dk dd_X9_sign 2 rfl) tyX9_ok nmX9 cl_9 in_9 0 (Nat.le_of_ble_eq_true rfl) rfl f_9_75 rfl (ge_bW9_0 S) (Nat.le_of_ble_eq_true rfl) rfl rfl (pu_bW9_0_0 S (0 : Int32)) ?_
  refine bs_nameS bW9 (fun S1 eS1 => ?_)
  replace h := h S1 eS1
  refine bs_aload_n C (bf_dk dd_X9_sign 3 rfl) rfl ?_
  refine bs_iload_n C (bf_dk dd_X9_sign 4 rfl) rfl ?_
  refine bs_iconst C (bf_dk dd_X9_sign 5 rfl) (0 : Int32) (by decide) ?_
  refine bs_aload_n C (bf_dk dd_X9_sign 6 rfl) rfl ?_
  refine bs_get C (bf_dk dd_X9_sign 7 rfl) cl_9 in_9 41 (Nat.le_of_ble_eq_true rfl) rfl f_9_431 (ge_bW9_0 S1) rfl ?_
  refine bs_iconst C (bf_dk dd_X9_sign 8 rfl) (1 : Int32) (by decide) ?_
  refine bs_isub C (bf_dk dd_X9_sign 9 rfl) ?_
  refine bs_selfPV_i C hR (c_X9_isIn _ _ _ _ _ S1 (a1) ((0 : Int32)) (((b9g_signMany S1) - (1 : Int32))) _ h) my_X9_isIn m_9_82 rfl cl_9 (ge_bW9_0 _) rfl (Nat.le_of_ble_eq_true rfl) (Nat.le_of_ble_eq_true rfl) (st := []) (Nat.le_of_ble_eq_true rfl) (bf_dk dd_X9_sign 10 rfl) rfl (fun r2 h => ?_)
  refine bs_if_eq C (bf_dk dd_X9_sign 11 rfl) (tgt := 29) rfl (fun c => ?_) (fun c => ?_)
  · replace h := h.1 c
    refine bs_iconst C (bf_dk dd_X9_sign 17 rfl) (-1 : Int32) (by decide) ?_
    exact bs_iret (u := S1) C (bf_dk dd_X9_sign 18 rfl) rfl h
  · replace h := h.2 c
    refine bs_aload_n C (bf_dk dd_X9_sign 12 rfl) rfl ?_
    refine bs_get C (bf_dk dd_X9_sign 13 rfl) cl_9 in_9 40 (Nat.le_of_ble_eq_true rfl) rfl f_9_63 (ge_bW9_0 S1) rfl ?_
    refine bs_iload_n C (bf_dk dd_X9_sign 14 rfl) rfl ?_
    obtain ⟨hi, h⟩ := h
    refine bs_iald C (bf_dk dd_X9_sign 15 rfl) (ge_bW9_17 S1) hi ?_
    refine bs_goto C (bf_dk dd_X9_sign 16 rfl) (tgt := 30) rfl ?_
    exact bs_iret (u := S1) C (bf_dk dd_X9_sign 18 rfl) rfl h
theorem c_X9_sign (l : Launch) (dC : Nat → ClassId) (dI : Nat → Nat → Nat) (ac : Nat → ClassId) (al : Nat → Nat) (S : bT9) (a1 : Int32) (Q : Int32 → (bT9) → Prop) (h : wp_X9_sign S a1 Q) : bf_M l yX9_sign cX9_sign 2 (some .int) 1 23 dC dI ac al [.ref 0, .int a1] (bW9 S) (bf_Ki dC dI ac al bW9 Q) := by
  refine bf_start [some (.ref 0), some (.int a1)] (by decide) (Nat.le_of_ble_eq_true rfl) (bf_s1 (bf_s1 bf_s0)) ?_
  intro X hl C hR e1 e2 e3 e4
  subst e1; subst e2; subst e3; subst e4
  exact t_X9_sign C hR S a1 Q h
def wp_X9_image_149 (S : bT9) (x1 : Int32) (x2 : Int32) (Q : Int32 → (bT9) → Prop) (B80 : Int32 → Int32 → (bT9) → Prop) : Prop := (B80 (x1) ((x2 + (1 : Int32))) S)
set_option maxRecDepth 20000 in
theorem t_X9_image_149 {X : bf_X} (C : bf_C X RX9 cX9_image 3 (some .boolean)) (hR : bf_Rm X 0 0) (S : bT9) (x1 : Int32) (x2 : Int32) (Q : Int32 → (bT9) → Prop) (B80 : Int32 → Int32 → (bT9) → Prop) (hB80 : ∀ (x1 : Int32) (x2 : Int32) (S : bT9), B80 x1 x2 S → bf_A X (bf_Zi X bW9 Q) 3 80 [some (.ref 0), some (.int x1), some (.int x2)] [] (bW9 S)) (h : wp_X9_image_149 S x1 x2 Q B80) : bf_A X (bf_Zi X bW9 Q) 3 149 [some (.ref 0), some (.int x1), some (.int x2)] [] (bW9 S) := by
  unfold wp_X9_image_149 at h
  refine bs_iinc C (bf_dk dd_X9_image 88 rfl) (x2 + (1 : Int32)) rfl rfl (Nat.le_of_ble_eq_true rfl) (Nat.le_of_ble_eq_true rfl) (lv2 := [some (.ref 0), some (.int x1), some (.int (x2 + (1 : Int32)))]) rfl ?_
  refine bs_goto C (bf_dk dd_X9_image 89 rfl) (tgt := 80) rfl ?_
  exact bs_weak (bf_s1 (bf_s1 (bf_s1 bf_s0))) (hB80 (x1) ((x2 + (1 : Int32))) S h)
def wp_X9_image_118 (S : bT9) (x1 : Int32) (x2 : Int32) (Q : Int32 → (bT9) → Prop) (B80 : Int32 → Int32 → (bT9) → Prop) : Prop := ((x1 = 0 → (vp_in x2 144 ∧ (vp_in x2 144 ∧ (∀ S1 : bT9, S1 = (b9s_lengths S (upd (b9g_lengths S) (x2).toNatClampNeg ((b9g_lengthImages S) (x2).toNatClampNeg))) → (wp_X9_image_149 S1 (x1) (x2) Q B80))))) ∧ (¬ x1 = 0 → (vp_in x2 144 ∧ (vp_in x2 144 ∧ (∀ S2 : bT9, S2 = (b9s_lengthImages S (upd (b9g_lengthImages S) (x2).toNatClampNeg ((b9g_lengths S) (x2).toNatClampNeg))) → (wp_X9_image_149 S2 (x1) (x2) Q B80))))))
set_option maxRecDepth 20000 in
theorem t_X9_image_118 {X : bf_X} (C : bf_C X RX9 cX9_image 3 (some .boolean)) (hR : bf_Rm X 0 0) (S : bT9) (x1 : Int32) (x2 : Int32) (Q : Int32 → (bT9) → Prop) (B80 : Int32 → Int32 → (bT9) → Prop) (hB80 : ∀ (x1 : Int32) (x2 : Int32) (S : bT9), B80 x1 x2 S → bf_A X (bf_Zi X bW9 Q) 3 80 [some (.ref 0), some (.int x1), some (.int x2)] [] (bW9 S)) (h : wp_X9_image_118 S x1 x2 Q B80) : bf_A X (bf_Zi X bW9 Q) 3 118 [some (.ref 0), some (.int x1), some (.int x2)] [] (bW9 S) := by
  unfold wp_X9_image_118 at h
  refine bs_iload_n C (bf_dk dd_X9_image 69 rfl) rfl ?_
  refine bs_if_eq C (bf_dk dd_X9_image 70 rfl) (tgt := 137) rfl (fun c => ?_) (fun c => ?_)
  · replace h := h.1 c
    refine bs_aload_n C (bf_dk dd_X9_image 80 rfl) rfl ?_
    refine bs_get C (bf_dk dd_X9_image 81 rfl) cl_9 in_9 3 (Nat.le_of_ble_eq_true rfl) rfl f_9_17 (ge_bW9_0 S) rfl ?_
    refine bs_iload_n C (bf_dk dd_X9_image 82 rfl) rfl ?_
    refine bs_aload_n C (bf_dk dd_X9_image 83 rfl) rfl ?_
    refine bs_get C (bf_dk dd_X9_image 84 rfl) cl_9 in_9 45 (Nat.le_of_ble_eq_true rfl) rfl f_9_72 (ge_bW9_0 S) rfl ?_
    refine bs_iload_n C (bf_dk dd_X9_image 85 rfl) rfl ?_
    obtain ⟨hi, h⟩ := h
    refine bs_iald C (bf_dk dd_X9_image 86 rfl) (ge_bW9_20 S) hi ?_
    obtain ⟨hi, h⟩ := h
    refine bs_iast C (bf_dk dd_X9_image 87 rfl) (ge_bW9_3 S) hi (ar_bW9_3 S _) ?_
    refine bs_nameS bW9 (fun S1 eS1 => ?_)
    replace h := h S1 eS1
    exact bs_weak (bf_s1 (bf_s1 (bf_s1 bf_s0))) (t_X9_image_149 C hR S1 (x1) (x2) Q B80 hB80 h)
  · replace h := h.2 c
    refine bs_aload_n C (bf_dk dd_X9_image 71 rfl) rfl ?_
    refine bs_get C (bf_dk dd_X9_image 72 rfl) cl_9 in_9 45 (Nat.le_of_ble_eq_true rfl) rfl f_9_72 (ge_bW9_0 S) rfl ?_
    refine bs_iload_n C (bf_dk dd_X9_image 73 rfl) rfl ?_
    refine bs_aload_n C (bf_dk dd_X9_image 74 rfl) rfl ?_
    refine bs_get C (bf_dk dd_X9_image 75 rfl) cl_9 in_9 3 (Nat.le_of_ble_eq_true rfl) rfl f_9_17 (ge_bW9_0 S) rfl ?_
    refine bs_iload_n C (bf_dk dd_X9_image 76 rfl) rfl ?_
    obtain ⟨hi, h⟩ := h
    refine bs_iald C (bf_dk dd_X9_image 77 rfl) (ge_bW9_3 S) hi ?_
    obtain ⟨hi, h⟩ := h
    refine bs_iast C (bf_dk dd_X9_image 78 rfl) (ge_bW9_20 S) hi (ar_bW9_20 S _) ?_
    refine bs_nameS bW9 (fun S2 eS2 => ?_)
    replace h := h S2 eS2
    refine bs_goto C (bf_dk dd_X9_image 79 rfl) (tgt := 149) rfl ?_
    exact bs_weak (bf_s1 (bf_s1 (bf_s1 bf_s0))) (t_X9_image_149 C hR S2 (x1) (x2) Q B80 hB80 h)
def wp_X9_image_80b (S : bT9) (x1 : Int32) (x2 : Int32) (Q : Int32 → (bT9) → Prop) (B80 : Int32 → Int32 → (bT9) → Prop) : Prop := (((144 : Int32) ≤ x2 → (bf_bool (1 : Int32) ∧ Q (1 : Int32) S)) ∧ (¬ (144 : Int32) ≤ x2 → ((x1 = 0 → (vp_in x2 144 ∧ (vp_in x2 144 ∧ (∀ S3 : bT9, S3 = (b9s_keys S (vp_updL (b9g_keys S) (x2).toNatClampNeg ((b9g_keyImages S) (x2).toNatClampNeg))) → (wp_X9_image_118 S3 (x1) (x2) Q B80))))) ∧ (¬ x1 = 0 → (vp_in x2 144 ∧ (vp_in x2 144 ∧ (∀ S4 : bT9, S4 = (b9s_keyImages S (vp_updL (b9g_keyImages S) (x2).toNatClampNeg ((b9g_keys S) (x2).toNatClampNeg))) → (wp_X9_image_118 S4 (x1) (x2) Q B80))))))))
set_option maxRecDepth 20000 in
theorem t_X9_image_80b {X : bf_X} (C : bf_C X RX9 cX9_image 3 (some .boolean)) (hR : bf_Rm X 0 0) (S : bT9) (x1 : Int32) (x2 : Int32) (Q : Int32 → (bT9) → Prop) (B80 : Int32 → Int32 → (bT9) → Prop) (hB80 : ∀ (x1 : Int32) (x2 : Int32) (S : bT9), B80 x1 x2 S → bf_A X (bf_Zi X bW9 Q) 3 80 [some (.ref 0), some (.int x1), some (.int x2)] [] (bW9 S)) (h : wp_X9_image_80b S x1 x2 Q B80) : bf_A X (bf_Zi X bW9 Q) 3 80 [some (.ref 0), some (.int x1), some (.int x2)] [] (bW9 S) := by
  unfold wp_X9_image_80b at h
  refine bs_iload_n C (bf_dk dd_X9_image 47 rfl) rfl ?_
  refine bs_sipush C (bf_dk dd_X9_image 48 rfl) (144 : Int32) (by decide) ?_
  refine bs_icmp_ge C (bf_dk dd_X9_image 49 rfl) (tgt := 155) rfl (fun c => ?_) (fun c => ?_)
  · replace h := h.1 c
    refine bs_iconst C (bf_dk dd_X9_image 90 rfl) (1 : Int32) (by decide) ?_
    obtain ⟨hi, h⟩ := h
    exact bs_zret (u := S) C (bf_dk dd_X9_image 91 rfl) hi rfl h
  · replace h := h.2 c
    refine bs_iload_n C (bf_dk dd_X9_image 50 rfl) rfl ?_
    refine bs_if_eq C (bf_dk dd_X9_image 51 rfl) (tgt := 106) rfl (fun c => ?_) (fun c => ?_)
    · replace h := h.1 c
      refine bs_aload_n C (bf_dk dd_X9_image 61 rfl) rfl ?_
      refine bs_get C (bf_dk dd_X9_image 62 rfl) cl_9 in_9 2 (Nat.le_of_ble_eq_true rfl) rfl f_9_13 (ge_bW9_0 S) rfl ?_
      refine bs_iload_n C (bf_dk dd_X9_image 63 rfl) rfl ?_
      refine bs_aload_n C (bf_dk dd_X9_image 64 rfl) rfl ?_
      refine bs_get C (bf_dk dd_X9_image 65 rfl) cl_9 in_9 44 (Nat.le_of_ble_eq_true rfl) rfl f_9_69 (ge_bW9_0 S) rfl ?_
      refine bs_iload_n C (bf_dk dd_X9_image 66 rfl) rfl ?_
      obtain ⟨hi, h⟩ := h
      refine bs_lald C (bf_dk dd_X9_image 67 rfl) (ge_bW9_19 S) hi ?_
      obtain ⟨hi, h⟩ := h
      refine bs_last C (bf_dk dd_X9_image 68 rfl) (ge_bW9_2 S) hi (ar_bW9_2 S _) ?_
      refine bs_nameS bW9 (fun S3 eS3 => ?_)
      replace h := h S3 eS3
      exact bs_weak (bf_s1 (bf_s1 (bf_s1 bf_s0))) (t_X9_image_118 C hR S3 (x1) (x2) Q B80 hB80 h)
    · replace h := h.2 c
      refine bs_aload_n C (bf_dk dd_X9_image 52 rfl) rfl ?_
      refine bs_get C (bf_dk dd_X9_image 53 rfl) cl_9 in_9 44 (Nat.le_of_ble_eq_true rfl) rfl f_9_69 (ge_bW9_0 S) rfl ?_
      refine bs_iload_n C (bf_dk dd_X9_image 54 rfl) rfl ?_
      refine bs_aload_n C (bf_dk dd_X9_image 55 rfl) rfl ?_
      refine bs_get C (bf_dk dd_X9_image 56 rfl) cl_9 in_9 2 (Nat.le_of_ble_eq_true rfl) rfl f_9_13 (ge_bW9_0 S) rfl ?_
      refine bs_iload_n C (bf_dk dd_X9_image 57 rfl) rfl ?_
      obtain ⟨hi, h⟩ := h
      refine bs_lald C (bf_dk dd_X9_image 58 rfl) (ge_bW9_2 S) hi ?_
      obtain ⟨hi, h⟩ := h
      refine bs_last C (bf_dk dd_X9_image 59 rfl) (ge_bW9_19 S) hi (ar_bW9_19 S _) ?_
      refine bs_nameS bW9 (fun S4 eS4 => ?_)
      replace h := h S4 eS4
      refine bs_goto C (bf_dk dd_X9_image 60 rfl) (tgt := 118) rfl ?_
      exact bs_weak (bf_s1 (bf_s1 (bf_s1 bf_s0))) (t_X9_image_118 C hR S4 (x1) (x2) Q B80 hB80 h)
def wp_X9_image_80 (S : bT9) (x1 : Int32) (x2 : Int32) (Q : Int32 → (bT9) → Prop) : Prop := ∃ I : Nat → Int32 → Int32 → (bT9) → Prop, (∃ n : Nat, I n x1 x2 S) ∧ ∀ (n : Nat) (x1 : Int32) (x2 : Int32) (S : bT9), I n x1 x2 S → wp_X9_image_80b S x1 x2 Q (fun x1 x2 S => ∃ n2 : Nat, n2 < n ∧ I n2 x1 x2 S)
theorem t_X9_image_80 {X : bf_X} (C : bf_C X RX9 cX9_image 3 (some .boolean)) (hR : bf_Rm X 0 0) (S : bT9) (x1 : Int32) (x2 : Int32) (Q : Int32 → (bT9) → Prop) (h : wp_X9_image_80 S x1 x2 Q) : bf_A X (bf_Zi X bW9 Q) 3 80 [some (.ref 0), some (.int x1), some (.int x2)] [] (bW9 S) := by
  obtain ⟨I, ⟨n0, h0⟩, hI⟩ := h
  have key : ∀ (n : Nat) (x1 : Int32) (x2 : Int32) (S : bT9), I n x1 x2 S → bf_A X (bf_Zi X bW9 Q) 3 80 [some (.ref 0), some (.int x1), some (.int x2)] [] (bW9 S) := by
    intro n
    induction n using Nat.strongRecOn with
    | _ n ih =>
      intro x1 x2 S hi
      exact t_X9_image_80b C hR S x1 x2 Q _ (fun x1 x2 S hb => by obtain ⟨n2, hn, hi2⟩ := hb; exact ih n2 hn x1 x2 S hi2) (hI n x1 x2 S hi)
  exact key n0 x1 x2 S h0
def wp_X9_image_72 (S : bT9) (x1 : Int32) (x2 : Int32) (Q : Int32 → (bT9) → Prop) (B35 : Int32 → Int32 → (bT9) → Prop) : Prop := (B35 (x1) ((x2 + (1 : Int32))) S)
set_option maxRecDepth 20000 in
theorem t_X9_image_72 {X : bf_X} (C : bf_C X RX9 cX9_image 3 (some .boolean)) (hR : bf_Rm X 0 0) (S : bT9) (x1 : Int32) (x2 : Int32) (Q : Int32 → (bT9) → Prop) (B35 : Int32 → Int32 → (bT9) → Prop) (hB35 : ∀ (x1 : Int32) (x2 : Int32) (S : bT9), B35 x1 x2 S → bf_A X (bf_Zi X bW9 Q) 3 35 [some (.ref 0), some (.int x1), some (.int x2)] [] (bW9 S)) (h : wp_X9_image_72 S x1 x2 Q B35) : bf_A X (bf_Zi X bW9 Q) 3 72 [some (.ref 0), some (.int x1), some (.int x2)] [] (bW9 S) := by
  unfold wp_X9_image_72 at h
  refine bs_iinc C (bf_dk dd_X9_image 43 rfl) (x2 + (1 : Int32)) rfl rfl (Nat.le_of_ble_eq_true rfl) (Nat.le_of_ble_eq_true rfl) (lv2 := [some (.ref 0), some (.int x1), some (.int (x2 + (1 : Int32)))]) rfl ?_
  refine bs_goto C (bf_dk dd_X9_image 44 rfl) (tgt := 35) rfl ?_
  exact bs_weak (bf_s1 (bf_s1 (bf_s1 bf_s0))) (hB35 (x1) ((x2 + (1 : Int32))) S h)
def wp_X9_image_35b (S : bT9) (x1 : Int32) (x2 : Int32) (Q : Int32 → (bT9) → Prop) (B35 : Int32 → Int32 → (bT9) → Prop) : Prop := (((23 : Int32) ≤ x2 → (wp_X9_image_80 S (x1) ((0 : Int32)) Q)) ∧ (¬ (23 : Int32) ≤ x2 → ((x1 = 0 → (vp_in x2 23 ∧ (vp_in x2 23 ∧ (∀ S5 : bT9, S5 = (b9s_now S (upd (b9g_now S) (x2).toNatClampNeg ((b9g_images S) (x2).toNatClampNeg))) → (wp_X9_image_72 S5 (x1) (x2) Q B35))))) ∧ (¬ x1 = 0 → (vp_in x2 23 ∧ (vp_in x2 23 ∧ (∀ S6 : bT9, S6 = (b9s_images S (upd (b9g_images S) (x2).toNatClampNeg ((b9g_now S) (x2).toNatClampNeg))) → (wp_X9_image_72 S6 (x1) (x2) Q B35))))))))
set_option maxRecDepth 20000 in
theorem t_X9_image_35b {X : bf_X} (C : bf_C X RX9 cX9_image 3 (some .boolean)) (hR : bf_Rm X 0 0) (S : bT9) (x1 : Int32) (x2 : Int32) (Q : Int32 → (bT9) → Prop) (B35 : Int32 → Int32 → (bT9) → Prop) (hB35 : ∀ (x1 : Int32) (x2 : Int32) (S : bT9), B35 x1 x2 S → bf_A X (bf_Zi X bW9 Q) 3 35 [some (.ref 0), some (.int x1), some (.int x2)] [] (bW9 S)) (h : wp_X9_image_35b S x1 x2 Q B35) : bf_A X (bf_Zi X bW9 Q) 3 35 [some (.ref 0), some (.int x1), some (.int x2)] [] (bW9 S) := by
  unfold wp_X9_image_35b at h
  refine bs_iload_n C (bf_dk dd_X9_image 21 rfl) rfl ?_
  refine bs_bipush C (bf_dk dd_X9_image 22 rfl) (23 : Int32) (by decide) ?_
  refine bs_icmp_ge C (bf_dk dd_X9_image 23 rfl) (tgt := 78) rfl (fun c => ?_) (fun c => ?_)
  · replace h := h.1 c
    refine bs_iconst C (bf_dk dd_X9_image 45 rfl) (0 : Int32) (by decide) ?_
    refine bs_istore_n C (bf_dk dd_X9_image 46 rfl) rfl (Nat.le_of_ble_eq_true rfl) (Nat.le_of_ble_eq_true rfl) (lv2 := [some (.ref 0), some (.int x1), some (.int (0 : Int32))]) rfl ?_
    exact bs_weak (bf_s1 (bf_s1 (bf_s1 bf_s0))) (t_X9_image_80 C hR S (x1) ((0 : Int32)) Q h)
  · replace h := h.2 c
    refine bs_iload_n C (bf_dk dd_X9_image 24 rfl) rfl ?_
    refine bs_if_eq C (bf_dk dd_X9_image 25 rfl) (tgt := 60) rfl (fun c => ?_) (fun c => ?_)
    · replace h := h.1 c
      refine bs_aload_n C (bf_dk dd_X9_image 35 rfl) rfl ?_
      refine bs_get C (bf_dk dd_X9_image 36 rfl) cl_9 in_9 1 (Nat.le_of_ble_eq_true rfl) rfl f_9_7 (ge_bW9_0 S) rfl ?_
      refine bs_iload_n C (bf_dk dd_X9_image 37 rfl) rfl ?_
      refine bs_aload_n C (bf_dk dd_X9_image 38 rfl) rfl ?_
      refine bs_get C (bf_dk dd_X9_image 39 rfl) cl_9 in_9 43 (Nat.le_of_ble_eq_true rfl) rfl f_9_66 (ge_bW9_0 S) rfl ?_
      refine bs_iload_n C (bf_dk dd_X9_image 40 rfl) rfl ?_
      obtain ⟨hi, h⟩ := h
      refine bs_iald C (bf_dk dd_X9_image 41 rfl) (ge_bW9_18 S) hi ?_
      obtain ⟨hi, h⟩ := h
      refine bs_iast C (bf_dk dd_X9_image 42 rfl) (ge_bW9_1 S) hi (ar_bW9_1 S _) ?_
      refine bs_nameS bW9 (fun S5 eS5 => ?_)
      replace h := h S5 eS5
      exact bs_weak (bf_s1 (bf_s1 (bf_s1 bf_s0))) (t_X9_image_72 C hR S5 (x1) (x2) Q B35 hB35 h)
    · replace h := h.2 c
      refine bs_aload_n C (bf_dk dd_X9_image 26 rfl) rfl ?_
      refine bs_get C (bf_dk dd_X9_image 27 rfl) cl_9 in_9 43 (Nat.le_of_ble_eq_true rfl) rfl f_9_66 (ge_bW9_0 S) rfl ?_
      refine bs_iload_n C (bf_dk dd_X9_image 28 rfl) rfl ?_
      refine bs_aload_n C (bf_dk dd_X9_image 29 rfl) rfl ?_
      refine bs_get C (bf_dk dd_X9_image 30 rfl) cl_9 in_9 1 (Nat.le_of_ble_eq_true rfl) rfl f_9_7 (ge_bW9_0 S) rfl ?_
      refine bs_iload_n C (bf_dk dd_X9_image 31 rfl) rfl ?_
      obtain ⟨hi, h⟩ := h
      refine bs_iald C (bf_dk dd_X9_image 32 rfl) (ge_bW9_1 S) hi ?_
      obtain ⟨hi, h⟩ := h
      refine bs_iast C (bf_dk dd_X9_image 33 rfl) (ge_bW9_18 S) hi (ar_bW9_18 S _) ?_
      refine bs_nameS bW9 (fun S6 eS6 => ?_)
      replace h := h S6 eS6
      refine bs_goto C (bf_dk dd_X9_image 34 rfl) (tgt := 72) rfl ?_
      exact bs_weak (bf_s1 (bf_s1 (bf_s1 bf_s0))) (t_X9_image_72 C hR S6 (x1) (x2) Q B35 hB35 h)
def wp_X9_image_35 (S : bT9) (x1 : Int32) (x2 : Int32) (Q : Int32 → (bT9) → Prop) : Prop := ∃ I : Nat → Int32 → Int32 → (bT9) → Prop, (∃ n : Nat, I n x1 x2 S) ∧ ∀ (n : Nat) (x1 : Int32) (x2 : Int32) (S : bT9), I n x1 x2 S → wp_X9_image_35b S x1 x2 Q (fun x1 x2 S => ∃ n2 : Nat, n2 < n ∧ I n2 x1 x2 S)
theorem t_X9_image_35 {X : bf_X} (C : bf_C X RX9 cX9_image 3 (some .boolean)) (hR : bf_Rm X 0 0) (S : bT9) (x1 : Int32) (x2 : Int32) (Q : Int32 → (bT9) → Prop) (h : wp_X9_image_35 S x1 x2 Q) : bf_A X (bf_Zi X bW9 Q) 3 35 [some (.ref 0), some (.int x1), some (.int x2)] [] (bW9 S) := by
  obtain ⟨I, ⟨n0, h0⟩, hI⟩ := h
  have key : ∀ (n : Nat) (x1 : Int32) (x2 : Int32) (S : bT9), I n x1 x2 S → bf_A X (bf_Zi X bW9 Q) 3 35 [some (.ref 0), some (.int x1), some (.int x2)] [] (bW9 S) := by
    intro n
    induction n using Nat.strongRecOn with
    | _ n ih =>
      intro x1 x2 S hi
      exact t_X9_image_35b C hR S x1 x2 Q _ (fun x1 x2 S hb => by obtain ⟨n2, hn, hi2⟩ := hb; exact ih n2 hn x1 x2 S hi2) (hI n x1 x2 S hi)
  exact key n0 x1 x2 S h0
def wp_X9_image_18 (S : bT9) (x1 : Int32) (Q : Int32 → (bT9) → Prop) : Prop := (∀ S7 : bT9, S7 = (b9s_hasImage S (1 : Int32)) → (∀ S8 : bT9, S8 = (b9s_isLaid S7 (0 : Int32)) → (∀ S9 : bT9, S9 = (b9s_areNodesLaid S8 (0 : Int32)) → (wp_X9_image_35 S9 (x1) ((0 : Int32)) Q))))
set_option maxRecDepth 20000 in
theorem t_X9_image_18 {X : bf_X} (C : bf_C X RX9 cX9_image 3 (some .boolean)) (hR : bf_Rm X 0 0) (S : bT9) (x1 : Int32) (Q : Int32 → (bT9) → Prop) (h : wp_X9_image_18 S x1 Q) : bf_A X (bf_Zi X bW9 Q) 3 18 [some (.ref 0), some (.int x1), none] [] (bW9 S) := by
  unfold wp_X9_image_18 at h
  refine bs_aload_n C (bf_dk dd_X9_image 10 rfl) rfl ?_
  refine bs_iconst C (bf_dk dd_X9_image 11 rfl) (1 : Int32) (by decide) ?_
  refine bs_put C (bf_dk dd_X9_image 12 rfl) tyX9_ok nmX9 cl_9 in_9 42 (Nat.le_of_ble_eq_true rfl) rfl f_9_449 rfl (ge_bW9_0 S) (Nat.le_of_ble_eq_true rfl) rfl rfl (pu_bW9_0_42 S (1 : Int32)) ?_
  refine bs_nameS bW9 (fun S7 eS7 => ?_)
  replace h := h S7 eS7
  refine bs_aload_n C (bf_dk dd_X9_image 13 rfl) rfl ?_
  refine bs_iconst C (bf_dk dd_X9_image 14 rfl) (0 : Int32) (by decide) ?_
  refine bs_put C (bf_dk dd_X9_image 15 rfl) tyX9_ok nmX9 cl_9 in_9 12 (Nat.le_of_ble_eq_true rfl) rfl f_9_184 rfl (ge_bW9_0 S7) (Nat.le_of_ble_eq_true rfl) rfl rfl (pu_bW9_0_12 S7 (0 : Int32)) ?_
  refine bs_nameS bW9 (fun S8 eS8 => ?_)
  replace h := h S8 eS8
  refine bs_aload_n C (bf_dk dd_X9_image 16 rfl) rfl ?_
  refine bs_iconst C (bf_dk dd_X9_image 17 rfl) (0 : Int32) (by decide) ?_
  refine bs_put C (bf_dk dd_X9_image 18 rfl) tyX9_ok nmX9 cl_9 in_9 20 (Nat.le_of_ble_eq_true rfl) rfl f_9_192 rfl (ge_bW9_0 S8) (Nat.le_of_ble_eq_true rfl) rfl rfl (pu_bW9_0_20 S8 (0 : Int32)) ?_
  refine bs_nameS bW9 (fun S9 eS9 => ?_)
  replace h := h S9 eS9
  refine bs_iconst C (bf_dk dd_X9_image 19 rfl) (0 : Int32) (by decide) ?_
  refine bs_istore_n C (bf_dk dd_X9_image 20 rfl) rfl (Nat.le_of_ble_eq_true rfl) (Nat.le_of_ble_eq_true rfl) (lv2 := [some (.ref 0), some (.int x1), some (.int (0 : Int32))]) rfl ?_
  exact bs_weak (bf_s1 (bf_s1 (bf_s1 bf_s0))) (t_X9_image_35 C hR S9 (x1) ((0 : Int32)) Q h)
def wp_X9_image (S : bT9) (a1 : Int32) (Q : Int32 → (bT9) → Prop) : Prop := (∀ S10 : bT9, S10 = (b9s_told S (0 : Int32)) → ((¬ a1 = 0 → (wp_X9_image_18 S10 (a1) Q)) ∧ (a1 = 0 → ((¬ (b9g_hasImage S10) = 0 → (wp_X9_image_18 S10 (a1) Q)) ∧ ((b9g_hasImage S10) = 0 → (bf_bool (0 : Int32) ∧ Q (0 : Int32) S10))))))
set_option maxRecDepth 20000 in
theorem t_X9_image {X : bf_X} (C : bf_C X RX9 cX9_image 3 (some .boolean)) (hR : bf_Rm X 0 0) (S : bT9) (a1 : Int32) (Q : Int32 → (bT9) → Prop) (h : wp_X9_image S a1 Q) : bf_A X (bf_Zi X bW9 Q) 3 0 [some (.ref 0), some (.int a1), none] [] (bW9 S) := by
  unfold wp_X9_image at h
  refine bs_aload_n C (bf_dk dd_X9_image 0 rfl) rfl ?_
  refine bs_iconst C (bf_dk dd_X9_image 1 rfl) (0 : Int32) (by decide) ?_
  refine bs_put C (bf_dk dd_X9_image 2 rfl) tyX9_ok nmX9 cl_9 in_9 0 (Nat.le_of_ble_eq_true rfl) rfl f_9_75 rfl (ge_bW9_0 S) (Nat.le_of_ble_eq_true rfl) rfl rfl (pu_bW9_0_0 S (0 : Int32)) ?_
  refine bs_nameS bW9 (fun S10 eS10 => ?_)
  replace h := h S10 eS10
  refine bs_iload_n C (bf_dk dd_X9_image 3 rfl) rfl ?_
  refine bs_if_ne C (bf_dk dd_X9_image 4 rfl) (tgt := 18) rfl (fun c => ?_) (fun c => ?_)
  · replace h := h.1 c
    exact bs_weak (bf_s1 (bf_s1 (bf_sn bf_s0))) (t_X9_image_18 C hR S10 (a1) Q h)
  · replace h := h.2 c
    refine bs_aload_n C (bf_dk dd_X9_image 5 rfl) rfl ?_
    refine bs_get C (bf_dk dd_X9_image 6 rfl) cl_9 in_9 42 (Nat.le_of_ble_eq_true rfl) rfl f_9_449 (ge_bW9_0 S10) rfl ?_
    refine bs_if_ne C (bf_dk dd_X9_image 7 rfl) (tgt := 18) rfl (fun c => ?_) (fun c => ?_)
    · replace h := h.1 c
      exact bs_weak (bf_s1 (bf_s1 (bf_sn bf_s0))) (t_X9_image_18 C hR S10 (a1) Q h)
    · replace h := h.2 c
      refine bs_iconst C (bf_dk dd_X9_image 8 rfl) (0 : Int32) (by decide) ?_
      obtain ⟨hi, h⟩ := h
      exact bs_zret (u := S10) C (bf_dk dd_X9_image 9 rfl) hi rfl h
theorem c_X9_image (l : Launch) (dC : Nat → ClassId) (dI : Nat → Nat → Nat) (ac : Nat → ClassId) (al : Nat → Nat) (S : bT9) (a1 : Int32) (Q : Int32 → (bT9) → Prop) (h : wp_X9_image S a1 Q) : bf_M l yX9_image cX9_image 3 (some .boolean) 0 0 dC dI ac al [.ref 0, .int a1] (bW9 S) (bf_Ki dC dI ac al bW9 Q) := by
  refine bf_start [some (.ref 0), some (.int a1), none] (by decide) (Nat.le_of_ble_eq_true rfl) (bf_s1 (bf_s1 (bf_en 1))) ?_
  intro X hl C hR e1 e2 e3 e4
  subst e1; subst e2; subst e3; subst e4
  exact t_X9_image C hR S a1 Q h
def wp_X9_endedMany_27 (S : bT9) (x1 : Int32) (x2 : Int32) (Q : Int32 → Prop) (B4 : Int32 → Int32 → Prop) : Prop := (B4 (x1) ((x2 + (1 : Int32))))
set_option maxRecDepth 20000 in
theorem t_X9_endedMany_27 {X : bf_X} (C : bf_C X RX9 cX9_endedMany 3 (some .int)) (hR : bf_Rm X 2 42) (S : bT9) (x1 : Int32) (x2 : Int32) (Q : Int32 → Prop) (B4 : Int32 → Int32 → Prop) (hB4 : ∀ (x1 : Int32) (x2 : Int32), B4 x1 x2 → bf_A X (bf_Zi X bW9 (fun r u => u = S ∧ Q r)) 3 4 [some (.ref 0), some (.int x1), some (.int x2)] [] (bW9 S)) (h : wp_X9_endedMany_27 S x1 x2 Q B4) : bf_A X (bf_Zi X bW9 (fun r u => u = S ∧ Q r)) 3 27 [some (.ref 0), some (.int x1), some (.int x2)] [] (bW9 S) := by
  unfold wp_X9_endedMany_27 at h
  refine bs_iinc C (bf_dk dd_X9_endedMany 18 rfl) (x2 + (1 : Int32)) rfl rfl (Nat.le_of_ble_eq_true rfl) (Nat.le_of_ble_eq_true rfl) (lv2 := [some (.ref 0), some (.int x1), some (.int (x2 + (1 : Int32)))]) rfl ?_
  refine bs_goto C (bf_dk dd_X9_endedMany 19 rfl) (tgt := 4) rfl ?_
  exact bs_weak (bf_s1 (bf_s1 (bf_s1 bf_s0))) (hB4 (x1) ((x2 + (1 : Int32))) h)
def wp_X9_endedMany_4b (S : bT9) (x1 : Int32) (x2 : Int32) (Q : Int32 → Prop) (B4 : Int32 → Int32 → Prop) : Prop := (vp_in (9 : Int32) 23 ∧ ((((b9g_now S) ((9 : Int32)).toNatClampNeg) ≤ x2 → (Q x1)) ∧ (¬ ((b9g_now S) ((9 : Int32)).toNatClampNeg) ≤ x2 → (wp_X9_isEnded S (x2) (fun r1 => ((r1 = 0 → (wp_X9_endedMany_27 S (x1) (x2) Q B4)) ∧ (¬ r1 = 0 → (wp_X9_endedMany_27 S ((x1 + (1 : Int32))) (x2) Q B4))))))))
set_option maxRecDepth 20000 in
theorem t_X9_endedMany_4b {X : bf_X} (C : bf_C X RX9 cX9_endedMany 3 (some .int)) (hR : bf_Rm X 2 42) (S : bT9) (x1 : Int32) (x2 : Int32) (Q : Int32 → Prop) (B4 : Int32 → Int32 → Prop) (hB4 : ∀ (x1 : Int32) (x2 : Int32), B4 x1 x2 → bf_A X (bf_Zi X bW9 (fun r u => u = S ∧ Q r)) 3 4 [some (.ref 0), some (.int x1), some (.int x2)] [] (bW9 S)) (h : wp_X9_endedMany_4b S x1 x2 Q B4) : bf_A X (bf_Zi X bW9 (fun r u => u = S ∧ Q r)) 3 4 [some (.ref 0), some (.int x1), some (.int x2)] [] (bW9 S) := by
  unfold wp_X9_endedMany_4b at h
  refine bs_iload_n C (bf_dk dd_X9_endedMany 4 rfl) rfl ?_
  refine bs_aload_n C (bf_dk dd_X9_endedMany 5 rfl) rfl ?_
  refine bs_get C (bf_dk dd_X9_endedMany 6 rfl) cl_9 in_9 1 (Nat.le_of_ble_eq_true rfl) rfl f_9_7 (ge_bW9_0 S) rfl ?_
  refine bs_bipush C (bf_dk dd_X9_endedMany 7 rfl) (9 : Int32) (by decide) ?_
  obtain ⟨hi, h⟩ := h
  refine bs_iald C (bf_dk dd_X9_endedMany 8 rfl) (ge_bW9_1 S) hi ?_
  refine bs_icmp_ge C (bf_dk dd_X9_endedMany 9 rfl) (tgt := 33) rfl (fun c => ?_) (fun c => ?_)
  · replace h := h.1 c
    refine bs_iload_n C (bf_dk dd_X9_endedMany 20 rfl) rfl ?_
    exact bs_iret (u := S) C (bf_dk dd_X9_endedMany 21 rfl) rfl ⟨rfl, h⟩
  · replace h := h.2 c
    refine bs_aload_n C (bf_dk dd_X9_endedMany 10 rfl) rfl ?_
    refine bs_iload_n C (bf_dk dd_X9_endedMany 11 rfl) rfl ?_
    refine bs_selfPV_i C hR (c_X9_isEnded _ _ _ _ _ S (x2) _ h) my_X9_isEnded m_9_283 rfl cl_9 (ge_bW9_0 _) rfl (Nat.le_of_ble_eq_true rfl) (Nat.le_of_ble_eq_true rfl) (st := []) (Nat.le_of_ble_eq_true rfl) (bf_dk dd_X9_endedMany 12 rfl) rfl (fun r1 h => ?_)
    refine bs_if_eq C (bf_dk dd_X9_endedMany 13 rfl) (tgt := 27) rfl (fun c => ?_) (fun c => ?_)
    · replace h := h.1 c
      exact bs_weak (bf_s1 (bf_s1 (bf_s1 bf_s0))) (t_X9_endedMany_27 C hR S (x1) (x2) Q B4 hB4 h)
    · replace h := h.2 c
      refine bs_iload_n C (bf_dk dd_X9_endedMany 14 rfl) rfl ?_
      refine bs_iconst C (bf_dk dd_X9_endedMany 15 rfl) (1 : Int32) (by decide) ?_
      refine bs_iadd C (bf_dk dd_X9_endedMany 16 rfl) ?_
      refine bs_istore_n C (bf_dk dd_X9_endedMany 17 rfl) rfl (Nat.le_of_ble_eq_true rfl) (Nat.le_of_ble_eq_true rfl) (lv2 := [some (.ref 0), some (.int (x1 + (1 : Int32))), some (.int x2)]) rfl ?_
      exact bs_weak (bf_s1 (bf_s1 (bf_s1 bf_s0))) (t_X9_endedMany_27 C hR S ((x1 + (1 : Int32))) (x2) Q B4 hB4 h)
def wp_X9_endedMany_4 (S : bT9) (x1 : Int32) (x2 : Int32) (Q : Int32 → Prop) : Prop := ∃ I : Nat → Int32 → Int32 → Prop, (∃ n : Nat, I n x1 x2) ∧ ∀ (n : Nat) (x1 : Int32) (x2 : Int32), I n x1 x2 → wp_X9_endedMany_4b S x1 x2 Q (fun x1 x2 => ∃ n2 : Nat, n2 < n ∧ I n2 x1 x2)
theorem t_X9_endedMany_4 {X : bf_X} (C : bf_C X RX9 cX9_endedMany 3 (some .int)) (hR : bf_Rm X 2 42) (S : bT9) (x1 : Int32) (x2 : Int32) (Q : Int32 → Prop) (h : wp_X9_endedMany_4 S x1 x2 Q) : bf_A X (bf_Zi X bW9 (fun r u => u = S ∧ Q r)) 3 4 [some (.ref 0), some (.int x1), some (.int x2)] [] (bW9 S) := by
  obtain ⟨I, ⟨n0, h0⟩, hI⟩ := h
  have key : ∀ (n : Nat) (x1 : Int32) (x2 : Int32), I n x1 x2 → bf_A X (bf_Zi X bW9 (fun r u => u = S ∧ Q r)) 3 4 [some (.ref 0), some (.int x1), some (.int x2)] [] (bW9 S) := by
    intro n
    induction n using Nat.strongRecOn with
    | _ n ih =>
      intro x1 x2 hi
      exact t_X9_endedMany_4b C hR S x1 x2 Q _ (fun x1 x2 hb => by obtain ⟨n2, hn, hi2⟩ := hb; exact ih n2 hn x1 x2 hi2) (hI n x1 x2 hi)
  exact key n0 x1 x2 h0
def wp_X9_endedMany (S : bT9) (Q : Int32 → Prop) : Prop := (wp_X9_endedMany_4 S ((0 : Int32)) ((0 : Int32)) Q)
set_option maxRecDepth 20000 in
theorem t_X9_endedMany {X : bf_X} (C : bf_C X RX9 cX9_endedMany 3 (some .int)) (hR : bf_Rm X 2 42) (S : bT9) (Q : Int32 → Prop) (h : wp_X9_endedMany S Q) : bf_A X (bf_Zi X bW9 (fun r u => u = S ∧ Q r)) 3 0 [some (.ref 0), none, none] [] (bW9 S) := by
  unfold wp_X9_endedMany at h
  refine bs_iconst C (bf_dk dd_X9_endedMany 0 rfl) (0 : Int32) (by decide) ?_
  refine bs_istore_n C (bf_dk dd_X9_endedMany 1 rfl) rfl (Nat.le_of_ble_eq_true rfl) (Nat.le_of_ble_eq_true rfl) (lv2 := [some (.ref 0), some (.int (0 : Int32)), none]) rfl ?_
  refine bs_iconst C (bf_dk dd_X9_endedMany 2 rfl) (0 : Int32) (by decide) ?_
  refine bs_istore_n C (bf_dk dd_X9_endedMany 3 rfl) rfl (Nat.le_of_ble_eq_true rfl) (Nat.le_of_ble_eq_true rfl) (lv2 := [some (.ref 0), some (.int (0 : Int32)), some (.int (0 : Int32))]) rfl ?_
  exact bs_weak (bf_s1 (bf_s1 (bf_s1 bf_s0))) (t_X9_endedMany_4 C hR S ((0 : Int32)) ((0 : Int32)) Q h)
theorem c_X9_endedMany (l : Launch) (dC : Nat → ClassId) (dI : Nat → Nat → Nat) (ac : Nat → ClassId) (al : Nat → Nat) (S : bT9) (Q : Int32 → Prop) (h : wp_X9_endedMany S Q) : bf_M l yX9_endedMany cX9_endedMany 3 (some .int) 2 42 dC dI ac al [.ref 0] (bW9 S) (bf_Ki dC dI ac al bW9 (fun r u => u = S ∧ Q r)) := by
  refine bf_start [some (.ref 0), none, none] (by decide) (Nat.le_of_ble_eq_true rfl) (bf_s1 (bf_en 2)) ?_
  intro X hl C hR e1 e2 e3 e4
  subst e1; subst e2; subst e3; subst e4
  exact t_X9_endedMany C hR S Q h
def wp_X9_beginningBytes_4b (S : bT9) (x1 : Int32) (x2 : Int32) (Q : Int32 → Prop) (B4 : Int32 → Int32 → Prop) : Prop := (vp_in (9 : Int32) 23 ∧ ((((b9g_now S) ((9 : Int32)).toNatClampNeg) ≤ x2 → (Q x1)) ∧ (¬ ((b9g_now S) ((9 : Int32)).toNatClampNeg) ≤ x2 → (vp_in x2 64 ∧ (B4 ((x1 + ((b9g_beginning S) (x2).toNatClampNeg))) ((x2 + (1 : Int32))))))))
set_option maxRecDepth 20000 in
theorem t_X9_beginningBytes_4b {X : bf_X} (C : bf_C X RX9 cX9_beginningBytes 3 (some .int)) (hR : bf_Rm X 0 0) (S : bT9) (x1 : Int32) (x2 : Int32) (Q : Int32 → Prop) (B4 : Int32 → Int32 → Prop) (hB4 : ∀ (x1 : Int32) (x2 : Int32), B4 x1 x2 → bf_A X (bf_Zi X bW9 (fun r u => u = S ∧ Q r)) 3 4 [some (.ref 0), some (.int x1), some (.int x2)] [] (bW9 S)) (h : wp_X9_beginningBytes_4b S x1 x2 Q B4) : bf_A X (bf_Zi X bW9 (fun r u => u = S ∧ Q r)) 3 4 [some (.ref 0), some (.int x1), some (.int x2)] [] (bW9 S) := by
  unfold wp_X9_beginningBytes_4b at h
  refine bs_iload_n C (bf_dk dd_X9_beginningBytes 4 rfl) rfl ?_
  refine bs_aload_n C (bf_dk dd_X9_beginningBytes 5 rfl) rfl ?_
  refine bs_get C (bf_dk dd_X9_beginningBytes 6 rfl) cl_9 in_9 1 (Nat.le_of_ble_eq_true rfl) rfl f_9_7 (ge_bW9_0 S) rfl ?_
  refine bs_bipush C (bf_dk dd_X9_beginningBytes 7 rfl) (9 : Int32) (by decide) ?_
  obtain ⟨hi, h⟩ := h
  refine bs_iald C (bf_dk dd_X9_beginningBytes 8 rfl) (ge_bW9_1 S) hi ?_
  refine bs_icmp_ge C (bf_dk dd_X9_beginningBytes 9 rfl) (tgt := 30) rfl (fun c => ?_) (fun c => ?_)
  · replace h := h.1 c
    refine bs_iload_n C (bf_dk dd_X9_beginningBytes 19 rfl) rfl ?_
    exact bs_iret (u := S) C (bf_dk dd_X9_beginningBytes 20 rfl) rfl ⟨rfl, h⟩
  · replace h := h.2 c
    refine bs_iload_n C (bf_dk dd_X9_beginningBytes 10 rfl) rfl ?_
    refine bs_aload_n C (bf_dk dd_X9_beginningBytes 11 rfl) rfl ?_
    refine bs_get C (bf_dk dd_X9_beginningBytes 12 rfl) cl_9 in_9 11 (Nat.le_of_ble_eq_true rfl) rfl f_9_29 (ge_bW9_0 S) rfl ?_
    refine bs_iload_n C (bf_dk dd_X9_beginningBytes 13 rfl) rfl ?_
    obtain ⟨hi, h⟩ := h
    refine bs_iald C (bf_dk dd_X9_beginningBytes 14 rfl) (ge_bW9_7 S) hi ?_
    refine bs_iadd C (bf_dk dd_X9_beginningBytes 15 rfl) ?_
    refine bs_istore_n C (bf_dk dd_X9_beginningBytes 16 rfl) rfl (Nat.le_of_ble_eq_true rfl) (Nat.le_of_ble_eq_true rfl) (lv2 := [some (.ref 0), some (.int (x1 + ((b9g_beginning S) (x2).toNatClampNeg))), some (.int x2)]) rfl ?_
    refine bs_iinc C (bf_dk dd_X9_beginningBytes 17 rfl) (x2 + (1 : Int32)) rfl rfl (Nat.le_of_ble_eq_true rfl) (Nat.le_of_ble_eq_true rfl) (lv2 := [some (.ref 0), some (.int (x1 + ((b9g_beginning S) (x2).toNatClampNeg))), some (.int (x2 + (1 : Int32)))]) rfl ?_
    refine bs_goto C (bf_dk dd_X9_beginningBytes 18 rfl) (tgt := 4) rfl ?_
    exact bs_weak (bf_s1 (bf_s1 (bf_s1 bf_s0))) (hB4 ((x1 + ((b9g_beginning S) (x2).toNatClampNeg))) ((x2 + (1 : Int32))) h)
def wp_X9_beginningBytes_4 (S : bT9) (x1 : Int32) (x2 : Int32) (Q : Int32 → Prop) : Prop := ∃ I : Nat → Int32 → Int32 → Prop, (∃ n : Nat, I n x1 x2) ∧ ∀ (n : Nat) (x1 : Int32) (x2 : Int32), I n x1 x2 → wp_X9_beginningBytes_4b S x1 x2 Q (fun x1 x2 => ∃ n2 : Nat, n2 < n ∧ I n2 x1 x2)
theorem t_X9_beginningBytes_4 {X : bf_X} (C : bf_C X RX9 cX9_beginningBytes 3 (some .int)) (hR : bf_Rm X 0 0) (S : bT9) (x1 : Int32) (x2 : Int32) (Q : Int32 → Prop) (h : wp_X9_beginningBytes_4 S x1 x2 Q) : bf_A X (bf_Zi X bW9 (fun r u => u = S ∧ Q r)) 3 4 [some (.ref 0), some (.int x1), some (.int x2)] [] (bW9 S) := by
  obtain ⟨I, ⟨n0, h0⟩, hI⟩ := h
  have key : ∀ (n : Nat) (x1 : Int32) (x2 : Int32), I n x1 x2 → bf_A X (bf_Zi X bW9 (fun r u => u = S ∧ Q r)) 3 4 [some (.ref 0), some (.int x1), some (.int x2)] [] (bW9 S) := by
    intro n
    induction n using Nat.strongRecOn with
    | _ n ih =>
      intro x1 x2 hi
      exact t_X9_beginningBytes_4b C hR S x1 x2 Q _ (fun x1 x2 hb => by obtain ⟨n2, hn, hi2⟩ := hb; exact ih n2 hn x1 x2 hi2) (hI n x1 x2 hi)
  exact key n0 x1 x2 h0
def wp_X9_beginningBytes (S : bT9) (Q : Int32 → Prop) : Prop := (wp_X9_beginningBytes_4 S ((0 : Int32)) ((0 : Int32)) Q)
set_option maxRecDepth 20000 in
theorem t_X9_beginningBytes {X : bf_X} (C : bf_C X RX9 cX9_beginningBytes 3 (some .int)) (hR : bf_Rm X 0 0) (S : bT9) (Q : Int32 → Prop) (h : wp_X9_beginningBytes S Q) : bf_A X (bf_Zi X bW9 (fun r u => u = S ∧ Q r)) 3 0 [some (.ref 0), none, none] [] (bW9 S) := by
  unfold wp_X9_beginningBytes at h
  refine bs_iconst C (bf_dk dd_X9_beginningBytes 0 rfl) (0 : Int32) (by decide) ?_
  refine bs_istore_n C (bf_dk dd_X9_beginningBytes 1 rfl) rfl (Nat.le_of_ble_eq_true rfl) (Nat.le_of_ble_eq_true rfl) (lv2 := [some (.ref 0), some (.int (0 : Int32)), none]) rfl ?_
  refine bs_iconst C (bf_dk dd_X9_beginningBytes 2 rfl) (0 : Int32) (by decide) ?_
  refine bs_istore_n C (bf_dk dd_X9_beginningBytes 3 rfl) rfl (Nat.le_of_ble_eq_true rfl) (Nat.le_of_ble_eq_true rfl) (lv2 := [some (.ref 0), some (.int (0 : Int32)), some (.int (0 : Int32))]) rfl ?_
  exact bs_weak (bf_s1 (bf_s1 (bf_s1 bf_s0))) (t_X9_beginningBytes_4 C hR S ((0 : Int32)) ((0 : Int32)) Q h)
theorem c_X9_beginningBytes (l : Launch) (dC : Nat → ClassId) (dI : Nat → Nat → Nat) (ac : Nat → ClassId) (al : Nat → Nat) (S : bT9) (Q : Int32 → Prop) (h : wp_X9_beginningBytes S Q) : bf_M l yX9_beginningBytes cX9_beginningBytes 3 (some .int) 0 0 dC dI ac al [.ref 0] (bW9 S) (bf_Ki dC dI ac al bW9 (fun r u => u = S ∧ Q r)) := by
  refine bf_start [some (.ref 0), none, none] (by decide) (Nat.le_of_ble_eq_true rfl) (bf_s1 (bf_en 2)) ?_
  intro X hl C hR e1 e2 e3 e4
  subst e1; subst e2; subst e3; subst e4
  exact t_X9_beginningBytes C hR S Q h
def wp_X9_look (S : bT9) (a1 : Int32) (Q : Int32 → (bT9) → Prop) : Prop := (∀ S1 : bT9, S1 = (b9s_told S (0 : Int32)) → (wp_X9_laysNodes S1 (fun u3 => (wp_X9_isIn u3 (a1) ((0 : Int32)) ((5 : Int32)) (fun r4 => ((r4 = 0 → (wp_X9_isIn u3 (a1) ((6 : Int32)) ((9 : Int32)) (fun r6 => ((r6 = 0 → ((¬ a1 = (10 : Int32) → ((¬ a1 = (11 : Int32) → ((¬ a1 = (12 : Int32) → ((¬ a1 = (13 : Int32) → ((¬ a1 = (14 : Int32) → ((¬ a1 = (15 : Int32) → ((¬ a1 = (16 : Int32) → ((¬ a1 = (17 : Int32) → ((¬ a1 = (18 : Int32) → ((¬ a1 = (19 : Int32) → ((¬ a1 = (20 : Int32) → (Q (-100000000 : Int32) u3)) ∧ (a1 = (20 : Int32) → (wp_X9_beginningBytes u3 (fun r8 => (Q r8 u3)))))) ∧ (a1 = (19 : Int32) → (wp_X9_endedMany u3 (fun r10 => (Q r10 u3)))))) ∧ (a1 = (18 : Int32) → (Q (b9g_taped u3) u3)))) ∧ (a1 = (17 : Int32) → (vp_in (10 : Int32) 23 ∧ (Q ((b9g_now u3) ((10 : Int32)).toNatClampNeg) u3))))) ∧ (a1 = (16 : Int32) → (wp_X9_nextBits u3 (fun r12 => (Q r12 u3)))))) ∧ (a1 = (15 : Int32) → (wp_X9_hashBits u3 (fun r14 => (Q r14 u3)))))) ∧ (a1 = (14 : Int32) → (Q (b9g_itemMany u3) u3)))) ∧ (a1 = (13 : Int32) → (Q (b9g_upperNodes u3) u3)))) ∧ (a1 = (12 : Int32) → (Q (b9g_upper u3) u3)))) ∧ (a1 = (11 : Int32) → (Q (b9g_levelMany u3) u3)))) ∧ (a1 = (10 : Int32) → (Q (b9g_nodeMany u3) u3)))) ∧ (¬ r6 = 0 → (vp_in a1 23 ∧ (Q ((b9g_now u3) (a1).toNatClampNeg) u3))))))) ∧ (¬ r4 = 0 → (wp_X9_settingOf u3 (a1) (fun r16 => (Q r16 u3))))))))))
set_option maxRecDepth 20000 in
theorem t_X9_look {X : bf_X} (C : bf_C X RX9 cX9_look 2 (some .int)) (hR : bf_Rm X 8 182) (S : bT9) (a1 : Int32) (Q : Int32 → (bT9) → Prop) (h : wp_X9_look S a1 Q) : bf_A X (bf_Zi X bW9 Q) 2 0 [some (.ref 0), some (.int a1)] [] (bW9 S) := by
  unfold wp_X9_look at h
  refine bs_aload_n C (bf_dk dd_X9_look 0 rfl) rfl ?_
  refine bs_iconst C (bf_dk dd_X9_look 1 rfl) (0 : Int32) (by decide) ?_
  refine bs_put C (bf_dk dd_X9_look 2 rfl) tyX9_ok nmX9 cl_9 in_9 0 (Nat.le_of_ble_eq_true rfl) rfl f_9_75 rfl (ge_bW9_0 S) (Nat.le_of_ble_eq_true rfl) rfl rfl (pu_bW9_0_0 S (0 : Int32)) ?_
  refine bs_nameS bW9 (fun S1 eS1 => ?_)
  replace h := h S1 eS1
  refine bs_aload_n C (bf_dk dd_X9_look 3 rfl) rfl ?_
  refine bs_selfV_v C hR (c_X9_laysNodes _ _ _ _ _ S1 _ h) my_X9_laysNodes m_9_262 rfl cl_9 (ge_bW9_0 _) rfl (Nat.le_of_ble_eq_true rfl) (Nat.le_of_ble_eq_true rfl) (st := []) (Nat.le_of_ble_eq_true rfl) (bf_dk dd_X9_look 4 rfl) rfl (len := 21) (fun _ => rfl) (fun u3 h => ?_)
  refine bs_aload_n C (bf_dk dd_X9_look 5 rfl) rfl ?_
  refine bs_iload_n C (bf_dk dd_X9_look 6 rfl) rfl ?_
  refine bs_iconst C (bf_dk dd_X9_look 7 rfl) (0 : Int32) (by decide) ?_
  refine bs_iconst C (bf_dk dd_X9_look 8 rfl) (5 : Int32) (by decide) ?_
  refine bs_selfPV_i C hR (c_X9_isIn _ _ _ _ _ u3 (a1) ((0 : Int32)) ((5 : Int32)) _ h) my_X9_isIn m_9_82 rfl cl_9 (ge_bW9_0 _) rfl (Nat.le_of_ble_eq_true rfl) (Nat.le_of_ble_eq_true rfl) (st := []) (Nat.le_of_ble_eq_true rfl) (bf_dk dd_X9_look 9 rfl) rfl (fun r4 h => ?_)
  refine bs_if_eq C (bf_dk dd_X9_look 10 rfl) (tgt := 25) rfl (fun c => ?_) (fun c => ?_)
  · replace h := h.1 c
    refine bs_aload_n C (bf_dk dd_X9_look 15 rfl) rfl ?_
    refine bs_iload_n C (bf_dk dd_X9_look 16 rfl) rfl ?_
    refine bs_bipush C (bf_dk dd_X9_look 17 rfl) (6 : Int32) (by decide) ?_
    refine bs_bipush C (bf_dk dd_X9_look 18 rfl) (9 : Int32) (by decide) ?_
    refine bs_selfPV_i C hR (c_X9_isIn _ _ _ _ _ u3 (a1) ((6 : Int32)) ((9 : Int32)) _ h) my_X9_isIn m_9_82 rfl cl_9 (ge_bW9_0 _) rfl (Nat.le_of_ble_eq_true rfl) (Nat.le_of_ble_eq_true rfl) (st := []) (Nat.le_of_ble_eq_true rfl) (bf_dk dd_X9_look 19 rfl) rfl (fun r6 h => ?_)
    refine bs_if_eq C (bf_dk dd_X9_look 20 rfl) (tgt := 44) rfl (fun c => ?_) (fun c => ?_)
    · replace h := h.1 c
      refine bs_iload_n C (bf_dk dd_X9_look 26 rfl) rfl ?_
      refine bs_bipush C (bf_dk dd_X9_look 27 rfl) (10 : Int32) (by decide) ?_
      refine bs_icmp_ne C (bf_dk dd_X9_look 28 rfl) (tgt := 55) rfl (fun c => ?_) (fun c => ?_)
      · replace h := h.1 c
        refine bs_iload_n C (bf_dk dd_X9_look 32 rfl) rfl ?_
        refine bs_bipush C (bf_dk dd_X9_look 33 rfl) (11 : Int32) (by decide) ?_
        refine bs_icmp_ne C (bf_dk dd_X9_look 34 rfl) (tgt := 66) rfl (fun c => ?_) (fun c => ?_)
        · replace h := h.1 c
          refine bs_iload_n C (bf_dk dd_X9_look 38 rfl) rfl ?_
          refine bs_bipush C (bf_dk dd_X9_look 39 rfl) (12 : Int32) (by decide) ?_
          refine bs_icmp_ne C (bf_dk dd_X9_look 40 rfl) (tgt := 77) rfl (fun c => ?_) (fun c => ?_)
          · replace h := h.1 c
            refine bs_iload_n C (bf_dk dd_X9_look 44 rfl) rfl ?_
            refine bs_bipush C (bf_dk dd_X9_look 45 rfl) (13 : Int32) (by decide) ?_
            refine bs_icmp_ne C (bf_dk dd_X9_look 46 rfl) (tgt := 88) rfl (fun c => ?_) (fun c => ?_)
            · replace h := h.1 c
              refine bs_iload_n C (bf_dk dd_X9_look 50 rfl) rfl ?_
              refine bs_bipush C (bf_dk dd_X9_look 51 rfl) (14 : Int32) (by decide) ?_
              refine bs_icmp_ne C (bf_dk dd_X9_look 52 rfl) (tgt := 99) rfl (fun c => ?_) (fun c => ?_)
              · replace h := h.1 c
                refine bs_iload_n C (bf_dk dd_X9_look 56 rfl) rfl ?_
                refine bs_bipush C (bf_dk dd_X9_look 57 rfl) (15 : Int32) (by decide) ?_
                refine bs_icmp_ne C (bf_dk dd_X9_look 58 rfl) (tgt := 110) rfl (fun c => ?_) (fun c => ?_)
                · replace h := h.1 c
                  refine bs_iload_n C (bf_dk dd_X9_look 62 rfl) rfl ?_
                  refine bs_bipush C (bf_dk dd_X9_look 63 rfl) (16 : Int32) (by decide) ?_
                  refine bs_icmp_ne C (bf_dk dd_X9_look 64 rfl) (tgt := 121) rfl (fun c => ?_) (fun c => ?_)
                  · replace h := h.1 c
                    refine bs_iload_n C (bf_dk dd_X9_look 68 rfl) rfl ?_
                    refine bs_bipush C (bf_dk dd_X9_look 69 rfl) (17 : Int32) (by decide) ?_
                    refine bs_icmp_ne C (bf_dk dd_X9_look 70 rfl) (tgt := 135) rfl (fun c => ?_) (fun c => ?_)
                    · replace h := h.1 c
                      refine bs_iload_n C (bf_dk dd_X9_look 76 rfl) rfl ?_
                      refine bs_bipush C (bf_dk dd_X9_look 77 rfl) (18 : Int32) (by decide) ?_
                      refine bs_icmp_ne C (bf_dk dd_X9_look 78 rfl) (tgt := 146) rfl (fun c => ?_) (fun c => ?_)
                      · replace h := h.1 c
                        refine bs_iload_n C (bf_dk dd_X9_look 82 rfl) rfl ?_
                        refine bs_bipush C (bf_dk dd_X9_look 83 rfl) (19 : Int32) (by decide) ?_
                        refine bs_icmp_ne C (bf_dk dd_X9_look 84 rfl) (tgt := 159) rfl (fun c => ?_) (fun c => ?_)
                        · replace h := h.1 c
                          refine bs_iload_n C (bf_dk dd_X9_look 88 rfl) rfl ?_
                          refine bs_bipush C (bf_dk dd_X9_look 89 rfl) (20 : Int32) (by decide) ?_
                          refine bs_icmp_ne C (bf_dk dd_X9_look 90 rfl) (tgt := 172) rfl (fun c => ?_) (fun c => ?_)
                          · replace h := h.1 c
                            refine bs_ldcw C (bf_dk dd_X9_look 94 rfl) k_9_458 ?_
                            exact bs_iret (u := u3) C (bf_dk dd_X9_look 95 rfl) rfl h
                          · replace h := h.2 c
                            refine bs_aload_n C (bf_dk dd_X9_look 91 rfl) rfl ?_
                            refine bs_selfPV_i C hR (c_X9_beginningBytes _ _ _ _ _ u3 _ h) my_X9_beginningBytes m_9_455 rfl cl_9 (ge_bW9_0 _) rfl (Nat.le_of_ble_eq_true rfl) (Nat.le_of_ble_eq_true rfl) (st := []) (Nat.le_of_ble_eq_true rfl) (bf_dk dd_X9_look 92 rfl) rfl (fun r8 h => ?_)
                            refine bs_goto C (bf_dk dd_X9_look 93 rfl) (tgt := 175) rfl ?_
                            exact bs_iret (u := u3) C (bf_dk dd_X9_look 95 rfl) rfl h
                        · replace h := h.2 c
                          refine bs_aload_n C (bf_dk dd_X9_look 85 rfl) rfl ?_
                          refine bs_selfPV_i C hR (c_X9_endedMany _ _ _ _ _ u3 _ h) my_X9_endedMany m_9_452 rfl cl_9 (ge_bW9_0 _) rfl (Nat.le_of_ble_eq_true rfl) (Nat.le_of_ble_eq_true rfl) (st := []) (Nat.le_of_ble_eq_true rfl) (bf_dk dd_X9_look 86 rfl) rfl (fun r10 h => ?_)
                          refine bs_goto C (bf_dk dd_X9_look 87 rfl) (tgt := 175) rfl ?_
                          exact bs_iret (u := u3) C (bf_dk dd_X9_look 95 rfl) rfl h
                      · replace h := h.2 c
                        refine bs_aload_n C (bf_dk dd_X9_look 79 rfl) rfl ?_
                        refine bs_get C (bf_dk dd_X9_look 80 rfl) cl_9 in_9 7 (Nat.le_of_ble_eq_true rfl) rfl f_9_146 (ge_bW9_0 u3) rfl ?_
                        exact bs_iret (u := u3) C (bf_dk dd_X9_look 81 rfl) rfl h
                    · replace h := h.2 c
                      refine bs_aload_n C (bf_dk dd_X9_look 71 rfl) rfl ?_
                      refine bs_get C (bf_dk dd_X9_look 72 rfl) cl_9 in_9 1 (Nat.le_of_ble_eq_true rfl) rfl f_9_7 (ge_bW9_0 u3) rfl ?_
                      refine bs_bipush C (bf_dk dd_X9_look 73 rfl) (10 : Int32) (by decide) ?_
                      obtain ⟨hi, h⟩ := h
                      refine bs_iald C (bf_dk dd_X9_look 74 rfl) (ge_bW9_1 u3) hi ?_
                      exact bs_iret (u := u3) C (bf_dk dd_X9_look 75 rfl) rfl h
                  · replace h := h.2 c
                    refine bs_aload_n C (bf_dk dd_X9_look 65 rfl) rfl ?_
                    refine bs_selfPV_i C hR (c_X9_nextBits _ _ _ _ _ u3 _ h) my_X9_nextBits m_9_313 rfl cl_9 (ge_bW9_0 _) rfl (Nat.le_of_ble_eq_true rfl) (Nat.le_of_ble_eq_true rfl) (st := []) (Nat.le_of_ble_eq_true rfl) (bf_dk dd_X9_look 66 rfl) rfl (fun r12 h => ?_)
                    exact bs_iret (u := u3) C (bf_dk dd_X9_look 67 rfl) rfl h
                · replace h := h.2 c
                  refine bs_aload_n C (bf_dk dd_X9_look 59 rfl) rfl ?_
                  refine bs_selfPV_i C hR (c_X9_hashBits _ _ _ _ _ u3 _ h) my_X9_hashBits m_9_310 rfl cl_9 (ge_bW9_0 _) rfl (Nat.le_of_ble_eq_true rfl) (Nat.le_of_ble_eq_true rfl) (st := []) (Nat.le_of_ble_eq_true rfl) (bf_dk dd_X9_look 60 rfl) rfl (fun r14 h => ?_)
                  exact bs_iret (u := u3) C (bf_dk dd_X9_look 61 rfl) rfl h
              · replace h := h.2 c
                refine bs_aload_n C (bf_dk dd_X9_look 53 rfl) rfl ?_
                refine bs_get C (bf_dk dd_X9_look 54 rfl) cl_9 in_9 24 (Nat.le_of_ble_eq_true rfl) rfl f_9_250 (ge_bW9_0 u3) rfl ?_
                exact bs_iret (u := u3) C (bf_dk dd_X9_look 55 rfl) rfl h
            · replace h := h.2 c
              refine bs_aload_n C (bf_dk dd_X9_look 47 rfl) rfl ?_
              refine bs_get C (bf_dk dd_X9_look 48 rfl) cl_9 in_9 19 (Nat.le_of_ble_eq_true rfl) rfl f_9_216 (ge_bW9_0 u3) rfl ?_
              exact bs_iret (u := u3) C (bf_dk dd_X9_look 49 rfl) rfl h
          · replace h := h.2 c
            refine bs_aload_n C (bf_dk dd_X9_look 41 rfl) rfl ?_
            refine bs_get C (bf_dk dd_X9_look 42 rfl) cl_9 in_9 18 (Nat.le_of_ble_eq_true rfl) rfl f_9_213 (ge_bW9_0 u3) rfl ?_
            exact bs_iret (u := u3) C (bf_dk dd_X9_look 43 rfl) rfl h
        · replace h := h.2 c
          refine bs_aload_n C (bf_dk dd_X9_look 35 rfl) rfl ?_
          refine bs_get C (bf_dk dd_X9_look 36 rfl) cl_9 in_9 17 (Nat.le_of_ble_eq_true rfl) rfl f_9_201 (ge_bW9_0 u3) rfl ?_
          exact bs_iret (u := u3) C (bf_dk dd_X9_look 37 rfl) rfl h
      · replace h := h.2 c
        refine bs_aload_n C (bf_dk dd_X9_look 29 rfl) rfl ?_
        refine bs_get C (bf_dk dd_X9_look 30 rfl) cl_9 in_9 16 (Nat.le_of_ble_eq_true rfl) rfl f_9_198 (ge_bW9_0 u3) rfl ?_
        exact bs_iret (u := u3) C (bf_dk dd_X9_look 31 rfl) rfl h
    · replace h := h.2 c
      refine bs_aload_n C (bf_dk dd_X9_look 21 rfl) rfl ?_
      refine bs_get C (bf_dk dd_X9_look 22 rfl) cl_9 in_9 1 (Nat.le_of_ble_eq_true rfl) rfl f_9_7 (ge_bW9_0 u3) rfl ?_
      refine bs_iload_n C (bf_dk dd_X9_look 23 rfl) rfl ?_
      obtain ⟨hi, h⟩ := h
      refine bs_iald C (bf_dk dd_X9_look 24 rfl) (ge_bW9_1 u3) hi ?_
      exact bs_iret (u := u3) C (bf_dk dd_X9_look 25 rfl) rfl h
  · replace h := h.2 c
    refine bs_aload_n C (bf_dk dd_X9_look 11 rfl) rfl ?_
    refine bs_iload_n C (bf_dk dd_X9_look 12 rfl) rfl ?_
    refine bs_selfPV_i C hR (c_X9_settingOf _ _ _ _ _ u3 (a1) _ h) my_X9_settingOf m_9_139 rfl cl_9 (ge_bW9_0 _) rfl (Nat.le_of_ble_eq_true rfl) (Nat.le_of_ble_eq_true rfl) (st := []) (Nat.le_of_ble_eq_true rfl) (bf_dk dd_X9_look 13 rfl) rfl (fun r16 h => ?_)
    exact bs_iret (u := u3) C (bf_dk dd_X9_look 14 rfl) rfl h
theorem c_X9_look (l : Launch) (dC : Nat → ClassId) (dI : Nat → Nat → Nat) (ac : Nat → ClassId) (al : Nat → Nat) (S : bT9) (a1 : Int32) (Q : Int32 → (bT9) → Prop) (h : wp_X9_look S a1 Q) : bf_M l yX9_look cX9_look 2 (some .int) 8 182 dC dI ac al [.ref 0, .int a1] (bW9 S) (bf_Ki dC dI ac al bW9 Q) := by
  refine bf_start [some (.ref 0), some (.int a1)] (by decide) (Nat.le_of_ble_eq_true rfl) (bf_s1 (bf_s1 bf_s0)) ?_
  intro X hl C hR e1 e2 e3 e4
  subst e1; subst e2; subst e3; subst e4
  exact t_X9_look C hR S a1 Q h
