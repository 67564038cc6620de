def wp_X6_findEdges_12b (S : bT6 × bT1) (x2 : Int32) (Q : (bT6 × bT1) → Prop) (B12 : Int32 → (bT6 × bT1) → Prop) : Prop := (((b6g_nodes S.1) ≤ x2 → (vp_in (b6g_nodes S.1) 233 ∧ (∀ S1 : bT6 × bT1, S1 = ((b6s_edgeStarts S.1 (upd (b6g_edgeStarts S.1) ((b6g_nodes S.1)).toNatClampNeg (b6g_edges S.1))), S.2) → (Q S1)))) ∧ (¬ (b6g_nodes S.1) ≤ x2 → (vp_in x2 233 ∧ (∀ S2 : bT6 × bT1, S2 = ((b6s_edgeStarts S.1 (upd (b6g_edgeStarts S.1) (x2).toNatClampNeg (b6g_edges S.1))), S.2) → (wp_X6_findEdgesOf S2 (x2) (fun u4 => (B12 ((x2 + (1 : Int32))) u4)))))))
set_option maxRecDepth 20000 in
theorem t_X6_findEdges_12b {X : bf_X} (C : bf_C X RX6 cX6_findEdges 3 none) (hR : bf_Rm X 3 71) (S : bT6 × bT1) (x2 : Int32) (Q : (bT6 × bT1) → Prop) (B12 : Int32 → (bT6 × bT1) → Prop) (hB12 : ∀ (x2 : Int32) (S : bT6 × bT1), B12 x2 S → bf_A X (bf_Zv X bW6_1 Q) 3 12 [some (.ref 0), some (.ref 13), some (.int x2)] [] (bW6_1 S)) (h : wp_X6_findEdges_12b S x2 Q B12) : bf_A X (bf_Zv X bW6_1 Q) 3 12 [some (.ref 0), some (.ref 13), some (.int x2)] [] (bW6_1 S) := by
  unfold wp_X6_findEdges_12b at h
  refine bs_iload_n C (bf_dk dd_X6_findEdges 8 rfl) rfl ?_
  refine bs_aload_n C (bf_dk dd_X6_findEdges 9 rfl) rfl ?_
  refine bs_get C (bf_dk dd_X6_findEdges 10 rfl) cl_6 in_6 12 (Nat.le_of_ble_eq_true rfl) rfl f_6_48 (ge_bW6_1_0 S) rfl ?_
  refine bs_icmp_ge C (bf_dk dd_X6_findEdges 11 rfl) (tgt := 42) rfl (fun c => ?_) (fun c => ?_)
  · replace h := h.1 c
    refine bs_aload_n C (bf_dk dd_X6_findEdges 24 rfl) rfl ?_
    refine bs_get C (bf_dk dd_X6_findEdges 25 rfl) cl_6 in_6 3 (Nat.le_of_ble_eq_true rfl) rfl f_6_21 (ge_bW6_1_0 S) rfl ?_
    refine bs_aload_n C (bf_dk dd_X6_findEdges 26 rfl) rfl ?_
    refine bs_get C (bf_dk dd_X6_findEdges 27 rfl) cl_6 in_6 12 (Nat.le_of_ble_eq_true rfl) rfl f_6_48 (ge_bW6_1_0 S) rfl ?_
    refine bs_aload_n C (bf_dk dd_X6_findEdges 28 rfl) rfl ?_
    refine bs_get C (bf_dk dd_X6_findEdges 29 rfl) cl_6 in_6 13 (Nat.le_of_ble_eq_true rfl) rfl f_6_52 (ge_bW6_1_0 S) rfl ?_
    obtain ⟨hi, h⟩ := h
    refine bs_iast C (bf_dk dd_X6_findEdges 30 rfl) (ge_bW6_1_4 S) hi (ar_bW6_1_4 S _) ?_
    refine bs_nameS bW6_1 (fun S1 eS1 => ?_)
    replace h := h S1 eS1
    exact bs_vret (u := S1) C (bf_dk dd_X6_findEdges 31 rfl) rfl h
  · replace h := h.2 c
    refine bs_aload_n C (bf_dk dd_X6_findEdges 12 rfl) rfl ?_
    refine bs_get C (bf_dk dd_X6_findEdges 13 rfl) cl_6 in_6 3 (Nat.le_of_ble_eq_true rfl) rfl f_6_21 (ge_bW6_1_0 S) rfl ?_
    refine bs_iload_n C (bf_dk dd_X6_findEdges 14 rfl) rfl ?_
    refine bs_aload_n C (bf_dk dd_X6_findEdges 15 rfl) rfl ?_
    refine bs_get C (bf_dk dd_X6_findEdges 16 rfl) cl_6 in_6 13 (Nat.le_of_ble_eq_true rfl) rfl f_6_52 (ge_bW6_1_0 S) rfl ?_
    obtain ⟨hi, h⟩ := h
    refine bs_iast C (bf_dk dd_X6_findEdges 17 rfl) (ge_bW6_1_4 S) hi (ar_bW6_1_4 S _) ?_
    refine bs_nameS bW6_1 (fun S2 eS2 => ?_)
    replace h := h S2 eS2
    refine bs_aload_n C (bf_dk dd_X6_findEdges 18 rfl) rfl ?_
    refine bs_iload_n C (bf_dk dd_X6_findEdges 19 rfl) rfl ?_
    refine bs_aload_n C (bf_dk dd_X6_findEdges 20 rfl) rfl ?_
    refine bs_selfV_v C hR (c_X6_findEdgesOf _ _ _ _ _ S2 (x2) _ h) my_X6_findEdgesOf m_6_128 rfl cl_6 (ge_bW6_1_0 _) rfl (Nat.le_of_ble_eq_true rfl) (Nat.le_of_ble_eq_true rfl) (st := []) (Nat.le_of_ble_eq_true rfl) (bf_dk dd_X6_findEdges 21 rfl) rfl (len := 27) (fun _ => rfl) (fun u4 h => ?_)
    refine bs_iinc C (bf_dk dd_X6_findEdges 22 rfl) (x2 + (1 : Int32)) rfl rfl (Nat.le_of_ble_eq_true rfl) (Nat.le_of_ble_eq_true rfl) (lv2 := [some (.ref 0), some (.ref 13), some (.int (x2 + (1 : Int32)))]) rfl ?_
    refine bs_goto C (bf_dk dd_X6_findEdges 23 rfl) (tgt := 12) rfl ?_
    exact bs_weak (bf_s1 (bf_s1 (bf_s1 bf_s0))) (hB12 ((x2 + (1 : Int32))) u4 h)
def wp_X6_findEdges_12 (S : bT6 × bT1) (x2 : Int32) (Q : (bT6 × bT1) → Prop) : Prop := ∃ I : Nat → Int32 → (bT6 × bT1) → Prop, (∃ n : Nat, I n x2 S) ∧ ∀ (n : Nat) (x2 : Int32) (S : bT6 × bT1), I n x2 S → wp_X6_findEdges_12b S x2 Q (fun x2 S => ∃ n2 : Nat, n2 < n ∧ I n2 x2 S)
theorem t_X6_findEdges_12 {X : bf_X} (C : bf_C X RX6 cX6_findEdges 3 none) (hR : bf_Rm X 3 71) (S : bT6 × bT1) (x2 : Int32) (Q : (bT6 × bT1) → Prop) (h : wp_X6_findEdges_12 S x2 Q) : bf_A X (bf_Zv X bW6_1 Q) 3 12 [some (.ref 0), some (.ref 13), some (.int x2)] [] (bW6_1 S) := by
  obtain ⟨I, ⟨n0, h0⟩, hI⟩ := h
  have key : ∀ (n : Nat) (x2 : Int32) (S : bT6 × bT1), I n x2 S → bf_A X (bf_Zv X bW6_1 Q) 3 12 [some (.ref 0), some (.ref 13), some (.int x2)] [] (bW6_1 S) := by
    intro n
    induction n using Nat.strongRecOn with
    | _ n ih =>
      intro x2 S hi
      exact t_X6_findEdges_12b C hR S x2 Q _ (fun x2 S hb => by obtain ⟨n2, hn, hi2⟩ := hb; exact ih n2 hn x2 S hi2) (hI n x2 S hi)
  exact key n0 x2 S h0
def wp_X6_findEdges (S : bT6 × bT1) (Q : (bT6 × bT1) → Prop) : Prop := (∀ S5 : bT6 × bT1, S5 = ((b6s_edges S.1 (0 : Int32)), S.2) → (∀ S6 : bT6 × bT1, S6 = ((b6s_children S5.1 (0 : Int32)), S5.2) → (wp_X6_findEdges_12 S6 ((0 : Int32)) Q)))
set_option maxRecDepth 20000 in
theorem t_X6_findEdges {X : bf_X} (C : bf_C X RX6 cX6_findEdges 3 none) (hR : bf_Rm X 3 71) (S : bT6 × bT1) (Q : (bT6 × bT1) → Prop) (h : wp_X6_findEdges S Q) : bf_A X (bf_Zv X bW6_1 Q) 3 0 [some (.ref 0), some (.ref 13), none] [] (bW6_1 S) := by
  unfold wp_X6_findEdges at h
  refine bs_aload_n C (bf_dk dd_X6_findEdges 0 rfl) rfl ?_
  refine bs_iconst C (bf_dk dd_X6_findEdges 1 rfl) (0 : Int32) (by decide) ?_
  refine bs_put C (bf_dk dd_X6_findEdges 2 rfl) tyX6_ok nmX6 cl_6 in_6 13 (Nat.le_of_ble_eq_true rfl) rfl f_6_52 rfl (ge_bW6_1_0 S) (Nat.le_of_ble_eq_true rfl) rfl rfl (pu_bW6_1_0_13 S (0 : Int32)) ?_
  refine bs_nameS bW6_1 (fun S5 eS5 => ?_)
  replace h := h S5 eS5
  refine bs_aload_n C (bf_dk dd_X6_findEdges 3 rfl) rfl ?_
  refine bs_iconst C (bf_dk dd_X6_findEdges 4 rfl) (0 : Int32) (by decide) ?_
  refine bs_put C (bf_dk dd_X6_findEdges 5 rfl) tyX6_ok nmX6 cl_6 in_6 14 (Nat.le_of_ble_eq_true rfl) rfl f_6_55 rfl (ge_bW6_1_0 S5) (Nat.le_of_ble_eq_true rfl) rfl rfl (pu_bW6_1_0_14 S5 (0 : Int32)) ?_
  refine bs_nameS bW6_1 (fun S6 eS6 => ?_)
  replace h := h S6 eS6
  refine bs_iconst C (bf_dk dd_X6_findEdges 6 rfl) (0 : Int32) (by decide) ?_
  refine bs_istore_n C (bf_dk dd_X6_findEdges 7 rfl) rfl (Nat.le_of_ble_eq_true rfl) (Nat.le_of_ble_eq_true rfl) (lv2 := [some (.ref 0), some (.ref 13), some (.int (0 : Int32))]) rfl ?_
  exact bs_weak (bf_s1 (bf_s1 (bf_s1 bf_s0))) (t_X6_findEdges_12 C hR S6 ((0 : Int32)) Q h)
theorem c_X6_findEdges (l : Launch) (dC : Nat → ClassId) (dI : Nat → Nat → Nat) (ac : Nat → ClassId) (al : Nat → Nat) (S : bT6 × bT1) (Q : (bT6 × bT1) → Prop) (h : wp_X6_findEdges S Q) : bf_M l yX6_findEdges cX6_findEdges 3 none 3 71 dC dI ac al [.ref 0, .ref 13] (bW6_1 S) (bf_Kv dC dI ac al bW6_1 Q) := by
  refine bf_start [some (.ref 0), some (.ref 13), none] (by decide) (Nat.le_of_ble_eq_true rfl) (bf_s1 (bf_s1 (bf_en 1))) ?_
  intro X hl C hR e1 e2 e3 e4
  subst e1; subst e2; subst e3; subst e4
  exact t_X6_findEdges C hR S Q h
def wp_X6_addNode (S : bT6) (a1 : Int32) (a2 : Int32) (Q : (bT6) → Prop) : Prop := (((232 : Int32) ≤ (b6g_nodes S) → (Q S)) ∧ (¬ (232 : Int32) ≤ (b6g_nodes S) → (vp_in (b6g_nodes S) 232 ∧ (∀ S1 : bT6, S1 = (b6s_nodeLevels S (upd (b6g_nodeLevels S) ((b6g_nodes S)).toNatClampNeg a1)) → (vp_in (b6g_nodes S1) 232 ∧ (∀ S2 : bT6, S2 = (b6s_firstLeaves S1 (upd (b6g_firstLeaves S1) ((b6g_nodes S1)).toNatClampNeg a2)) → (vp_in (b6g_nodes S2) 232 ∧ (∀ S3 : bT6, S3 = (b6s_leafCounts S2 (upd (b6g_leafCounts S2) ((b6g_nodes S2)).toNatClampNeg (0 : Int32))) → (∀ S4 : bT6, S4 = (b6s_nodes S3 ((b6g_nodes S3) + (1 : Int32))) → (Q S4))))))))))
set_option maxRecDepth 20000 in
theorem t_X6_addNode {X : bf_X} (C : bf_C X RX6 cX6_addNode 3 none) (hR : bf_Rm X 0 0) (S : bT6) (a1 : Int32) (a2 : Int32) (Q : (bT6) → Prop) (h : wp_X6_addNode S a1 a2 Q) : bf_A X (bf_Zv X bW6 Q) 3 0 [some (.ref 0), some (.int a1), some (.int a2)] [] (bW6 S) := by
  unfold wp_X6_addNode at h
  refine bs_aload_n C (bf_dk dd_X6_addNode 0 rfl) rfl ?_
  refine bs_get C (bf_dk dd_X6_addNode 1 rfl) cl_6 in_6 12 (Nat.le_of_ble_eq_true rfl) rfl f_6_48 (ge_bW6_0 S) rfl ?_
  refine bs_sipush C (bf_dk dd_X6_addNode 2 rfl) (232 : Int32) (by decide) ?_
  refine bs_icmp_ge C (bf_dk dd_X6_addNode 3 rfl) (tgt := 50) rfl (fun c => ?_) (fun c => ?_)
  · replace h := h.1 c
    exact bs_vret (u := S) C (bf_dk dd_X6_addNode 28 rfl) rfl h
  · replace h := h.2 c
    refine bs_aload_n C (bf_dk dd_X6_addNode 4 rfl) rfl ?_
    refine bs_get C (bf_dk dd_X6_addNode 5 rfl) cl_6 in_6 0 (Nat.le_of_ble_eq_true rfl) rfl f_6_9 (ge_bW6_0 S) rfl ?_
    refine bs_aload_n C (bf_dk dd_X6_addNode 6 rfl) rfl ?_
    refine bs_get C (bf_dk dd_X6_addNode 7 rfl) cl_6 in_6 12 (Nat.le_of_ble_eq_true rfl) rfl f_6_48 (ge_bW6_0 S) rfl ?_
    refine bs_iload_n C (bf_dk dd_X6_addNode 8 rfl) rfl ?_
    obtain ⟨hi, h⟩ := h
    refine bs_iast C (bf_dk dd_X6_addNode 9 rfl) (ge_bW6_1 S) hi (ar_bW6_1 S _) ?_
    refine bs_nameS bW6 (fun S1 eS1 => ?_)
    replace h := h S1 eS1
    refine bs_aload_n C (bf_dk dd_X6_addNode 10 rfl) rfl ?_
    refine bs_get C (bf_dk dd_X6_addNode 11 rfl) cl_6 in_6 1 (Nat.le_of_ble_eq_true rfl) rfl f_6_15 (ge_bW6_0 S1) rfl ?_
    refine bs_aload_n C (bf_dk dd_X6_addNode 12 rfl) rfl ?_
    refine bs_get C (bf_dk dd_X6_addNode 13 rfl) cl_6 in_6 12 (Nat.le_of_ble_eq_true rfl) rfl f_6_48 (ge_bW6_0 S1) rfl ?_
    refine bs_iload_n C (bf_dk dd_X6_addNode 14 rfl) rfl ?_
    obtain ⟨hi, h⟩ := h
    refine bs_iast C (bf_dk dd_X6_addNode 15 rfl) (ge_bW6_2 S1) hi (ar_bW6_2 S1 _) ?_
    refine bs_nameS bW6 (fun S2 eS2 => ?_)
    replace h := h S2 eS2
    refine bs_aload_n C (bf_dk dd_X6_addNode 16 rfl) rfl ?_
    refine bs_get C (bf_dk dd_X6_addNode 17 rfl) cl_6 in_6 2 (Nat.le_of_ble_eq_true rfl) rfl f_6_18 (ge_bW6_0 S2) rfl ?_
    refine bs_aload_n C (bf_dk dd_X6_addNode 18 rfl) rfl ?_
    refine bs_get C (bf_dk dd_X6_addNode 19 rfl) cl_6 in_6 12 (Nat.le_of_ble_eq_true rfl) rfl f_6_48 (ge_bW6_0 S2) rfl ?_
    refine bs_iconst C (bf_dk dd_X6_addNode 20 rfl) (0 : Int32) (by decide) ?_
    obtain ⟨hi, h⟩ := h
    refine bs_iast C (bf_dk dd_X6_addNode 21 rfl) (ge_bW6_3 S2) hi (ar_bW6_3 S2 _) ?_
    refine bs_nameS bW6 (fun S3 eS3 => ?_)
    replace h := h S3 eS3
    refine bs_aload_n C (bf_dk dd_X6_addNode 22 rfl) rfl ?_
    refine bs_dup C (bf_dk dd_X6_addNode 23 rfl) rfl ?_
    refine bs_get C (bf_dk dd_X6_addNode 24 rfl) cl_6 in_6 12 (Nat.le_of_ble_eq_true rfl) rfl f_6_48 (ge_bW6_0 S3) rfl ?_
    refine bs_iconst C (bf_dk dd_X6_addNode 25 rfl) (1 : Int32) (by decide) ?_
    refine bs_iadd C (bf_dk dd_X6_addNode 26 rfl) ?_
    refine bs_put C (bf_dk dd_X6_addNode 27 rfl) tyX6_ok nmX6 cl_6 in_6 12 (Nat.le_of_ble_eq_true rfl) rfl f_6_48 rfl (ge_bW6_0 S3) (Nat.le_of_ble_eq_true rfl) rfl rfl (pu_bW6_0_12 S3 ((b6g_nodes S3) + (1 : Int32))) ?_
    refine bs_nameS bW6 (fun S4 eS4 => ?_)
    replace h := h S4 eS4
    exact bs_vret (u := S4) C (bf_dk dd_X6_addNode 28 rfl) rfl h
theorem c_X6_addNode (l : Launch) (dC : Nat → ClassId) (dI : Nat → Nat → Nat) (ac : Nat → ClassId) (al : Nat → Nat) (S : bT6) (a1 : Int32) (a2 : Int32) (Q : (bT6) → Prop) (h : wp_X6_addNode S a1 a2 Q) : bf_M l yX6_addNode cX6_addNode 3 none 0 0 dC dI ac al [.ref 0, .int a1, .int a2] (bW6 S) (bf_Kv dC dI ac al bW6 Q) := by
  refine bf_start [some (.ref 0), some (.int a1), some (.int a2)] (by decide) (Nat.le_of_ble_eq_true rfl) (bf_s1 (bf_s1 (bf_s1 bf_s0))) ?_
  intro X hl C hR e1 e2 e3 e4
  subst e1; subst e2; subst e3; subst e4
  exact t_X6_addNode C hR S a1 a2 Q h
def wp_X6_findNodesOf_134 (S : bT6 × bT1) (x1 : Int32) (x3 : Int32) (x4 : Int32) (Q : (bT6 × bT1) → Prop) (B5 : Int32 → Int32 → Int32 → (bT6 × bT1) → Prop) : Prop := (B5 (x1) (x3) ((x4 + (1 : Int32))) S)
set_option maxRecDepth 20000 in
theorem t_X6_findNodesOf_134 {X : bf_X} (C : bf_C X RX6 cX6_findNodesOf 8 none) (hR : bf_Rm X 2 42) (S : bT6 × bT1) (x1 : Int32) (x3 : Int32) (x4 : Int32) (Q : (bT6 × bT1) → Prop) (B5 : Int32 → Int32 → Int32 → (bT6 × bT1) → Prop) (hB5 : ∀ (x1 : Int32) (x3 : Int32) (x4 : Int32) (S : bT6 × bT1), B5 x1 x3 x4 S → bf_A X (bf_Zv X bW6_1 Q) 8 5 [some (.ref 0), some (.int x1), some (.ref 13), some (.int x3), some (.int x4), none, none, none] [] (bW6_1 S)) (h : wp_X6_findNodesOf_134 S x1 x3 x4 Q B5) : bf_A X (bf_Zv X bW6_1 Q) 8 134 [some (.ref 0), some (.int x1), some (.ref 13), some (.int x3), some (.int x4), none, none, none] [] (bW6_1 S) := by
  unfold wp_X6_findNodesOf_134 at h
  refine bs_iinc C (bf_dk dd_X6_findNodesOf 72 rfl) (x4 + (1 : Int32)) rfl rfl (Nat.le_of_ble_eq_true rfl) (Nat.le_of_ble_eq_true rfl) (lv2 := [some (.ref 0), some (.int x1), some (.ref 13), some (.int x3), some (.int (x4 + (1 : Int32))), none, none, none]) rfl ?_
  refine bs_goto C (bf_dk dd_X6_findNodesOf 73 rfl) (tgt := 5) rfl ?_
  exact bs_weak (bf_s1 (bf_s1 (bf_s1 (bf_s1 (bf_s1 (bf_sn (bf_sn (bf_sn bf_s0)))))))) (hB5 (x1) (x3) ((x4 + (1 : Int32))) S h)
def wp_X6_findNodesOf_131 (S : bT6 × bT1) (x1 : Int32) (x4 : Int32) (Q : (bT6 × bT1) → Prop) (B5 : Int32 → Int32 → Int32 → (bT6 × bT1) → Prop) : Prop := (wp_X6_findNodesOf_134 S (x1) (x4) (x4) Q B5)
set_option maxRecDepth 20000 in
theorem t_X6_findNodesOf_131 {X : bf_X} (C : bf_C X RX6 cX6_findNodesOf 8 none) (hR : bf_Rm X 2 42) (S : bT6 × bT1) (x1 : Int32) (x4 : Int32) (Q : (bT6 × bT1) → Prop) (B5 : Int32 → Int32 → Int32 → (bT6 × bT1) → Prop) (hB5 : ∀ (x1 : Int32) (x3 : Int32) (x4 : Int32) (S : bT6 × bT1), B5 x1 x3 x4 S → bf_A X (bf_Zv X bW6_1 Q) 8 5 [some (.ref 0), some (.int x1), some (.ref 13), some (.int x3), some (.int x4), none, none, none] [] (bW6_1 S)) (h : wp_X6_findNodesOf_131 S x1 x4 Q B5) : bf_A X (bf_Zv X bW6_1 Q) 8 131 [some (.ref 0), some (.int x1), some (.ref 13), none, some (.int x4), none, none, none] [] (bW6_1 S) := by
  unfold wp_X6_findNodesOf_131 at h
  refine bs_iload C (bf_dk dd_X6_findNodesOf 70 rfl) rfl ?_
  refine bs_istore_n C (bf_dk dd_X6_findNodesOf 71 rfl) rfl (Nat.le_of_ble_eq_true rfl) (Nat.le_of_ble_eq_true rfl) (lv2 := [some (.ref 0), some (.int x1), some (.ref 13), some (.int x4), some (.int x4), none, none, none]) rfl ?_
  exact bs_weak (bf_s1 (bf_s1 (bf_s1 (bf_s1 (bf_s1 (bf_sn (bf_sn (bf_sn bf_s0)))))))) (t_X6_findNodesOf_134 C hR S (x1) (x4) (x4) Q B5 hB5 h)
def wp_X6_findNodesOf_99 (S : bT6 × bT1) (x1 : Int32) (x4 : Int32) (Q : (bT6 × bT1) → Prop) (B5 : Int32 → Int32 → Int32 → (bT6 × bT1) → Prop) : Prop := (((b6g_nodes S.1) ≤ 0 → (wp_X6_findNodesOf_131 S (x1) (x4) Q B5)) ∧ (¬ (b6g_nodes S.1) ≤ 0 → (((232 : Int32) < (b6g_nodes S.1) → (wp_X6_findNodesOf_131 S (x1) (x4) Q B5)) ∧ (¬ (232 : Int32) < (b6g_nodes S.1) → (vp_in ((b6g_nodes S.1) - (1 : Int32)) 232 ∧ (∀ v1 : Int32, v1 = (((b6g_leafCounts S.1) (((b6g_nodes S.1) - (1 : Int32))).toNatClampNeg) + (1 : Int32)) → (vp_in ((b6g_nodes S.1) - (1 : Int32)) 232 ∧ (∀ S2 : bT6 × bT1, S2 = ((b6s_leafCounts S.1 (upd (b6g_leafCounts S.1) (((b6g_nodes S.1) - (1 : Int32))).toNatClampNeg v1)), S.2) → (wp_X6_findNodesOf_131 S2 (x1) (x4) Q B5)))))))))
set_option maxRecDepth 20000 in
theorem t_X6_findNodesOf_99 {X : bf_X} (C : bf_C X RX6 cX6_findNodesOf 8 none) (hR : bf_Rm X 2 42) (S : bT6 × bT1) (x1 : Int32) (x4 : Int32) (Q : (bT6 × bT1) → Prop) (B5 : Int32 → Int32 → Int32 → (bT6 × bT1) → Prop) (hB5 : ∀ (x1 : Int32) (x3 : Int32) (x4 : Int32) (S : bT6 × bT1), B5 x1 x3 x4 S → bf_A X (bf_Zv X bW6_1 Q) 8 5 [some (.ref 0), some (.int x1), some (.ref 13), some (.int x3), some (.int x4), none, none, none] [] (bW6_1 S)) (h : wp_X6_findNodesOf_99 S x1 x4 Q B5) : bf_A X (bf_Zv X bW6_1 Q) 8 99 [some (.ref 0), some (.int x1), some (.ref 13), none, some (.int x4), none, none, none] [] (bW6_1 S) := by
  unfold wp_X6_findNodesOf_99 at h
  refine bs_aload_n C (bf_dk dd_X6_findNodesOf 52 rfl) rfl ?_
  refine bs_get C (bf_dk dd_X6_findNodesOf 53 rfl) cl_6 in_6 12 (Nat.le_of_ble_eq_true rfl) rfl f_6_48 (ge_bW6_1_0 S) rfl ?_
  refine bs_if_le C (bf_dk dd_X6_findNodesOf 54 rfl) (tgt := 131) rfl (fun c => ?_) (fun c => ?_)
  · replace h := h.1 c
    exact bs_weak (bf_s1 (bf_s1 (bf_s1 (bf_sn (bf_s1 (bf_sn (bf_sn (bf_sn bf_s0)))))))) (t_X6_findNodesOf_131 C hR S (x1) (x4) Q B5 hB5 h)
  · replace h := h.2 c
    refine bs_aload_n C (bf_dk dd_X6_findNodesOf 55 rfl) rfl ?_
    refine bs_get C (bf_dk dd_X6_findNodesOf 56 rfl) cl_6 in_6 12 (Nat.le_of_ble_eq_true rfl) rfl f_6_48 (ge_bW6_1_0 S) rfl ?_
    refine bs_sipush C (bf_dk dd_X6_findNodesOf 57 rfl) (232 : Int32) (by decide) ?_
    refine bs_icmp_gt C (bf_dk dd_X6_findNodesOf 58 rfl) (tgt := 131) rfl (fun c => ?_) (fun c => ?_)
    · replace h := h.1 c
      exact bs_weak (bf_s1 (bf_s1 (bf_s1 (bf_sn (bf_s1 (bf_sn (bf_sn (bf_sn bf_s0)))))))) (t_X6_findNodesOf_131 C hR S (x1) (x4) Q B5 hB5 h)
    · replace h := h.2 c
      refine bs_aload_n C (bf_dk dd_X6_findNodesOf 59 rfl) rfl ?_
      refine bs_get C (bf_dk dd_X6_findNodesOf 60 rfl) cl_6 in_6 2 (Nat.le_of_ble_eq_true rfl) rfl f_6_18 (ge_bW6_1_0 S) rfl ?_
      refine bs_aload_n C (bf_dk dd_X6_findNodesOf 61 rfl) rfl ?_
      refine bs_get C (bf_dk dd_X6_findNodesOf 62 rfl) cl_6 in_6 12 (Nat.le_of_ble_eq_true rfl) rfl f_6_48 (ge_bW6_1_0 S) rfl ?_
      refine bs_iconst C (bf_dk dd_X6_findNodesOf 63 rfl) (1 : Int32) (by decide) ?_
      refine bs_isub C (bf_dk dd_X6_findNodesOf 64 rfl) ?_
      refine bs_dup2 C (bf_dk dd_X6_findNodesOf 65 rfl) rfl rfl ?_
      obtain ⟨hi, h⟩ := h
      refine bs_iald C (bf_dk dd_X6_findNodesOf 66 rfl) (ge_bW6_1_3 S) hi ?_
      refine bs_iconst C (bf_dk dd_X6_findNodesOf 67 rfl) (1 : Int32) (by decide) ?_
      refine bs_iadd C (bf_dk dd_X6_findNodesOf 68 rfl) ?_
      refine bs_name (fun v1 ev1 => ?_)
      replace h := h v1 ev1
      obtain ⟨hi, h⟩ := h
      refine bs_iast C (bf_dk dd_X6_findNodesOf 69 rfl) (ge_bW6_1_3 S) hi (ar_bW6_1_3 S _) ?_
      refine bs_nameS bW6_1 (fun S2 eS2 => ?_)
      replace h := h S2 eS2
      exact bs_weak (bf_s1 (bf_s1 (bf_s1 (bf_sn (bf_s1 (bf_sn (bf_sn (bf_sn bf_s0)))))))) (t_X6_findNodesOf_131 C hR S2 (x1) (x4) Q B5 hB5 h)
def wp_X6_findNodesOf_92 (S : bT6 × bT1) (x1 : Int32) (x4 : Int32) (Q : (bT6 × bT1) → Prop) (B5 : Int32 → Int32 → Int32 → (bT6 × bT1) → Prop) : Prop := (wp_X6_addNode S.1 (x1) (x4) (fun u4 => (∀ S5 : bT6 × bT1, S5 = (u4, S.2) → (wp_X6_findNodesOf_99 S5 (x1) (x4) Q B5))))
set_option maxRecDepth 20000 in
theorem t_X6_findNodesOf_92 {X : bf_X} (C : bf_C X RX6 cX6_findNodesOf 8 none) (hR : bf_Rm X 2 42) (S : bT6 × bT1) (x1 : Int32) (x4 : Int32) (Q : (bT6 × bT1) → Prop) (B5 : Int32 → Int32 → Int32 → (bT6 × bT1) → Prop) (hB5 : ∀ (x1 : Int32) (x3 : Int32) (x4 : Int32) (S : bT6 × bT1), B5 x1 x3 x4 S → bf_A X (bf_Zv X bW6_1 Q) 8 5 [some (.ref 0), some (.int x1), some (.ref 13), some (.int x3), some (.int x4), none, none, none] [] (bW6_1 S)) (h : wp_X6_findNodesOf_92 S x1 x4 Q B5) : bf_A X (bf_Zv X bW6_1 Q) 8 92 [some (.ref 0), some (.int x1), some (.ref 13), none, some (.int x4), none, none, none] [] (bW6_1 S) := by
  unfold wp_X6_findNodesOf_92 at h
  refine bs_aload_n C (bf_dk dd_X6_findNodesOf 48 rfl) rfl ?_
  refine bs_iload_n C (bf_dk dd_X6_findNodesOf 49 rfl) rfl ?_
  refine bs_iload C (bf_dk dd_X6_findNodesOf 50 rfl) rfl ?_
  refine bs_callV_v (ps := [0, 1, 2, 3, 4, 5, 6, 7, 8, 9, 10, 11, 12]) (w := (bW6_1 S)) C hR (c_X6_addNode _ _ _ _ _ S.1 (x1) (x4) _ h) my_X6_addNode m_6_124 rfl cl_6 (ge_bW6_0 _) rfl (Nat.le_of_ble_eq_true rfl) (Nat.le_of_ble_eq_true rfl) (su_bW6_1_0_bW6 S) bnd_0t12 (st := []) (Nat.le_of_ble_eq_true rfl) (bf_dk dd_X6_findNodesOf 51 rfl) rfl (fun _ => rfl) (w2 := fun u4 => bW6_1 (u4, S.2)) (pt_bW6_1_0_bW6 S) (fun u4 h => ?_)
  refine bs_nameS bW6_1 (fun S5 eS5 => ?_)
  replace h := h S5 eS5
  exact bs_weak (bf_s1 (bf_s1 (bf_s1 (bf_sn (bf_s1 (bf_sn (bf_sn (bf_sn bf_s0)))))))) (t_X6_findNodesOf_99 C hR S5 (x1) (x4) Q B5 hB5 h)
def wp_X6_findNodesOf_48 (S : bT6 × bT1) (x1 : Int32) (x3 : Int32) (x4 : Int32) (t0 : Int32) (Q : (bT6 × bT1) → Prop) (B5 : Int32 → Int32 → Int32 → (bT6 × bT1) → Prop) : Prop := ((t0 = 0 → (wp_X6_findNodesOf_134 S (x1) (x3) (x4) Q B5)) ∧ (¬ t0 = 0 → (wp_X0_bytesAt (b1g_owners S.2) (x4) (fun r6 => (wp_X0_bytesAt (b1g_owners S.2) (x3) (fun r8 => ((x3 = (-1 : Int32) → (wp_X6_findNodesOf_92 S (x1) (x4) Q B5)) ∧ (¬ x3 = (-1 : Int32) → (wp_X8_front (x1) (fun r10 => (((lg_cmp ((r6 ^^^ r8) &&& r10) (0 : Int64)) = 0 → (wp_X6_findNodesOf_99 S (x1) (x4) Q B5)) ∧ (¬ (lg_cmp ((r6 ^^^ r8) &&& r10) (0 : Int64)) = 0 → (wp_X6_findNodesOf_92 S (x1) (x4) Q B5)))))))))))))
set_option maxRecDepth 20000 in
theorem t_X6_findNodesOf_48 {X : bf_X} (C : bf_C X RX6 cX6_findNodesOf 8 none) (hR : bf_Rm X 2 42) (S : bT6 × bT1) (x1 : Int32) (x3 : Int32) (x4 : Int32) (t0 : Int32) (Q : (bT6 × bT1) → Prop) (B5 : Int32 → Int32 → Int32 → (bT6 × bT1) → Prop) (hB5 : ∀ (x1 : Int32) (x3 : Int32) (x4 : Int32) (S : bT6 × bT1), B5 x1 x3 x4 S → bf_A X (bf_Zv X bW6_1 Q) 8 5 [some (.ref 0), some (.int x1), some (.ref 13), some (.int x3), some (.int x4), none, none, none] [] (bW6_1 S)) (h : wp_X6_findNodesOf_48 S x1 x3 x4 t0 Q B5) : bf_A X (bf_Zv X bW6_1 Q) 8 48 [some (.ref 0), some (.int x1), some (.ref 13), some (.int x3), some (.int x4), none, none, none] [.int t0] (bW6_1 S) := by
  unfold wp_X6_findNodesOf_48 at h
  refine bs_istore C (bf_dk dd_X6_findNodesOf 25 rfl) (Nat.le_of_ble_eq_true rfl) (Nat.le_of_ble_eq_true rfl) (lv2 := [some (.ref 0), some (.int x1), some (.ref 13), some (.int x3), some (.int x4), some (.int t0), none, none]) rfl ?_
  refine bs_iload C (bf_dk dd_X6_findNodesOf 26 rfl) rfl ?_
  refine bs_if_eq C (bf_dk dd_X6_findNodesOf 27 rfl) (tgt := 134) rfl (fun c => ?_) (fun c => ?_)
  · replace h := h.1 c
    exact bs_weak (bf_s1 (bf_s1 (bf_s1 (bf_s1 (bf_s1 (bf_sn (bf_sn (bf_sn bf_s0)))))))) (t_X6_findNodesOf_134 C hR S (x1) (x3) (x4) Q B5 hB5 h)
  · replace h := h.2 c
    refine bs_aload_n C (bf_dk dd_X6_findNodesOf 28 rfl) rfl ?_
    refine bs_get C (bf_dk dd_X6_findNodesOf 29 rfl) cl_1 in_1 0 (Nat.le_of_ble_eq_true rfl) rfl f_6_111 (ge_bW6_1_13 S) rfl ?_
    refine bs_iload C (bf_dk dd_X6_findNodesOf 30 rfl) rfl ?_
    refine bs_pureV_l (ps := [14, 15, 16]) (w := (bW6_1 S)) C hR (c_X0_bytesAt _ _ _ _ _ (b1g_owners S.2) (x4) _ h) my_X0_bytesAt m_6_115 rfl cl_0 (ge_bW0_0 _) rfl (Nat.le_of_ble_eq_true rfl) (Nat.le_of_ble_eq_true rfl) (su_bW6_1_14_bW0 S) rfl (st := []) (Nat.le_of_ble_eq_true rfl) (bf_dk dd_X6_findNodesOf 31 rfl) rfl (fun _ => rfl) (fun r6 h => ?_)
    refine bs_aload_n C (bf_dk dd_X6_findNodesOf 32 rfl) rfl ?_
    refine bs_get C (bf_dk dd_X6_findNodesOf 33 rfl) cl_1 in_1 0 (Nat.le_of_ble_eq_true rfl) rfl f_6_111 (ge_bW6_1_13 S) rfl ?_
    refine bs_iload_n C (bf_dk dd_X6_findNodesOf 34 rfl) rfl ?_
    refine bs_pureV_l (ps := [14, 15, 16]) (w := (bW6_1 S)) C hR (c_X0_bytesAt _ _ _ _ _ (b1g_owners S.2) (x3) _ h) my_X0_bytesAt m_6_115 rfl cl_0 (ge_bW0_0 _) rfl (Nat.le_of_ble_eq_true rfl) (Nat.le_of_ble_eq_true rfl) (su_bW6_1_14_bW0 S) rfl (st := [.long r6]) (Nat.le_of_ble_eq_true rfl) (bf_dk dd_X6_findNodesOf 35 rfl) rfl (fun _ => rfl) (fun r8 h => ?_)
    refine bs_lxor C (bf_dk dd_X6_findNodesOf 36 rfl) ?_
    refine bs_lstore C (bf_dk dd_X6_findNodesOf 37 rfl) (Nat.le_of_ble_eq_true rfl) (Nat.le_of_ble_eq_true rfl) (lv2 := [some (.ref 0), some (.int x1), some (.ref 13), some (.int x3), some (.int x4), some (.int t0), some (.long (r6 ^^^ r8)), none]) rfl ?_
    refine bs_iload_n C (bf_dk dd_X6_findNodesOf 38 rfl) rfl ?_
    refine bs_iconst C (bf_dk dd_X6_findNodesOf 39 rfl) (-1 : Int32) (by decide) ?_
    refine bs_icmp_eq C (bf_dk dd_X6_findNodesOf 40 rfl) (tgt := 92) rfl (fun c => ?_) (fun c => ?_)
    · replace h := h.1 c
      exact bs_weak (bf_s1 (bf_s1 (bf_s1 (bf_sn (bf_s1 (bf_sn (bf_sn (bf_sn bf_s0)))))))) (t_X6_findNodesOf_92 C hR S (x1) (x4) Q B5 hB5 h)
    · replace h := h.2 c
      refine bs_lload C (bf_dk dd_X6_findNodesOf 41 rfl) rfl ?_
      refine bs_iload_n C (bf_dk dd_X6_findNodesOf 42 rfl) rfl ?_
      refine bs_pureSN_l (ps := []) (w := (bW6_1 S)) C hR (c_X8_front _ _ _ _ _ (x1) _ h) my_X8_front m_6_121 rfl (Nat.le_of_ble_eq_true rfl) (Nat.le_of_ble_eq_true rfl) rfl rfl (st := [.long (r6 ^^^ r8)]) (Nat.le_of_ble_eq_true rfl) (bf_dk dd_X6_findNodesOf 43 rfl) rfl (fun _ => rfl) (fun r10 h => ?_)
      refine bs_land C (bf_dk dd_X6_findNodesOf 44 rfl) ?_
      refine bs_lconst C (bf_dk dd_X6_findNodesOf 45 rfl) (0 : Int64) (by decide) ?_
      refine bs_lcmp C (bf_dk dd_X6_findNodesOf 46 rfl) ?_
      refine bs_if_eq C (bf_dk dd_X6_findNodesOf 47 rfl) (tgt := 99) rfl (fun c => ?_) (fun c => ?_)
      · replace h := h.1 c
        exact bs_weak (bf_s1 (bf_s1 (bf_s1 (bf_sn (bf_s1 (bf_sn (bf_sn (bf_sn bf_s0)))))))) (t_X6_findNodesOf_99 C hR S (x1) (x4) Q B5 hB5 h)
      · replace h := h.2 c
        exact bs_weak (bf_s1 (bf_s1 (bf_s1 (bf_sn (bf_s1 (bf_sn (bf_sn (bf_sn bf_s0)))))))) (t_X6_findNodesOf_92 C hR S (x1) (x4) Q B5 hB5 h)
def wp_X6_findNodesOf_47 (S : bT6 × bT1) (x1 : Int32) (x3 : Int32) (x4 : Int32) (Q : (bT6 × bT1) → Prop) (B5 : Int32 → Int32 → Int32 → (bT6 × bT1) → Prop) : Prop := (wp_X6_findNodesOf_48 S (x1) (x3) (x4) ((0 : Int32)) Q B5)
set_option maxRecDepth 20000 in
theorem t_X6_findNodesOf_47 {X : bf_X} (C : bf_C X RX6 cX6_findNodesOf 8 none) (hR : bf_Rm X 2 42) (S : bT6 × bT1) (x1 : Int32) (x3 : Int32) (x4 : Int32) (Q : (bT6 × bT1) → Prop) (B5 : Int32 → Int32 → Int32 → (bT6 × bT1) → Prop) (hB5 : ∀ (x1 : Int32) (x3 : Int32) (x4 : Int32) (S : bT6 × bT1), B5 x1 x3 x4 S → bf_A X (bf_Zv X bW6_1 Q) 8 5 [some (.ref 0), some (.int x1), some (.ref 13), some (.int x3), some (.int x4), none, none, none] [] (bW6_1 S)) (h : wp_X6_findNodesOf_47 S x1 x3 x4 Q B5) : bf_A X (bf_Zv X bW6_1 Q) 8 47 [some (.ref 0), some (.int x1), some (.ref 13), some (.int x3), some (.int x4), none, none, none] [] (bW6_1 S) := by
  unfold wp_X6_findNodesOf_47 at h
  refine bs_iconst C (bf_dk dd_X6_findNodesOf 24 rfl) (0 : Int32) (by decide) ?_
  exact bs_weak (bf_s1 (bf_s1 (bf_s1 (bf_s1 (bf_s1 (bf_sn (bf_sn (bf_sn bf_s0)))))))) (t_X6_findNodesOf_48 C hR S (x1) (x3) (x4) ((0 : Int32)) Q B5 hB5 h)
def wp_X6_findNodesOf_43 (S : bT6 × bT1) (x1 : Int32) (x3 : Int32) (x4 : Int32) (Q : (bT6 × bT1) → Prop) (B5 : Int32 → Int32 → Int32 → (bT6 × bT1) → Prop) : Prop := (wp_X6_findNodesOf_48 S (x1) (x3) (x4) ((1 : Int32)) Q B5)
set_option maxRecDepth 20000 in
theorem t_X6_findNodesOf_43 {X : bf_X} (C : bf_C X RX6 cX6_findNodesOf 8 none) (hR : bf_Rm X 2 42) (S : bT6 × bT1) (x1 : Int32) (x3 : Int32) (x4 : Int32) (Q : (bT6 × bT1) → Prop) (B5 : Int32 → Int32 → Int32 → (bT6 × bT1) → Prop) (hB5 : ∀ (x1 : Int32) (x3 : Int32) (x4 : Int32) (S : bT6 × bT1), B5 x1 x3 x4 S → bf_A X (bf_Zv X bW6_1 Q) 8 5 [some (.ref 0), some (.int x1), some (.ref 13), some (.int x3), some (.int x4), none, none, none] [] (bW6_1 S)) (h : wp_X6_findNodesOf_43 S x1 x3 x4 Q B5) : bf_A X (bf_Zv X bW6_1 Q) 8 43 [some (.ref 0), some (.int x1), some (.ref 13), some (.int x3), some (.int x4), none, none, none] [] (bW6_1 S) := by
  unfold wp_X6_findNodesOf_43 at h
  refine bs_iconst C (bf_dk dd_X6_findNodesOf 22 rfl) (1 : Int32) (by decide) ?_
  refine bs_goto C (bf_dk dd_X6_findNodesOf 23 rfl) (tgt := 48) rfl ?_
  exact bs_weak (bf_s1 (bf_s1 (bf_s1 (bf_s1 (bf_s1 (bf_sn (bf_sn (bf_sn bf_s0)))))))) (t_X6_findNodesOf_48 C hR S (x1) (x3) (x4) ((1 : Int32)) Q B5 hB5 h)
def wp_X6_findNodesOf_5b (S : bT6 × bT1) (x1 : Int32) (x3 : Int32) (x4 : Int32) (Q : (bT6 × bT1) → Prop) (B5 : Int32 → Int32 → Int32 → (bT6 × bT1) → Prop) : Prop := (wp_X1_count S.2 (fun r12 => ((r12 ≤ x4 → (Q S)) ∧ (¬ r12 ≤ x4 → (wp_X1_lengthAt S.2 (x4) (fun r14 => ((x1 < r14 → (wp_X6_findNodesOf_43 S (x1) (x3) (x4) Q B5)) ∧ (¬ x1 < r14 → (wp_X1_isEnded S.2 (x4) (fun r16 => ((r16 = 0 → (wp_X6_findNodesOf_47 S (x1) (x3) (x4) Q B5)) ∧ (¬ r16 = 0 → (wp_X1_lengthAt S.2 (x4) (fun r18 => ((¬ r18 = x1 → (wp_X6_findNodesOf_47 S (x1) (x3) (x4) Q B5)) ∧ (r18 = x1 → (wp_X6_findNodesOf_43 S (x1) (x3) (x4) Q B5)))))))))))))))))
set_option maxRecDepth 20000 in
theorem t_X6_findNodesOf_5b {X : bf_X} (C : bf_C X RX6 cX6_findNodesOf 8 none) (hR : bf_Rm X 2 42) (S : bT6 × bT1) (x1 : Int32) (x3 : Int32) (x4 : Int32) (Q : (bT6 × bT1) → Prop) (B5 : Int32 → Int32 → Int32 → (bT6 × bT1) → Prop) (hB5 : ∀ (x1 : Int32) (x3 : Int32) (x4 : Int32) (S : bT6 × bT1), B5 x1 x3 x4 S → bf_A X (bf_Zv X bW6_1 Q) 8 5 [some (.ref 0), some (.int x1), some (.ref 13), some (.int x3), some (.int x4), none, none, none] [] (bW6_1 S)) (h : wp_X6_findNodesOf_5b S x1 x3 x4 Q B5) : bf_A X (bf_Zv X bW6_1 Q) 8 5 [some (.ref 0), some (.int x1), some (.ref 13), some (.int x3), some (.int x4), none, none, none] [] (bW6_1 S) := by
  unfold wp_X6_findNodesOf_5b at h
  refine bs_iload C (bf_dk dd_X6_findNodesOf 4 rfl) rfl ?_
  refine bs_aload_n C (bf_dk dd_X6_findNodesOf 5 rfl) rfl ?_
  refine bs_pureV_i (ps := [13, 14, 15, 16, 17, 18, 19, 20, 21, 22, 23, 24, 25, 26]) (w := (bW6_1 S)) C hR (c_X1_count _ _ _ _ _ S.2 _ h) my_X1_count m_6_98 rfl cl_1 (ge_bW1_0 _) rfl (Nat.le_of_ble_eq_true rfl) (Nat.le_of_ble_eq_true rfl) (su_bW6_1_13_bW1 S) bnd_13t26 (st := [.int x4]) (Nat.le_of_ble_eq_true rfl) (bf_dk dd_X6_findNodesOf 6 rfl) rfl (fun _ => rfl) (fun r12 h => ?_)
  refine bs_icmp_ge C (bf_dk dd_X6_findNodesOf 7 rfl) (tgt := 140) rfl (fun c => ?_) (fun c => ?_)
  · replace h := h.1 c
    exact bs_vret (u := S) C (bf_dk dd_X6_findNodesOf 74 rfl) rfl h
  · replace h := h.2 c
    refine bs_aload_n C (bf_dk dd_X6_findNodesOf 8 rfl) rfl ?_
    refine bs_iload C (bf_dk dd_X6_findNodesOf 9 rfl) rfl ?_
    refine bs_pureV_i (ps := [13, 14, 15, 16, 17, 18, 19, 20, 21, 22, 23, 24, 25, 26]) (w := (bW6_1 S)) C hR (c_X1_lengthAt _ _ _ _ _ S.2 (x4) _ h) my_X1_lengthAt m_6_104 rfl cl_1 (ge_bW1_0 _) rfl (Nat.le_of_ble_eq_true rfl) (Nat.le_of_ble_eq_true rfl) (su_bW6_1_13_bW1 S) bnd_13t26 (st := []) (Nat.le_of_ble_eq_true rfl) (bf_dk dd_X6_findNodesOf 10 rfl) rfl (fun _ => rfl) (fun r14 h => ?_)
    refine bs_iload_n C (bf_dk dd_X6_findNodesOf 11 rfl) rfl ?_
    refine bs_icmp_gt C (bf_dk dd_X6_findNodesOf 12 rfl) (tgt := 43) rfl (fun c => ?_) (fun c => ?_)
    · replace h := h.1 c
      exact bs_weak (bf_s1 (bf_s1 (bf_s1 (bf_s1 (bf_s1 (bf_sn (bf_sn (bf_sn bf_s0)))))))) (t_X6_findNodesOf_43 C hR S (x1) (x3) (x4) Q B5 hB5 h)
    · replace h := h.2 c
      refine bs_aload_n C (bf_dk dd_X6_findNodesOf 13 rfl) rfl ?_
      refine bs_iload C (bf_dk dd_X6_findNodesOf 14 rfl) rfl ?_
      refine bs_pureV_i (ps := [13, 14, 15, 16, 17, 18, 19, 20, 21, 22, 23, 24, 25, 26]) (w := (bW6_1 S)) C hR (c_X1_isEnded _ _ _ _ _ S.2 (x4) _ h) my_X1_isEnded m_6_107 rfl cl_1 (ge_bW1_0 _) rfl (Nat.le_of_ble_eq_true rfl) (Nat.le_of_ble_eq_true rfl) (su_bW6_1_13_bW1 S) bnd_13t26 (st := []) (Nat.le_of_ble_eq_true rfl) (bf_dk dd_X6_findNodesOf 15 rfl) rfl (fun _ => rfl) (fun r16 h => ?_)
      refine bs_if_eq C (bf_dk dd_X6_findNodesOf 16 rfl) (tgt := 47) rfl (fun c => ?_) (fun c => ?_)
      · replace h := h.1 c
        exact bs_weak (bf_s1 (bf_s1 (bf_s1 (bf_s1 (bf_s1 (bf_sn (bf_sn (bf_sn bf_s0)))))))) (t_X6_findNodesOf_47 C hR S (x1) (x3) (x4) Q B5 hB5 h)
      · replace h := h.2 c
        refine bs_aload_n C (bf_dk dd_X6_findNodesOf 17 rfl) rfl ?_
        refine bs_iload C (bf_dk dd_X6_findNodesOf 18 rfl) rfl ?_
        refine bs_pureV_i (ps := [13, 14, 15, 16, 17, 18, 19, 20, 21, 22, 23, 24, 25, 26]) (w := (bW6_1 S)) C hR (c_X1_lengthAt _ _ _ _ _ S.2 (x4) _ h) my_X1_lengthAt m_6_104 rfl cl_1 (ge_bW1_0 _) rfl (Nat.le_of_ble_eq_true rfl) (Nat.le_of_ble_eq_true rfl) (su_bW6_1_13_bW1 S) bnd_13t26 (st := []) (Nat.le_of_ble_eq_true rfl) (bf_dk dd_X6_findNodesOf 19 rfl) rfl (fun _ => rfl) (fun r18 h => ?_)
        refine bs_iload_n C (bf_dk dd_X6_findNodesOf 20 rfl) rfl ?_
        refine bs_icmp_ne C (bf_dk dd_X6_findNodesOf 21 rfl) (tgt := 47) rfl (fun c => ?_) (fun c => ?_)
        · replace h := h.1 c
          exact bs_weak (bf_s1 (bf_s1 (bf_s1 (bf_s1 (bf_s1 (bf_sn (bf_sn (bf_sn bf_s0)))))))) (t_X6_findNodesOf_47 C hR S (x1) (x3) (x4) Q B5 hB5 h)
        · replace h := h.2 c
          exact bs_weak (bf_s1 (bf_s1 (bf_s1 (bf_s1 (bf_s1 (bf_sn (bf_sn (bf_sn bf_s0)))))))) (t_X6_findNodesOf_43 C hR S (x1) (x3) (x4) Q B5 hB5 h)
def wp_X6_findNodesOf_5 (S : bT6 × bT1) (x1 : Int32) (x3 : Int32) (x4 : Int32) (Q : (bT6 × bT1) → Prop) : Prop := ∃ I : Nat → Int32 → Int32 → Int32 → (bT6 × bT1) → Prop, (∃ n : Nat, I n x1 x3 x4 S) ∧ ∀ (n : Nat) (x1 : Int32) (x3 : Int32) (x4 : Int32) (S : bT6 × bT1), I n x1 x3 x4 S → wp_X6_findNodesOf_5b S x1 x3 x4 Q (fun x1 x3 x4 S => ∃ n2 : Nat, n2 < n ∧ I n2 x1 x3 x4 S)
theorem t_X6_findNodesOf_5 {X : bf_X} (C : bf_C X RX6 cX6_findNodesOf 8 none) (hR : bf_Rm X 2 42) (S : bT6 × bT1) (x1 : Int32) (x3 : Int32) (x4 : Int32) (Q : (bT6 × bT1) → Prop) (h : wp_X6_findNodesOf_5 S x1 x3 x4 Q) : bf_A X (bf_Zv X bW6_1 Q) 8 5 [some (.ref 0), some (.int x1), some (.ref 13), some (.int x3), some (.int x4), none, none, none] [] (bW6_1 S) := by
  obtain ⟨I, ⟨n0, h0⟩, hI⟩ := h
  have key : ∀ (n : Nat) (x1 : Int32) (x3 : Int32) (x4 : Int32) (S : bT6 × bT1), I n x1 x3 x4 S → bf_A X (bf_Zv X bW6_1 Q) 8 5 [some (.ref 0), some (.int x1), some (.ref 13), some (.int x3), some (.int x4), none, none, none] [] (bW6_1 S) := by
    intro n
    induction n using Nat.strongRecOn with
    | _ n ih =>
      intro x1 x3 x4 S hi
      exact t_X6_findNodesOf_5b C hR S x1 x3 x4 Q _ (fun x1 x3 x4 S hb => by obtain ⟨n2, hn, hi2⟩ := hb; exact ih n2 hn x1 x3 x4 S hi2) (hI n x1 x3 x4 S hi)
  exact key n0 x1 x3 x4 S h0
def wp_X6_findNodesOf (S : bT6 × bT1) (a1 : Int32) (Q : (bT6 × bT1) → Prop) : Prop := (wp_X6_findNodesOf_5 S (a1) ((-1 : Int32)) ((0 : Int32)) Q)
set_option maxRecDepth 20000 in
theorem t_X6_findNodesOf {X : bf_X} (C : bf_C X RX6 cX6_findNodesOf 8 none) (hR : bf_Rm X 2 42) (S : bT6 × bT1) (a1 : Int32) (Q : (bT6 × bT1) → Prop) (h : wp_X6_findNodesOf S a1 Q) : bf_A X (bf_Zv X bW6_1 Q) 8 0 [some (.ref 0), some (.int a1), some (.ref 13), none, none, none, none, none] [] (bW6_1 S) := by
  unfold wp_X6_findNodesOf at h
  refine bs_iconst C (bf_dk dd_X6_findNodesOf 0 rfl) (-1 : Int32) (by decide) ?_
  refine bs_istore_n C (bf_dk dd_X6_findNodesOf 1 rfl) rfl (Nat.le_of_ble_eq_true rfl) (Nat.le_of_ble_eq_true rfl) (lv2 := [some (.ref 0), some (.int a1), some (.ref 13), some (.int (-1 : Int32)), none, none, none, none]) rfl ?_
  refine bs_iconst C (bf_dk dd_X6_findNodesOf 2 rfl) (0 : Int32) (by decide) ?_
  refine bs_istore C (bf_dk dd_X6_findNodesOf 3 rfl) (Nat.le_of_ble_eq_true rfl) (Nat.le_of_ble_eq_true rfl) (lv2 := [some (.ref 0), some (.int a1), some (.ref 13), some (.int (-1 : Int32)), some (.int (0 : Int32)), none, none, none]) rfl ?_
  exact bs_weak (bf_s1 (bf_s1 (bf_s1 (bf_s1 (bf_s1 (bf_sn (bf_sn (bf_sn bf_s0)))))))) (t_X6_findNodesOf_5 C hR S (a1) ((-1 : Int32)) ((0 : Int32)) Q h)
theorem c_X6_findNodesOf (l : Launch) (dC : Nat → ClassId) (dI : Nat → Nat → Nat) (ac : Nat → ClassId) (al : Nat → Nat) (S : bT6 × bT1) (a1 : Int32) (Q : (bT6 × bT1) → Prop) (h : wp_X6_findNodesOf S a1 Q) : bf_M l yX6_findNodesOf cX6_findNodesOf 8 none 2 42 dC dI ac al [.ref 0, .int a1, .ref 13] (bW6_1 S) (bf_Kv dC dI ac al bW6_1 Q) := by
  refine bf_start [some (.ref 0), some (.int a1), some (.ref 13), none, none, none, none, none] (by decide) (Nat.le_of_ble_eq_true rfl) (bf_s1 (bf_s1 (bf_s1 (bf_en 5)))) ?_
  intro X hl C hR e1 e2 e3 e4
  subst e1; subst e2; subst e3; subst e4
  exact t_X6_findNodesOf C hR S a1 Q h
def wp_X6_findNodes_54 (S : bT6 × bT1) (x2 : Int32) (Q : (bT6 × bT1) → Prop) (B12 : Int32 → (bT6 × bT1) → Prop) : Prop := (B12 ((x2 + (1 : Int32))) S)
set_option maxRecDepth 20000 in
theorem t_X6_findNodes_54 {X : bf_X} (C : bf_C X RX6 cX6_findNodes 3 none) (hR : bf_Rm X 3 69) (S : bT6 × bT1) (x2 : Int32) (Q : (bT6 × bT1) → Prop) (B12 : Int32 → (bT6 × bT1) → Prop) (hB12 : ∀ (x2 : Int32) (S : bT6 × bT1), B12 x2 S → bf_A X (bf_Zv X bW6_1 Q) 3 12 [some (.ref 0), some (.ref 13), some (.int x2)] [] (bW6_1 S)) (h : wp_X6_findNodes_54 S x2 Q B12) : bf_A X (bf_Zv X bW6_1 Q) 3 54 [some (.ref 0), some (.ref 13), some (.int x2)] [] (bW6_1 S) := by
  unfold wp_X6_findNodes_54 at h
  refine bs_iinc C (bf_dk dd_X6_findNodes 33 rfl) (x2 + (1 : Int32)) rfl rfl (Nat.le_of_ble_eq_true rfl) (Nat.le_of_ble_eq_true rfl) (lv2 := [some (.ref 0), some (.ref 13), some (.int (x2 + (1 : Int32)))]) rfl ?_
  refine bs_goto C (bf_dk dd_X6_findNodes 34 rfl) (tgt := 12) rfl ?_
  exact bs_weak (bf_s1 (bf_s1 (bf_s1 bf_s0))) (hB12 ((x2 + (1 : Int32))) S h)
def wp_X6_findNodes_12b (S : bT6 × bT1) (x2 : Int32) (Q : (bT6 × bT1) → Prop) (B12 : Int32 → (bT6 × bT1) → Prop) : Prop := (((8 : Int32) ≤ x2 → (vp_in (8 : Int32) 9 ∧ (∀ S1 : bT6 × bT1, S1 = ((b6s_levelStarts S.1 (upd (b6g_levelStarts S.1) ((8 : Int32)).toNatClampNeg (b6g_nodes S.1))), S.2) → (Q S1)))) ∧ (¬ (8 : Int32) ≤ x2 → (vp_in x2 9 ∧ (∀ S2 : bT6 × bT1, S2 = ((b6s_levelStarts S.1 (upd (b6g_levelStarts S.1) (x2).toNatClampNeg (b6g_nodes S.1))), S.2) → (wp_X6_findNodesOf S2 (x2) (fun u4 => (vp_in x2 9 ∧ (((b6g_nodes u4.1) ≤ ((b6g_levelStarts u4.1) (x2).toNatClampNeg) → (wp_X6_findNodes_54 u4 (x2) Q B12)) ∧ (¬ (b6g_nodes u4.1) ≤ ((b6g_levelStarts u4.1) (x2).toNatClampNeg) → (∀ S5 : bT6 × bT1, S5 = ((b6s_levels u4.1 (x2 + (1 : Int32))), u4.2) → (wp_X6_findNodes_54 S5 (x2) Q B12)))))))))))
set_option maxRecDepth 20000 in
theorem t_X6_findNodes_12b {X : bf_X} (C : bf_C X RX6 cX6_findNodes 3 none) (hR : bf_Rm X 3 69) (S : bT6 × bT1) (x2 : Int32) (Q : (bT6 × bT1) → Prop) (B12 : Int32 → (bT6 × bT1) → Prop) (hB12 : ∀ (x2 : Int32) (S : bT6 × bT1), B12 x2 S → bf_A X (bf_Zv X bW6_1 Q) 3 12 [some (.ref 0), some (.ref 13), some (.int x2)] [] (bW6_1 S)) (h : wp_X6_findNodes_12b S x2 Q B12) : bf_A X (bf_Zv X bW6_1 Q) 3 12 [some (.ref 0), some (.ref 13), some (.int x2)] [] (bW6_1 S) := by
  unfold wp_X6_findNodes_12b at h
  refine bs_iload_n C (bf_dk dd_X6_findNodes 8 rfl) rfl ?_
  refine bs_bipush C (bf_dk dd_X6_findNodes 9 rfl) (8 : Int32) (by decide) ?_
  refine bs_icmp_ge C (bf_dk dd_X6_findNodes 10 rfl) (tgt := 60) rfl (fun c => ?_) (fun c => ?_)
  · replace h := h.1 c
    refine bs_aload_n C (bf_dk dd_X6_findNodes 35 rfl) rfl ?_
    refine bs_get C (bf_dk dd_X6_findNodes 36 rfl) cl_6 in_6 8 (Nat.le_of_ble_eq_true rfl) rfl f_6_36 (ge_bW6_1_0 S) rfl ?_
    refine bs_bipush C (bf_dk dd_X6_findNodes 37 rfl) (8 : Int32) (by decide) ?_
    refine bs_aload_n C (bf_dk dd_X6_findNodes 38 rfl) rfl ?_
    refine bs_get C (bf_dk dd_X6_findNodes 39 rfl) cl_6 in_6 12 (Nat.le_of_ble_eq_true rfl) rfl f_6_48 (ge_bW6_1_0 S) rfl ?_
    obtain ⟨hi, h⟩ := h
    refine bs_iast C (bf_dk dd_X6_findNodes 40 rfl) (ge_bW6_1_9 S) hi (ar_bW6_1_9 S _) ?_
    refine bs_nameS bW6_1 (fun S1 eS1 => ?_)
    replace h := h S1 eS1
    exact bs_vret (u := S1) C (bf_dk dd_X6_findNodes 41 rfl) rfl h
  · replace h := h.2 c
    refine bs_aload_n C (bf_dk dd_X6_findNodes 11 rfl) rfl ?_
    refine bs_get C (bf_dk dd_X6_findNodes 12 rfl) cl_6 in_6 8 (Nat.le_of_ble_eq_true rfl) rfl f_6_36 (ge_bW6_1_0 S) rfl ?_
    refine bs_iload_n C (bf_dk dd_X6_findNodes 13 rfl) rfl ?_
    refine bs_aload_n C (bf_dk dd_X6_findNodes 14 rfl) rfl ?_
    refine bs_get C (bf_dk dd_X6_findNodes 15 rfl) cl_6 in_6 12 (Nat.le_of_ble_eq_true rfl) rfl f_6_48 (ge_bW6_1_0 S) rfl ?_
    obtain ⟨hi, h⟩ := h
    refine bs_iast C (bf_dk dd_X6_findNodes 16 rfl) (ge_bW6_1_9 S) hi (ar_bW6_1_9 S _) ?_
    refine bs_nameS bW6_1 (fun S2 eS2 => ?_)
    replace h := h S2 eS2
    refine bs_aload_n C (bf_dk dd_X6_findNodes 17 rfl) rfl ?_
    refine bs_iload_n C (bf_dk dd_X6_findNodes 18 rfl) rfl ?_
    refine bs_aload_n C (bf_dk dd_X6_findNodes 19 rfl) rfl ?_
    refine bs_selfV_v C hR (c_X6_findNodesOf _ _ _ _ _ S2 (x2) _ h) my_X6_findNodesOf m_6_94 rfl cl_6 (ge_bW6_1_0 _) rfl (Nat.le_of_ble_eq_true rfl) (Nat.le_of_ble_eq_true rfl) (st := []) (Nat.le_of_ble_eq_true rfl) (bf_dk dd_X6_findNodes 20 rfl) rfl (len := 27) (fun _ => rfl) (fun u4 h => ?_)
    refine bs_aload_n C (bf_dk dd_X6_findNodes 21 rfl) rfl ?_
    refine bs_get C (bf_dk dd_X6_findNodes 22 rfl) cl_6 in_6 12 (Nat.le_of_ble_eq_true rfl) rfl f_6_48 (ge_bW6_1_0 u4) rfl ?_
    refine bs_aload_n C (bf_dk dd_X6_findNodes 23 rfl) rfl ?_
    refine bs_get C (bf_dk dd_X6_findNodes 24 rfl) cl_6 in_6 8 (Nat.le_of_ble_eq_true rfl) rfl f_6_36 (ge_bW6_1_0 u4) rfl ?_
    refine bs_iload_n C (bf_dk dd_X6_findNodes 25 rfl) rfl ?_
    obtain ⟨hi, h⟩ := h
    refine bs_iald C (bf_dk dd_X6_findNodes 26 rfl) (ge_bW6_1_9 u4) hi ?_
    refine bs_icmp_le C (bf_dk dd_X6_findNodes 27 rfl) (tgt := 54) rfl (fun c => ?_) (fun c => ?_)
    · replace h := h.1 c
      exact bs_weak (bf_s1 (bf_s1 (bf_s1 bf_s0))) (t_X6_findNodes_54 C hR u4 (x2) Q B12 hB12 h)
    · replace h := h.2 c
      refine bs_aload_n C (bf_dk dd_X6_findNodes 28 rfl) rfl ?_
      refine bs_iload_n C (bf_dk dd_X6_findNodes 29 rfl) rfl ?_
      refine bs_iconst C (bf_dk dd_X6_findNodes 30 rfl) (1 : Int32) (by decide) ?_
      refine bs_iadd C (bf_dk dd_X6_findNodes 31 rfl) ?_
      refine bs_put C (bf_dk dd_X6_findNodes 32 rfl) tyX6_ok nmX6 cl_6 in_6 15 (Nat.le_of_ble_eq_true rfl) rfl f_6_58 rfl (ge_bW6_1_0 u4) (Nat.le_of_ble_eq_true rfl) rfl rfl (pu_bW6_1_0_15 u4 (x2 + (1 : Int32))) ?_
      refine bs_nameS bW6_1 (fun S5 eS5 => ?_)
      replace h := h S5 eS5
      exact bs_weak (bf_s1 (bf_s1 (bf_s1 bf_s0))) (t_X6_findNodes_54 C hR S5 (x2) Q B12 hB12 h)
def wp_X6_findNodes_12 (S : bT6 × bT1) (x2 : Int32) (Q : (bT6 × bT1) → Prop) : Prop := ∃ I : Nat → Int32 → (bT6 × bT1) → Prop, (∃ n : Nat, I n x2 S) ∧ ∀ (n : Nat) (x2 : Int32) (S : bT6 × bT1), I n x2 S → wp_X6_findNodes_12b S x2 Q (fun x2 S => ∃ n2 : Nat, n2 < n ∧ I n2 x2 S)
theorem t_X6_findNodes_12 {X : bf_X} (C : bf_C X RX6 cX6_findNodes 3 none) (hR : bf_Rm X 3 69) (S : bT6 × bT1) (x2 : Int32) (Q : (bT6 × bT1) → Prop) (h : wp_X6_findNodes_12 S x2 Q) : bf_A X (bf_Zv X bW6_1 Q) 3 12 [some (.ref 0), some (.ref 13), some (.int x2)] [] (bW6_1 S) := by
  obtain ⟨I, ⟨n0, h0⟩, hI⟩ := h
  have key : ∀ (n : Nat) (x2 : Int32) (S : bT6 × bT1), I n x2 S → bf_A X (bf_Zv X bW6_1 Q) 3 12 [some (.ref 0), some (.ref 13), some (.int x2)] [] (bW6_1 S) := by
    intro n
    induction n using Nat.strongRecOn with
    | _ n ih =>
      intro x2 S hi
      exact t_X6_findNodes_12b C hR S x2 Q _ (fun x2 S hb => by obtain ⟨n2, hn, hi2⟩ := hb; exact ih n2 hn x2 S hi2) (hI n x2 S hi)
  exact key n0 x2 S h0
def wp_X6_findNodes (S : bT6 × bT1) (Q : (bT6 × bT1) → Prop) : Prop := (∀ S6 : bT6 × bT1, S6 = ((b6s_nodes S.1 (0 : Int32)), S.2) → (∀ S7 : bT6 × bT1, S7 = ((b6s_levels S6.1 (0 : Int32)), S6.2) → (wp_X6_findNodes_12 S7 ((0 : Int32)) Q)))
set_option maxRecDepth 20000 in
theorem t_X6_findNodes {X : bf_X} (C : bf_C X RX6 cX6_findNodes 3 none) (hR : bf_Rm X 3 69) (S : bT6 × bT1) (Q : (bT6 × bT1) → Prop) (h : wp_X6_findNodes S Q) : bf_A X (bf_Zv X bW6_1 Q) 3 0 [some (.ref 0), some (.ref 13), none] [] (bW6_1 S) := by
  unfold wp_X6_findNodes at h
  refine bs_aload_n C (bf_dk dd_X6_findNodes 0 rfl) rfl ?_
  refine bs_iconst C (bf_dk dd_X6_findNodes 1 rfl) (0 : Int32) (by decide) ?_
  refine bs_put C (bf_dk dd_X6_findNodes 2 rfl) tyX6_ok nmX6 cl_6 in_6 12 (Nat.le_of_ble_eq_true rfl) rfl f_6_48 rfl (ge_bW6_1_0 S) (Nat.le_of_ble_eq_true rfl) rfl rfl (pu_bW6_1_0_12 S (0 : Int32)) ?_
  refine bs_nameS bW6_1 (fun S6 eS6 => ?_)
  replace h := h S6 eS6
  refine bs_aload_n C (bf_dk dd_X6_findNodes 3 rfl) rfl ?_
  refine bs_iconst C (bf_dk dd_X6_findNodes 4 rfl) (0 : Int32) (by decide) ?_
  refine bs_put C (bf_dk dd_X6_findNodes 5 rfl) tyX6_ok nmX6 cl_6 in_6 15 (Nat.le_of_ble_eq_true rfl) rfl f_6_58 rfl (ge_bW6_1_0 S6) (Nat.le_of_ble_eq_true rfl) rfl rfl (pu_bW6_1_0_15 S6 (0 : Int32)) ?_
  refine bs_nameS bW6_1 (fun S7 eS7 => ?_)
  replace h := h S7 eS7
  refine bs_iconst C (bf_dk dd_X6_findNodes 6 rfl) (0 : Int32) (by decide) ?_
  refine bs_istore_n C (bf_dk dd_X6_findNodes 7 rfl) rfl (Nat.le_of_ble_eq_true rfl) (Nat.le_of_ble_eq_true rfl) (lv2 := [some (.ref 0), some (.ref 13), some (.int (0 : Int32))]) rfl ?_
  exact bs_weak (bf_s1 (bf_s1 (bf_s1 bf_s0))) (t_X6_findNodes_12 C hR S7 ((0 : Int32)) Q h)
theorem c_X6_findNodes (l : Launch) (dC : Nat → ClassId) (dI : Nat → Nat → Nat) (ac : Nat → ClassId) (al : Nat → Nat) (S : bT6 × bT1) (Q : (bT6 × bT1) → Prop) (h : wp_X6_findNodes S Q) : bf_M l yX6_findNodes cX6_findNodes 3 none 3 69 dC dI ac al [.ref 0, .ref 13] (bW6_1 S) (bf_Kv dC dI ac al bW6_1 Q) := by
  refine bf_start [some (.ref 0), some (.ref 13), none] (by decide) (Nat.le_of_ble_eq_true rfl) (bf_s1 (bf_s1 (bf_en 1))) ?_
  intro X hl C hR e1 e2 e3 e4
  subst e1; subst e2; subst e3; subst e4
  exact t_X6_findNodes C hR S Q h
def wp_X6_findPlaces_68 (S : bT6) (x1 : Int32) (x2 : Int32) (Q : (bT6) → Prop) (B4 : Int32 → Int32 → (bT6) → Prop) : Prop := (B4 (x1) ((x2 + (1 : Int32))) S)
set_option maxRecDepth 20000 in
theorem t_X6_findPlaces_68 {X : bf_X} (C : bf_C X RX6 cX6_findPlaces 4 none) (hR : bf_Rm X 1 21) (S : bT6) (x1 : Int32) (x2 : Int32) (Q : (bT6) → Prop) (B4 : Int32 → Int32 → (bT6) → Prop) (hB4 : ∀ (x1 : Int32) (x2 : Int32) (S : bT6), B4 x1 x2 S → bf_A X (bf_Zv X bW6 Q) 4 4 [some (.ref 0), some (.int x1), some (.int x2), none] [] (bW6 S)) (h : wp_X6_findPlaces_68 S x1 x2 Q B4) : bf_A X (bf_Zv X bW6 Q) 4 68 [some (.ref 0), some (.int x1), some (.int x2), none] [] (bW6 S) := by
  unfold wp_X6_findPlaces_68 at h
  refine bs_iinc C (bf_dk dd_X6_findPlaces 40 rfl) (x2 + (1 : Int32)) rfl rfl (Nat.le_of_ble_eq_true rfl) (Nat.le_of_ble_eq_true rfl) (lv2 := [some (.ref 0), some (.int x1), some (.int (x2 + (1 : Int32))), none]) rfl ?_
  refine bs_goto C (bf_dk dd_X6_findPlaces 41 rfl) (tgt := 4) rfl ?_
  exact bs_weak (bf_s1 (bf_s1 (bf_s1 (bf_sn bf_s0)))) (hB4 (x1) ((x2 + (1 : Int32))) S h)
def wp_X6_findPlaces_4b (S : bT6) (x1 : Int32) (x2 : Int32) (Q : (bT6) → Prop) (B4 : Int32 → Int32 → (bT6) → Prop) : Prop := (((b6g_edges S) ≤ x2 → (Q S)) ∧ (¬ (b6g_edges S) ≤ x2 → (wp_X8_at 296 (b6g_edgeLeaves S) (x2) (fun r1 => ((r1 < 0 → (wp_X6_findPlaces_68 S (x1) (x2) Q B4)) ∧ (¬ r1 < 0 → (((64 : Int32) ≤ r1 → (wp_X6_findPlaces_68 S (x1) (x2) Q B4)) ∧ (¬ (64 : Int32) ≤ r1 → (((64 : Int32) ≤ x1 → (wp_X6_findPlaces_68 S (x1) (x2) Q B4)) ∧ (¬ (64 : Int32) ≤ x1 → (vp_in r1 64 ∧ (∀ S3 : bT6, S3 = (b6s_places S (upd (b6g_places S) (r1).toNatClampNeg x1)) → (vp_in x1 64 ∧ (∀ S4 : bT6, S4 = (b6s_leavesByPlace S3 (upd (b6g_leavesByPlace S3) (x1).toNatClampNeg r1)) → (wp_X8_at 296 (b6g_edgeNodes S4) (x2) (fun r5 => (vp_in r1 64 ∧ (∀ S7 : bT6, S7 = (b6s_leafNodes S4 (upd (b6g_leafNodes S4) (r1).toNatClampNeg r5)) → (wp_X6_findPlaces_68 S7 ((x1 + (1 : Int32))) (x2) Q B4)))))))))))))))))))
set_option maxRecDepth 20000 in
theorem t_X6_findPlaces_4b {X : bf_X} (C : bf_C X RX6 cX6_findPlaces 4 none) (hR : bf_Rm X 1 21) (S : bT6) (x1 : Int32) (x2 : Int32) (Q : (bT6) → Prop) (B4 : Int32 → Int32 → (bT6) → Prop) (hB4 : ∀ (x1 : Int32) (x2 : Int32) (S : bT6), B4 x1 x2 S → bf_A X (bf_Zv X bW6 Q) 4 4 [some (.ref 0), some (.int x1), some (.int x2), none] [] (bW6 S)) (h : wp_X6_findPlaces_4b S x1 x2 Q B4) : bf_A X (bf_Zv X bW6 Q) 4 4 [some (.ref 0), some (.int x1), some (.int x2), none] [] (bW6 S) := by
  unfold wp_X6_findPlaces_4b at h
  refine bs_iload_n C (bf_dk dd_X6_findPlaces 4 rfl) rfl ?_
  refine bs_aload_n C (bf_dk dd_X6_findPlaces 5 rfl) rfl ?_
  refine bs_get C (bf_dk dd_X6_findPlaces 6 rfl) cl_6 in_6 13 (Nat.le_of_ble_eq_true rfl) rfl f_6_52 (ge_bW6_0 S) rfl ?_
  refine bs_icmp_ge C (bf_dk dd_X6_findPlaces 7 rfl) (tgt := 74) rfl (fun c => ?_) (fun c => ?_)
  · replace h := h.1 c
    exact bs_vret (u := S) C (bf_dk dd_X6_findPlaces 42 rfl) rfl h
  · replace h := h.2 c
    refine bs_aload_n C (bf_dk dd_X6_findPlaces 8 rfl) rfl ?_
    refine bs_get C (bf_dk dd_X6_findPlaces 9 rfl) cl_6 in_6 6 (Nat.le_of_ble_eq_true rfl) rfl f_6_30 (ge_bW6_0 S) rfl ?_
    refine bs_iload_n C (bf_dk dd_X6_findPlaces 10 rfl) rfl ?_
    refine bs_pureSN_i (ps := [7]) (w := (bW6 S)) C hR (c_X8_at _ _ _ _ _ 296 (b6g_edgeLeaves S) (x2) _ h) my_X8_at m_6_90 rfl (Nat.le_of_ble_eq_true rfl) (Nat.le_of_ble_eq_true rfl) (su_bW6_7_bWan296 S) rfl (st := []) (Nat.le_of_ble_eq_true rfl) (bf_dk dd_X6_findPlaces 11 rfl) rfl (fun _ => rfl) (fun r1 h => ?_)
    refine bs_istore_n C (bf_dk dd_X6_findPlaces 12 rfl) rfl (Nat.le_of_ble_eq_true rfl) (Nat.le_of_ble_eq_true rfl) (lv2 := [some (.ref 0), some (.int x1), some (.int x2), some (.int r1)]) rfl ?_
    refine bs_iload_n C (bf_dk dd_X6_findPlaces 13 rfl) rfl ?_
    refine bs_if_lt C (bf_dk dd_X6_findPlaces 14 rfl) (tgt := 68) rfl (fun c => ?_) (fun c => ?_)
    · replace h := h.1 c
      exact bs_weak (bf_s1 (bf_s1 (bf_s1 (bf_sn bf_s0)))) (t_X6_findPlaces_68 C hR S (x1) (x2) Q B4 hB4 h)
    · replace h := h.2 c
      refine bs_iload_n C (bf_dk dd_X6_findPlaces 15 rfl) rfl ?_
      refine bs_bipush C (bf_dk dd_X6_findPlaces 16 rfl) (64 : Int32) (by decide) ?_
      refine bs_icmp_ge C (bf_dk dd_X6_findPlaces 17 rfl) (tgt := 68) rfl (fun c => ?_) (fun c => ?_)
      · replace h := h.1 c
        exact bs_weak (bf_s1 (bf_s1 (bf_s1 (bf_sn bf_s0)))) (t_X6_findPlaces_68 C hR S (x1) (x2) Q B4 hB4 h)
      · replace h := h.2 c
        refine bs_iload_n C (bf_dk dd_X6_findPlaces 18 rfl) rfl ?_
        refine bs_bipush C (bf_dk dd_X6_findPlaces 19 rfl) (64 : Int32) (by decide) ?_
        refine bs_icmp_ge C (bf_dk dd_X6_findPlaces 20 rfl) (tgt := 68) rfl (fun c => ?_) (fun c => ?_)
        · replace h := h.1 c
          exact bs_weak (bf_s1 (bf_s1 (bf_s1 (bf_sn bf_s0)))) (t_X6_findPlaces_68 C hR S (x1) (x2) Q B4 hB4 h)
        · replace h := h.2 c
          refine bs_aload_n C (bf_dk dd_X6_findPlaces 21 rfl) rfl ?_
          refine bs_get C (bf_dk dd_X6_findPlaces 22 rfl) cl_6 in_6 9 (Nat.le_of_ble_eq_true rfl) rfl f_6_39 (ge_bW6_0 S) rfl ?_
          refine bs_iload_n C (bf_dk dd_X6_findPlaces 23 rfl) rfl ?_
          refine bs_iload_n C (bf_dk dd_X6_findPlaces 24 rfl) rfl ?_
          obtain ⟨hi, h⟩ := h
          refine bs_iast C (bf_dk dd_X6_findPlaces 25 rfl) (ge_bW6_10 S) hi (ar_bW6_10 S _) ?_
          refine bs_nameS bW6 (fun S3 eS3 => ?_)
          replace h := h S3 eS3
          refine bs_aload_n C (bf_dk dd_X6_findPlaces 26 rfl) rfl ?_
          refine bs_get C (bf_dk dd_X6_findPlaces 27 rfl) cl_6 in_6 10 (Nat.le_of_ble_eq_true rfl) rfl f_6_42 (ge_bW6_0 S3) rfl ?_
          refine bs_iload_n C (bf_dk dd_X6_findPlaces 28 rfl) rfl ?_
          refine bs_iload_n C (bf_dk dd_X6_findPlaces 29 rfl) rfl ?_
          obtain ⟨hi, h⟩ := h
          refine bs_iast C (bf_dk dd_X6_findPlaces 30 rfl) (ge_bW6_11 S3) hi (ar_bW6_11 S3 _) ?_
          refine bs_nameS bW6 (fun S4 eS4 => ?_)
          replace h := h S4 eS4
          refine bs_aload_n C (bf_dk dd_X6_findPlaces 31 rfl) rfl ?_
          refine bs_get C (bf_dk dd_X6_findPlaces 32 rfl) cl_6 in_6 11 (Nat.le_of_ble_eq_true rfl) rfl f_6_45 (ge_bW6_0 S4) rfl ?_
          refine bs_iload_n C (bf_dk dd_X6_findPlaces 33 rfl) rfl ?_
          refine bs_aload_n C (bf_dk dd_X6_findPlaces 34 rfl) rfl ?_
          refine bs_get C (bf_dk dd_X6_findPlaces 35 rfl) cl_6 in_6 4 (Nat.le_of_ble_eq_true rfl) rfl f_6_24 (ge_bW6_0 S4) rfl ?_
          refine bs_iload_n C (bf_dk dd_X6_findPlaces 36 rfl) rfl ?_
          refine bs_pureSN_i (ps := [5]) (w := (bW6 S4)) C hR (c_X8_at _ _ _ _ _ 296 (b6g_edgeNodes S4) (x2) _ h) my_X8_at m_6_90 rfl (Nat.le_of_ble_eq_true rfl) (Nat.le_of_ble_eq_true rfl) (su_bW6_5_bWan296 S4) rfl (st := [.int r1, .ref 12]) (Nat.le_of_ble_eq_true rfl) (bf_dk dd_X6_findPlaces 37 rfl) rfl (fun _ => rfl) (fun r5 h => ?_)
          obtain ⟨hi, h⟩ := h
          refine bs_iast C (bf_dk dd_X6_findPlaces 38 rfl) (ge_bW6_12 S4) hi (ar_bW6_12 S4 _) ?_
          refine bs_nameS bW6 (fun S7 eS7 => ?_)
          replace h := h S7 eS7
          refine bs_iinc C (bf_dk dd_X6_findPlaces 39 rfl) (x1 + (1 : Int32)) rfl rfl (Nat.le_of_ble_eq_true rfl) (Nat.le_of_ble_eq_true rfl) (lv2 := [some (.ref 0), some (.int (x1 + (1 : Int32))), some (.int x2), some (.int r1)]) rfl ?_
          exact bs_weak (bf_s1 (bf_s1 (bf_s1 (bf_sn bf_s0)))) (t_X6_findPlaces_68 C hR S7 ((x1 + (1 : Int32))) (x2) Q B4 hB4 h)
def wp_X6_findPlaces_4 (S : bT6) (x1 : Int32) (x2 : Int32) (Q : (bT6) → Prop) : Prop := ∃ I : Nat → Int32 → Int32 → (bT6) → Prop, (∃ n : Nat, I n x1 x2 S) ∧ ∀ (n : Nat) (x1 : Int32) (x2 : Int32) (S : bT6), I n x1 x2 S → wp_X6_findPlaces_4b S x1 x2 Q (fun x1 x2 S => ∃ n2 : Nat, n2 < n ∧ I n2 x1 x2 S)
theorem t_X6_findPlaces_4 {X : bf_X} (C : bf_C X RX6 cX6_findPlaces 4 none) (hR : bf_Rm X 1 21) (S : bT6) (x1 : Int32) (x2 : Int32) (Q : (bT6) → Prop) (h : wp_X6_findPlaces_4 S x1 x2 Q) : bf_A X (bf_Zv X bW6 Q) 4 4 [some (.ref 0), some (.int x1), some (.int x2), none] [] (bW6 S) := by
  obtain ⟨I, ⟨n0, h0⟩, hI⟩ := h
  have key : ∀ (n : Nat) (x1 : Int32) (x2 : Int32) (S : bT6), I n x1 x2 S → bf_A X (bf_Zv X bW6 Q) 4 4 [some (.ref 0), some (.int x1), some (.int x2), none] [] (bW6 S) := by
    intro n
    induction n using Nat.strongRecOn with
    | _ n ih =>
      intro x1 x2 S hi
      exact t_X6_findPlaces_4b C hR S x1 x2 Q _ (fun x1 x2 S hb => by obtain ⟨n2, hn, hi2⟩ := hb; exact ih n2 hn x1 x2 S hi2) (hI n x1 x2 S hi)
  exact key n0 x1 x2 S h0
def wp_X6_findPlaces (S : bT6) (Q : (bT6) → Prop) : Prop := (wp_X6_findPlaces_4 S ((0 : Int32)) ((0 : Int32)) Q)
set_option maxRecDepth 20000 in
theorem t_X6_findPlaces {X : bf_X} (C : bf_C X RX6 cX6_findPlaces 4 none) (hR : bf_Rm X 1 21) (S : bT6) (Q : (bT6) → Prop) (h : wp_X6_findPlaces S Q) : bf_A X (bf_Zv X bW6 Q) 4 0 [some (.ref 0), none, none, none] [] (bW6 S) := by
  unfold wp_X6_findPlaces at h
  refine bs_iconst C (bf_dk dd_X6_findPlaces 0 rfl) (0 : Int32) (by decide) ?_
  refine bs_istore_n C (bf_dk dd_X6_findPlaces 1 rfl) rfl (Nat.le_of_ble_eq_true rfl) (Nat.le_of_ble_eq_true rfl) (lv2 := [some (.ref 0), some (.int (0 : Int32)), none, none]) rfl ?_
  refine bs_iconst C (bf_dk dd_X6_findPlaces 2 rfl) (0 : Int32) (by decide) ?_
  refine bs_istore_n C (bf_dk dd_X6_findPlaces 3 rfl) rfl (Nat.le_of_ble_eq_true rfl) (Nat.le_of_ble_eq_true rfl) (lv2 := [some (.ref 0), some (.int (0 : Int32)), some (.int (0 : Int32)), none]) rfl ?_
  exact bs_weak (bf_s1 (bf_s1 (bf_s1 (bf_sn bf_s0)))) (t_X6_findPlaces_4 C hR S ((0 : Int32)) ((0 : Int32)) Q h)
theorem c_X6_findPlaces (l : Launch) (dC : Nat → ClassId) (dI : Nat → Nat → Nat) (ac : Nat → ClassId) (al : Nat → Nat) (S : bT6) (Q : (bT6) → Prop) (h : wp_X6_findPlaces S Q) : bf_M l yX6_findPlaces cX6_findPlaces 4 none 1 21 dC dI ac al [.ref 0] (bW6 S) (bf_Kv dC dI ac al bW6 Q) := by
  refine bf_start [some (.ref 0), none, none, none] (by decide) (Nat.le_of_ble_eq_true rfl) (bf_s1 (bf_en 3)) ?_
  intro X hl C hR e1 e2 e3 e4
  subst e1; subst e2; subst e3; subst e4
  exact t_X6_findPlaces C hR S Q h
def wp_X6_edgesAmong (S : bT6) (a1 : Int32) (a2 : Int32) (Q : Int32 → Prop) : Prop := (wp_X8_at 233 (b6g_edgeStarts S) (a2) (fun r1 => (wp_X8_at 233 (b6g_edgeStarts S) (a1) (fun r3 => (Q (r1 - r3))))))
set_option maxRecDepth 20000 in
theorem t_X6_edgesAmong {X : bf_X} (C : bf_C X RX6 cX6_edgesAmong 3 (some .int)) (hR : bf_Rm X 1 21) (S : bT6) (a1 : Int32) (a2 : Int32) (Q : Int32 → Prop) (h : wp_X6_edgesAmong S a1 a2 Q) : bf_A X (bf_Zi X bW6 (fun r u => u = S ∧ Q r)) 3 0 [some (.ref 0), some (.int a1), some (.int a2)] [] (bW6 S) := by
  unfold wp_X6_edgesAmong at h
  refine bs_aload_n C (bf_dk dd_X6_edgesAmong 0 rfl) rfl ?_
  refine bs_get C (bf_dk dd_X6_edgesAmong 1 rfl) cl_6 in_6 3 (Nat.le_of_ble_eq_true rfl) rfl f_6_21 (ge_bW6_0 S) rfl ?_
  refine bs_iload_n C (bf_dk dd_X6_edgesAmong 2 rfl) rfl ?_
  refine bs_pureSN_i (ps := [4]) (w := (bW6 S)) C hR (c_X8_at _ _ _ _ _ 233 (b6g_edgeStarts S) (a2) _ h) my_X8_at m_6_90 rfl (Nat.le_of_ble_eq_true rfl) (Nat.le_of_ble_eq_true rfl) (su_bW6_4_bWan233 S) rfl (st := []) (Nat.le_of_ble_eq_true rfl) (bf_dk dd_X6_edgesAmong 3 rfl) rfl (fun _ => rfl) (fun r1 h => ?_)
  refine bs_aload_n C (bf_dk dd_X6_edgesAmong 4 rfl) rfl ?_
  refine bs_get C (bf_dk dd_X6_edgesAmong 5 rfl) cl_6 in_6 3 (Nat.le_of_ble_eq_true rfl) rfl f_6_21 (ge_bW6_0 S) rfl ?_
  refine bs_iload_n C (bf_dk dd_X6_edgesAmong 6 rfl) rfl ?_
  refine bs_pureSN_i (ps := [4]) (w := (bW6 S)) C hR (c_X8_at _ _ _ _ _ 233 (b6g_edgeStarts S) (a1) _ h) my_X8_at m_6_90 rfl (Nat.le_of_ble_eq_true rfl) (Nat.le_of_ble_eq_true rfl) (su_bW6_4_bWan233 S) rfl (st := [.int r1]) (Nat.le_of_ble_eq_true rfl) (bf_dk dd_X6_edgesAmong 7 rfl) rfl (fun _ => rfl) (fun r3 h => ?_)
  refine bs_isub C (bf_dk dd_X6_edgesAmong 8 rfl) ?_
  exact bs_iret (u := S) C (bf_dk dd_X6_edgesAmong 9 rfl) rfl ⟨rfl, h⟩
theorem c_X6_edgesAmong (l : Launch) (dC : Nat → ClassId) (dI : Nat → Nat → Nat) (ac : Nat → ClassId) (al : Nat → Nat) (S : bT6) (a1 : Int32) (a2 : Int32) (Q : Int32 → Prop) (h : wp_X6_edgesAmong S a1 a2 Q) : bf_M l yX6_edgesAmong cX6_edgesAmong 3 (some .int) 1 21 dC dI ac al [.ref 0, .int a1, .int a2] (bW6 S) (bf_Ki dC dI ac al bW6 (fun r u => u = S ∧ Q r)) := by
  refine bf_start [some (.ref 0), some (.int a1), some (.int a2)] (by decide) (Nat.le_of_ble_eq_true rfl) (bf_s1 (bf_s1 (bf_s1 bf_s0))) ?_
  intro X hl C hR e1 e2 e3 e4
  subst e1; subst e2; subst e3; subst e4
  exact t_X6_edgesAmong C hR S a1 a2 Q h
def wp_X6_bitsBy (S : bT6) (a1 : Int32) (Q : Int32 → Prop) : Prop := (wp_X8_at 9 (b6g_levelStarts S) (a1) (fun r1 => (wp_X6_edgesAmong S (r1) ((b6g_nodes S)) (fun r3 => (Q (((513 : Int32) * r1) + ((11 : Int32) * r3)))))))
set_option maxRecDepth 20000 in
theorem t_X6_bitsBy {X : bf_X} (C : bf_C X RX6 cX6_bitsBy 3 (some .int)) (hR : bf_Rm X 2 43) (S : bT6) (a1 : Int32) (Q : Int32 → Prop) (h : wp_X6_bitsBy S a1 Q) : bf_A X (bf_Zi X bW6 (fun r u => u = S ∧ Q r)) 3 0 [some (.ref 0), some (.int a1), none] [] (bW6 S) := by
  unfold wp_X6_bitsBy at h
  refine bs_aload_n C (bf_dk dd_X6_bitsBy 0 rfl) rfl ?_
  refine bs_get C (bf_dk dd_X6_bitsBy 1 rfl) cl_6 in_6 8 (Nat.le_of_ble_eq_true rfl) rfl f_6_36 (ge_bW6_0 S) rfl ?_
  refine bs_iload_n C (bf_dk dd_X6_bitsBy 2 rfl) rfl ?_
  refine bs_pureSN_i (ps := [9]) (w := (bW6 S)) C hR (c_X8_at _ _ _ _ _ 9 (b6g_levelStarts S) (a1) _ h) my_X8_at m_6_90 rfl (Nat.le_of_ble_eq_true rfl) (Nat.le_of_ble_eq_true rfl) (su_bW6_9_bWan9 S) rfl (st := []) (Nat.le_of_ble_eq_true rfl) (bf_dk dd_X6_bitsBy 3 rfl) rfl (fun _ => rfl) (fun r1 h => ?_)
  refine bs_istore_n C (bf_dk dd_X6_bitsBy 4 rfl) rfl (Nat.le_of_ble_eq_true rfl) (Nat.le_of_ble_eq_true rfl) (lv2 := [some (.ref 0), some (.int a1), some (.int r1)]) rfl ?_
  refine bs_sipush C (bf_dk dd_X6_bitsBy 5 rfl) (513 : Int32) (by decide) ?_
  refine bs_iload_n C (bf_dk dd_X6_bitsBy 6 rfl) rfl ?_
  refine bs_imul C (bf_dk dd_X6_bitsBy 7 rfl) ?_
  refine bs_bipush C (bf_dk dd_X6_bitsBy 8 rfl) (11 : Int32) (by decide) ?_
  refine bs_aload_n C (bf_dk dd_X6_bitsBy 9 rfl) rfl ?_
  refine bs_iload_n C (bf_dk dd_X6_bitsBy 10 rfl) rfl ?_
  refine bs_aload_n C (bf_dk dd_X6_bitsBy 11 rfl) rfl ?_
  refine bs_get C (bf_dk dd_X6_bitsBy 12 rfl) cl_6 in_6 12 (Nat.le_of_ble_eq_true rfl) rfl f_6_48 (ge_bW6_0 S) rfl ?_
  refine bs_selfPV_i C hR (c_X6_edgesAmong _ _ _ _ _ S (r1) ((b6g_nodes S)) _ h) my_X6_edgesAmong m_6_142 rfl cl_6 (ge_bW6_0 _) rfl (Nat.le_of_ble_eq_true rfl) (Nat.le_of_ble_eq_true rfl) (st := [.int (11 : Int32), .int ((513 : Int32) * r1)]) (Nat.le_of_ble_eq_true rfl) (bf_dk dd_X6_bitsBy 13 rfl) rfl (fun r3 h => ?_)
  refine bs_imul C (bf_dk dd_X6_bitsBy 14 rfl) ?_
  refine bs_iadd C (bf_dk dd_X6_bitsBy 15 rfl) ?_
  exact bs_iret (u := S) C (bf_dk dd_X6_bitsBy 16 rfl) rfl ⟨rfl, h⟩
theorem c_X6_bitsBy (l : Launch) (dC : Nat → ClassId) (dI : Nat → Nat → Nat) (ac : Nat → ClassId) (al : Nat → Nat) (S : bT6) (a1 : Int32) (Q : Int32 → Prop) (h : wp_X6_bitsBy S a1 Q) : bf_M l yX6_bitsBy cX6_bitsBy 3 (some .int) 2 43 dC dI ac al [.ref 0, .int a1] (bW6 S) (bf_Ki dC dI ac al bW6 (fun r u => u = S ∧ Q r)) := by
  refine bf_start [some (.ref 0), some (.int a1), none] (by decide) (Nat.le_of_ble_eq_true rfl) (bf_s1 (bf_s1 (bf_en 1))) ?_
  intro X hl C hR e1 e2 e3 e4
  subst e1; subst e2; subst e3; subst e4
  exact t_X6_bitsBy C hR S a1 Q h
def wp_X6_upperBy_43 (S : bT6) (x1 : Int32) (x2 : Int32) (x3 : Int32) (Q : Int32 → Prop) (B4 : Int32 → Int32 → Int32 → Prop) : Prop := (B4 (x1) (x2) ((x3 + (1 : Int32))))
set_option maxRecDepth 20000 in
theorem t_X6_upperBy_43 {X : bf_X} (C : bf_C X RX6 cX6_upperBy 5 (some .int)) (hR : bf_Rm X 3 65) (S : bT6) (x1 : Int32) (x2 : Int32) (x3 : Int32) (Q : Int32 → Prop) (B4 : Int32 → Int32 → Int32 → Prop) (hB4 : ∀ (x1 : Int32) (x2 : Int32) (x3 : Int32), B4 x1 x2 x3 → bf_A X (bf_Zi X bW6 (fun r u => u = S ∧ Q r)) 5 4 [some (.ref 0), some (.int x1), some (.int x2), some (.int x3), none] [] (bW6 S)) (h : wp_X6_upperBy_43 S x1 x2 x3 Q B4) : bf_A X (bf_Zi X bW6 (fun r u => u = S ∧ Q r)) 5 43 [some (.ref 0), some (.int x1), some (.int x2), some (.int x3), none] [] (bW6 S) := by
  unfold wp_X6_upperBy_43 at h
  refine bs_iinc C (bf_dk dd_X6_upperBy 26 rfl) (x3 + (1 : Int32)) rfl rfl (Nat.le_of_ble_eq_true rfl) (Nat.le_of_ble_eq_true rfl) (lv2 := [some (.ref 0), some (.int x1), some (.int x2), some (.int (x3 + (1 : Int32))), none]) rfl ?_
  refine bs_goto C (bf_dk dd_X6_upperBy 27 rfl) (tgt := 4) rfl ?_
  exact bs_weak (bf_s1 (bf_s1 (bf_s1 (bf_s1 (bf_sn bf_s0))))) (hB4 (x1) (x2) ((x3 + (1 : Int32))) h)
def wp_X6_upperBy_4b (S : bT6) (x1 : Int32) (x2 : Int32) (x3 : Int32) (Q : Int32 → Prop) (B4 : Int32 → Int32 → Int32 → Prop) : Prop := (((b6g_levels S) < x3 → (Q x2)) ∧ (¬ (b6g_levels S) < x3 → (wp_X8_at 9 (b6g_levelStarts S) (x3) (fun r1 => (∀ v3 : Int32, v3 = ((513 : Int32) * r1) → (wp_X6_bitsBy S (x3) (fun r4 => (((r4 - v3) < (x1 * v3) → (wp_X6_upperBy_43 S (x1) (x2) (x3) Q B4)) ∧ (¬ (r4 - v3) < (x1 * v3) → (wp_X6_upperBy_43 S (x1) (x3) (x3) Q B4))))))))))
set_option maxRecDepth 20000 in
theorem t_X6_upperBy_4b {X : bf_X} (C : bf_C X RX6 cX6_upperBy 5 (some .int)) (hR : bf_Rm X 3 65) (S : bT6) (x1 : Int32) (x2 : Int32) (x3 : Int32) (Q : Int32 → Prop) (B4 : Int32 → Int32 → Int32 → Prop) (hB4 : ∀ (x1 : Int32) (x2 : Int32) (x3 : Int32), B4 x1 x2 x3 → bf_A X (bf_Zi X bW6 (fun r u => u = S ∧ Q r)) 5 4 [some (.ref 0), some (.int x1), some (.int x2), some (.int x3), none] [] (bW6 S)) (h : wp_X6_upperBy_4b S x1 x2 x3 Q B4) : bf_A X (bf_Zi X bW6 (fun r u => u = S ∧ Q r)) 5 4 [some (.ref 0), some (.int x1), some (.int x2), some (.int x3), none] [] (bW6 S) := by
  unfold wp_X6_upperBy_4b at h
  refine bs_iload_n C (bf_dk dd_X6_upperBy 4 rfl) rfl ?_
  refine bs_aload_n C (bf_dk dd_X6_upperBy 5 rfl) rfl ?_
  refine bs_get C (bf_dk dd_X6_upperBy 6 rfl) cl_6 in_6 15 (Nat.le_of_ble_eq_true rfl) rfl f_6_58 (ge_bW6_0 S) rfl ?_
  refine bs_icmp_gt C (bf_dk dd_X6_upperBy 7 rfl) (tgt := 49) rfl (fun c => ?_) (fun c => ?_)
  · replace h := h.1 c
    refine bs_iload_n C (bf_dk dd_X6_upperBy 28 rfl) rfl ?_
    exact bs_iret (u := S) C (bf_dk dd_X6_upperBy 29 rfl) rfl ⟨rfl, h⟩
  · replace h := h.2 c
    refine bs_sipush C (bf_dk dd_X6_upperBy 8 rfl) (513 : Int32) (by decide) ?_
    refine bs_aload_n C (bf_dk dd_X6_upperBy 9 rfl) rfl ?_
    refine bs_get C (bf_dk dd_X6_upperBy 10 rfl) cl_6 in_6 8 (Nat.le_of_ble_eq_true rfl) rfl f_6_36 (ge_bW6_0 S) rfl ?_
    refine bs_iload_n C (bf_dk dd_X6_upperBy 11 rfl) rfl ?_
    refine bs_pureSN_i (ps := [9]) (w := (bW6 S)) C hR (c_X8_at _ _ _ _ _ 9 (b6g_levelStarts S) (x3) _ h) my_X8_at m_6_90 rfl (Nat.le_of_ble_eq_true rfl) (Nat.le_of_ble_eq_true rfl) (su_bW6_9_bWan9 S) rfl (st := [.int (513 : Int32)]) (Nat.le_of_ble_eq_true rfl) (bf_dk dd_X6_upperBy 12 rfl) rfl (fun _ => rfl) (fun r1 h => ?_)
    refine bs_imul C (bf_dk dd_X6_upperBy 13 rfl) ?_
    refine bs_name (fun v3 ev3 => ?_)
    replace h := h v3 ev3
    refine bs_istore C (bf_dk dd_X6_upperBy 14 rfl) (Nat.le_of_ble_eq_true rfl) (Nat.le_of_ble_eq_true rfl) (lv2 := [some (.ref 0), some (.int x1), some (.int x2), some (.int x3), some (.int v3)]) rfl ?_
    refine bs_iload_n C (bf_dk dd_X6_upperBy 15 rfl) rfl ?_
    refine bs_iload C (bf_dk dd_X6_upperBy 16 rfl) rfl ?_
    refine bs_imul C (bf_dk dd_X6_upperBy 17 rfl) ?_
    refine bs_aload_n C (bf_dk dd_X6_upperBy 18 rfl) rfl ?_
    refine bs_iload_n C (bf_dk dd_X6_upperBy 19 rfl) rfl ?_
    refine bs_selfPV_i C hR (c_X6_bitsBy _ _ _ _ _ S (x3) _ h) my_X6_bitsBy m_6_139 rfl cl_6 (ge_bW6_0 _) rfl (Nat.le_of_ble_eq_true rfl) (Nat.le_of_ble_eq_true rfl) (st := [.int (x1 * v3)]) (Nat.le_of_ble_eq_true rfl) (bf_dk dd_X6_upperBy 20 rfl) rfl (fun r4 h => ?_)
    refine bs_iload C (bf_dk dd_X6_upperBy 21 rfl) rfl ?_
    refine bs_isub C (bf_dk dd_X6_upperBy 22 rfl) ?_
    refine bs_icmp_gt C (bf_dk dd_X6_upperBy 23 rfl) (tgt := 43) rfl (fun c => ?_) (fun c => ?_)
    · replace h := h.1 c
      exact bs_weak (bf_s1 (bf_s1 (bf_s1 (bf_s1 (bf_sn bf_s0))))) (t_X6_upperBy_43 C hR S (x1) (x2) (x3) Q B4 hB4 h)
    · replace h := h.2 c
      refine bs_iload_n C (bf_dk dd_X6_upperBy 24 rfl) rfl ?_
      refine bs_istore_n C (bf_dk dd_X6_upperBy 25 rfl) rfl (Nat.le_of_ble_eq_true rfl) (Nat.le_of_ble_eq_true rfl) (lv2 := [some (.ref 0), some (.int x1), some (.int x3), some (.int x3), some (.int v3)]) rfl ?_
      exact bs_weak (bf_s1 (bf_s1 (bf_s1 (bf_s1 (bf_sn bf_s0))))) (t_X6_upperBy_43 C hR S (x1) (x3) (x3) Q B4 hB4 h)
def wp_X6_upperBy_4 (S : bT6) (x1 : Int32) (x2 : Int32) (x3 : Int32) (Q : Int32 → Prop) : Prop := ∃ I : Nat → Int32 → Int32 → Int32 → Prop, (∃ n : Nat, I n x1 x2 x3) ∧ ∀ (n : Nat) (x1 : Int32) (x2 : Int32) (x3 : Int32), I n x1 x2 x3 → wp_X6_upperBy_4b S x1 x2 x3 Q (fun x1 x2 x3 => ∃ n2 : Nat, n2 < n ∧ I n2 x1 x2 x3)
theorem t_X6_upperBy_4 {X : bf_X} (C : bf_C X RX6 cX6_upperBy 5 (some .int)) (hR : bf_Rm X 3 65) (S : bT6) (x1 : Int32) (x2 : Int32) (x3 : Int32) (Q : Int32 → Prop) (h : wp_X6_upperBy_4 S x1 x2 x3 Q) : bf_A X (bf_Zi X bW6 (fun r u => u = S ∧ Q r)) 5 4 [some (.ref 0), some (.int x1), some (.int x2), some (.int x3), none] [] (bW6 S) := by
  obtain ⟨I, ⟨n0, h0⟩, hI⟩ := h
  have key : ∀ (n : Nat) (x1 : Int32) (x2 : Int32) (x3 : Int32), I n x1 x2 x3 → bf_A X (bf_Zi X bW6 (fun r u => u = S ∧ Q r)) 5 4 [some (.ref 0), some (.int x1), some (.int x2), some (.int x3), none] [] (bW6 S) := by
    intro n
    induction n using Nat.strongRecOn with
    | _ n ih =>
      intro x1 x2 x3 hi
      exact t_X6_upperBy_4b C hR S x1 x2 x3 Q _ (fun x1 x2 x3 hb => by obtain ⟨n2, hn, hi2⟩ := hb; exact ih n2 hn x1 x2 x3 hi2) (hI n x1 x2 x3 hi)
  exact key n0 x1 x2 x3 h0
def wp_X6_upperBy (S : bT6) (a1 : Int32) (Q : Int32 → Prop) : Prop := (wp_X6_upperBy_4 S (a1) ((0 : Int32)) ((1 : Int32)) Q)
set_option maxRecDepth 20000 in
theorem t_X6_upperBy {X : bf_X} (C : bf_C X RX6 cX6_upperBy 5 (some .int)) (hR : bf_Rm X 3 65) (S : bT6) (a1 : Int32) (Q : Int32 → Prop) (h : wp_X6_upperBy S a1 Q) : bf_A X (bf_Zi X bW6 (fun r u => u = S ∧ Q r)) 5 0 [some (.ref 0), some (.int a1), none, none, none] [] (bW6 S) := by
  unfold wp_X6_upperBy at h
  refine bs_iconst C (bf_dk dd_X6_upperBy 0 rfl) (0 : Int32) (by decide) ?_
  refine bs_istore_n C (bf_dk dd_X6_upperBy 1 rfl) rfl (Nat.le_of_ble_eq_true rfl) (Nat.le_of_ble_eq_true rfl) (lv2 := [some (.ref 0), some (.int a1), some (.int (0 : Int32)), none, none]) rfl ?_
  refine bs_iconst C (bf_dk dd_X6_upperBy 2 rfl) (1 : Int32) (by decide) ?_
  refine bs_istore_n C (bf_dk dd_X6_upperBy 3 rfl) rfl (Nat.le_of_ble_eq_true rfl) (Nat.le_of_ble_eq_true rfl) (lv2 := [some (.ref 0), some (.int a1), some (.int (0 : Int32)), some (.int (1 : Int32)), none]) rfl ?_
  exact bs_weak (bf_s1 (bf_s1 (bf_s1 (bf_s1 (bf_sn bf_s0))))) (t_X6_upperBy_4 C hR S (a1) ((0 : Int32)) ((1 : Int32)) Q h)
theorem c_X6_upperBy (l : Launch) (dC : Nat → ClassId) (dI : Nat → Nat → Nat) (ac : Nat → ClassId) (al : Nat → Nat) (S : bT6) (a1 : Int32) (Q : Int32 → Prop) (h : wp_X6_upperBy S a1 Q) : bf_M l yX6_upperBy cX6_upperBy 5 (some .int) 3 65 dC dI ac al [.ref 0, .int a1] (bW6 S) (bf_Ki dC dI ac al bW6 (fun r u => u = S ∧ Q r)) := by
  refine bf_start [some (.ref 0), some (.int a1), none, none, none] (by decide) (Nat.le_of_ble_eq_true rfl) (bf_s1 (bf_s1 (bf_en 3))) ?_
  intro X hl C hR e1 e2 e3 e4
  subst e1; subst e2; subst e3; subst e4
  exact t_X6_upperBy C hR S a1 Q h
def wp_X6_make_37 (S : bT6 × bT1) (t1 : Int32) (Q : (bT6 × bT1) → Prop) : Prop := (∀ S1 : bT6 × bT1, S1 = ((b6s_upper S.1 t1), S.2) → (wp_X8_at 9 (b6g_levelStarts S1.1) ((b6g_upper S1.1)) (fun r2 => (∀ S4 : bT6 × bT1, S4 = ((b6s_upperNodes S1.1 r2), S1.2) → (wp_X8_at 233 (b6g_edgeStarts S4.1) ((b6g_upperNodes S4.1)) (fun r5 => (∀ S7 : bT6 × bT1, S7 = ((b6s_itemStart S4.1 r5), S4.2) → (Q S7))))))))
set_option maxRecDepth 20000 in
theorem t_X6_make_37 {X : bf_X} (C : bf_C X RX6 cX6_make 4 none) (hR : bf_Rm X 4 93) (S : bT6 × bT1) (t1 : Int32) (Q : (bT6 × bT1) → Prop) (h : wp_X6_make_37 S t1 Q) : bf_A X (bf_Zv X bW6_1 Q) 4 37 [some (.ref 0), none, none, none] [.int t1, .ref 0] (bW6_1 S) := by
  unfold wp_X6_make_37 at h
  refine bs_put C (bf_dk dd_X6_make 20 rfl) tyX6_ok nmX6 cl_6 in_6 16 (Nat.le_of_ble_eq_true rfl) rfl f_6_61 rfl (ge_bW6_1_0 S) (Nat.le_of_ble_eq_true rfl) rfl rfl (pu_bW6_1_0_16 S t1) ?_
  refine bs_nameS bW6_1 (fun S1 eS1 => ?_)
  replace h := h S1 eS1
  refine bs_aload_n C (bf_dk dd_X6_make 21 rfl) rfl ?_
  refine bs_aload_n C (bf_dk dd_X6_make 22 rfl) rfl ?_
  refine bs_get C (bf_dk dd_X6_make 23 rfl) cl_6 in_6 8 (Nat.le_of_ble_eq_true rfl) rfl f_6_36 (ge_bW6_1_0 S1) rfl ?_
  refine bs_aload_n C (bf_dk dd_X6_make 24 rfl) rfl ?_
  refine bs_get C (bf_dk dd_X6_make 25 rfl) cl_6 in_6 16 (Nat.le_of_ble_eq_true rfl) rfl f_6_61 (ge_bW6_1_0 S1) rfl ?_
  refine bs_pureSN_i (ps := [9]) (w := (bW6_1 S1)) C hR (c_X8_at _ _ _ _ _ 9 (b6g_levelStarts S1.1) ((b6g_upper S1.1)) _ h) my_X8_at m_6_90 rfl (Nat.le_of_ble_eq_true rfl) (Nat.le_of_ble_eq_true rfl) (su_bW6_1_9_bWan9 S1) rfl (st := [.ref 0]) (Nat.le_of_ble_eq_true rfl) (bf_dk dd_X6_make 26 rfl) rfl (fun _ => rfl) (fun r2 h => ?_)
  refine bs_put C (bf_dk dd_X6_make 27 rfl) tyX6_ok nmX6 cl_6 in_6 17 (Nat.le_of_ble_eq_true rfl) rfl f_6_64 rfl (ge_bW6_1_0 S1) (Nat.le_of_ble_eq_true rfl) rfl rfl (pu_bW6_1_0_17 S1 r2) ?_
  refine bs_nameS bW6_1 (fun S4 eS4 => ?_)
  replace h := h S4 eS4
  refine bs_aload_n C (bf_dk dd_X6_make 28 rfl) rfl ?_
  refine bs_aload_n C (bf_dk dd_X6_make 29 rfl) rfl ?_
  refine bs_get C (bf_dk dd_X6_make 30 rfl) cl_6 in_6 3 (Nat.le_of_ble_eq_true rfl) rfl f_6_21 (ge_bW6_1_0 S4) rfl ?_
  refine bs_aload_n C (bf_dk dd_X6_make 31 rfl) rfl ?_
  refine bs_get C (bf_dk dd_X6_make 32 rfl) cl_6 in_6 17 (Nat.le_of_ble_eq_true rfl) rfl f_6_64 (ge_bW6_1_0 S4) rfl ?_
  refine bs_pureSN_i (ps := [4]) (w := (bW6_1 S4)) C hR (c_X8_at _ _ _ _ _ 233 (b6g_edgeStarts S4.1) ((b6g_upperNodes S4.1)) _ h) my_X8_at m_6_90 rfl (Nat.le_of_ble_eq_true rfl) (Nat.le_of_ble_eq_true rfl) (su_bW6_1_4_bWan233 S4) rfl (st := [.ref 0]) (Nat.le_of_ble_eq_true rfl) (bf_dk dd_X6_make 33 rfl) rfl (fun _ => rfl) (fun r5 h => ?_)
  refine bs_put C (bf_dk dd_X6_make 34 rfl) tyX6_ok nmX6 cl_6 in_6 18 (Nat.le_of_ble_eq_true rfl) rfl f_6_67 rfl (ge_bW6_1_0 S4) (Nat.le_of_ble_eq_true rfl) rfl rfl (pu_bW6_1_0_18 S4 r5) ?_
  refine bs_nameS bW6_1 (fun S7 eS7 => ?_)
  replace h := h S7 eS7
  exact bs_vret (u := S7) C (bf_dk dd_X6_make 35 rfl) rfl h
def wp_X6_make (S : bT6 × bT1) (a2 : Int32) (a3 : Int32) (Q : (bT6 × bT1) → Prop) : Prop := (wp_X6_findNodes S (fun u9 => (wp_X6_findEdges u9 (fun u11 => (wp_X6_findPlaces u11.1 (fun u13 => (∀ S14 : bT6 × bT1, S14 = (u13, u11.2) → ((¬ a2 = (9 : Int32) → (wp_X6_make_37 S14 ((if (b6g_levels S14.1) < a2 then (b6g_levels S14.1) else a2)) Q)) ∧ (a2 = (9 : Int32) → (wp_X6_upperBy S14.1 (a3) (fun r15 => (wp_X6_make_37 S14 (r15) Q))))))))))))
set_option maxRecDepth 20000 in
theorem t_X6_make {X : bf_X} (C : bf_C X RX6 cX6_make 4 none) (hR : bf_Rm X 4 93) (S : bT6 × bT1) (a2 : Int32) (a3 : Int32) (Q : (bT6 × bT1) → Prop) (h : wp_X6_make S a2 a3 Q) : bf_A X (bf_Zv X bW6_1 Q) 4 0 [some (.ref 0), some (.ref 13), some (.int a2), some (.int a3)] [] (bW6_1 S) := by
  unfold wp_X6_make at h
  refine bs_aload_n C (bf_dk dd_X6_make 0 rfl) rfl ?_
  refine bs_aload_n C (bf_dk dd_X6_make 1 rfl) rfl ?_
  refine bs_selfV_v C hR (c_X6_findNodes _ _ _ _ _ S _ h) my_X6_findNodes m_6_70 rfl cl_6 (ge_bW6_1_0 _) rfl (Nat.le_of_ble_eq_true rfl) (Nat.le_of_ble_eq_true rfl) (st := []) (Nat.le_of_ble_eq_true rfl) (bf_dk dd_X6_make 2 rfl) rfl (len := 27) (fun _ => rfl) (fun u9 h => ?_)
  refine bs_aload_n C (bf_dk dd_X6_make 3 rfl) rfl ?_
  refine bs_aload_n C (bf_dk dd_X6_make 4 rfl) rfl ?_
  refine bs_selfV_v C hR (c_X6_findEdges _ _ _ _ _ u9 _ h) my_X6_findEdges m_6_74 rfl cl_6 (ge_bW6_1_0 _) rfl (Nat.le_of_ble_eq_true rfl) (Nat.le_of_ble_eq_true rfl) (st := []) (Nat.le_of_ble_eq_true rfl) (bf_dk dd_X6_make 5 rfl) rfl (len := 27) (fun _ => rfl) (fun u11 h => ?_)
  refine bs_aload_n C (bf_dk dd_X6_make 6 rfl) rfl ?_
  refine bs_callV_v (ps := [0, 1, 2, 3, 4, 5, 6, 7, 8, 9, 10, 11, 12]) (w := (bW6_1 u11)) C hR (c_X6_findPlaces _ _ _ _ _ u11.1 _ h) my_X6_findPlaces m_6_77 rfl cl_6 (ge_bW6_0 _) rfl (Nat.le_of_ble_eq_true rfl) (Nat.le_of_ble_eq_true rfl) (su_bW6_1_0_bW6 u11) bnd_0t12 (st := []) (Nat.le_of_ble_eq_true rfl) (bf_dk dd_X6_make 7 rfl) rfl (fun _ => rfl) (w2 := fun u13 => bW6_1 (u13, u11.2)) (pt_bW6_1_0_bW6 u11) (fun u13 h => ?_)
  refine bs_nameS bW6_1 (fun S14 eS14 => ?_)
  replace h := h S14 eS14
  refine bs_aload_n C (bf_dk dd_X6_make 8 rfl) rfl ?_
  refine bs_iload_n C (bf_dk dd_X6_make 9 rfl) rfl ?_
  refine bs_bipush C (bf_dk dd_X6_make 10 rfl) (9 : Int32) (by decide) ?_
  refine bs_icmp_ne C (bf_dk dd_X6_make 11 rfl) (tgt := 29) rfl (fun c => ?_) (fun c => ?_)
  · replace h := h.1 c
    refine bs_iload_n C (bf_dk dd_X6_make 16 rfl) rfl ?_
    refine bs_aload_n C (bf_dk dd_X6_make 17 rfl) rfl ?_
    refine bs_get C (bf_dk dd_X6_make 18 rfl) cl_6 in_6 15 (Nat.le_of_ble_eq_true rfl) rfl f_6_58 (ge_bW6_1_0 S14) rfl ?_
    refine bs_mmin C hR m_6_84 ma_min.1 ma_min.2.1 ma_min.2.2 (Nat.le_of_ble_eq_true rfl) (Nat.le_of_ble_eq_true rfl) (bf_dk dd_X6_make 19 rfl) ?_
    exact bs_weak (bf_s1 (bf_sn (bf_sn (bf_sn bf_s0)))) (t_X6_make_37 C hR S14 ((if (b6g_levels S14.1) < a2 then (b6g_levels S14.1) else a2)) Q h)
  · replace h := h.2 c
    refine bs_aload_n C (bf_dk dd_X6_make 12 rfl) rfl ?_
    refine bs_iload_n C (bf_dk dd_X6_make 13 rfl) rfl ?_
    refine bs_pureV_i (ps := [0, 1, 2, 3, 4, 5, 6, 7, 8, 9, 10, 11, 12]) (w := (bW6_1 S14)) C hR (c_X6_upperBy _ _ _ _ _ S14.1 (a3) _ h) my_X6_upperBy m_6_80 rfl cl_6 (ge_bW6_0 _) rfl (Nat.le_of_ble_eq_true rfl) (Nat.le_of_ble_eq_true rfl) (su_bW6_1_0_bW6 S14) bnd_0t12 (st := [.ref 0]) (Nat.le_of_ble_eq_true rfl) (bf_dk dd_X6_make 14 rfl) rfl (fun _ => rfl) (fun r15 h => ?_)
    refine bs_goto C (bf_dk dd_X6_make 15 rfl) (tgt := 37) rfl ?_
    exact bs_weak (bf_s1 (bf_sn (bf_sn (bf_sn bf_s0)))) (t_X6_make_37 C hR S14 (r15) Q h)
theorem c_X6_make (l : Launch) (dC : Nat → ClassId) (dI : Nat → Nat → Nat) (ac : Nat → ClassId) (al : Nat → Nat) (S : bT6 × bT1) (a2 : Int32) (a3 : Int32) (Q : (bT6 × bT1) → Prop) (h : wp_X6_make S a2 a3 Q) : bf_M l yX6_make cX6_make 4 none 4 93 dC dI ac al [.ref 0, .ref 13, .int a2, .int a3] (bW6_1 S) (bf_Kv dC dI ac al bW6_1 Q) := by
  refine bf_start [some (.ref 0), some (.ref 13), some (.int a2), some (.int a3)] (by decide) (Nat.le_of_ble_eq_true rfl) (bf_s1 (bf_s1 (bf_s1 (bf_s1 bf_s0)))) ?_
  intro X hl C hR e1 e2 e3 e4
  subst e1; subst e2; subst e3; subst e4
  exact t_X6_make C hR S a2 a3 Q h
def wp_X6_items (S : bT6) (Q : Int32 → Prop) : Prop := (Q ((b6g_edges S) - (b6g_itemStart S)))
set_option maxRecDepth 20000 in
theorem t_X6_items {X : bf_X} (C : bf_C X RX6 cX6_items 1 (some .int)) (hR : bf_Rm X 0 0) (S : bT6) (Q : Int32 → Prop) (h : wp_X6_items S Q) : bf_A X (bf_Zi X bW6 (fun r u => u = S ∧ Q r)) 1 0 [some (.ref 0)] [] (bW6 S) := by
  unfold wp_X6_items at h
  refine bs_aload_n C (bf_dk dd_X6_items 0 rfl) rfl ?_
  refine bs_get C (bf_dk dd_X6_items 1 rfl) cl_6 in_6 13 (Nat.le_of_ble_eq_true rfl) rfl f_6_52 (ge_bW6_0 S) rfl ?_
  refine bs_aload_n C (bf_dk dd_X6_items 2 rfl) rfl ?_
  refine bs_get C (bf_dk dd_X6_items 3 rfl) cl_6 in_6 18 (Nat.le_of_ble_eq_true rfl) rfl f_6_67 (ge_bW6_0 S) rfl ?_
  refine bs_isub C (bf_dk dd_X6_items 4 rfl) ?_
  exact bs_iret (u := S) C (bf_dk dd_X6_items 5 rfl) rfl ⟨rfl, h⟩
theorem c_X6_items (l : Launch) (dC : Nat → ClassId) (dI : Nat → Nat → Nat) (ac : Nat → ClassId) (al : Nat → Nat) (S : bT6) (Q : Int32 → Prop) (h : wp_X6_items S Q) : bf_M l yX6_items cX6_items 1 (some .int) 0 0 dC dI ac al [.ref 0] (bW6 S) (bf_Ki dC dI ac al bW6 (fun r u => u = S ∧ Q r)) := by
  refine bf_start [some (.ref 0)] (by decide) (Nat.le_of_ble_eq_true rfl) (bf_s1 bf_s0) ?_
  intro X hl C hR e1 e2 e3 e4
  subst e1; subst e2; subst e3; subst e4
  exact t_X6_items C hR S Q h
def wp_X6_isEnd (S : bT6) (a1 : Int32) (Q : Int32 → Prop) : Prop := (wp_X8_at 296 (b6g_edgeOctets S) (a1) (fun r1 => ((¬ r1 = (-1 : Int32) → (bf_bool (0 : Int32) ∧ Q (0 : Int32))) ∧ (r1 = (-1 : Int32) → (bf_bool (1 : Int32) ∧ Q (1 : Int32))))))
set_option maxRecDepth 20000 in
theorem t_X6_isEnd {X : bf_X} (C : bf_C X RX6 cX6_isEnd 2 (some .boolean)) (hR : bf_Rm X 1 21) (S : bT6) (a1 : Int32) (Q : Int32 → Prop) (h : wp_X6_isEnd S a1 Q) : bf_A X (bf_Zi X bW6 (fun r u => u = S ∧ Q r)) 2 0 [some (.ref 0), some (.int a1)] [] (bW6 S) := by
  unfold wp_X6_isEnd at h
  refine bs_aload_n C (bf_dk dd_X6_isEnd 0 rfl) rfl ?_
  refine bs_get C (bf_dk dd_X6_isEnd 1 rfl) cl_6 in_6 5 (Nat.le_of_ble_eq_true rfl) rfl f_6_27 (ge_bW6_0 S) rfl ?_
  refine bs_iload_n C (bf_dk dd_X6_isEnd 2 rfl) rfl ?_
  refine bs_pureSN_i (ps := [6]) (w := (bW6 S)) C hR (c_X8_at _ _ _ _ _ 296 (b6g_edgeOctets S) (a1) _ h) my_X8_at m_6_90 rfl (Nat.le_of_ble_eq_true rfl) (Nat.le_of_ble_eq_true rfl) (su_bW6_6_bWan296 S) rfl (st := []) (Nat.le_of_ble_eq_true rfl) (bf_dk dd_X6_isEnd 3 rfl) rfl (fun _ => rfl) (fun r1 h => ?_)
  refine bs_iconst C (bf_dk dd_X6_isEnd 4 rfl) (-1 : Int32) (by decide) ?_
  refine bs_icmp_ne C (bf_dk dd_X6_isEnd 5 rfl) (tgt := 16) rfl (fun c => ?_) (fun c => ?_)
  · replace h := h.1 c
    refine bs_iconst C (bf_dk dd_X6_isEnd 8 rfl) (0 : Int32) (by decide) ?_
    obtain ⟨hi, h⟩ := h
    exact bs_zret (u := S) C (bf_dk dd_X6_isEnd 9 rfl) hi rfl ⟨rfl, h⟩
  · replace h := h.2 c
    refine bs_iconst C (bf_dk dd_X6_isEnd 6 rfl) (1 : Int32) (by decide) ?_
    refine bs_goto C (bf_dk dd_X6_isEnd 7 rfl) (tgt := 17) rfl ?_
    obtain ⟨hi, h⟩ := h
    exact bs_zret (u := S) C (bf_dk dd_X6_isEnd 9 rfl) hi rfl ⟨rfl, h⟩
theorem c_X6_isEnd (l : Launch) (dC : Nat → ClassId) (dI : Nat → Nat → Nat) (ac : Nat → ClassId) (al : Nat → Nat) (S : bT6) (a1 : Int32) (Q : Int32 → Prop) (h : wp_X6_isEnd S a1 Q) : bf_M l yX6_isEnd cX6_isEnd 2 (some .boolean) 1 21 dC dI ac al [.ref 0, .int a1] (bW6 S) (bf_Ki dC dI ac al bW6 (fun r u => u = S ∧ Q r)) := by
  refine bf_start [some (.ref 0), some (.int a1)] (by decide) (Nat.le_of_ble_eq_true rfl) (bf_s1 (bf_s1 bf_s0)) ?_
  intro X hl C hR e1 e2 e3 e4
  subst e1; subst e2; subst e3; subst e4
  exact t_X6_isEnd C hR S a1 Q h
def wp_X6_hasChild (S : bT6) (a1 : Int32) (Q : Int32 → Prop) : Prop := (wp_X8_at 296 (b6g_edgeChildren S) (a1) (fun r1 => ((r1 = (-1 : Int32) → (bf_bool (0 : Int32) ∧ Q (0 : Int32))) ∧ (¬ r1 = (-1 : Int32) → (bf_bool (1 : Int32) ∧ Q (1 : Int32))))))
set_option maxRecDepth 20000 in
theorem t_X6_hasChild {X : bf_X} (C : bf_C X RX6 cX6_hasChild 2 (some .boolean)) (hR : bf_Rm X 1 21) (S : bT6) (a1 : Int32) (Q : Int32 → Prop) (h : wp_X6_hasChild S a1 Q) : bf_A X (bf_Zi X bW6 (fun r u => u = S ∧ Q r)) 2 0 [some (.ref 0), some (.int a1)] [] (bW6 S) := by
  unfold wp_X6_hasChild at h
  refine bs_aload_n C (bf_dk dd_X6_hasChild 0 rfl) rfl ?_
  refine bs_get C (bf_dk dd_X6_hasChild 1 rfl) cl_6 in_6 7 (Nat.le_of_ble_eq_true rfl) rfl f_6_33 (ge_bW6_0 S) rfl ?_
  refine bs_iload_n C (bf_dk dd_X6_hasChild 2 rfl) rfl ?_
  refine bs_pureSN_i (ps := [8]) (w := (bW6 S)) C hR (c_X8_at _ _ _ _ _ 296 (b6g_edgeChildren S) (a1) _ h) my_X8_at m_6_90 rfl (Nat.le_of_ble_eq_true rfl) (Nat.le_of_ble_eq_true rfl) (su_bW6_8_bWan296 S) rfl (st := []) (Nat.le_of_ble_eq_true rfl) (bf_dk dd_X6_hasChild 3 rfl) rfl (fun _ => rfl) (fun r1 h => ?_)
  refine bs_iconst C (bf_dk dd_X6_hasChild 4 rfl) (-1 : Int32) (by decide) ?_
  refine bs_icmp_eq C (bf_dk dd_X6_hasChild 5 rfl) (tgt := 16) rfl (fun c => ?_) (fun c => ?_)
  · replace h := h.1 c
    refine bs_iconst C (bf_dk dd_X6_hasChild 8 rfl) (0 : Int32) (by decide) ?_
    obtain ⟨hi, h⟩ := h
    exact bs_zret (u := S) C (bf_dk dd_X6_hasChild 9 rfl) hi rfl ⟨rfl, h⟩
  · replace h := h.2 c
    refine bs_iconst C (bf_dk dd_X6_hasChild 6 rfl) (1 : Int32) (by decide) ?_
    refine bs_goto C (bf_dk dd_X6_hasChild 7 rfl) (tgt := 17) rfl ?_
    obtain ⟨hi, h⟩ := h
    exact bs_zret (u := S) C (bf_dk dd_X6_hasChild 9 rfl) hi rfl ⟨rfl, h⟩
theorem c_X6_hasChild (l : Launch) (dC : Nat → ClassId) (dI : Nat → Nat → Nat) (ac : Nat → ClassId) (al : Nat → Nat) (S : bT6) (a1 : Int32) (Q : Int32 → Prop) (h : wp_X6_hasChild S a1 Q) : bf_M l yX6_hasChild cX6_hasChild 2 (some .boolean) 1 21 dC dI ac al [.ref 0, .int a1] (bW6 S) (bf_Ki dC dI ac al bW6 (fun r u => u = S ∧ Q r)) := by
  refine bf_start [some (.ref 0), some (.int a1)] (by decide) (Nat.le_of_ble_eq_true rfl) (bf_s1 (bf_s1 bf_s0)) ?_
  intro X hl C hR e1 e2 e3 e4
  subst e1; subst e2; subst e3; subst e4
  exact t_X6_hasChild C hR S a1 Q h
def wp_X6_endsAmong_40 (S : bT6) (x2 : Int32) (x4 : Int32) (t0 : Int32) (t1 : Int32) (Q : Int32 → Prop) (B12 : Int32 → Int32 → Int32 → Prop) : Prop := (B12 (x2) ((t0 + t1)) ((x4 + (1 : Int32))))
set_option maxRecDepth 20000 in
theorem t_X6_endsAmong_40 {X : bf_X} (C : bf_C X RX6 cX6_endsAmong 5 (some .int)) (hR : bf_Rm X 2 42) (S : bT6) (x2 : Int32) (x4 : Int32) (t0 : Int32) (t1 : Int32) (Q : Int32 → Prop) (B12 : Int32 → Int32 → Int32 → Prop) (hB12 : ∀ (x2 : Int32) (x3 : Int32) (x4 : Int32), B12 x2 x3 x4 → bf_A X (bf_Zi X bW6 (fun r u => u = S ∧ Q r)) 5 12 [some (.ref 0), none, some (.int x2), some (.int x3), some (.int x4)] [] (bW6 S)) (h : wp_X6_endsAmong_40 S x2 x4 t0 t1 Q B12) : bf_A X (bf_Zi X bW6 (fun r u => u = S ∧ Q r)) 5 40 [some (.ref 0), none, some (.int x2), none, some (.int x4)] [.int t1, .int t0] (bW6 S) := by
  unfold wp_X6_endsAmong_40 at h
  refine bs_iadd C (bf_dk dd_X6_endsAmong 21 rfl) ?_
  refine bs_istore_n C (bf_dk dd_X6_endsAmong 22 rfl) rfl (Nat.le_of_ble_eq_true rfl) (Nat.le_of_ble_eq_true rfl) (lv2 := [some (.ref 0), none, some (.int x2), some (.int (t0 + t1)), some (.int x4)]) rfl ?_
  refine bs_iinc C (bf_dk dd_X6_endsAmong 23 rfl) (x4 + (1 : Int32)) rfl rfl (Nat.le_of_ble_eq_true rfl) (Nat.le_of_ble_eq_true rfl) (lv2 := [some (.ref 0), none, some (.int x2), some (.int (t0 + t1)), some (.int (x4 + (1 : Int32)))]) rfl ?_
  refine bs_goto C (bf_dk dd_X6_endsAmong 24 rfl) (tgt := 12) rfl ?_
  exact bs_weak (bf_s1 (bf_sn (bf_s1 (bf_s1 (bf_s1 bf_s0))))) (hB12 (x2) ((t0 + t1)) ((x4 + (1 : Int32))) h)
def wp_X6_endsAmong_12b (S : bT6) (x2 : Int32) (x3 : Int32) (x4 : Int32) (Q : Int32 → Prop) (B12 : Int32 → Int32 → Int32 → Prop) : Prop := (wp_X8_at 233 (b6g_edgeStarts S) (x2) (fun r1 => ((r1 ≤ x4 → (Q x3)) ∧ (¬ r1 ≤ x4 → (wp_X6_isEnd S (x4) (fun r3 => ((r3 = 0 → (wp_X6_endsAmong_40 S (x2) (x4) (x3) ((0 : Int32)) Q B12)) ∧ (¬ r3 = 0 → (wp_X6_endsAmong_40 S (x2) (x4) (x3) ((1 : Int32)) Q B12)))))))))
set_option maxRecDepth 20000 in
theorem t_X6_endsAmong_12b {X : bf_X} (C : bf_C X RX6 cX6_endsAmong 5 (some .int)) (hR : bf_Rm X 2 42) (S : bT6) (x2 : Int32) (x3 : Int32) (x4 : Int32) (Q : Int32 → Prop) (B12 : Int32 → Int32 → Int32 → Prop) (hB12 : ∀ (x2 : Int32) (x3 : Int32) (x4 : Int32), B12 x2 x3 x4 → bf_A X (bf_Zi X bW6 (fun r u => u = S ∧ Q r)) 5 12 [some (.ref 0), none, some (.int x2), some (.int x3), some (.int x4)] [] (bW6 S)) (h : wp_X6_endsAmong_12b S x2 x3 x4 Q B12) : bf_A X (bf_Zi X bW6 (fun r u => u = S ∧ Q r)) 5 12 [some (.ref 0), none, some (.int x2), some (.int x3), some (.int x4)] [] (bW6 S) := by
  unfold wp_X6_endsAmong_12b at h
  refine bs_iload C (bf_dk dd_X6_endsAmong 7 rfl) rfl ?_
  refine bs_aload_n C (bf_dk dd_X6_endsAmong 8 rfl) rfl ?_
  refine bs_get C (bf_dk dd_X6_endsAmong 9 rfl) cl_6 in_6 3 (Nat.le_of_ble_eq_true rfl) rfl f_6_21 (ge_bW6_0 S) rfl ?_
  refine bs_iload_n C (bf_dk dd_X6_endsAmong 10 rfl) rfl ?_
  refine bs_pureSN_i (ps := [4]) (w := (bW6 S)) C hR (c_X8_at _ _ _ _ _ 233 (b6g_edgeStarts S) (x2) _ h) my_X8_at m_6_90 rfl (Nat.le_of_ble_eq_true rfl) (Nat.le_of_ble_eq_true rfl) (su_bW6_4_bWan233 S) rfl (st := [.int x4]) (Nat.le_of_ble_eq_true rfl) (bf_dk dd_X6_endsAmong 11 rfl) rfl (fun _ => rfl) (fun r1 h => ?_)
  refine bs_icmp_ge C (bf_dk dd_X6_endsAmong 12 rfl) (tgt := 48) rfl (fun c => ?_) (fun c => ?_)
  · replace h := h.1 c
    refine bs_iload_n C (bf_dk dd_X6_endsAmong 25 rfl) rfl ?_
    exact bs_iret (u := S) C (bf_dk dd_X6_endsAmong 26 rfl) rfl ⟨rfl, h⟩
  · replace h := h.2 c
    refine bs_iload_n C (bf_dk dd_X6_endsAmong 13 rfl) rfl ?_
    refine bs_aload_n C (bf_dk dd_X6_endsAmong 14 rfl) rfl ?_
    refine bs_iload C (bf_dk dd_X6_endsAmong 15 rfl) rfl ?_
    refine bs_selfPV_i C hR (c_X6_isEnd _ _ _ _ _ S (x4) _ h) my_X6_isEnd m_6_145 rfl cl_6 (ge_bW6_0 _) rfl (Nat.le_of_ble_eq_true rfl) (Nat.le_of_ble_eq_true rfl) (st := [.int x3]) (Nat.le_of_ble_eq_true rfl) (bf_dk dd_X6_endsAmong 16 rfl) rfl (fun r3 h => ?_)
    refine bs_if_eq C (bf_dk dd_X6_endsAmong 17 rfl) (tgt := 39) rfl (fun c => ?_) (fun c => ?_)
    · replace h := h.1 c
      refine bs_iconst C (bf_dk dd_X6_endsAmong 20 rfl) (0 : Int32) (by decide) ?_
      exact bs_weak (bf_s1 (bf_sn (bf_s1 (bf_sn (bf_s1 bf_s0))))) (t_X6_endsAmong_40 C hR S (x2) (x4) (x3) ((0 : Int32)) Q B12 hB12 h)
    · replace h := h.2 c
      refine bs_iconst C (bf_dk dd_X6_endsAmong 18 rfl) (1 : Int32) (by decide) ?_
      refine bs_goto C (bf_dk dd_X6_endsAmong 19 rfl) (tgt := 40) rfl ?_
      exact bs_weak (bf_s1 (bf_sn (bf_s1 (bf_sn (bf_s1 bf_s0))))) (t_X6_endsAmong_40 C hR S (x2) (x4) (x3) ((1 : Int32)) Q B12 hB12 h)
def wp_X6_endsAmong_12 (S : bT6) (x2 : Int32) (x3 : Int32) (x4 : Int32) (Q : Int32 → Prop) : Prop := ∃ I : Nat → Int32 → Int32 → Int32 → Prop, (∃ n : Nat, I n x2 x3 x4) ∧ ∀ (n : Nat) (x2 : Int32) (x3 : Int32) (x4 : Int32), I n x2 x3 x4 → wp_X6_endsAmong_12b S x2 x3 x4 Q (fun x2 x3 x4 => ∃ n2 : Nat, n2 < n ∧ I n2 x2 x3 x4)
theorem t_X6_endsAmong_12 {X : bf_X} (C : bf_C X RX6 cX6_endsAmong 5 (some .int)) (hR : bf_Rm X 2 42) (S : bT6) (x2 : Int32) (x3 : Int32) (x4 : Int32) (Q : Int32 → Prop) (h : wp_X6_endsAmong_12 S x2 x3 x4 Q) : bf_A X (bf_Zi X bW6 (fun r u => u = S ∧ Q r)) 5 12 [some (.ref 0), none, some (.int x2), some (.int x3), some (.int x4)] [] (bW6 S) := by
  obtain ⟨I, ⟨n0, h0⟩, hI⟩ := h
  have key : ∀ (n : Nat) (x2 : Int32) (x3 : Int32) (x4 : Int32), I n x2 x3 x4 → bf_A X (bf_Zi X bW6 (fun r u => u = S ∧ Q r)) 5 12 [some (.ref 0), none, some (.int x2), some (.int x3), some (.int x4)] [] (bW6 S) := by
    intro n
    induction n using Nat.strongRecOn with
    | _ n ih =>
      intro x2 x3 x4 hi
      exact t_X6_endsAmong_12b C hR S x2 x3 x4 Q _ (fun x2 x3 x4 hb => by obtain ⟨n2, hn, hi2⟩ := hb; exact ih n2 hn x2 x3 x4 hi2) (hI n x2 x3 x4 hi)
  exact key n0 x2 x3 x4 h0
def wp_X6_endsAmong (S : bT6) (a1 : Int32) (a2 : Int32) (Q : Int32 → Prop) : Prop := (wp_X8_at 233 (b6g_edgeStarts S) (a1) (fun r5 => (wp_X6_endsAmong_12 S (a2) ((0 : Int32)) (r5) Q)))
set_option maxRecDepth 20000 in
theorem t_X6_endsAmong {X : bf_X} (C : bf_C X RX6 cX6_endsAmong 5 (some .int)) (hR : bf_Rm X 2 42) (S : bT6) (a1 : Int32) (a2 : Int32) (Q : Int32 → Prop) (h : wp_X6_endsAmong S a1 a2 Q) : bf_A X (bf_Zi X bW6 (fun r u => u = S ∧ Q r)) 5 0 [some (.ref 0), some (.int a1), some (.int a2), none, none] [] (bW6 S) := by
  unfold wp_X6_endsAmong at h
  refine bs_iconst C (bf_dk dd_X6_endsAmong 0 rfl) (0 : Int32) (by decide) ?_
  refine bs_istore_n C (bf_dk dd_X6_endsAmong 1 rfl) rfl (Nat.le_of_ble_eq_true rfl) (Nat.le_of_ble_eq_true rfl) (lv2 := [some (.ref 0), some (.int a1), some (.int a2), some (.int (0 : Int32)), none]) rfl ?_
  refine bs_aload_n C (bf_dk dd_X6_endsAmong 2 rfl) rfl ?_
  refine bs_get C (bf_dk dd_X6_endsAmong 3 rfl) cl_6 in_6 3 (Nat.le_of_ble_eq_true rfl) rfl f_6_21 (ge_bW6_0 S) rfl ?_
  refine bs_iload_n C (bf_dk dd_X6_endsAmong 4 rfl) rfl ?_
  refine bs_pureSN_i (ps := [4]) (w := (bW6 S)) C hR (c_X8_at _ _ _ _ _ 233 (b6g_edgeStarts S) (a1) _ h) my_X8_at m_6_90 rfl (Nat.le_of_ble_eq_true rfl) (Nat.le_of_ble_eq_true rfl) (su_bW6_4_bWan233 S) rfl (st := []) (Nat.le_of_ble_eq_true rfl) (bf_dk dd_X6_endsAmong 5 rfl) rfl (fun _ => rfl) (fun r5 h => ?_)
  refine bs_istore C (bf_dk dd_X6_endsAmong 6 rfl) (Nat.le_of_ble_eq_true rfl) (Nat.le_of_ble_eq_true rfl) (lv2 := [some (.ref 0), some (.int a1), some (.int a2), some (.int (0 : Int32)), some (.int r5)]) rfl ?_
  exact bs_weak (bf_s1 (bf_sn (bf_s1 (bf_s1 (bf_s1 bf_s0))))) (t_X6_endsAmong_12 C hR S (a2) ((0 : Int32)) (r5) Q h)
theorem c_X6_endsAmong (l : Launch) (dC : Nat → ClassId) (dI : Nat → Nat → Nat) (ac : Nat → ClassId) (al : Nat → Nat) (S : bT6) (a1 : Int32) (a2 : Int32) (Q : Int32 → Prop) (h : wp_X6_endsAmong S a1 a2 Q) : bf_M l yX6_endsAmong cX6_endsAmong 5 (some .int) 2 42 dC dI ac al [.ref 0, .int a1, .int a2] (bW6 S) (bf_Ki dC dI ac al bW6 (fun r u => u = S ∧ Q r)) := by
  refine bf_start [some (.ref 0), some (.int a1), some (.int a2), none, none] (by decide) (Nat.le_of_ble_eq_true rfl) (bf_s1 (bf_s1 (bf_s1 (bf_en 2)))) ?_
  intro X hl C hR e1 e2 e3 e4
  subst e1; subst e2; subst e3; subst e4
  exact t_X6_endsAmong C hR S a1 a2 Q h
def wp_X6_branches (S : bT6) (a1 : Int32) (a2 : Int32) (Q : Int32 → Prop) : Prop := (wp_X6_edgesAmong S (a1) (a2) (fun r1 => (wp_X6_endsAmong S (a1) (a2) (fun r3 => (Q (r1 - r3))))))
set_option maxRecDepth 20000 in
theorem t_X6_branches {X : bf_X} (C : bf_C X RX6 cX6_branches 3 (some .int)) (hR : bf_Rm X 3 66) (S : bT6) (a1 : Int32) (a2 : Int32) (Q : Int32 → Prop) (h : wp_X6_branches S a1 a2 Q) : bf_A X (bf_Zi X bW6 (fun r u => u = S ∧ Q r)) 3 0 [some (.ref 0), some (.int a1), some (.int a2)] [] (bW6 S) := by
  unfold wp_X6_branches at h
  refine bs_aload_n C (bf_dk dd_X6_branches 0 rfl) rfl ?_
  refine bs_iload_n C (bf_dk dd_X6_branches 1 rfl) rfl ?_
  refine bs_iload_n C (bf_dk dd_X6_branches 2 rfl) rfl ?_
  refine bs_selfPV_i C hR (c_X6_edgesAmong _ _ _ _ _ S (a1) (a2) _ h) my_X6_edgesAmong m_6_142 rfl cl_6 (ge_bW6_0 _) rfl (Nat.le_of_ble_eq_true rfl) (Nat.le_of_ble_eq_true rfl) (st := []) (Nat.le_of_ble_eq_true rfl) (bf_dk dd_X6_branches 3 rfl) rfl (fun r1 h => ?_)
  refine bs_aload_n C (bf_dk dd_X6_branches 4 rfl) rfl ?_
  refine bs_iload_n C (bf_dk dd_X6_branches 5 rfl) rfl ?_
  refine bs_iload_n C (bf_dk dd_X6_branches 6 rfl) rfl ?_
  refine bs_selfPV_i C hR (c_X6_endsAmong _ _ _ _ _ S (a1) (a2) _ h) my_X6_endsAmong m_6_148 rfl cl_6 (ge_bW6_0 _) rfl (Nat.le_of_ble_eq_true rfl) (Nat.le_of_ble_eq_true rfl) (st := [.int r1]) (Nat.le_of_ble_eq_true rfl) (bf_dk dd_X6_branches 7 rfl) rfl (fun r3 h => ?_)
  refine bs_isub C (bf_dk dd_X6_branches 8 rfl) ?_
  exact bs_iret (u := S) C (bf_dk dd_X6_branches 9 rfl) rfl ⟨rfl, h⟩
theorem c_X6_branches (l : Launch) (dC : Nat → ClassId) (dI : Nat → Nat → Nat) (ac : Nat → ClassId) (al : Nat → Nat) (S : bT6) (a1 : Int32) (a2 : Int32) (Q : Int32 → Prop) (h : wp_X6_branches S a1 a2 Q) : bf_M l yX6_branches cX6_branches 3 (some .int) 3 66 dC dI ac al [.ref 0, .int a1, .int a2] (bW6 S) (bf_Ki dC dI ac al bW6 (fun r u => u = S ∧ Q r)) := by
  refine bf_start [some (.ref 0), some (.int a1), some (.int a2)] (by decide) (Nat.le_of_ble_eq_true rfl) (bf_s1 (bf_s1 (bf_s1 bf_s0))) ?_
  intro X hl C hR e1 e2 e3 e4
  subst e1; subst e2; subst e3; subst e4
  exact t_X6_branches C hR S a1 a2 Q h
def wp_X6_childrenOf_39 (S : bT6) (x1 : Int32) (x3 : Int32) (t0 : Int32) (t1 : Int32) (Q : Int32 → Prop) (B11 : Int32 → Int32 → Int32 → Prop) : Prop := (B11 (x1) ((t0 + t1)) ((x3 + (1 : Int32))))
set_option maxRecDepth 20000 in
theorem t_X6_childrenOf_39 {X : bf_X} (C : bf_C X RX6 cX6_childrenOf 4 (some .int)) (hR : bf_Rm X 2 42) (S : bT6) (x1 : Int32) (x3 : Int32) (t0 : Int32) (t1 : Int32) (Q : Int32 → Prop) (B11 : Int32 → Int32 → Int32 → Prop) (hB11 : ∀ (x1 : Int32) (x2 : Int32) (x3 : Int32), B11 x1 x2 x3 → bf_A X (bf_Zi X bW6 (fun r u => u = S ∧ Q r)) 4 11 [some (.ref 0), some (.int x1), some (.int x2), some (.int x3)] [] (bW6 S)) (h : wp_X6_childrenOf_39 S x1 x3 t0 t1 Q B11) : bf_A X (bf_Zi X bW6 (fun r u => u = S ∧ Q r)) 4 39 [some (.ref 0), some (.int x1), none, some (.int x3)] [.int t1, .int t0] (bW6 S) := by
  unfold wp_X6_childrenOf_39 at h
  refine bs_iadd C (bf_dk dd_X6_childrenOf 23 rfl) ?_
  refine bs_istore_n C (bf_dk dd_X6_childrenOf 24 rfl) rfl (Nat.le_of_ble_eq_true rfl) (Nat.le_of_ble_eq_true rfl) (lv2 := [some (.ref 0), some (.int x1), some (.int (t0 + t1)), some (.int x3)]) rfl ?_
  refine bs_iinc C (bf_dk dd_X6_childrenOf 25 rfl) (x3 + (1 : Int32)) rfl rfl (Nat.le_of_ble_eq_true rfl) (Nat.le_of_ble_eq_true rfl) (lv2 := [some (.ref 0), some (.int x1), some (.int (t0 + t1)), some (.int (x3 + (1 : Int32)))]) rfl ?_
  refine bs_goto C (bf_dk dd_X6_childrenOf 26 rfl) (tgt := 11) rfl ?_
  exact bs_weak (bf_s1 (bf_s1 (bf_s1 (bf_s1 bf_s0)))) (hB11 (x1) ((t0 + t1)) ((x3 + (1 : Int32))) h)
def wp_X6_childrenOf_11b (S : bT6) (x1 : Int32) (x2 : Int32) (x3 : Int32) (Q : Int32 → Prop) (B11 : Int32 → Int32 → Int32 → Prop) : Prop := (wp_X8_at 233 (b6g_edgeStarts S) ((x1 + (1 : Int32))) (fun r1 => ((r1 ≤ x3 → (Q x2)) ∧ (¬ r1 ≤ x3 → (wp_X6_hasChild S (x3) (fun r3 => ((r3 = 0 → (wp_X6_childrenOf_39 S (x1) (x3) (x2) ((0 : Int32)) Q B11)) ∧ (¬ r3 = 0 → (wp_X6_childrenOf_39 S (x1) (x3) (x2) ((1 : Int32)) Q B11)))))))))
set_option maxRecDepth 20000 in
theorem t_X6_childrenOf_11b {X : bf_X} (C : bf_C X RX6 cX6_childrenOf 4 (some .int)) (hR : bf_Rm X 2 42) (S : bT6) (x1 : Int32) (x2 : Int32) (x3 : Int32) (Q : Int32 → Prop) (B11 : Int32 → Int32 → Int32 → Prop) (hB11 : ∀ (x1 : Int32) (x2 : Int32) (x3 : Int32), B11 x1 x2 x3 → bf_A X (bf_Zi X bW6 (fun r u => u = S ∧ Q r)) 4 11 [some (.ref 0), some (.int x1), some (.int x2), some (.int x3)] [] (bW6 S)) (h : wp_X6_childrenOf_11b S x1 x2 x3 Q B11) : bf_A X (bf_Zi X bW6 (fun r u => u = S ∧ Q r)) 4 11 [some (.ref 0), some (.int x1), some (.int x2), some (.int x3)] [] (bW6 S) := by
  unfold wp_X6_childrenOf_11b at h
  refine bs_iload_n C (bf_dk dd_X6_childrenOf 7 rfl) rfl ?_
  refine bs_aload_n C (bf_dk dd_X6_childrenOf 8 rfl) rfl ?_
  refine bs_get C (bf_dk dd_X6_childrenOf 9 rfl) cl_6 in_6 3 (Nat.le_of_ble_eq_true rfl) rfl f_6_21 (ge_bW6_0 S) rfl ?_
  refine bs_iload_n C (bf_dk dd_X6_childrenOf 10 rfl) rfl ?_
  refine bs_iconst C (bf_dk dd_X6_childrenOf 11 rfl) (1 : Int32) (by decide) ?_
  refine bs_iadd C (bf_dk dd_X6_childrenOf 12 rfl) ?_
  refine bs_pureSN_i (ps := [4]) (w := (bW6 S)) C hR (c_X8_at _ _ _ _ _ 233 (b6g_edgeStarts S) ((x1 + (1 : Int32))) _ h) my_X8_at m_6_90 rfl (Nat.le_of_ble_eq_true rfl) (Nat.le_of_ble_eq_true rfl) (su_bW6_4_bWan233 S) rfl (st := [.int x3]) (Nat.le_of_ble_eq_true rfl) (bf_dk dd_X6_childrenOf 13 rfl) rfl (fun _ => rfl) (fun r1 h => ?_)
  refine bs_icmp_ge C (bf_dk dd_X6_childrenOf 14 rfl) (tgt := 47) rfl (fun c => ?_) (fun c => ?_)
  · replace h := h.1 c
    refine bs_iload_n C (bf_dk dd_X6_childrenOf 27 rfl) rfl ?_
    exact bs_iret (u := S) C (bf_dk dd_X6_childrenOf 28 rfl) rfl ⟨rfl, h⟩
  · replace h := h.2 c
    refine bs_iload_n C (bf_dk dd_X6_childrenOf 15 rfl) rfl ?_
    refine bs_aload_n C (bf_dk dd_X6_childrenOf 16 rfl) rfl ?_
    refine bs_iload_n C (bf_dk dd_X6_childrenOf 17 rfl) rfl ?_
    refine bs_selfPV_i C hR (c_X6_hasChild _ _ _ _ _ S (x3) _ h) my_X6_hasChild m_6_151 rfl cl_6 (ge_bW6_0 _) rfl (Nat.le_of_ble_eq_true rfl) (Nat.le_of_ble_eq_true rfl) (st := [.int x2]) (Nat.le_of_ble_eq_true rfl) (bf_dk dd_X6_childrenOf 18 rfl) rfl (fun r3 h => ?_)
    refine bs_if_eq C (bf_dk dd_X6_childrenOf 19 rfl) (tgt := 38) rfl (fun c => ?_) (fun c => ?_)
    · replace h := h.1 c
      refine bs_iconst C (bf_dk dd_X6_childrenOf 22 rfl) (0 : Int32) (by decide) ?_
      exact bs_weak (bf_s1 (bf_s1 (bf_sn (bf_s1 bf_s0)))) (t_X6_childrenOf_39 C hR S (x1) (x3) (x2) ((0 : Int32)) Q B11 hB11 h)
    · replace h := h.2 c
      refine bs_iconst C (bf_dk dd_X6_childrenOf 20 rfl) (1 : Int32) (by decide) ?_
      refine bs_goto C (bf_dk dd_X6_childrenOf 21 rfl) (tgt := 39) rfl ?_
      exact bs_weak (bf_s1 (bf_s1 (bf_sn (bf_s1 bf_s0)))) (t_X6_childrenOf_39 C hR S (x1) (x3) (x2) ((1 : Int32)) Q B11 hB11 h)
def wp_X6_childrenOf_11 (S : bT6) (x1 : Int32) (x2 : Int32) (x3 : Int32) (Q : Int32 → Prop) : Prop := ∃ I : Nat → Int32 → Int32 → Int32 → Prop, (∃ n : Nat, I n x1 x2 x3) ∧ ∀ (n : Nat) (x1 : Int32) (x2 : Int32) (x3 : Int32), I n x1 x2 x3 → wp_X6_childrenOf_11b S x1 x2 x3 Q (fun x1 x2 x3 => ∃ n2 : Nat, n2 < n ∧ I n2 x1 x2 x3)
theorem t_X6_childrenOf_11 {X : bf_X} (C : bf_C X RX6 cX6_childrenOf 4 (some .int)) (hR : bf_Rm X 2 42) (S : bT6) (x1 : Int32) (x2 : Int32) (x3 : Int32) (Q : Int32 → Prop) (h : wp_X6_childrenOf_11 S x1 x2 x3 Q) : bf_A X (bf_Zi X bW6 (fun r u => u = S ∧ Q r)) 4 11 [some (.ref 0), some (.int x1), some (.int x2), some (.int x3)] [] (bW6 S) := by
  obtain ⟨I, ⟨n0, h0⟩, hI⟩ := h
  have key : ∀ (n : Nat) (x1 : Int32) (x2 : Int32) (x3 : Int32), I n x1 x2 x3 → bf_A X (bf_Zi X bW6 (fun r u => u = S ∧ Q r)) 4 11 [some (.ref 0), some (.int x1), some (.int x2), some (.int x3)] [] (bW6 S) := by
    intro n
    induction n using Nat.strongRecOn with
    | _ n ih =>
      intro x1 x2 x3 hi
      exact t_X6_childrenOf_11b C hR S x1 x2 x3 Q _ (fun x1 x2 x3 hb => by obtain ⟨n2, hn, hi2⟩ := hb; exact ih n2 hn x1 x2 x3 hi2) (hI n x1 x2 x3 hi)
  exact key n0 x1 x2 x3 h0
def wp_X6_childrenOf (S : bT6) (a1 : Int32) (Q : Int32 → Prop) : Prop := (wp_X8_at 233 (b6g_edgeStarts S) (a1) (fun r5 => (wp_X6_childrenOf_11 S (a1) ((0 : Int32)) (r5) Q)))
set_option maxRecDepth 20000 in
theorem t_X6_childrenOf {X : bf_X} (C : bf_C X RX6 cX6_childrenOf 4 (some .int)) (hR : bf_Rm X 2 42) (S : bT6) (a1 : Int32) (Q : Int32 → Prop) (h : wp_X6_childrenOf S a1 Q) : bf_A X (bf_Zi X bW6 (fun r u => u = S ∧ Q r)) 4 0 [some (.ref 0), some (.int a1), none, none] [] (bW6 S) := by
  unfold wp_X6_childrenOf at h
  refine bs_iconst C (bf_dk dd_X6_childrenOf 0 rfl) (0 : Int32) (by decide) ?_
  refine bs_istore_n C (bf_dk dd_X6_childrenOf 1 rfl) rfl (Nat.le_of_ble_eq_true rfl) (Nat.le_of_ble_eq_true rfl) (lv2 := [some (.ref 0), some (.int a1), some (.int (0 : Int32)), none]) rfl ?_
  refine bs_aload_n C (bf_dk dd_X6_childrenOf 2 rfl) rfl ?_
  refine bs_get C (bf_dk dd_X6_childrenOf 3 rfl) cl_6 in_6 3 (Nat.le_of_ble_eq_true rfl) rfl f_6_21 (ge_bW6_0 S) rfl ?_
  refine bs_iload_n C (bf_dk dd_X6_childrenOf 4 rfl) rfl ?_
  refine bs_pureSN_i (ps := [4]) (w := (bW6 S)) C hR (c_X8_at _ _ _ _ _ 233 (b6g_edgeStarts S) (a1) _ h) my_X8_at m_6_90 rfl (Nat.le_of_ble_eq_true rfl) (Nat.le_of_ble_eq_true rfl) (su_bW6_4_bWan233 S) rfl (st := []) (Nat.le_of_ble_eq_true rfl) (bf_dk dd_X6_childrenOf 5 rfl) rfl (fun _ => rfl) (fun r5 h => ?_)
  refine bs_istore_n C (bf_dk dd_X6_childrenOf 6 rfl) rfl (Nat.le_of_ble_eq_true rfl) (Nat.le_of_ble_eq_true rfl) (lv2 := [some (.ref 0), some (.int a1), some (.int (0 : Int32)), some (.int r5)]) rfl ?_
  exact bs_weak (bf_s1 (bf_s1 (bf_s1 (bf_s1 bf_s0)))) (t_X6_childrenOf_11 C hR S (a1) ((0 : Int32)) (r5) Q h)
theorem c_X6_childrenOf (l : Launch) (dC : Nat → ClassId) (dI : Nat → Nat → Nat) (ac : Nat → ClassId) (al : Nat → Nat) (S : bT6) (a1 : Int32) (Q : Int32 → Prop) (h : wp_X6_childrenOf S a1 Q) : bf_M l yX6_childrenOf cX6_childrenOf 4 (some .int) 2 42 dC dI ac al [.ref 0, .int a1] (bW6 S) (bf_Ki dC dI ac al bW6 (fun r u => u = S ∧ Q r)) := by
  refine bf_start [some (.ref 0), some (.int a1), none, none] (by decide) (Nat.le_of_ble_eq_true rfl) (bf_s1 (bf_s1 (bf_en 2))) ?_
  intro X hl C hR e1 e2 e3 e4
  subst e1; subst e2; subst e3; subst e4
  exact t_X6_childrenOf C hR S a1 Q h
def wp_X6_goneAlong_9b (S : bT6) (x1 : Int32) (x2 : Int32) (x3 : Int32) (Q : Int32 → Prop) (B9 : Int32 → Int32 → Int32 → Prop) : Prop := (wp_X8_at 233 (b6g_edgeStarts S) ((x1 + (1 : Int32))) (fun r1 => ((r1 ≤ x3 → (Q (-3 : Int32))) ∧ (¬ r1 ≤ x3 → (wp_X8_at 296 (b6g_edgeOctets S) (x3) (fun r3 => ((¬ r3 = x2 → (B9 (x1) (x2) ((x3 + (1 : Int32))))) ∧ (r3 = x2 → (wp_X6_hasChild S (x3) (fun r5 => ((r5 = 0 → (Q (-2 : Int32))) ∧ (¬ r5 = 0 → (wp_X8_at 296 (b6g_edgeChildren S) (x3) (fun r7 => (Q r7)))))))))))))))
set_option maxRecDepth 20000 in
theorem t_X6_goneAlong_9b {X : bf_X} (C : bf_C X RX6 cX6_goneAlong 4 (some .int)) (hR : bf_Rm X 2 42) (S : bT6) (x1 : Int32) (x2 : Int32) (x3 : Int32) (Q : Int32 → Prop) (B9 : Int32 → Int32 → Int32 → Prop) (hB9 : ∀ (x1 : Int32) (x2 : Int32) (x3 : Int32), B9 x1 x2 x3 → bf_A X (bf_Zi X bW6 (fun r u => u = S ∧ Q r)) 4 9 [some (.ref 0), some (.int x1), some (.int x2), some (.int x3)] [] (bW6 S)) (h : wp_X6_goneAlong_9b S x1 x2 x3 Q B9) : bf_A X (bf_Zi X bW6 (fun r u => u = S ∧ Q r)) 4 9 [some (.ref 0), some (.int x1), some (.int x2), some (.int x3)] [] (bW6 S) := by
  unfold wp_X6_goneAlong_9b at h
  refine bs_iload_n C (bf_dk dd_X6_goneAlong 5 rfl) rfl ?_
  refine bs_aload_n C (bf_dk dd_X6_goneAlong 6 rfl) rfl ?_
  refine bs_get C (bf_dk dd_X6_goneAlong 7 rfl) cl_6 in_6 3 (Nat.le_of_ble_eq_true rfl) rfl f_6_21 (ge_bW6_0 S) rfl ?_
  refine bs_iload_n C (bf_dk dd_X6_goneAlong 8 rfl) rfl ?_
  refine bs_iconst C (bf_dk dd_X6_goneAlong 9 rfl) (1 : Int32) (by decide) ?_
  refine bs_iadd C (bf_dk dd_X6_goneAlong 10 rfl) ?_
  refine bs_pureSN_i (ps := [4]) (w := (bW6 S)) C hR (c_X8_at _ _ _ _ _ 233 (b6g_edgeStarts S) ((x1 + (1 : Int32))) _ h) my_X8_at m_6_90 rfl (Nat.le_of_ble_eq_true rfl) (Nat.le_of_ble_eq_true rfl) (su_bW6_4_bWan233 S) rfl (st := [.int x3]) (Nat.le_of_ble_eq_true rfl) (bf_dk dd_X6_goneAlong 11 rfl) rfl (fun _ => rfl) (fun r1 h => ?_)
  refine bs_icmp_ge C (bf_dk dd_X6_goneAlong 12 rfl) (tgt := 63) rfl (fun c => ?_) (fun c => ?_)
  · replace h := h.1 c
    refine bs_bipush C (bf_dk dd_X6_goneAlong 32 rfl) (-3 : Int32) (by decide) ?_
    exact bs_iret (u := S) C (bf_dk dd_X6_goneAlong 33 rfl) rfl ⟨rfl, h⟩
  · replace h := h.2 c
    refine bs_aload_n C (bf_dk dd_X6_goneAlong 13 rfl) rfl ?_
    refine bs_get C (bf_dk dd_X6_goneAlong 14 rfl) cl_6 in_6 5 (Nat.le_of_ble_eq_true rfl) rfl f_6_27 (ge_bW6_0 S) rfl ?_
    refine bs_iload_n C (bf_dk dd_X6_goneAlong 15 rfl) rfl ?_
    refine bs_pureSN_i (ps := [6]) (w := (bW6 S)) C hR (c_X8_at _ _ _ _ _ 296 (b6g_edgeOctets S) (x3) _ h) my_X8_at m_6_90 rfl (Nat.le_of_ble_eq_true rfl) (Nat.le_of_ble_eq_true rfl) (su_bW6_6_bWan296 S) rfl (st := []) (Nat.le_of_ble_eq_true rfl) (bf_dk dd_X6_goneAlong 16 rfl) rfl (fun _ => rfl) (fun r3 h => ?_)
    refine bs_iload_n C (bf_dk dd_X6_goneAlong 17 rfl) rfl ?_
    refine bs_icmp_ne C (bf_dk dd_X6_goneAlong 18 rfl) (tgt := 57) rfl (fun c => ?_) (fun c => ?_)
    · replace h := h.1 c
      refine bs_iinc C (bf_dk dd_X6_goneAlong 30 rfl) (x3 + (1 : Int32)) rfl rfl (Nat.le_of_ble_eq_true rfl) (Nat.le_of_ble_eq_true rfl) (lv2 := [some (.ref 0), some (.int x1), some (.int x2), some (.int (x3 + (1 : Int32)))]) rfl ?_
      refine bs_goto C (bf_dk dd_X6_goneAlong 31 rfl) (tgt := 9) rfl ?_
      exact bs_weak (bf_s1 (bf_s1 (bf_s1 (bf_s1 bf_s0)))) (hB9 (x1) (x2) ((x3 + (1 : Int32))) h)
    · replace h := h.2 c
      refine bs_aload_n C (bf_dk dd_X6_goneAlong 19 rfl) rfl ?_
      refine bs_iload_n C (bf_dk dd_X6_goneAlong 20 rfl) rfl ?_
      refine bs_selfPV_i C hR (c_X6_hasChild _ _ _ _ _ S (x3) _ h) my_X6_hasChild m_6_151 rfl cl_6 (ge_bW6_0 _) rfl (Nat.le_of_ble_eq_true rfl) (Nat.le_of_ble_eq_true rfl) (st := []) (Nat.le_of_ble_eq_true rfl) (bf_dk dd_X6_goneAlong 21 rfl) rfl (fun r5 h => ?_)
      refine bs_if_eq C (bf_dk dd_X6_goneAlong 22 rfl) (tgt := 54) rfl (fun c => ?_) (fun c => ?_)
      · replace h := h.1 c
        refine bs_bipush C (bf_dk dd_X6_goneAlong 28 rfl) (-2 : Int32) (by decide) ?_
        exact bs_iret (u := S) C (bf_dk dd_X6_goneAlong 29 rfl) rfl ⟨rfl, h⟩
      · replace h := h.2 c
        refine bs_aload_n C (bf_dk dd_X6_goneAlong 23 rfl) rfl ?_
        refine bs_get C (bf_dk dd_X6_goneAlong 24 rfl) cl_6 in_6 7 (Nat.le_of_ble_eq_true rfl) rfl f_6_33 (ge_bW6_0 S) rfl ?_
        refine bs_iload_n C (bf_dk dd_X6_goneAlong 25 rfl) rfl ?_
        refine bs_pureSN_i (ps := [8]) (w := (bW6 S)) C hR (c_X8_at _ _ _ _ _ 296 (b6g_edgeChildren S) (x3) _ h) my_X8_at m_6_90 rfl (Nat.le_of_ble_eq_true rfl) (Nat.le_of_ble_eq_true rfl) (su_bW6_8_bWan296 S) rfl (st := []) (Nat.le_of_ble_eq_true rfl) (bf_dk dd_X6_goneAlong 26 rfl) rfl (fun _ => rfl) (fun r7 h => ?_)
        refine bs_goto C (bf_dk dd_X6_goneAlong 27 rfl) (tgt := 56) rfl ?_
        exact bs_iret (u := S) C (bf_dk dd_X6_goneAlong 29 rfl) rfl ⟨rfl, h⟩
def wp_X6_goneAlong_9 (S : bT6) (x1 : Int32) (x2 : Int32) (x3 : Int32) (Q : Int32 → Prop) : Prop := ∃ I : Nat → Int32 → Int32 → Int32 → Prop, (∃ n : Nat, I n x1 x2 x3) ∧ ∀ (n : Nat) (x1 : Int32) (x2 : Int32) (x3 : Int32), I n x1 x2 x3 → wp_X6_goneAlong_9b S x1 x2 x3 Q (fun x1 x2 x3 => ∃ n2 : Nat, n2 < n ∧ I n2 x1 x2 x3)
theorem t_X6_goneAlong_9 {X : bf_X} (C : bf_C X RX6 cX6_goneAlong 4 (some .int)) (hR : bf_Rm X 2 42) (S : bT6) (x1 : Int32) (x2 : Int32) (x3 : Int32) (Q : Int32 → Prop) (h : wp_X6_goneAlong_9 S x1 x2 x3 Q) : bf_A X (bf_Zi X bW6 (fun r u => u = S ∧ Q r)) 4 9 [some (.ref 0), some (.int x1), some (.int x2), some (.int x3)] [] (bW6 S) := by
  obtain ⟨I, ⟨n0, h0⟩, hI⟩ := h
  have key : ∀ (n : Nat) (x1 : Int32) (x2 : Int32) (x3 : Int32), I n x1 x2 x3 → bf_A X (bf_Zi X bW6 (fun r u => u = S ∧ Q r)) 4 9 [some (.ref 0), some (.int x1), some (.int x2), some (.int x3)] [] (bW6 S) := by
    intro n
    induction n using Nat.strongRecOn with
    | _ n ih =>
      intro x1 x2 x3 hi
      exact t_X6_goneAlong_9b C hR S x1 x2 x3 Q _ (fun x1 x2 x3 hb => by obtain ⟨n2, hn, hi2⟩ := hb; exact ih n2 hn x1 x2 x3 hi2) (hI n x1 x2 x3 hi)
  exact key n0 x1 x2 x3 h0
def wp_X6_goneAlong (S : bT6) (a1 : Int32) (a2 : Int32) (Q : Int32 → Prop) : Prop := (wp_X8_at 233 (b6g_edgeStarts S) (a1) (fun r9 => (wp_X6_goneAlong_9 S (a1) (a2) (r9) Q)))
set_option maxRecDepth 20000 in
theorem t_X6_goneAlong {X : bf_X} (C : bf_C X RX6 cX6_goneAlong 4 (some .int)) (hR : bf_Rm X 2 42) (S : bT6) (a1 : Int32) (a2 : Int32) (Q : Int32 → Prop) (h : wp_X6_goneAlong S a1 a2 Q) : bf_A X (bf_Zi X bW6 (fun r u => u = S ∧ Q r)) 4 0 [some (.ref 0), some (.int a1), some (.int a2), none] [] (bW6 S) := by
  unfold wp_X6_goneAlong at h
  refine bs_aload_n C (bf_dk dd_X6_goneAlong 0 rfl) rfl ?_
  refine bs_get C (bf_dk dd_X6_goneAlong 1 rfl) cl_6 in_6 3 (Nat.le_of_ble_eq_true rfl) rfl f_6_21 (ge_bW6_0 S) rfl ?_
  refine bs_iload_n C (bf_dk dd_X6_goneAlong 2 rfl) rfl ?_
  refine bs_pureSN_i (ps := [4]) (w := (bW6 S)) C hR (c_X8_at _ _ _ _ _ 233 (b6g_edgeStarts S) (a1) _ h) my_X8_at m_6_90 rfl (Nat.le_of_ble_eq_true rfl) (Nat.le_of_ble_eq_true rfl) (su_bW6_4_bWan233 S) rfl (st := []) (Nat.le_of_ble_eq_true rfl) (bf_dk dd_X6_goneAlong 3 rfl) rfl (fun _ => rfl) (fun r9 h => ?_)
  refine bs_istore_n C (bf_dk dd_X6_goneAlong 4 rfl) rfl (Nat.le_of_ble_eq_true rfl) (Nat.le_of_ble_eq_true rfl) (lv2 := [some (.ref 0), some (.int a1), some (.int a2), some (.int r9)]) rfl ?_
  exact bs_weak (bf_s1 (bf_s1 (bf_s1 (bf_s1 bf_s0)))) (t_X6_goneAlong_9 C hR S (a1) (a2) (r9) Q h)
theorem c_X6_goneAlong (l : Launch) (dC : Nat → ClassId) (dI : Nat → Nat → Nat) (ac : Nat → ClassId) (al : Nat → Nat) (S : bT6) (a1 : Int32) (a2 : Int32) (Q : Int32 → Prop) (h : wp_X6_goneAlong S a1 a2 Q) : bf_M l yX6_goneAlong cX6_goneAlong 4 (some .int) 2 42 dC dI ac al [.ref 0, .int a1, .int a2] (bW6 S) (bf_Ki dC dI ac al bW6 (fun r u => u = S ∧ Q r)) := by
  refine bf_start [some (.ref 0), some (.int a1), some (.int a2), none] (by decide) (Nat.le_of_ble_eq_true rfl) (bf_s1 (bf_s1 (bf_s1 (bf_en 1)))) ?_
  intro X hl C hR e1 e2 e3 e4
  subst e1; subst e2; subst e3; subst e4
  exact t_X6_goneAlong C hR S a1 a2 Q h
def wp_X6_isOfItems_15 (Q : Int32 → Prop) : Prop := (bf_bool (1 : Int32) ∧ Q (1 : Int32))
set_option maxRecDepth 20000 in
theorem t_X6_isOfItems_15 {X : bf_X} (C : bf_C X RX6 cX6_isOfItems 1 (some .boolean)) (hR : bf_Rm X 0 0) (Q : Int32 → Prop) (h : wp_X6_isOfItems_15 Q) : bf_A X (bf_Zi X bWu (fun r u => u = () ∧ Q r)) 1 15 [none] [] (bWu ()) := by
  unfold wp_X6_isOfItems_15 at h
  refine bs_iconst C (bf_dk dd_X6_isOfItems 9 rfl) (1 : Int32) (by decide) ?_
  refine bs_goto C (bf_dk dd_X6_isOfItems 10 rfl) (tgt := 20) rfl ?_
  obtain ⟨hi, h⟩ := h
  exact bs_zret (u := ()) C (bf_dk dd_X6_isOfItems 12 rfl) hi rfl ⟨rfl, h⟩
def wp_X6_isOfItems (a0 : Int32) (Q : Int32 → Prop) : Prop := ((a0 = (3 : Int32) → (wp_X6_isOfItems_15 Q)) ∧ (¬ a0 = (3 : Int32) → ((a0 = (4 : Int32) → (wp_X6_isOfItems_15 Q)) ∧ (¬ a0 = (4 : Int32) → ((¬ a0 = (5 : Int32) → (bf_bool (0 : Int32) ∧ Q (0 : Int32))) ∧ (a0 = (5 : Int32) → (wp_X6_isOfItems_15 Q)))))))
set_option maxRecDepth 20000 in
theorem t_X6_isOfItems {X : bf_X} (C : bf_C X RX6 cX6_isOfItems 1 (some .boolean)) (hR : bf_Rm X 0 0) (a0 : Int32) (Q : Int32 → Prop) (h : wp_X6_isOfItems a0 Q) : bf_A X (bf_Zi X bWu (fun r u => u = () ∧ Q r)) 1 0 [some (.int a0)] [] (bWu ()) := by
  unfold wp_X6_isOfItems at h
  refine bs_iload_n C (bf_dk dd_X6_isOfItems 0 rfl) rfl ?_
  refine bs_iconst C (bf_dk dd_X6_isOfItems 1 rfl) (3 : Int32) (by decide) ?_
  refine bs_icmp_eq C (bf_dk dd_X6_isOfItems 2 rfl) (tgt := 15) rfl (fun c => ?_) (fun c => ?_)
  · replace h := h.1 c
    exact bs_weak (bf_sn bf_s0) (t_X6_isOfItems_15 C hR Q h)
  · replace h := h.2 c
    refine bs_iload_n C (bf_dk dd_X6_isOfItems 3 rfl) rfl ?_
    refine bs_iconst C (bf_dk dd_X6_isOfItems 4 rfl) (4 : Int32) (by decide) ?_
    refine bs_icmp_eq C (bf_dk dd_X6_isOfItems 5 rfl) (tgt := 15) rfl (fun c => ?_) (fun c => ?_)
    · replace h := h.1 c
      exact bs_weak (bf_sn bf_s0) (t_X6_isOfItems_15 C hR Q h)
    · replace h := h.2 c
      refine bs_iload_n C (bf_dk dd_X6_isOfItems 6 rfl) rfl ?_
      refine bs_iconst C (bf_dk dd_X6_isOfItems 7 rfl) (5 : Int32) (by decide) ?_
      refine bs_icmp_ne C (bf_dk dd_X6_isOfItems 8 rfl) (tgt := 19) rfl (fun c => ?_) (fun c => ?_)
      · replace h := h.1 c
        refine bs_iconst C (bf_dk dd_X6_isOfItems 11 rfl) (0 : Int32) (by decide) ?_
        obtain ⟨hi, h⟩ := h
        exact bs_zret (u := ()) C (bf_dk dd_X6_isOfItems 12 rfl) hi rfl ⟨rfl, h⟩
      · replace h := h.2 c
        exact bs_weak (bf_sn bf_s0) (t_X6_isOfItems_15 C hR Q h)
theorem c_X6_isOfItems (l : Launch) (dC : Nat → ClassId) (dI : Nat → Nat → Nat) (ac : Nat → ClassId) (al : Nat → Nat) (a0 : Int32) (Q : Int32 → Prop) (h : wp_X6_isOfItems a0 Q) : bf_M l yX6_isOfItems cX6_isOfItems 1 (some .boolean) 0 0 dC dI ac al [.int a0] (bWu ()) (bf_Ki dC dI ac al bWu (fun r u => u = () ∧ Q r)) := by
  refine bf_start [some (.int a0)] (by decide) (Nat.le_of_ble_eq_true rfl) (bf_s1 bf_s0) ?_
  intro X hl C hR e1 e2 e3 e4
  subst e1; subst e2; subst e3; subst e4
  exact t_X6_isOfItems C hR a0 Q h
def wp_X6_firstEdgeOf (S : bT6) (a1 : Int32) (Q : Int32 → Prop) : Prop := (wp_X6_isOfItems (a1) (fun r1 => ((r1 = 0 → (Q (0 : Int32))) ∧ (¬ r1 = 0 → (Q (b6g_itemStart S))))))
set_option maxRecDepth 20000 in
theorem t_X6_firstEdgeOf {X : bf_X} (C : bf_C X RX6 cX6_firstEdgeOf 2 (some .int)) (hR : bf_Rm X 1 20) (S : bT6) (a1 : Int32) (Q : Int32 → Prop) (h : wp_X6_firstEdgeOf S a1 Q) : bf_A X (bf_Zi X bW6 (fun r u => u = S ∧ Q r)) 2 0 [some (.ref 0), some (.int a1)] [] (bW6 S) := by
  unfold wp_X6_firstEdgeOf at h
  refine bs_iload_n C (bf_dk dd_X6_firstEdgeOf 0 rfl) rfl ?_
  refine bs_pureS_i (ps := []) (w := (bW6 S)) C hR (c_X6_isOfItems _ _ _ _ _ (a1) _ h) my_X6_isOfItems m_6_154 rfl (Nat.le_of_ble_eq_true rfl) (Nat.le_of_ble_eq_true rfl) rfl rfl (st := []) (Nat.le_of_ble_eq_true rfl) (bf_dk dd_X6_firstEdgeOf 1 rfl) rfl (fun _ => rfl) (fun r1 h => ?_)
  refine bs_if_eq C (bf_dk dd_X6_firstEdgeOf 2 rfl) (tgt := 14) rfl (fun c => ?_) (fun c => ?_)
  · replace h := h.1 c
    refine bs_iconst C (bf_dk dd_X6_firstEdgeOf 6 rfl) (0 : Int32) (by decide) ?_
    exact bs_iret (u := S) C (bf_dk dd_X6_firstEdgeOf 7 rfl) rfl ⟨rfl, h⟩
  · replace h := h.2 c
    refine bs_aload_n C (bf_dk dd_X6_firstEdgeOf 3 rfl) rfl ?_
    refine bs_get C (bf_dk dd_X6_firstEdgeOf 4 rfl) cl_6 in_6 18 (Nat.le_of_ble_eq_true rfl) rfl f_6_67 (ge_bW6_0 S) rfl ?_
    refine bs_goto C (bf_dk dd_X6_firstEdgeOf 5 rfl) (tgt := 15) rfl ?_
    exact bs_iret (u := S) C (bf_dk dd_X6_firstEdgeOf 7 rfl) rfl ⟨rfl, h⟩
theorem c_X6_firstEdgeOf (l : Launch) (dC : Nat → ClassId) (dI : Nat → Nat → Nat) (ac : Nat → ClassId) (al : Nat → Nat) (S : bT6) (a1 : Int32) (Q : Int32 → Prop) (h : wp_X6_firstEdgeOf S a1 Q) : bf_M l yX6_firstEdgeOf cX6_firstEdgeOf 2 (some .int) 1 20 dC dI ac al [.ref 0, .int a1] (bW6 S) (bf_Ki dC dI ac al bW6 (fun r u => u = S ∧ Q r)) := by
  refine bf_start [some (.ref 0), some (.int a1)] (by decide) (Nat.le_of_ble_eq_true rfl) (bf_s1 (bf_s1 bf_s0)) ?_
  intro X hl C hR e1 e2 e3 e4
  subst e1; subst e2; subst e3; subst e4
  exact t_X6_firstEdgeOf C hR S a1 Q h
def wp_X6_lastEdgeOf (S : bT6) (a1 : Int32) (Q : Int32 → Prop) : Prop := (wp_X6_isOfItems (a1) (fun r1 => ((r1 = 0 → (Q ((b6g_itemStart S) - (1 : Int32)))) ∧ (¬ r1 = 0 → (Q ((b6g_edges S) - (1 : Int32)))))))
set_option maxRecDepth 20000 in
theorem t_X6_lastEdgeOf {X : bf_X} (C : bf_C X RX6 cX6_lastEdgeOf 2 (some .int)) (hR : bf_Rm X 1 20) (S : bT6) (a1 : Int32) (Q : Int32 → Prop) (h : wp_X6_lastEdgeOf S a1 Q) : bf_A X (bf_Zi X bW6 (fun r u => u = S ∧ Q r)) 2 0 [some (.ref 0), some (.int a1)] [] (bW6 S) := by
  unfold wp_X6_lastEdgeOf at h
  refine bs_iload_n C (bf_dk dd_X6_lastEdgeOf 0 rfl) rfl ?_
  refine bs_pureS_i (ps := []) (w := (bW6 S)) C hR (c_X6_isOfItems _ _ _ _ _ (a1) _ h) my_X6_isOfItems m_6_154 rfl (Nat.le_of_ble_eq_true rfl) (Nat.le_of_ble_eq_true rfl) rfl rfl (st := []) (Nat.le_of_ble_eq_true rfl) (bf_dk dd_X6_lastEdgeOf 1 rfl) rfl (fun _ => rfl) (fun r1 h => ?_)
  refine bs_if_eq C (bf_dk dd_X6_lastEdgeOf 2 rfl) (tgt := 16) rfl (fun c => ?_) (fun c => ?_)
  · replace h := h.1 c
    refine bs_aload_n C (bf_dk dd_X6_lastEdgeOf 8 rfl) rfl ?_
    refine bs_get C (bf_dk dd_X6_lastEdgeOf 9 rfl) cl_6 in_6 18 (Nat.le_of_ble_eq_true rfl) rfl f_6_67 (ge_bW6_0 S) rfl ?_
    refine bs_iconst C (bf_dk dd_X6_lastEdgeOf 10 rfl) (1 : Int32) (by decide) ?_
    refine bs_isub C (bf_dk dd_X6_lastEdgeOf 11 rfl) ?_
    exact bs_iret (u := S) C (bf_dk dd_X6_lastEdgeOf 12 rfl) rfl ⟨rfl, h⟩
  · replace h := h.2 c
    refine bs_aload_n C (bf_dk dd_X6_lastEdgeOf 3 rfl) rfl ?_
    refine bs_get C (bf_dk dd_X6_lastEdgeOf 4 rfl) cl_6 in_6 13 (Nat.le_of_ble_eq_true rfl) rfl f_6_52 (ge_bW6_0 S) rfl ?_
    refine bs_iconst C (bf_dk dd_X6_lastEdgeOf 5 rfl) (1 : Int32) (by decide) ?_
    refine bs_isub C (bf_dk dd_X6_lastEdgeOf 6 rfl) ?_
    refine bs_goto C (bf_dk dd_X6_lastEdgeOf 7 rfl) (tgt := 22) rfl ?_
    exact bs_iret (u := S) C (bf_dk dd_X6_lastEdgeOf 12 rfl) rfl ⟨rfl, h⟩
theorem c_X6_lastEdgeOf (l : Launch) (dC : Nat → ClassId) (dI : Nat → Nat → Nat) (ac : Nat → ClassId) (al : Nat → Nat) (S : bT6) (a1 : Int32) (Q : Int32 → Prop) (h : wp_X6_lastEdgeOf S a1 Q) : bf_M l yX6_lastEdgeOf cX6_lastEdgeOf 2 (some .int) 1 20 dC dI ac al [.ref 0, .int a1] (bW6 S) (bf_Ki dC dI ac al bW6 (fun r u => u = S ∧ Q r)) := by
  refine bf_start [some (.ref 0), some (.int a1)] (by decide) (Nat.le_of_ble_eq_true rfl) (bf_s1 (bf_s1 bf_s0)) ?_
  intro X hl C hR e1 e2 e3 e4
  subst e1; subst e2; subst e3; subst e4
  exact t_X6_lastEdgeOf C hR S a1 Q h
def wp_X6_rowLength_9 (S : bT6) (Q : Int32 → Prop) : Prop := (Q ((256 : Int32) * (b6g_upperNodes S)))
set_option maxRecDepth 20000 in
theorem t_X6_rowLength_9 {X : bf_X} (C : bf_C X RX6 cX6_rowLength 2 (some .int)) (hR : bf_Rm X 1 20) (S : bT6) (Q : Int32 → Prop) (h : wp_X6_rowLength_9 S Q) : bf_A X (bf_Zi X bW6 (fun r u => u = S ∧ Q r)) 2 9 [some (.ref 0), none] [] (bW6 S) := by
  unfold wp_X6_rowLength_9 at h
  refine bs_sipush C (bf_dk dd_X6_rowLength 5 rfl) (256 : Int32) (by decide) ?_
  refine bs_aload_n C (bf_dk dd_X6_rowLength 6 rfl) rfl ?_
  refine bs_get C (bf_dk dd_X6_rowLength 7 rfl) cl_6 in_6 17 (Nat.le_of_ble_eq_true rfl) rfl f_6_64 (ge_bW6_0 S) rfl ?_
  refine bs_imul C (bf_dk dd_X6_rowLength 8 rfl) ?_
  exact bs_iret (u := S) C (bf_dk dd_X6_rowLength 9 rfl) rfl ⟨rfl, h⟩
def wp_X6_rowLength (S : bT6) (a1 : Int32) (Q : Int32 → Prop) : Prop := ((a1 = 0 → (wp_X6_rowLength_9 S Q)) ∧ (¬ a1 = 0 → ((¬ a1 = (1 : Int32) → ((¬ a1 = (2 : Int32) → (wp_X6_items S (fun r1 => (Q r1)))) ∧ (a1 = (2 : Int32) → (Q (b6g_upperNodes S))))) ∧ (a1 = (1 : Int32) → (wp_X6_rowLength_9 S Q)))))
set_option maxRecDepth 20000 in
theorem t_X6_rowLength {X : bf_X} (C : bf_C X RX6 cX6_rowLength 2 (some .int)) (hR : bf_Rm X 1 20) (S : bT6) (a1 : Int32) (Q : Int32 → Prop) (h : wp_X6_rowLength S a1 Q) : bf_A X (bf_Zi X bW6 (fun r u => u = S ∧ Q r)) 2 0 [some (.ref 0), some (.int a1)] [] (bW6 S) := by
  unfold wp_X6_rowLength at h
  refine bs_iload_n C (bf_dk dd_X6_rowLength 0 rfl) rfl ?_
  refine bs_if_eq C (bf_dk dd_X6_rowLength 1 rfl) (tgt := 9) rfl (fun c => ?_) (fun c => ?_)
  · replace h := h.1 c
    exact bs_weak (bf_s1 (bf_sn bf_s0)) (t_X6_rowLength_9 C hR S Q h)
  · replace h := h.2 c
    refine bs_iload_n C (bf_dk dd_X6_rowLength 2 rfl) rfl ?_
    refine bs_iconst C (bf_dk dd_X6_rowLength 3 rfl) (1 : Int32) (by decide) ?_
    refine bs_icmp_ne C (bf_dk dd_X6_rowLength 4 rfl) (tgt := 18) rfl (fun c => ?_) (fun c => ?_)
    · replace h := h.1 c
      refine bs_iload_n C (bf_dk dd_X6_rowLength 10 rfl) rfl ?_
      refine bs_iconst C (bf_dk dd_X6_rowLength 11 rfl) (2 : Int32) (by decide) ?_
      refine bs_icmp_ne C (bf_dk dd_X6_rowLength 12 rfl) (tgt := 30) rfl (fun c => ?_) (fun c => ?_)
      · replace h := h.1 c
        refine bs_aload_n C (bf_dk dd_X6_rowLength 16 rfl) rfl ?_
        refine bs_selfPV_i C hR (c_X6_items _ _ _ _ _ S _ h) my_X6_items m_6_157 rfl cl_6 (ge_bW6_0 _) rfl (Nat.le_of_ble_eq_true rfl) (Nat.le_of_ble_eq_true rfl) (st := []) (Nat.le_of_ble_eq_true rfl) (bf_dk dd_X6_rowLength 17 rfl) rfl (fun r1 h => ?_)
        exact bs_iret (u := S) C (bf_dk dd_X6_rowLength 18 rfl) rfl ⟨rfl, h⟩
      · replace h := h.2 c
        refine bs_aload_n C (bf_dk dd_X6_rowLength 13 rfl) rfl ?_
        refine bs_get C (bf_dk dd_X6_rowLength 14 rfl) cl_6 in_6 17 (Nat.le_of_ble_eq_true rfl) rfl f_6_64 (ge_bW6_0 S) rfl ?_
        refine bs_goto C (bf_dk dd_X6_rowLength 15 rfl) (tgt := 34) rfl ?_
        exact bs_iret (u := S) C (bf_dk dd_X6_rowLength 18 rfl) rfl ⟨rfl, h⟩
    · replace h := h.2 c
      exact bs_weak (bf_s1 (bf_sn bf_s0)) (t_X6_rowLength_9 C hR S Q h)
theorem c_X6_rowLength (l : Launch) (dC : Nat → ClassId) (dI : Nat → Nat → Nat) (ac : Nat → ClassId) (al : Nat → Nat) (S : bT6) (a1 : Int32) (Q : Int32 → Prop) (h : wp_X6_rowLength S a1 Q) : bf_M l yX6_rowLength cX6_rowLength 2 (some .int) 1 20 dC dI ac al [.ref 0, .int a1] (bW6 S) (bf_Ki dC dI ac al bW6 (fun r u => u = S ∧ Q r)) := by
  refine bf_start [some (.ref 0), some (.int a1)] (by decide) (Nat.le_of_ble_eq_true rfl) (bf_s1 (bf_s1 bf_s0)) ?_
  intro X hl C hR e1 e2 e3 e4
  subst e1; subst e2; subst e3; subst e4
  exact t_X6_rowLength C hR S a1 Q h
def wp_X6_oneOf (S : bT6) (a1 : Int32) (a2 : Int32) (Q : Int32 → Prop) : Prop := (wp_X8_at 296 (b6g_edgeNodes S) (a2) (fun r1 => ((((a1).toInt < 0 ∨ 4 < (a1).toInt) → (wp_X8_at 233 (b6g_edgeStarts S) (r1) (fun r3 => ((¬ a2 = r3 → (Q (-1 : Int32))) ∧ (a2 = r3 → (Q (a2 - (b6g_itemStart S)))))))) ∧ (a1 = (0 : Int32) → (wp_X6_isEnd S (a2) (fun r5 => ((r5 = 0 → (wp_X8_at 296 (b6g_edgeOctets S) (a2) (fun r7 => (Q (((256 : Int32) * r1) + r7))))) ∧ (¬ r5 = 0 → (Q (-1 : Int32))))))) ∧ (a1 = (1 : Int32) → (wp_X6_hasChild S (a2) (fun r9 => ((r9 = 0 → (Q (-1 : Int32))) ∧ (¬ r9 = 0 → (wp_X8_at 296 (b6g_edgeOctets S) (a2) (fun r11 => (Q (((256 : Int32) * r1) + r11))))))))) ∧ (a1 = (2 : Int32) → (wp_X6_isEnd S (a2) (fun r13 => ((r13 = 0 → (Q (-1 : Int32))) ∧ (¬ r13 = 0 → (Q r1)))))) ∧ (a1 = (3 : Int32) → (wp_X6_isEnd S (a2) (fun r15 => ((r15 = 0 → (Q (-1 : Int32))) ∧ (¬ r15 = 0 → (Q (a2 - (b6g_itemStart S)))))))) ∧ (a1 = (4 : Int32) → (wp_X6_hasChild S (a2) (fun r17 => ((r17 = 0 → (Q (-1 : Int32))) ∧ (¬ r17 = 0 → (Q (a2 - (b6g_itemStart S)))))))))))
set_option maxRecDepth 20000 in
theorem t_X6_oneOf {X : bf_X} (C : bf_C X RX6 cX6_oneOf 4 (some .int)) (hR : bf_Rm X 2 42) (S : bT6) (a1 : Int32) (a2 : Int32) (Q : Int32 → Prop) (h : wp_X6_oneOf S a1 a2 Q) : bf_A X (bf_Zi X bW6 (fun r u => u = S ∧ Q r)) 4 0 [some (.ref 0), some (.int a1), some (.int a2), none] [] (bW6 S) := by
  unfold wp_X6_oneOf at h
  refine bs_aload_n C (bf_dk dd_X6_oneOf 0 rfl) rfl ?_
  refine bs_get C (bf_dk dd_X6_oneOf 1 rfl) cl_6 in_6 4 (Nat.le_of_ble_eq_true rfl) rfl f_6_24 (ge_bW6_0 S) rfl ?_
  refine bs_iload_n C (bf_dk dd_X6_oneOf 2 rfl) rfl ?_
  refine bs_pureSN_i (ps := [5]) (w := (bW6 S)) C hR (c_X8_at _ _ _ _ _ 296 (b6g_edgeNodes S) (a2) _ h) my_X8_at m_6_90 rfl (Nat.le_of_ble_eq_true rfl) (Nat.le_of_ble_eq_true rfl) (su_bW6_5_bWan296 S) rfl (st := []) (Nat.le_of_ble_eq_true rfl) (bf_dk dd_X6_oneOf 3 rfl) rfl (fun _ => rfl) (fun r1 h => ?_)
  refine bs_istore_n C (bf_dk dd_X6_oneOf 4 rfl) rfl (Nat.le_of_ble_eq_true rfl) (Nat.le_of_ble_eq_true rfl) (lv2 := [some (.ref 0), some (.int a1), some (.int a2), some (.int r1)]) rfl ?_
  refine bs_iload_n C (bf_dk dd_X6_oneOf 5 rfl) rfl ?_
  refine bs_table C (tdef := 150) (fun k => List.getD [44, 71, 98, 112, 131] k 0) 5 (bf_dk dd_X6_oneOf 6 rfl) rfl rfl (fun k hk => by rcases (show k = 0 ∨ k = 1 ∨ k = 2 ∨ k = 3 ∨ k = 4 by omega) with rfl | rfl | rfl | rfl | rfl <;> exact ⟨_, rfl, rfl⟩) (fun c => ?_) (fun k hk c => ?_)
  · replace h := h.1 c
    refine bs_iload_n C (bf_dk dd_X6_oneOf 67 rfl) rfl ?_
    refine bs_aload_n C (bf_dk dd_X6_oneOf 68 rfl) rfl ?_
    refine bs_get C (bf_dk dd_X6_oneOf 69 rfl) cl_6 in_6 3 (Nat.le_of_ble_eq_true rfl) rfl f_6_21 (ge_bW6_0 S) rfl ?_
    refine bs_iload_n C (bf_dk dd_X6_oneOf 70 rfl) rfl ?_
    refine bs_pureSN_i (ps := [4]) (w := (bW6 S)) C hR (c_X8_at _ _ _ _ _ 233 (b6g_edgeStarts S) (r1) _ h) my_X8_at m_6_90 rfl (Nat.le_of_ble_eq_true rfl) (Nat.le_of_ble_eq_true rfl) (su_bW6_4_bWan233 S) rfl (st := [.int a2]) (Nat.le_of_ble_eq_true rfl) (bf_dk dd_X6_oneOf 71 rfl) rfl (fun _ => rfl) (fun r3 h => ?_)
    refine bs_icmp_ne C (bf_dk dd_X6_oneOf 72 rfl) (tgt := 171) rfl (fun c => ?_) (fun c => ?_)
    · replace h := h.1 c
      refine bs_iconst C (bf_dk dd_X6_oneOf 78 rfl) (-1 : Int32) (by decide) ?_
      exact bs_iret (u := S) C (bf_dk dd_X6_oneOf 79 rfl) rfl ⟨rfl, h⟩
    · replace h := h.2 c
      refine bs_iload_n C (bf_dk dd_X6_oneOf 73 rfl) rfl ?_
      refine bs_aload_n C (bf_dk dd_X6_oneOf 74 rfl) rfl ?_
      refine bs_get C (bf_dk dd_X6_oneOf 75 rfl) cl_6 in_6 18 (Nat.le_of_ble_eq_true rfl) rfl f_6_67 (ge_bW6_0 S) rfl ?_
      refine bs_isub C (bf_dk dd_X6_oneOf 76 rfl) ?_
      refine bs_goto C (bf_dk dd_X6_oneOf 77 rfl) (tgt := 172) rfl ?_
      exact bs_iret (u := S) C (bf_dk dd_X6_oneOf 79 rfl) rfl ⟨rfl, h⟩
  · rcases (show k = 0 ∨ k = 1 ∨ k = 2 ∨ k = 3 ∨ k = 4 by omega) with rfl | rfl | rfl | rfl | rfl
    · replace h := h.2.1 (bf_i32 c (by decide))
      refine bs_aload_n C (bf_dk dd_X6_oneOf 7 rfl) rfl ?_
      refine bs_iload_n C (bf_dk dd_X6_oneOf 8 rfl) rfl ?_
      refine bs_selfPV_i C hR (c_X6_isEnd _ _ _ _ _ S (a2) _ h) my_X6_isEnd m_6_145 rfl cl_6 (ge_bW6_0 _) rfl (Nat.le_of_ble_eq_true rfl) (Nat.le_of_ble_eq_true rfl) (st := []) (Nat.le_of_ble_eq_true rfl) (bf_dk dd_X6_oneOf 9 rfl) rfl (fun r5 h => ?_)
      refine bs_if_eq C (bf_dk dd_X6_oneOf 10 rfl) (tgt := 56) rfl (fun c => ?_) (fun c => ?_)
      · replace h := h.1 c
        refine bs_sipush C (bf_dk dd_X6_oneOf 13 rfl) (256 : Int32) (by decide) ?_
        refine bs_iload_n C (bf_dk dd_X6_oneOf 14 rfl) rfl ?_
        refine bs_imul C (bf_dk dd_X6_oneOf 15 rfl) ?_
        refine bs_aload_n C (bf_dk dd_X6_oneOf 16 rfl) rfl ?_
        refine bs_get C (bf_dk dd_X6_oneOf 17 rfl) cl_6 in_6 5 (Nat.le_of_ble_eq_true rfl) rfl f_6_27 (ge_bW6_0 S) rfl ?_
        refine bs_iload_n C (bf_dk dd_X6_oneOf 18 rfl) rfl ?_
        refine bs_pureSN_i (ps := [6]) (w := (bW6 S)) C hR (c_X8_at _ _ _ _ _ 296 (b6g_edgeOctets S) (a2) _ h) my_X8_at m_6_90 rfl (Nat.le_of_ble_eq_true rfl) (Nat.le_of_ble_eq_true rfl) (su_bW6_6_bWan296 S) rfl (st := [.int ((256 : Int32) * r1)]) (Nat.le_of_ble_eq_true rfl) (bf_dk dd_X6_oneOf 19 rfl) rfl (fun _ => rfl) (fun r7 h => ?_)
        refine bs_iadd C (bf_dk dd_X6_oneOf 20 rfl) ?_
        exact bs_iret (u := S) C (bf_dk dd_X6_oneOf 21 rfl) rfl ⟨rfl, h⟩
      · replace h := h.2 c
        refine bs_iconst C (bf_dk dd_X6_oneOf 11 rfl) (-1 : Int32) (by decide) ?_
        refine bs_goto C (bf_dk dd_X6_oneOf 12 rfl) (tgt := 70) rfl ?_
        exact bs_iret (u := S) C (bf_dk dd_X6_oneOf 21 rfl) rfl ⟨rfl, h⟩
    · replace h := h.2.2.1 (bf_i32 c (by decide))
      refine bs_aload_n C (bf_dk dd_X6_oneOf 22 rfl) rfl ?_
      refine bs_iload_n C (bf_dk dd_X6_oneOf 23 rfl) rfl ?_
      refine bs_selfPV_i C hR (c_X6_hasChild _ _ _ _ _ S (a2) _ h) my_X6_hasChild m_6_151 rfl cl_6 (ge_bW6_0 _) rfl (Nat.le_of_ble_eq_true rfl) (Nat.le_of_ble_eq_true rfl) (st := []) (Nat.le_of_ble_eq_true rfl) (bf_dk dd_X6_oneOf 24 rfl) rfl (fun r9 h => ?_)
      refine bs_if_eq C (bf_dk dd_X6_oneOf 25 rfl) (tgt := 96) rfl (fun c => ?_) (fun c => ?_)
      · replace h := h.1 c
        refine bs_iconst C (bf_dk dd_X6_oneOf 35 rfl) (-1 : Int32) (by decide) ?_
        exact bs_iret (u := S) C (bf_dk dd_X6_oneOf 36 rfl) rfl ⟨rfl, h⟩
      · replace h := h.2 c
        refine bs_sipush C (bf_dk dd_X6_oneOf 26 rfl) (256 : Int32) (by decide) ?_
        refine bs_iload_n C (bf_dk dd_X6_oneOf 27 rfl) rfl ?_
        refine bs_imul C (bf_dk dd_X6_oneOf 28 rfl) ?_
        refine bs_aload_n C (bf_dk dd_X6_oneOf 29 rfl) rfl ?_
        refine bs_get C (bf_dk dd_X6_oneOf 30 rfl) cl_6 in_6 5 (Nat.le_of_ble_eq_true rfl) rfl f_6_27 (ge_bW6_0 S) rfl ?_
        refine bs_iload_n C (bf_dk dd_X6_oneOf 31 rfl) rfl ?_
        refine bs_pureSN_i (ps := [6]) (w := (bW6 S)) C hR (c_X8_at _ _ _ _ _ 296 (b6g_edgeOctets S) (a2) _ h) my_X8_at m_6_90 rfl (Nat.le_of_ble_eq_true rfl) (Nat.le_of_ble_eq_true rfl) (su_bW6_6_bWan296 S) rfl (st := [.int ((256 : Int32) * r1)]) (Nat.le_of_ble_eq_true rfl) (bf_dk dd_X6_oneOf 32 rfl) rfl (fun _ => rfl) (fun r11 h => ?_)
        refine bs_iadd C (bf_dk dd_X6_oneOf 33 rfl) ?_
        refine bs_goto C (bf_dk dd_X6_oneOf 34 rfl) (tgt := 97) rfl ?_
        exact bs_iret (u := S) C (bf_dk dd_X6_oneOf 36 rfl) rfl ⟨rfl, h⟩
    · replace h := h.2.2.2.1 (bf_i32 c (by decide))
      refine bs_aload_n C (bf_dk dd_X6_oneOf 37 rfl) rfl ?_
      refine bs_iload_n C (bf_dk dd_X6_oneOf 38 rfl) rfl ?_
      refine bs_selfPV_i C hR (c_X6_isEnd _ _ _ _ _ S (a2) _ h) my_X6_isEnd m_6_145 rfl cl_6 (ge_bW6_0 _) rfl (Nat.le_of_ble_eq_true rfl) (Nat.le_of_ble_eq_true rfl) (st := []) (Nat.le_of_ble_eq_true rfl) (bf_dk dd_X6_oneOf 39 rfl) rfl (fun r13 h => ?_)
      refine bs_if_eq C (bf_dk dd_X6_oneOf 40 rfl) (tgt := 110) rfl (fun c => ?_) (fun c => ?_)
      · replace h := h.1 c
        refine bs_iconst C (bf_dk dd_X6_oneOf 43 rfl) (-1 : Int32) (by decide) ?_
        exact bs_iret (u := S) C (bf_dk dd_X6_oneOf 44 rfl) rfl ⟨rfl, h⟩
      · replace h := h.2 c
        refine bs_iload_n C (bf_dk dd_X6_oneOf 41 rfl) rfl ?_
        refine bs_goto C (bf_dk dd_X6_oneOf 42 rfl) (tgt := 111) rfl ?_
        exact bs_iret (u := S) C (bf_dk dd_X6_oneOf 44 rfl) rfl ⟨rfl, h⟩
    · replace h := h.2.2.2.2.1 (bf_i32 c (by decide))
      refine bs_aload_n C (bf_dk dd_X6_oneOf 45 rfl) rfl ?_
      refine bs_iload_n C (bf_dk dd_X6_oneOf 46 rfl) rfl ?_
      refine bs_selfPV_i C hR (c_X6_isEnd _ _ _ _ _ S (a2) _ h) my_X6_isEnd m_6_145 rfl cl_6 (ge_bW6_0 _) rfl (Nat.le_of_ble_eq_true rfl) (Nat.le_of_ble_eq_true rfl) (st := []) (Nat.le_of_ble_eq_true rfl) (bf_dk dd_X6_oneOf 47 rfl) rfl (fun r15 h => ?_)
      refine bs_if_eq C (bf_dk dd_X6_oneOf 48 rfl) (tgt := 129) rfl (fun c => ?_) (fun c => ?_)
      · replace h := h.1 c
        refine bs_iconst C (bf_dk dd_X6_oneOf 54 rfl) (-1 : Int32) (by decide) ?_
        exact bs_iret (u := S) C (bf_dk dd_X6_oneOf 55 rfl) rfl ⟨rfl, h⟩
      · replace h := h.2 c
        refine bs_iload_n C (bf_dk dd_X6_oneOf 49 rfl) rfl ?_
        refine bs_aload_n C (bf_dk dd_X6_oneOf 50 rfl) rfl ?_
        refine bs_get C (bf_dk dd_X6_oneOf 51 rfl) cl_6 in_6 18 (Nat.le_of_ble_eq_true rfl) rfl f_6_67 (ge_bW6_0 S) rfl ?_
        refine bs_isub C (bf_dk dd_X6_oneOf 52 rfl) ?_
        refine bs_goto C (bf_dk dd_X6_oneOf 53 rfl) (tgt := 130) rfl ?_
        exact bs_iret (u := S) C (bf_dk dd_X6_oneOf 55 rfl) rfl ⟨rfl, h⟩
    · replace h := h.2.2.2.2.2 (bf_i32 c (by decide))
      refine bs_aload_n C (bf_dk dd_X6_oneOf 56 rfl) rfl ?_
      refine bs_iload_n C (bf_dk dd_X6_oneOf 57 rfl) rfl ?_
      refine bs_selfPV_i C hR (c_X6_hasChild _ _ _ _ _ S (a2) _ h) my_X6_hasChild m_6_151 rfl cl_6 (ge_bW6_0 _) rfl (Nat.le_of_ble_eq_true rfl) (Nat.le_of_ble_eq_true rfl) (st := []) (Nat.le_of_ble_eq_true rfl) (bf_dk dd_X6_oneOf 58 rfl) rfl (fun r17 h => ?_)
      refine bs_if_eq C (bf_dk dd_X6_oneOf 59 rfl) (tgt := 148) rfl (fun c => ?_) (fun c => ?_)
      · replace h := h.1 c
        refine bs_iconst C (bf_dk dd_X6_oneOf 65 rfl) (-1 : Int32) (by decide) ?_
        exact bs_iret (u := S) C (bf_dk dd_X6_oneOf 66 rfl) rfl ⟨rfl, h⟩
      · replace h := h.2 c
        refine bs_iload_n C (bf_dk dd_X6_oneOf 60 rfl) rfl ?_
        refine bs_aload_n C (bf_dk dd_X6_oneOf 61 rfl) rfl ?_
        refine bs_get C (bf_dk dd_X6_oneOf 62 rfl) cl_6 in_6 18 (Nat.le_of_ble_eq_true rfl) rfl f_6_67 (ge_bW6_0 S) rfl ?_
        refine bs_isub C (bf_dk dd_X6_oneOf 63 rfl) ?_
        refine bs_goto C (bf_dk dd_X6_oneOf 64 rfl) (tgt := 149) rfl ?_
        exact bs_iret (u := S) C (bf_dk dd_X6_oneOf 66 rfl) rfl ⟨rfl, h⟩
theorem c_X6_oneOf (l : Launch) (dC : Nat → ClassId) (dI : Nat → Nat → Nat) (ac : Nat → ClassId) (al : Nat → Nat) (S : bT6) (a1 : Int32) (a2 : Int32) (Q : Int32 → Prop) (h : wp_X6_oneOf S a1 a2 Q) : bf_M l yX6_oneOf cX6_oneOf 4 (some .int) 2 42 dC dI ac al [.ref 0, .int a1, .int a2] (bW6 S) (bf_Ki dC dI ac al bW6 (fun r u => u = S ∧ Q r)) := by
  refine bf_start [some (.ref 0), some (.int a1), some (.int a2), none] (by decide) (Nat.le_of_ble_eq_true rfl) (bf_s1 (bf_s1 (bf_s1 (bf_en 1)))) ?_
  intro X hl C hR e1 e2 e3 e4
  subst e1; subst e2; subst e3; subst e4
  exact t_X6_oneOf C hR S a1 a2 Q h
def wp_X6_onesAhead_50 (S : bT6) (x1 : Int32) (x2 : Int32) (x4 : Int32) (x5 : Int32) (t0 : Int32) (t1 : Int32) (Q : Int32 → Prop) (B16 : Int32 → Int32 → Int32 → Int32 → Int32 → Prop) : Prop := (B16 (x1) (x2) ((t0 + t1)) (x4) ((x5 + (1 : Int32))))
set_option maxRecDepth 20000 in
theorem t_X6_onesAhead_50 {X : bf_X} (C : bf_C X RX6 cX6_onesAhead 7 (some .int)) (hR : bf_Rm X 3 65) (S : bT6) (x1 : Int32) (x2 : Int32) (x4 : Int32) (x5 : Int32) (t0 : Int32) (t1 : Int32) (Q : Int32 → Prop) (B16 : Int32 → Int32 → Int32 → Int32 → Int32 → Prop) (hB16 : ∀ (x1 : Int32) (x2 : Int32) (x3 : Int32) (x4 : Int32) (x5 : Int32), B16 x1 x2 x3 x4 x5 → bf_A X (bf_Zi X bW6 (fun r u => u = S ∧ Q r)) 7 16 [some (.ref 0), some (.int x1), some (.int x2), some (.int x3), some (.int x4), some (.int x5), none] [] (bW6 S)) (h : wp_X6_onesAhead_50 S x1 x2 x4 x5 t0 t1 Q B16) : bf_A X (bf_Zi X bW6 (fun r u => u = S ∧ Q r)) 7 50 [some (.ref 0), some (.int x1), some (.int x2), none, some (.int x4), some (.int x5), none] [.int t1, .int t0] (bW6 S) := by
  unfold wp_X6_onesAhead_50 at h
  refine bs_iadd C (bf_dk dd_X6_onesAhead 28 rfl) ?_
  refine bs_istore_n C (bf_dk dd_X6_onesAhead 29 rfl) rfl (Nat.le_of_ble_eq_true rfl) (Nat.le_of_ble_eq_true rfl) (lv2 := [some (.ref 0), some (.int x1), some (.int x2), some (.int (t0 + t1)), some (.int x4), some (.int x5), none]) rfl ?_
  refine bs_iinc C (bf_dk dd_X6_onesAhead 30 rfl) (x5 + (1 : Int32)) rfl rfl (Nat.le_of_ble_eq_true rfl) (Nat.le_of_ble_eq_true rfl) (lv2 := [some (.ref 0), some (.int x1), some (.int x2), some (.int (t0 + t1)), some (.int x4), some (.int (x5 + (1 : Int32))), none]) rfl ?_
  refine bs_goto C (bf_dk dd_X6_onesAhead 31 rfl) (tgt := 16) rfl ?_
  exact bs_weak (bf_s1 (bf_s1 (bf_s1 (bf_s1 (bf_s1 (bf_s1 (bf_sn bf_s0))))))) (hB16 (x1) (x2) ((t0 + t1)) (x4) ((x5 + (1 : Int32))) h)
def wp_X6_onesAhead_49 (S : bT6) (x1 : Int32) (x2 : Int32) (x4 : Int32) (x5 : Int32) (t0 : Int32) (Q : Int32 → Prop) (B16 : Int32 → Int32 → Int32 → Int32 → Int32 → Prop) : Prop := (wp_X6_onesAhead_50 S (x1) (x2) (x4) (x5) (t0) ((0 : Int32)) Q B16)
set_option maxRecDepth 20000 in
theorem t_X6_onesAhead_49 {X : bf_X} (C : bf_C X RX6 cX6_onesAhead 7 (some .int)) (hR : bf_Rm X 3 65) (S : bT6) (x1 : Int32) (x2 : Int32) (x4 : Int32) (x5 : Int32) (t0 : Int32) (Q : Int32 → Prop) (B16 : Int32 → Int32 → Int32 → Int32 → Int32 → Prop) (hB16 : ∀ (x1 : Int32) (x2 : Int32) (x3 : Int32) (x4 : Int32) (x5 : Int32), B16 x1 x2 x3 x4 x5 → bf_A X (bf_Zi X bW6 (fun r u => u = S ∧ Q r)) 7 16 [some (.ref 0), some (.int x1), some (.int x2), some (.int x3), some (.int x4), some (.int x5), none] [] (bW6 S)) (h : wp_X6_onesAhead_49 S x1 x2 x4 x5 t0 Q B16) : bf_A X (bf_Zi X bW6 (fun r u => u = S ∧ Q r)) 7 49 [some (.ref 0), some (.int x1), some (.int x2), none, some (.int x4), some (.int x5), none] [.int t0] (bW6 S) := by
  unfold wp_X6_onesAhead_49 at h
  refine bs_iconst C (bf_dk dd_X6_onesAhead 27 rfl) (0 : Int32) (by decide) ?_
  exact bs_weak (bf_s1 (bf_s1 (bf_s1 (bf_sn (bf_s1 (bf_s1 (bf_sn bf_s0))))))) (t_X6_onesAhead_50 C hR S (x1) (x2) (x4) (x5) (t0) ((0 : Int32)) Q B16 hB16 h)
def wp_X6_onesAhead_16b (S : bT6) (x1 : Int32) (x2 : Int32) (x3 : Int32) (x4 : Int32) (x5 : Int32) (Q : Int32 → Prop) (B16 : Int32 → Int32 → Int32 → Int32 → Int32 → Prop) : Prop := ((x4 < x5 → (Q x3)) ∧ (¬ x4 < x5 → (wp_X6_oneOf S (x1) (x5) (fun r1 => ((r1 = (-1 : Int32) → (wp_X6_onesAhead_49 S (x1) (x2) (x4) (x5) (x3) Q B16)) ∧ (¬ r1 = (-1 : Int32) → ((x2 ≤ r1 → (wp_X6_onesAhead_49 S (x1) (x2) (x4) (x5) (x3) Q B16)) ∧ (¬ x2 ≤ r1 → (wp_X6_onesAhead_50 S (x1) (x2) (x4) (x5) (x3) ((1 : Int32)) Q B16)))))))))
set_option maxRecDepth 20000 in
theorem t_X6_onesAhead_16b {X : bf_X} (C : bf_C X RX6 cX6_onesAhead 7 (some .int)) (hR : bf_Rm X 3 65) (S : bT6) (x1 : Int32) (x2 : Int32) (x3 : Int32) (x4 : Int32) (x5 : Int32) (Q : Int32 → Prop) (B16 : Int32 → Int32 → Int32 → Int32 → Int32 → Prop) (hB16 : ∀ (x1 : Int32) (x2 : Int32) (x3 : Int32) (x4 : Int32) (x5 : Int32), B16 x1 x2 x3 x4 x5 → bf_A X (bf_Zi X bW6 (fun r u => u = S ∧ Q r)) 7 16 [some (.ref 0), some (.int x1), some (.int x2), some (.int x3), some (.int x4), some (.int x5), none] [] (bW6 S)) (h : wp_X6_onesAhead_16b S x1 x2 x3 x4 x5 Q B16) : bf_A X (bf_Zi X bW6 (fun r u => u = S ∧ Q r)) 7 16 [some (.ref 0), some (.int x1), some (.int x2), some (.int x3), some (.int x4), some (.int x5), none] [] (bW6 S) := by
  unfold wp_X6_onesAhead_16b at h
  refine bs_iload C (bf_dk dd_X6_onesAhead 10 rfl) rfl ?_
  refine bs_iload C (bf_dk dd_X6_onesAhead 11 rfl) rfl ?_
  refine bs_icmp_gt C (bf_dk dd_X6_onesAhead 12 rfl) (tgt := 58) rfl (fun c => ?_) (fun c => ?_)
  · replace h := h.1 c
    refine bs_iload_n C (bf_dk dd_X6_onesAhead 32 rfl) rfl ?_
    exact bs_iret (u := S) C (bf_dk dd_X6_onesAhead 33 rfl) rfl ⟨rfl, h⟩
  · replace h := h.2 c
    refine bs_aload_n C (bf_dk dd_X6_onesAhead 13 rfl) rfl ?_
    refine bs_iload_n C (bf_dk dd_X6_onesAhead 14 rfl) rfl ?_
    refine bs_iload C (bf_dk dd_X6_onesAhead 15 rfl) rfl ?_
    refine bs_selfPV_i C hR (c_X6_oneOf _ _ _ _ _ S (x1) (x5) _ h) my_X6_oneOf m_6_166 rfl cl_6 (ge_bW6_0 _) rfl (Nat.le_of_ble_eq_true rfl) (Nat.le_of_ble_eq_true rfl) (st := []) (Nat.le_of_ble_eq_true rfl) (bf_dk dd_X6_onesAhead 16 rfl) rfl (fun r1 h => ?_)
    refine bs_istore C (bf_dk dd_X6_onesAhead 17 rfl) (Nat.le_of_ble_eq_true rfl) (Nat.le_of_ble_eq_true rfl) (lv2 := [some (.ref 0), some (.int x1), some (.int x2), some (.int x3), some (.int x4), some (.int x5), some (.int r1)]) rfl ?_
    refine bs_iload_n C (bf_dk dd_X6_onesAhead 18 rfl) rfl ?_
    refine bs_iload C (bf_dk dd_X6_onesAhead 19 rfl) rfl ?_
    refine bs_iconst C (bf_dk dd_X6_onesAhead 20 rfl) (-1 : Int32) (by decide) ?_
    refine bs_icmp_eq C (bf_dk dd_X6_onesAhead 21 rfl) (tgt := 49) rfl (fun c => ?_) (fun c => ?_)
    · replace h := h.1 c
      exact bs_weak (bf_s1 (bf_s1 (bf_s1 (bf_sn (bf_s1 (bf_s1 (bf_sn bf_s0))))))) (t_X6_onesAhead_49 C hR S (x1) (x2) (x4) (x5) (x3) Q B16 hB16 h)
    · replace h := h.2 c
      refine bs_iload C (bf_dk dd_X6_onesAhead 22 rfl) rfl ?_
      refine bs_iload_n C (bf_dk dd_X6_onesAhead 23 rfl) rfl ?_
      refine bs_icmp_ge C (bf_dk dd_X6_onesAhead 24 rfl) (tgt := 49) rfl (fun c => ?_) (fun c => ?_)
      · replace h := h.1 c
        exact bs_weak (bf_s1 (bf_s1 (bf_s1 (bf_sn (bf_s1 (bf_s1 (bf_sn bf_s0))))))) (t_X6_onesAhead_49 C hR S (x1) (x2) (x4) (x5) (x3) Q B16 hB16 h)
      · replace h := h.2 c
        refine bs_iconst C (bf_dk dd_X6_onesAhead 25 rfl) (1 : Int32) (by decide) ?_
        refine bs_goto C (bf_dk dd_X6_onesAhead 26 rfl) (tgt := 50) rfl ?_
        exact bs_weak (bf_s1 (bf_s1 (bf_s1 (bf_sn (bf_s1 (bf_s1 (bf_sn bf_s0))))))) (t_X6_onesAhead_50 C hR S (x1) (x2) (x4) (x5) (x3) ((1 : Int32)) Q B16 hB16 h)
def wp_X6_onesAhead_16 (S : bT6) (x1 : Int32) (x2 : Int32) (x3 : Int32) (x4 : Int32) (x5 : Int32) (Q : Int32 → Prop) : Prop := ∃ I : Nat → Int32 → Int32 → Int32 → Int32 → Int32 → Prop, (∃ n : Nat, I n x1 x2 x3 x4 x5) ∧ ∀ (n : Nat) (x1 : Int32) (x2 : Int32) (x3 : Int32) (x4 : Int32) (x5 : Int32), I n x1 x2 x3 x4 x5 → wp_X6_onesAhead_16b S x1 x2 x3 x4 x5 Q (fun x1 x2 x3 x4 x5 => ∃ n2 : Nat, n2 < n ∧ I n2 x1 x2 x3 x4 x5)
theorem t_X6_onesAhead_16 {X : bf_X} (C : bf_C X RX6 cX6_onesAhead 7 (some .int)) (hR : bf_Rm X 3 65) (S : bT6) (x1 : Int32) (x2 : Int32) (x3 : Int32) (x4 : Int32) (x5 : Int32) (Q : Int32 → Prop) (h : wp_X6_onesAhead_16 S x1 x2 x3 x4 x5 Q) : bf_A X (bf_Zi X bW6 (fun r u => u = S ∧ Q r)) 7 16 [some (.ref 0), some (.int x1), some (.int x2), some (.int x3), some (.int x4), some (.int x5), none] [] (bW6 S) := by
  obtain ⟨I, ⟨n0, h0⟩, hI⟩ := h
  have key : ∀ (n : Nat) (x1 : Int32) (x2 : Int32) (x3 : Int32) (x4 : Int32) (x5 : Int32), I n x1 x2 x3 x4 x5 → bf_A X (bf_Zi X bW6 (fun r u => u = S ∧ Q r)) 7 16 [some (.ref 0), some (.int x1), some (.int x2), some (.int x3), some (.int x4), some (.int x5), none] [] (bW6 S) := by
    intro n
    induction n using Nat.strongRecOn with
    | _ n ih =>
      intro x1 x2 x3 x4 x5 hi
      exact t_X6_onesAhead_16b C hR S x1 x2 x3 x4 x5 Q _ (fun x1 x2 x3 x4 x5 hb => by obtain ⟨n2, hn, hi2⟩ := hb; exact ih n2 hn x1 x2 x3 x4 x5 hi2) (hI n x1 x2 x3 x4 x5 hi)
  exact key n0 x1 x2 x3 x4 x5 h0
def wp_X6_onesAhead (S : bT6) (a1 : Int32) (a2 : Int32) (Q : Int32 → Prop) : Prop := (wp_X6_lastEdgeOf S (a1) (fun r3 => (wp_X6_firstEdgeOf S (a1) (fun r5 => (wp_X6_onesAhead_16 S (a1) (a2) ((0 : Int32)) (r3) (r5) Q)))))
set_option maxRecDepth 20000 in
theorem t_X6_onesAhead {X : bf_X} (C : bf_C X RX6 cX6_onesAhead 7 (some .int)) (hR : bf_Rm X 3 65) (S : bT6) (a1 : Int32) (a2 : Int32) (Q : Int32 → Prop) (h : wp_X6_onesAhead S a1 a2 Q) : bf_A X (bf_Zi X bW6 (fun r u => u = S ∧ Q r)) 7 0 [some (.ref 0), some (.int a1), some (.int a2), none, none, none, none] [] (bW6 S) := by
  unfold wp_X6_onesAhead at h
  refine bs_iconst C (bf_dk dd_X6_onesAhead 0 rfl) (0 : Int32) (by decide) ?_
  refine bs_istore_n C (bf_dk dd_X6_onesAhead 1 rfl) rfl (Nat.le_of_ble_eq_true rfl) (Nat.le_of_ble_eq_true rfl) (lv2 := [some (.ref 0), some (.int a1), some (.int a2), some (.int (0 : Int32)), none, none, none]) rfl ?_
  refine bs_aload_n C (bf_dk dd_X6_onesAhead 2 rfl) rfl ?_
  refine bs_iload_n C (bf_dk dd_X6_onesAhead 3 rfl) rfl ?_
  refine bs_selfPV_i C hR (c_X6_lastEdgeOf _ _ _ _ _ S (a1) _ h) my_X6_lastEdgeOf m_6_160 rfl cl_6 (ge_bW6_0 _) rfl (Nat.le_of_ble_eq_true rfl) (Nat.le_of_ble_eq_true rfl) (st := []) (Nat.le_of_ble_eq_true rfl) (bf_dk dd_X6_onesAhead 4 rfl) rfl (fun r3 h => ?_)
  refine bs_istore C (bf_dk dd_X6_onesAhead 5 rfl) (Nat.le_of_ble_eq_true rfl) (Nat.le_of_ble_eq_true rfl) (lv2 := [some (.ref 0), some (.int a1), some (.int a2), some (.int (0 : Int32)), some (.int r3), none, none]) rfl ?_
  refine bs_aload_n C (bf_dk dd_X6_onesAhead 6 rfl) rfl ?_
  refine bs_iload_n C (bf_dk dd_X6_onesAhead 7 rfl) rfl ?_
  refine bs_selfPV_i C hR (c_X6_firstEdgeOf _ _ _ _ _ S (a1) _ h) my_X6_firstEdgeOf m_6_163 rfl cl_6 (ge_bW6_0 _) rfl (Nat.le_of_ble_eq_true rfl) (Nat.le_of_ble_eq_true rfl) (st := []) (Nat.le_of_ble_eq_true rfl) (bf_dk dd_X6_onesAhead 8 rfl) rfl (fun r5 h => ?_)
  refine bs_istore C (bf_dk dd_X6_onesAhead 9 rfl) (Nat.le_of_ble_eq_true rfl) (Nat.le_of_ble_eq_true rfl) (lv2 := [some (.ref 0), some (.int a1), some (.int a2), some (.int (0 : Int32)), some (.int r3), some (.int r5), none]) rfl ?_
  exact bs_weak (bf_s1 (bf_s1 (bf_s1 (bf_s1 (bf_s1 (bf_s1 (bf_sn bf_s0))))))) (t_X6_onesAhead_16 C hR S (a1) (a2) ((0 : Int32)) (r3) (r5) Q h)
theorem c_X6_onesAhead (l : Launch) (dC : Nat → ClassId) (dI : Nat → Nat → Nat) (ac : Nat → ClassId) (al : Nat → Nat) (S : bT6) (a1 : Int32) (a2 : Int32) (Q : Int32 → Prop) (h : wp_X6_onesAhead S a1 a2 Q) : bf_M l yX6_onesAhead cX6_onesAhead 7 (some .int) 3 65 dC dI ac al [.ref 0, .int a1, .int a2] (bW6 S) (bf_Ki dC dI ac al bW6 (fun r u => u = S ∧ Q r)) := by
  refine bf_start [some (.ref 0), some (.int a1), some (.int a2), none, none, none, none] (by decide) (Nat.le_of_ble_eq_true rfl) (bf_s1 (bf_s1 (bf_s1 (bf_en 4)))) ?_
  intro X hl C hR e1 e2 e3 e4
  subst e1; subst e2; subst e3; subst e4
  exact t_X6_onesAhead C hR S a1 a2 Q h
def wp_X6_placeOfOne_49 (S : bT6) (x1 : Int32) (x2 : Int32) (x3 : Int32) (x4 : Int32) (x5 : Int32) (Q : Int32 → Prop) (B16 : Int32 → Int32 → Int32 → Int32 → Int32 → Prop) : Prop := (B16 (x1) (x2) (x3) (x4) ((x5 + (1 : Int32))))
set_option maxRecDepth 20000 in
theorem t_X6_placeOfOne_49 {X : bf_X} (C : bf_C X RX6 cX6_placeOfOne 7 (some .int)) (hR : bf_Rm X 3 65) (S : bT6) (x1 : Int32) (x2 : Int32) (x3 : Int32) (x4 : Int32) (x5 : Int32) (Q : Int32 → Prop) (B16 : Int32 → Int32 → Int32 → Int32 → Int32 → Prop) (hB16 : ∀ (x1 : Int32) (x2 : Int32) (x3 : Int32) (x4 : Int32) (x5 : Int32), B16 x1 x2 x3 x4 x5 → bf_A X (bf_Zi X bW6 (fun r u => u = S ∧ Q r)) 7 16 [some (.ref 0), some (.int x1), some (.int x2), some (.int x3), some (.int x4), some (.int x5), none] [] (bW6 S)) (h : wp_X6_placeOfOne_49 S x1 x2 x3 x4 x5 Q B16) : bf_A X (bf_Zi X bW6 (fun r u => u = S ∧ Q r)) 7 49 [some (.ref 0), some (.int x1), some (.int x2), some (.int x3), some (.int x4), some (.int x5), none] [] (bW6 S) := by
  unfold wp_X6_placeOfOne_49 at h
  refine bs_iinc C (bf_dk dd_X6_placeOfOne 27 rfl) (x5 + (1 : Int32)) rfl rfl (Nat.le_of_ble_eq_true rfl) (Nat.le_of_ble_eq_true rfl) (lv2 := [some (.ref 0), some (.int x1), some (.int x2), some (.int x3), some (.int x4), some (.int (x5 + (1 : Int32))), none]) rfl ?_
  refine bs_goto C (bf_dk dd_X6_placeOfOne 28 rfl) (tgt := 16) rfl ?_
  exact bs_weak (bf_s1 (bf_s1 (bf_s1 (bf_s1 (bf_s1 (bf_s1 (bf_sn bf_s0))))))) (hB16 (x1) (x2) (x3) (x4) ((x5 + (1 : Int32))) h)
def wp_X6_placeOfOne_16b (S : bT6) (x1 : Int32) (x2 : Int32) (x3 : Int32) (x4 : Int32) (x5 : Int32) (Q : Int32 → Prop) (B16 : Int32 → Int32 → Int32 → Int32 → Int32 → Prop) : Prop := ((x4 < x5 → (Q (-1 : Int32))) ∧ (¬ x4 < x5 → (wp_X6_oneOf S (x1) (x5) (fun r1 => ((r1 = (-1 : Int32) → (wp_X6_placeOfOne_49 S (x1) (x2) (x3) (x4) (x5) Q B16)) ∧ (¬ r1 = (-1 : Int32) → ((¬ x3 = x2 → (wp_X6_placeOfOne_49 S (x1) (x2) ((x3 + (1 : Int32))) (x4) (x5) Q B16)) ∧ (x3 = x2 → (Q r1)))))))))
set_option maxRecDepth 20000 in
theorem t_X6_placeOfOne_16b {X : bf_X} (C : bf_C X RX6 cX6_placeOfOne 7 (some .int)) (hR : bf_Rm X 3 65) (S : bT6) (x1 : Int32) (x2 : Int32) (x3 : Int32) (x4 : Int32) (x5 : Int32) (Q : Int32 → Prop) (B16 : Int32 → Int32 → Int32 → Int32 → Int32 → Prop) (hB16 : ∀ (x1 : Int32) (x2 : Int32) (x3 : Int32) (x4 : Int32) (x5 : Int32), B16 x1 x2 x3 x4 x5 → bf_A X (bf_Zi X bW6 (fun r u => u = S ∧ Q r)) 7 16 [some (.ref 0), some (.int x1), some (.int x2), some (.int x3), some (.int x4), some (.int x5), none] [] (bW6 S)) (h : wp_X6_placeOfOne_16b S x1 x2 x3 x4 x5 Q B16) : bf_A X (bf_Zi X bW6 (fun r u => u = S ∧ Q r)) 7 16 [some (.ref 0), some (.int x1), some (.int x2), some (.int x3), some (.int x4), some (.int x5), none] [] (bW6 S) := by
  unfold wp_X6_placeOfOne_16b at h
  refine bs_iload C (bf_dk dd_X6_placeOfOne 10 rfl) rfl ?_
  refine bs_iload C (bf_dk dd_X6_placeOfOne 11 rfl) rfl ?_
  refine bs_icmp_gt C (bf_dk dd_X6_placeOfOne 12 rfl) (tgt := 55) rfl (fun c => ?_) (fun c => ?_)
  · replace h := h.1 c
    refine bs_iconst C (bf_dk dd_X6_placeOfOne 29 rfl) (-1 : Int32) (by decide) ?_
    exact bs_iret (u := S) C (bf_dk dd_X6_placeOfOne 30 rfl) rfl ⟨rfl, h⟩
  · replace h := h.2 c
    refine bs_aload_n C (bf_dk dd_X6_placeOfOne 13 rfl) rfl ?_
    refine bs_iload_n C (bf_dk dd_X6_placeOfOne 14 rfl) rfl ?_
    refine bs_iload C (bf_dk dd_X6_placeOfOne 15 rfl) rfl ?_
    refine bs_selfPV_i C hR (c_X6_oneOf _ _ _ _ _ S (x1) (x5) _ h) my_X6_oneOf m_6_166 rfl cl_6 (ge_bW6_0 _) rfl (Nat.le_of_ble_eq_true rfl) (Nat.le_of_ble_eq_true rfl) (st := []) (Nat.le_of_ble_eq_true rfl) (bf_dk dd_X6_placeOfOne 16 rfl) rfl (fun r1 h => ?_)
    refine bs_istore C (bf_dk dd_X6_placeOfOne 17 rfl) (Nat.le_of_ble_eq_true rfl) (Nat.le_of_ble_eq_true rfl) (lv2 := [some (.ref 0), some (.int x1), some (.int x2), some (.int x3), some (.int x4), some (.int x5), some (.int r1)]) rfl ?_
    refine bs_iload C (bf_dk dd_X6_placeOfOne 18 rfl) rfl ?_
    refine bs_iconst C (bf_dk dd_X6_placeOfOne 19 rfl) (-1 : Int32) (by decide) ?_
    refine bs_icmp_eq C (bf_dk dd_X6_placeOfOne 20 rfl) (tgt := 49) rfl (fun c => ?_) (fun c => ?_)
    · replace h := h.1 c
      exact bs_weak (bf_s1 (bf_s1 (bf_s1 (bf_s1 (bf_s1 (bf_s1 (bf_sn bf_s0))))))) (t_X6_placeOfOne_49 C hR S (x1) (x2) (x3) (x4) (x5) Q B16 hB16 h)
    · replace h := h.2 c
      refine bs_iload_n C (bf_dk dd_X6_placeOfOne 21 rfl) rfl ?_
      refine bs_iload_n C (bf_dk dd_X6_placeOfOne 22 rfl) rfl ?_
      refine bs_icmp_ne C (bf_dk dd_X6_placeOfOne 23 rfl) (tgt := 46) rfl (fun c => ?_) (fun c => ?_)
      · replace h := h.1 c
        refine bs_iinc C (bf_dk dd_X6_placeOfOne 26 rfl) (x3 + (1 : Int32)) rfl rfl (Nat.le_of_ble_eq_true rfl) (Nat.le_of_ble_eq_true rfl) (lv2 := [some (.ref 0), some (.int x1), some (.int x2), some (.int (x3 + (1 : Int32))), some (.int x4), some (.int x5), some (.int r1)]) rfl ?_
        exact bs_weak (bf_s1 (bf_s1 (bf_s1 (bf_s1 (bf_s1 (bf_s1 (bf_sn bf_s0))))))) (t_X6_placeOfOne_49 C hR S (x1) (x2) ((x3 + (1 : Int32))) (x4) (x5) Q B16 hB16 h)
      · replace h := h.2 c
        refine bs_iload C (bf_dk dd_X6_placeOfOne 24 rfl) rfl ?_
        exact bs_iret (u := S) C (bf_dk dd_X6_placeOfOne 25 rfl) rfl ⟨rfl, h⟩
def wp_X6_placeOfOne_16 (S : bT6) (x1 : Int32) (x2 : Int32) (x3 : Int32) (x4 : Int32) (x5 : Int32) (Q : Int32 → Prop) : Prop := ∃ I : Nat → Int32 → Int32 → Int32 → Int32 → Int32 → Prop, (∃ n : Nat, I n x1 x2 x3 x4 x5) ∧ ∀ (n : Nat) (x1 : Int32) (x2 : Int32) (x3 : Int32) (x4 : Int32) (x5 : Int32), I n x1 x2 x3 x4 x5 → wp_X6_placeOfOne_16b S x1 x2 x3 x4 x5 Q (fun x1 x2 x3 x4 x5 => ∃ n2 : Nat, n2 < n ∧ I n2 x1 x2 x3 x4 x5)
theorem t_X6_placeOfOne_16 {X : bf_X} (C : bf_C X RX6 cX6_placeOfOne 7 (some .int)) (hR : bf_Rm X 3 65) (S : bT6) (x1 : Int32) (x2 : Int32) (x3 : Int32) (x4 : Int32) (x5 : Int32) (Q : Int32 → Prop) (h : wp_X6_placeOfOne_16 S x1 x2 x3 x4 x5 Q) : bf_A X (bf_Zi X bW6 (fun r u => u = S ∧ Q r)) 7 16 [some (.ref 0), some (.int x1), some (.int x2), some (.int x3), some (.int x4), some (.int x5), none] [] (bW6 S) := by
  obtain ⟨I, ⟨n0, h0⟩, hI⟩ := h
  have key : ∀ (n : Nat) (x1 : Int32) (x2 : Int32) (x3 : Int32) (x4 : Int32) (x5 : Int32), I n x1 x2 x3 x4 x5 → bf_A X (bf_Zi X bW6 (fun r u => u = S ∧ Q r)) 7 16 [some (.ref 0), some (.int x1), some (.int x2), some (.int x3), some (.int x4), some (.int x5), none] [] (bW6 S) := by
    intro n
    induction n using Nat.strongRecOn with
    | _ n ih =>
      intro x1 x2 x3 x4 x5 hi
      exact t_X6_placeOfOne_16b C hR S x1 x2 x3 x4 x5 Q _ (fun x1 x2 x3 x4 x5 hb => by obtain ⟨n2, hn, hi2⟩ := hb; exact ih n2 hn x1 x2 x3 x4 x5 hi2) (hI n x1 x2 x3 x4 x5 hi)
  exact key n0 x1 x2 x3 x4 x5 h0
def wp_X6_placeOfOne (S : bT6) (a1 : Int32) (a2 : Int32) (Q : Int32 → Prop) : Prop := (wp_X6_lastEdgeOf S (a1) (fun r3 => (wp_X6_firstEdgeOf S (a1) (fun r5 => (wp_X6_placeOfOne_16 S (a1) (a2) ((0 : Int32)) (r3) (r5) Q)))))
set_option maxRecDepth 20000 in
theorem t_X6_placeOfOne {X : bf_X} (C : bf_C X RX6 cX6_placeOfOne 7 (some .int)) (hR : bf_Rm X 3 65) (S : bT6) (a1 : Int32) (a2 : Int32) (Q : Int32 → Prop) (h : wp_X6_placeOfOne S a1 a2 Q) : bf_A X (bf_Zi X bW6 (fun r u => u = S ∧ Q r)) 7 0 [some (.ref 0), some (.int a1), some (.int a2), none, none, none, none] [] (bW6 S) := by
  unfold wp_X6_placeOfOne at h
  refine bs_iconst C (bf_dk dd_X6_placeOfOne 0 rfl) (0 : Int32) (by decide) ?_
  refine bs_istore_n C (bf_dk dd_X6_placeOfOne 1 rfl) rfl (Nat.le_of_ble_eq_true rfl) (Nat.le_of_ble_eq_true rfl) (lv2 := [some (.ref 0), some (.int a1), some (.int a2), some (.int (0 : Int32)), none, none, none]) rfl ?_
  refine bs_aload_n C (bf_dk dd_X6_placeOfOne 2 rfl) rfl ?_
  refine bs_iload_n C (bf_dk dd_X6_placeOfOne 3 rfl) rfl ?_
  refine bs_selfPV_i C hR (c_X6_lastEdgeOf _ _ _ _ _ S (a1) _ h) my_X6_lastEdgeOf m_6_160 rfl cl_6 (ge_bW6_0 _) rfl (Nat.le_of_ble_eq_true rfl) (Nat.le_of_ble_eq_true rfl) (st := []) (Nat.le_of_ble_eq_true rfl) (bf_dk dd_X6_placeOfOne 4 rfl) rfl (fun r3 h => ?_)
  refine bs_istore C (bf_dk dd_X6_placeOfOne 5 rfl) (Nat.le_of_ble_eq_true rfl) (Nat.le_of_ble_eq_true rfl) (lv2 := [some (.ref 0), some (.int a1), some (.int a2), some (.int (0 : Int32)), some (.int r3), none, none]) rfl ?_
  refine bs_aload_n C (bf_dk dd_X6_placeOfOne 6 rfl) rfl ?_
  refine bs_iload_n C (bf_dk dd_X6_placeOfOne 7 rfl) rfl ?_
  refine bs_selfPV_i C hR (c_X6_firstEdgeOf _ _ _ _ _ S (a1) _ h) my_X6_firstEdgeOf m_6_163 rfl cl_6 (ge_bW6_0 _) rfl (Nat.le_of_ble_eq_true rfl) (Nat.le_of_ble_eq_true rfl) (st := []) (Nat.le_of_ble_eq_true rfl) (bf_dk dd_X6_placeOfOne 8 rfl) rfl (fun r5 h => ?_)
  refine bs_istore C (bf_dk dd_X6_placeOfOne 9 rfl) (Nat.le_of_ble_eq_true rfl) (Nat.le_of_ble_eq_true rfl) (lv2 := [some (.ref 0), some (.int a1), some (.int a2), some (.int (0 : Int32)), some (.int r3), some (.int r5), none]) rfl ?_
  exact bs_weak (bf_s1 (bf_s1 (bf_s1 (bf_s1 (bf_s1 (bf_s1 (bf_sn bf_s0))))))) (t_X6_placeOfOne_16 C hR S (a1) (a2) ((0 : Int32)) (r3) (r5) Q h)
theorem c_X6_placeOfOne (l : Launch) (dC : Nat → ClassId) (dI : Nat → Nat → Nat) (ac : Nat → ClassId) (al : Nat → Nat) (S : bT6) (a1 : Int32) (a2 : Int32) (Q : Int32 → Prop) (h : wp_X6_placeOfOne S a1 a2 Q) : bf_M l yX6_placeOfOne cX6_placeOfOne 7 (some .int) 3 65 dC dI ac al [.ref 0, .int a1, .int a2] (bW6 S) (bf_Ki dC dI ac al bW6 (fun r u => u = S ∧ Q r)) := by
  refine bf_start [some (.ref 0), some (.int a1), some (.int a2), none, none, none, none] (by decide) (Nat.le_of_ble_eq_true rfl) (bf_s1 (bf_s1 (bf_s1 (bf_en 4)))) ?_
  intro X hl C hR e1 e2 e3 e4
  subst e1; subst e2; subst e3; subst e4
  exact t_X6_placeOfOne C hR S a1 a2 Q h
def wp_X7_zerosFromHighest_2b (x0 : Int32) (x1 : Int32) (Q : Int32 → Prop) (B2 : Int32 → Int32 → Prop) : Prop := (((8 : Int32) ≤ x1 → (Q x1)) ∧ (¬ (8 : Int32) ≤ x1 → (wp_X8_highest (x0) ((x1 + (1 : Int32))) (fun r1 => ((¬ r1 = 0 → (Q x1)) ∧ (r1 = 0 → (B2 (x0) ((x1 + (1 : Int32))))))))))
set_option maxRecDepth 20000 in
theorem t_X7_zerosFromHighest_2b {X : bf_X} (C : bf_C X RX7 cX7_zerosFromHighest 2 (some .int)) (hR : bf_Rm X 1 21) (x0 : Int32) (x1 : Int32) (Q : Int32 → Prop) (B2 : Int32 → Int32 → Prop) (hB2 : ∀ (x0 : Int32) (x1 : Int32), B2 x0 x1 → bf_A X (bf_Zi X bWu (fun r u => u = () ∧ Q r)) 2 2 [some (.int x0), some (.int x1)] [] (bWu ())) (h : wp_X7_zerosFromHighest_2b x0 x1 Q B2) : bf_A X (bf_Zi X bWu (fun r u => u = () ∧ Q r)) 2 2 [some (.int x0), some (.int x1)] [] (bWu ()) := by
  unfold wp_X7_zerosFromHighest_2b at h
  refine bs_iload_n C (bf_dk dd_X7_zerosFromHighest 2 rfl) rfl ?_
  refine bs_bipush C (bf_dk dd_X7_zerosFromHighest 3 rfl) (8 : Int32) (by decide) ?_
  refine bs_icmp_ge C (bf_dk dd_X7_zerosFromHighest 4 rfl) (tgt := 24) rfl (fun c => ?_) (fun c => ?_)
  · replace h := h.1 c
    refine bs_iload_n C (bf_dk dd_X7_zerosFromHighest 13 rfl) rfl ?_
    exact bs_iret (u := ()) C (bf_dk dd_X7_zerosFromHighest 14 rfl) rfl ⟨rfl, h⟩
  · replace h := h.2 c
    refine bs_iload_n C (bf_dk dd_X7_zerosFromHighest 5 rfl) rfl ?_
    refine bs_iload_n C (bf_dk dd_X7_zerosFromHighest 6 rfl) rfl ?_
    refine bs_iconst C (bf_dk dd_X7_zerosFromHighest 7 rfl) (1 : Int32) (by decide) ?_
    refine bs_iadd C (bf_dk dd_X7_zerosFromHighest 8 rfl) ?_
    refine bs_pureSN_i (ps := []) (w := (bWu ())) C hR (c_X8_highest _ _ _ _ _ (x0) ((x1 + (1 : Int32))) _ h) my_X8_highest m_7_101 rfl (Nat.le_of_ble_eq_true rfl) (Nat.le_of_ble_eq_true rfl) rfl rfl (st := []) (Nat.le_of_ble_eq_true rfl) (bf_dk dd_X7_zerosFromHighest 9 rfl) rfl (fun _ => rfl) (fun r1 h => ?_)
    refine bs_if_ne C (bf_dk dd_X7_zerosFromHighest 10 rfl) (tgt := 24) rfl (fun c => ?_) (fun c => ?_)
    · replace h := h.1 c
      refine bs_iload_n C (bf_dk dd_X7_zerosFromHighest 13 rfl) rfl ?_
      exact bs_iret (u := ()) C (bf_dk dd_X7_zerosFromHighest 14 rfl) rfl ⟨rfl, h⟩
    · replace h := h.2 c
      refine bs_iinc C (bf_dk dd_X7_zerosFromHighest 11 rfl) (x1 + (1 : Int32)) rfl rfl (Nat.le_of_ble_eq_true rfl) (Nat.le_of_ble_eq_true rfl) (lv2 := [some (.int x0), some (.int (x1 + (1 : Int32)))]) rfl ?_
      refine bs_goto C (bf_dk dd_X7_zerosFromHighest 12 rfl) (tgt := 2) rfl ?_
      exact bs_weak (bf_s1 (bf_s1 bf_s0)) (hB2 (x0) ((x1 + (1 : Int32))) h)
def wp_X7_zerosFromHighest_2 (x0 : Int32) (x1 : Int32) (Q : Int32 → Prop) : Prop := ∃ I : Nat → Int32 → Int32 → Prop, (∃ n : Nat, I n x0 x1) ∧ ∀ (n : Nat) (x0 : Int32) (x1 : Int32), I n x0 x1 → wp_X7_zerosFromHighest_2b x0 x1 Q (fun x0 x1 => ∃ n2 : Nat, n2 < n ∧ I n2 x0 x1)
theorem t_X7_zerosFromHighest_2 {X : bf_X} (C : bf_C X RX7 cX7_zerosFromHighest 2 (some .int)) (hR : bf_Rm X 1 21) (x0 : Int32) (x1 : Int32) (Q : Int32 → Prop) (h : wp_X7_zerosFromHighest_2 x0 x1 Q) : bf_A X (bf_Zi X bWu (fun r u => u = () ∧ Q r)) 2 2 [some (.int x0), some (.int x1)] [] (bWu ()) := by
  obtain ⟨I, ⟨n0, h0⟩, hI⟩ := h
  have key : ∀ (n : Nat) (x0 : Int32) (x1 : Int32), I n x0 x1 → bf_A X (bf_Zi X bWu (fun r u => u = () ∧ Q r)) 2 2 [some (.int x0), some (.int x1)] [] (bWu ()) := by
    intro n
    induction n using Nat.strongRecOn with
    | _ n ih =>
      intro x0 x1 hi
      exact t_X7_zerosFromHighest_2b C hR x0 x1 Q _ (fun x0 x1 hb => by obtain ⟨n2, hn, hi2⟩ := hb; exact ih n2 hn x0 x1 hi2) (hI n x0 x1 hi)
  exact key n0 x0 x1 h0
def wp_X7_zerosFromHighest (a0 : Int32) (Q : Int32 → Prop) : Prop := (wp_X7_zerosFromHighest_2 (a0) ((0 : Int32)) Q)
set_option maxRecDepth 20000 in
theorem t_X7_zerosFromHighest {X : bf_X} (C : bf_C X RX7 cX7_zerosFromHighest 2 (some .int)) (hR : bf_Rm X 1 21) (a0 : Int32) (Q : Int32 → Prop) (h : wp_X7_zerosFromHighest a0 Q) : bf_A X (bf_Zi X bWu (fun r u => u = () ∧ Q r)) 2 0 [some (.int a0), none] [] (bWu ()) := by
  unfold wp_X7_zerosFromHighest at h
  refine bs_iconst C (bf_dk dd_X7_zerosFromHighest 0 rfl) (0 : Int32) (by decide) ?_
  refine bs_istore_n C (bf_dk dd_X7_zerosFromHighest 1 rfl) rfl (Nat.le_of_ble_eq_true rfl) (Nat.le_of_ble_eq_true rfl) (lv2 := [some (.int a0), some (.int (0 : Int32))]) rfl ?_
  exact bs_weak (bf_s1 (bf_s1 bf_s0)) (t_X7_zerosFromHighest_2 C hR (a0) ((0 : Int32)) Q h)
theorem c_X7_zerosFromHighest (l : Launch) (dC : Nat → ClassId) (dI : Nat → Nat → Nat) (ac : Nat → ClassId) (al : Nat → Nat) (a0 : Int32) (Q : Int32 → Prop) (h : wp_X7_zerosFromHighest a0 Q) : bf_M l yX7_zerosFromHighest cX7_zerosFromHighest 2 (some .int) 1 21 dC dI ac al [.int a0] (bWu ()) (bf_Ki dC dI ac al bWu (fun r u => u = () ∧ Q r)) := by
  refine bf_start [some (.int a0), none] (by decide) (Nat.le_of_ble_eq_true rfl) (bf_s1 (bf_en 1)) ?_
  intro X hl C hR e1 e2 e3 e4
  subst e1; subst e2; subst e3; subst e4
  exact t_X7_zerosFromHighest C hR a0 Q h
def wp_X7_zerosFromLowest_2b (x0 : Int32) (x1 : Int32) (Q : Int32 → Prop) (B2 : Int32 → Int32 → Prop) : Prop := (((8 : Int32) ≤ x1 → (Q x1)) ∧ (¬ (8 : Int32) ≤ x1 → (wp_X8_lowest (x0) ((x1 + (1 : Int32))) (fun r1 => ((¬ r1 = 0 → (Q x1)) ∧ (r1 = 0 → (B2 (x0) ((x1 + (1 : Int32))))))))))
set_option maxRecDepth 20000 in
theorem t_X7_zerosFromLowest_2b {X : bf_X} (C : bf_C X RX7 cX7_zerosFromLowest 2 (some .int)) (hR : bf_Rm X 1 21) (x0 : Int32) (x1 : Int32) (Q : Int32 → Prop) (B2 : Int32 → Int32 → Prop) (hB2 : ∀ (x0 : Int32) (x1 : Int32), B2 x0 x1 → bf_A X (bf_Zi X bWu (fun r u => u = () ∧ Q r)) 2 2 [some (.int x0), some (.int x1)] [] (bWu ())) (h : wp_X7_zerosFromLowest_2b x0 x1 Q B2) : bf_A X (bf_Zi X bWu (fun r u => u = () ∧ Q r)) 2 2 [some (.int x0), some (.int x1)] [] (bWu ()) := by
  unfold wp_X7_zerosFromLowest_2b at h
  refine bs_iload_n C (bf_dk dd_X7_zerosFromLowest 2 rfl) rfl ?_
  refine bs_bipush C (bf_dk dd_X7_zerosFromLowest 3 rfl) (8 : Int32) (by decide) ?_
  refine bs_icmp_ge C (bf_dk dd_X7_zerosFromLowest 4 rfl) (tgt := 24) rfl (fun c => ?_) (fun c => ?_)
  · replace h := h.1 c
    refine bs_iload_n C (bf_dk dd_X7_zerosFromLowest 13 rfl) rfl ?_
    exact bs_iret (u := ()) C (bf_dk dd_X7_zerosFromLowest 14 rfl) rfl ⟨rfl, h⟩
  · replace h := h.2 c
    refine bs_iload_n C (bf_dk dd_X7_zerosFromLowest 5 rfl) rfl ?_
    refine bs_iload_n C (bf_dk dd_X7_zerosFromLowest 6 rfl) rfl ?_
    refine bs_iconst C (bf_dk dd_X7_zerosFromLowest 7 rfl) (1 : Int32) (by decide) ?_
    refine bs_iadd C (bf_dk dd_X7_zerosFromLowest 8 rfl) ?_
    refine bs_pureSN_i (ps := []) (w := (bWu ())) C hR (c_X8_lowest _ _ _ _ _ (x0) ((x1 + (1 : Int32))) _ h) my_X8_lowest m_7_98 rfl (Nat.le_of_ble_eq_true rfl) (Nat.le_of_ble_eq_true rfl) rfl rfl (st := []) (Nat.le_of_ble_eq_true rfl) (bf_dk dd_X7_zerosFromLowest 9 rfl) rfl (fun _ => rfl) (fun r1 h => ?_)
    refine bs_if_ne C (bf_dk dd_X7_zerosFromLowest 10 rfl) (tgt := 24) rfl (fun c => ?_) (fun c => ?_)
    · replace h := h.1 c
      refine bs_iload_n C (bf_dk dd_X7_zerosFromLowest 13 rfl) rfl ?_
      exact bs_iret (u := ()) C (bf_dk dd_X7_zerosFromLowest 14 rfl) rfl ⟨rfl, h⟩
    · replace h := h.2 c
      refine bs_iinc C (bf_dk dd_X7_zerosFromLowest 11 rfl) (x1 + (1 : Int32)) rfl rfl (Nat.le_of_ble_eq_true rfl) (Nat.le_of_ble_eq_true rfl) (lv2 := [some (.int x0), some (.int (x1 + (1 : Int32)))]) rfl ?_
      refine bs_goto C (bf_dk dd_X7_zerosFromLowest 12 rfl) (tgt := 2) rfl ?_
      exact bs_weak (bf_s1 (bf_s1 bf_s0)) (hB2 (x0) ((x1 + (1 : Int32))) h)
def wp_X7_zerosFromLowest_2 (x0 : Int32) (x1 : Int32) (Q : Int32 → Prop) : Prop := ∃ I : Nat → Int32 → Int32 → Prop, (∃ n : Nat, I n x0 x1) ∧ ∀ (n : Nat) (x0 : Int32) (x1 : Int32), I n x0 x1 → wp_X7_zerosFromLowest_2b x0 x1 Q (fun x0 x1 => ∃ n2 : Nat, n2 < n ∧ I n2 x0 x1)
theorem t_X7_zerosFromLowest_2 {X : bf_X} (C : bf_C X RX7 cX7_zerosFromLowest 2 (some .int)) (hR : bf_Rm X 1 21) (x0 : Int32) (x1 : Int32) (Q : Int32 → Prop) (h : wp_X7_zerosFromLowest_2 x0 x1 Q) : bf_A X (bf_Zi X bWu (fun r u => u = () ∧ Q r)) 2 2 [some (.int x0), some (.int x1)] [] (bWu ()) := by
  obtain ⟨I, ⟨n0, h0⟩, hI⟩ := h
  have key : ∀ (n : Nat) (x0 : Int32) (x1 : Int32), I n x0 x1 → bf_A X (bf_Zi X bWu (fun r u => u = () ∧ Q r)) 2 2 [some (.int x0), some (.int x1)] [] (bWu ()) := by
    intro n
    induction n using Nat.strongRecOn with
    | _ n ih =>
      intro x0 x1 hi
      exact t_X7_zerosFromLowest_2b C hR x0 x1 Q _ (fun x0 x1 hb => by obtain ⟨n2, hn, hi2⟩ := hb; exact ih n2 hn x0 x1 hi2) (hI n x0 x1 hi)
  exact key n0 x0 x1 h0
def wp_X7_zerosFromLowest (a0 : Int32) (Q : Int32 → Prop) : Prop := (wp_X7_zerosFromLowest_2 (a0) ((0 : Int32)) Q)
set_option maxRecDepth 20000 in
theorem t_X7_zerosFromLowest {X : bf_X} (C : bf_C X RX7 cX7_zerosFromLowest 2 (some .int)) (hR : bf_Rm X 1 21) (a0 : Int32) (Q : Int32 → Prop) (h : wp_X7_zerosFromLowest a0 Q) : bf_A X (bf_Zi X bWu (fun r u => u = () ∧ Q r)) 2 0 [some (.int a0), none] [] (bWu ()) := by
  unfold wp_X7_zerosFromLowest at h
  refine bs_iconst C (bf_dk dd_X7_zerosFromLowest 0 rfl) (0 : Int32) (by decide) ?_
  refine bs_istore_n C (bf_dk dd_X7_zerosFromLowest 1 rfl) rfl (Nat.le_of_ble_eq_true rfl) (Nat.le_of_ble_eq_true rfl) (lv2 := [some (.int a0), some (.int (0 : Int32))]) rfl ?_
  exact bs_weak (bf_s1 (bf_s1 bf_s0)) (t_X7_zerosFromLowest_2 C hR (a0) ((0 : Int32)) Q h)
theorem c_X7_zerosFromLowest (l : Launch) (dC : Nat → ClassId) (dI : Nat → Nat → Nat) (ac : Nat → ClassId) (al : Nat → Nat) (a0 : Int32) (Q : Int32 → Prop) (h : wp_X7_zerosFromLowest a0 Q) : bf_M l yX7_zerosFromLowest cX7_zerosFromLowest 2 (some .int) 1 21 dC dI ac al [.int a0] (bWu ()) (bf_Ki dC dI ac al bWu (fun r u => u = () ∧ Q r)) := by
  refine bf_start [some (.int a0), none] (by decide) (Nat.le_of_ble_eq_true rfl) (bf_s1 (bf_en 1)) ?_
  intro X hl C hR e1 e2 e3 e4
  subst e1; subst e2; subst e3; subst e4
  exact t_X7_zerosFromLowest C hR a0 Q h
def wp_X7_compare_25 (S : bT7 × bT1) (x2 : Int64) (x4 : Int32) (x5 : Int32) (t0 : Int32) (Q : (bT7 × bT1) → Prop) : Prop := ((x5 < 0 → (Q S)) ∧ (¬ x5 < 0 → (((16 : Int32) ≤ x5 → (Q S)) ∧ (¬ (16 : Int32) ≤ x5 → (vp_in x5 16 ∧ (∀ S1 : bT7 × bT1, S1 = ((b7s_likeHash S.1 (upd (b7g_likeHash S.1) (x5).toNatClampNeg (-1 : Int32))), S.2) → (vp_in x5 16 ∧ (∀ S2 : bT7 × bT1, S2 = ((b7s_likeNext S1.1 (upd (b7g_likeNext S1.1) (x5).toNatClampNeg (-1 : Int32))), S1.2) → ((t0 = (-1 : Int32) → (Q S2)) ∧ (¬ t0 = (-1 : Int32) → (wp_X8_mixed ((b1g_salt S2.2)) (x2) (x4) (fun r3 => (wp_X8_at 64 (b1g_hashes S2.2) (t0) (fun r5 => (wp_X1_lengthAt S2.2 (t0) (fun r7 => (wp_X8_octetAt (x2) (r7) (fun r9 => (wp_X8_at 64 (b1g_nexts S2.2) (t0) (fun r11 => (wp_X7_zerosFromLowest ((r3 ^^^ r5)) (fun r13 => (vp_in x5 16 ∧ (∀ S15 : bT7 × bT1, S15 = ((b7s_likeHash S2.1 (upd (b7g_likeHash S2.1) (x5).toNatClampNeg r13)), S2.2) → (wp_X7_zerosFromHighest ((r9 ^^^ r11)) (fun r16 => (vp_in x5 16 ∧ (∀ S18 : bT7 × bT1, S18 = ((b7s_likeNext S15.1 (upd (b7g_likeNext S15.1) (x5).toNatClampNeg r16)), S15.2) → (Q S18)))))))))))))))))))))))))))))
set_option maxRecDepth 20000 in
theorem t_X7_compare_25 {X : bf_X} (C : bf_C X RX7 cX7_compare 9 none) (hR : bf_Rm X 4 99) (S : bT7 × bT1) (x2 : Int64) (x4 : Int32) (x5 : Int32) (t0 : Int32) (Q : (bT7 × bT1) → Prop) (h : wp_X7_compare_25 S x2 x4 x5 t0 Q) : bf_A X (bf_Zv X bW7_1 Q) 9 25 [some (.ref 0), some (.ref 3), some (.long x2), none, some (.int x4), some (.int x5), none, none, none] [.int t0] (bW7_1 S) := by
  unfold wp_X7_compare_25 at h
  refine bs_istore C (bf_dk dd_X7_compare 13 rfl) (Nat.le_of_ble_eq_true rfl) (Nat.le_of_ble_eq_true rfl) (lv2 := [some (.ref 0), some (.ref 3), some (.long x2), none, some (.int x4), some (.int x5), some (.int t0), none, none]) rfl ?_
  refine bs_iload C (bf_dk dd_X7_compare 14 rfl) rfl ?_
  refine bs_if_lt C (bf_dk dd_X7_compare 15 rfl) (tgt := 129) rfl (fun c => ?_) (fun c => ?_)
  · replace h := h.1 c
    exact bs_vret (u := S) C (bf_dk dd_X7_compare 66 rfl) rfl h
  · replace h := h.2 c
    refine bs_iload C (bf_dk dd_X7_compare 16 rfl) rfl ?_
    refine bs_bipush C (bf_dk dd_X7_compare 17 rfl) (16 : Int32) (by decide) ?_
    refine bs_icmp_ge C (bf_dk dd_X7_compare 18 rfl) (tgt := 129) rfl (fun c => ?_) (fun c => ?_)
    · replace h := h.1 c
      exact bs_vret (u := S) C (bf_dk dd_X7_compare 66 rfl) rfl h
    · replace h := h.2 c
      refine bs_aload_n C (bf_dk dd_X7_compare 19 rfl) rfl ?_
      refine bs_get C (bf_dk dd_X7_compare 20 rfl) cl_7 in_7 0 (Nat.le_of_ble_eq_true rfl) rfl f_7_9 (ge_bW7_1_0 S) rfl ?_
      refine bs_iload C (bf_dk dd_X7_compare 21 rfl) rfl ?_
      refine bs_iconst C (bf_dk dd_X7_compare 22 rfl) (-1 : Int32) (by decide) ?_
      obtain ⟨hi, h⟩ := h
      refine bs_iast C (bf_dk dd_X7_compare 23 rfl) (ge_bW7_1_1 S) hi (ar_bW7_1_1 S _) ?_
      refine bs_nameS bW7_1 (fun S1 eS1 => ?_)
      replace h := h S1 eS1
      refine bs_aload_n C (bf_dk dd_X7_compare 24 rfl) rfl ?_
      refine bs_get C (bf_dk dd_X7_compare 25 rfl) cl_7 in_7 1 (Nat.le_of_ble_eq_true rfl) rfl f_7_15 (ge_bW7_1_0 S1) rfl ?_
      refine bs_iload C (bf_dk dd_X7_compare 26 rfl) rfl ?_
      refine bs_iconst C (bf_dk dd_X7_compare 27 rfl) (-1 : Int32) (by decide) ?_
      obtain ⟨hi, h⟩ := h
      refine bs_iast C (bf_dk dd_X7_compare 28 rfl) (ge_bW7_1_2 S1) hi (ar_bW7_1_2 S1 _) ?_
      refine bs_nameS bW7_1 (fun S2 eS2 => ?_)
      replace h := h S2 eS2
      refine bs_iload C (bf_dk dd_X7_compare 29 rfl) rfl ?_
      refine bs_iconst C (bf_dk dd_X7_compare 30 rfl) (-1 : Int32) (by decide) ?_
      refine bs_icmp_eq C (bf_dk dd_X7_compare 31 rfl) (tgt := 129) rfl (fun c => ?_) (fun c => ?_)
      · replace h := h.1 c
        exact bs_vret (u := S2) C (bf_dk dd_X7_compare 66 rfl) rfl h
      · replace h := h.2 c
        refine bs_aload_n C (bf_dk dd_X7_compare 32 rfl) rfl ?_
        refine bs_get C (bf_dk dd_X7_compare 33 rfl) cl_1 in_1 9 (Nat.le_of_ble_eq_true rfl) rfl f_7_71 (ge_bW7_1_3 S2) rfl ?_
        refine bs_lload_n C (bf_dk dd_X7_compare 34 rfl) rfl ?_
        refine bs_iload C (bf_dk dd_X7_compare 35 rfl) rfl ?_
        refine bs_pureSN_i (ps := []) (w := (bW7_1 S2)) C hR (c_X8_mixed _ _ _ _ _ ((b1g_salt S2.2)) (x2) (x4) _ h) my_X8_mixed m_7_74 rfl (Nat.le_of_ble_eq_true rfl) (Nat.le_of_ble_eq_true rfl) rfl rfl (st := []) (Nat.le_of_ble_eq_true rfl) (bf_dk dd_X7_compare 36 rfl) rfl (fun _ => rfl) (fun r3 h => ?_)
        refine bs_aload_n C (bf_dk dd_X7_compare 37 rfl) rfl ?_
        refine bs_get C (bf_dk dd_X7_compare 38 rfl) cl_1 in_1 5 (Nat.le_of_ble_eq_true rfl) rfl f_7_78 (ge_bW7_1_3 S2) rfl ?_
        refine bs_iload C (bf_dk dd_X7_compare 39 rfl) rfl ?_
        refine bs_pureSN_i (ps := [15]) (w := (bW7_1 S2)) C hR (c_X8_at _ _ _ _ _ 64 (b1g_hashes S2.2) (t0) _ h) my_X8_at m_7_81 rfl (Nat.le_of_ble_eq_true rfl) (Nat.le_of_ble_eq_true rfl) (su_bW7_1_15_bWan64 S2) rfl (st := [.int r3]) (Nat.le_of_ble_eq_true rfl) (bf_dk dd_X7_compare 40 rfl) rfl (fun _ => rfl) (fun r5 h => ?_)
        refine bs_ixor C (bf_dk dd_X7_compare 41 rfl) ?_
        refine bs_istore C (bf_dk dd_X7_compare 42 rfl) (Nat.le_of_ble_eq_true rfl) (Nat.le_of_ble_eq_true rfl) (lv2 := [some (.ref 0), some (.ref 3), some (.long x2), none, some (.int x4), some (.int x5), some (.int t0), some (.int (r3 ^^^ r5)), none]) rfl ?_
        refine bs_lload_n C (bf_dk dd_X7_compare 43 rfl) rfl ?_
        refine bs_aload_n C (bf_dk dd_X7_compare 44 rfl) rfl ?_
        refine bs_iload C (bf_dk dd_X7_compare 45 rfl) rfl ?_
        refine bs_pureV_i (ps := [3, 4, 5, 6, 7, 8, 9, 10, 11, 12, 13, 14, 15, 16]) (w := (bW7_1 S2)) C hR (c_X1_lengthAt _ _ _ _ _ S2.2 (t0) _ h) my_X1_lengthAt m_7_85 rfl cl_1 (ge_bW1_0 _) rfl (Nat.le_of_ble_eq_true rfl) (Nat.le_of_ble_eq_true rfl) (su_bW7_1_3_bW1 S2) bnd_3t16 (st := [.long x2]) (Nat.le_of_ble_eq_true rfl) (bf_dk dd_X7_compare 46 rfl) rfl (fun _ => rfl) (fun r7 h => ?_)
        refine bs_pureSN_i (ps := []) (w := (bW7_1 S2)) C hR (c_X8_octetAt _ _ _ _ _ (x2) (r7) _ h) my_X8_octetAt m_7_86 rfl (Nat.le_of_ble_eq_true rfl) (Nat.le_of_ble_eq_true rfl) rfl rfl (st := []) (Nat.le_of_ble_eq_true rfl) (bf_dk dd_X7_compare 47 rfl) rfl (fun _ => rfl) (fun r9 h => ?_)
        refine bs_aload_n C (bf_dk dd_X7_compare 48 rfl) rfl ?_
        refine bs_get C (bf_dk dd_X7_compare 49 rfl) cl_1 in_1 6 (Nat.le_of_ble_eq_true rfl) rfl f_7_89 (ge_bW7_1_3 S2) rfl ?_
        refine bs_iload C (bf_dk dd_X7_compare 50 rfl) rfl ?_
        refine bs_pureSN_i (ps := [16]) (w := (bW7_1 S2)) C hR (c_X8_at _ _ _ _ _ 64 (b1g_nexts S2.2) (t0) _ h) my_X8_at m_7_81 rfl (Nat.le_of_ble_eq_true rfl) (Nat.le_of_ble_eq_true rfl) (su_bW7_1_16_bWan64 S2) rfl (st := [.int r9]) (Nat.le_of_ble_eq_true rfl) (bf_dk dd_X7_compare 51 rfl) rfl (fun _ => rfl) (fun r11 h => ?_)
        refine bs_ixor C (bf_dk dd_X7_compare 52 rfl) ?_
        refine bs_istore C (bf_dk dd_X7_compare 53 rfl) (Nat.le_of_ble_eq_true rfl) (Nat.le_of_ble_eq_true rfl) (lv2 := [some (.ref 0), some (.ref 3), some (.long x2), none, some (.int x4), some (.int x5), some (.int t0), some (.int (r3 ^^^ r5)), some (.int (r9 ^^^ r11))]) rfl ?_
        refine bs_aload_n C (bf_dk dd_X7_compare 54 rfl) rfl ?_
        refine bs_get C (bf_dk dd_X7_compare 55 rfl) cl_7 in_7 0 (Nat.le_of_ble_eq_true rfl) rfl f_7_9 (ge_bW7_1_0 S2) rfl ?_
        refine bs_iload C (bf_dk dd_X7_compare 56 rfl) rfl ?_
        refine bs_iload C (bf_dk dd_X7_compare 57 rfl) rfl ?_
        refine bs_pureS_i (ps := []) (w := (bW7_1 S2)) C hR (c_X7_zerosFromLowest _ _ _ _ _ ((r3 ^^^ r5)) _ h) my_X7_zerosFromLowest m_7_92 rfl (Nat.le_of_ble_eq_true rfl) (Nat.le_of_ble_eq_true rfl) rfl rfl (st := [.int x5, .ref 1]) (Nat.le_of_ble_eq_true rfl) (bf_dk dd_X7_compare 58 rfl) rfl (fun _ => rfl) (fun r13 h => ?_)
        obtain ⟨hi, h⟩ := h
        refine bs_iast C (bf_dk dd_X7_compare 59 rfl) (ge_bW7_1_1 S2) hi (ar_bW7_1_1 S2 _) ?_
        refine bs_nameS bW7_1 (fun S15 eS15 => ?_)
        replace h := h S15 eS15
        refine bs_aload_n C (bf_dk dd_X7_compare 60 rfl) rfl ?_
        refine bs_get C (bf_dk dd_X7_compare 61 rfl) cl_7 in_7 1 (Nat.le_of_ble_eq_true rfl) rfl f_7_15 (ge_bW7_1_0 S15) rfl ?_
        refine bs_iload C (bf_dk dd_X7_compare 62 rfl) rfl ?_
        refine bs_iload C (bf_dk dd_X7_compare 63 rfl) rfl ?_
        refine bs_pureS_i (ps := []) (w := (bW7_1 S15)) C hR (c_X7_zerosFromHighest _ _ _ _ _ ((r9 ^^^ r11)) _ h) my_X7_zerosFromHighest m_7_95 rfl (Nat.le_of_ble_eq_true rfl) (Nat.le_of_ble_eq_true rfl) rfl rfl (st := [.int x5, .ref 2]) (Nat.le_of_ble_eq_true rfl) (bf_dk dd_X7_compare 64 rfl) rfl (fun _ => rfl) (fun r16 h => ?_)
        obtain ⟨hi, h⟩ := h
        refine bs_iast C (bf_dk dd_X7_compare 65 rfl) (ge_bW7_1_2 S15) hi (ar_bW7_1_2 S15 _) ?_
        refine bs_nameS bW7_1 (fun S18 eS18 => ?_)
        replace h := h S18 eS18
        exact bs_vret (u := S18) C (bf_dk dd_X7_compare 66 rfl) rfl h
def wp_X7_compare (S : bT7 × bT1) (a2 : Int64) (a4 : Int32) (a5 : Int32) (Q : (bT7 × bT1) → Prop) : Prop := (wp_X0_numberOf (b1g_owners S.2) (a2) (a4) (fun r19 => ((¬ r19 = (-1 : Int32) → (wp_X7_compare_25 S (a2) (a4) (a5) ((-1 : Int32)) Q)) ∧ (r19 = (-1 : Int32) → (wp_X1_beginningOf S.2 (a2) (a4) (fun r21 => (wp_X7_compare_25 S (a2) (a4) (a5) (r21) Q)))))))
set_option maxRecDepth 20000 in
theorem t_X7_compare {X : bf_X} (C : bf_C X RX7 cX7_compare 9 none) (hR : bf_Rm X 4 99) (S : bT7 × bT1) (a2 : Int64) (a4 : Int32) (a5 : Int32) (Q : (bT7 × bT1) → Prop) (h : wp_X7_compare S a2 a4 a5 Q) : bf_A X (bf_Zv X bW7_1 Q) 9 0 [some (.ref 0), some (.ref 3), some (.long a2), none, some (.int a4), some (.int a5), none, none, none] [] (bW7_1 S) := by
  unfold wp_X7_compare at h
  refine bs_aload_n C (bf_dk dd_X7_compare 0 rfl) rfl ?_
  refine bs_get C (bf_dk dd_X7_compare 1 rfl) cl_1 in_1 0 (Nat.le_of_ble_eq_true rfl) rfl f_7_58 (ge_bW7_1_3 S) rfl ?_
  refine bs_lload_n C (bf_dk dd_X7_compare 2 rfl) rfl ?_
  refine bs_iload C (bf_dk dd_X7_compare 3 rfl) rfl ?_
  refine bs_pureV_i (ps := [4, 5, 6]) (w := (bW7_1 S)) C hR (c_X0_numberOf _ _ _ _ _ (b1g_owners S.2) (a2) (a4) _ h) my_X0_numberOf m_7_64 rfl cl_0 (ge_bW0_0 _) rfl (Nat.le_of_ble_eq_true rfl) (Nat.le_of_ble_eq_true rfl) (su_bW7_1_4_bW0 S) rfl (st := []) (Nat.le_of_ble_eq_true rfl) (bf_dk dd_X7_compare 4 rfl) rfl (fun _ => rfl) (fun r19 h => ?_)
  refine bs_iconst C (bf_dk dd_X7_compare 5 rfl) (-1 : Int32) (by decide) ?_
  refine bs_icmp_ne C (bf_dk dd_X7_compare 6 rfl) (tgt := 24) rfl (fun c => ?_) (fun c => ?_)
  · replace h := h.1 c
    refine bs_iconst C (bf_dk dd_X7_compare 12 rfl) (-1 : Int32) (by decide) ?_
    exact bs_weak (bf_s1 (bf_s1 (bf_s1 (bf_sn (bf_s1 (bf_s1 (bf_sn (bf_sn (bf_sn bf_s0))))))))) (t_X7_compare_25 C hR S (a2) (a4) (a5) ((-1 : Int32)) Q h)
  · replace h := h.2 c
    refine bs_aload_n C (bf_dk dd_X7_compare 7 rfl) rfl ?_
    refine bs_lload_n C (bf_dk dd_X7_compare 8 rfl) rfl ?_
    refine bs_iload C (bf_dk dd_X7_compare 9 rfl) rfl ?_
    refine bs_pureV_i (ps := [3, 4, 5, 6, 7, 8, 9, 10, 11, 12, 13, 14, 15, 16]) (w := (bW7_1 S)) C hR (c_X1_beginningOf _ _ _ _ _ S.2 (a2) (a4) _ h) my_X1_beginningOf m_7_68 rfl cl_1 (ge_bW1_0 _) rfl (Nat.le_of_ble_eq_true rfl) (Nat.le_of_ble_eq_true rfl) (su_bW7_1_3_bW1 S) bnd_3t16 (st := []) (Nat.le_of_ble_eq_true rfl) (bf_dk dd_X7_compare 10 rfl) rfl (fun _ => rfl) (fun r21 h => ?_)
    refine bs_goto C (bf_dk dd_X7_compare 11 rfl) (tgt := 25) rfl ?_
    exact bs_weak (bf_s1 (bf_s1 (bf_s1 (bf_sn (bf_s1 (bf_s1 (bf_sn (bf_sn (bf_sn bf_s0))))))))) (t_X7_compare_25 C hR S (a2) (a4) (a5) (r21) Q h)
theorem c_X7_compare (l : Launch) (dC : Nat → ClassId) (dI : Nat → Nat → Nat) (ac : Nat → ClassId) (al : Nat → Nat) (S : bT7 × bT1) (a2 : Int64) (a4 : Int32) (a5 : Int32) (Q : (bT7 × bT1) → Prop) (h : wp_X7_compare S a2 a4 a5 Q) : bf_M l yX7_compare cX7_compare 9 none 4 99 dC dI ac al [.ref 0, .ref 3, .long a2, .int a4, .int a5] (bW7_1 S) (bf_Kv dC dI ac al bW7_1 Q) := by
  refine bf_start [some (.ref 0), some (.ref 3), some (.long a2), none, some (.int a4), some (.int a5), none, none, none] (by decide) (Nat.le_of_ble_eq_true rfl) (bf_s1 (bf_s1 (bf_s1 (bf_sn (bf_s1 (bf_s1 (bf_en 3))))))) ?_
  intro X hl C hR e1 e2 e3 e4
  subst e1; subst e2; subst e3; subst e4
  exact t_X7_compare C hR S a2 a4 a5 Q h
