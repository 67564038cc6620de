def wp_X6_findEdges_12b (S : bT6 × bT1) (x2 : Int32) (Q : (bT6 × bT1) → Prop) (B12 : Int32 → (bT6 × bT1) → Prop) : Prop := (((b6g_nodes S.1) ≤ x2 → (vp_in (b6g_nodes S.1) 233 ∧ (∀ S1 : bT6 × bT1, S1 = ((b6s_edgeStarts S.1 (upd (b6g_edgeStarts S.1) ((b6g_nodes S.1)).toNatClampNeg (b6g_edges S.1))), S.2) → (Q S1)))) ∧ (¬ (b6g_nodes S.1) ≤ x2 → (vp_in x2 233 ∧ (∀ S2 : bT6 × bT1, S2 = ((b6s_edgeStarts S.1 (upd (b6g_edgeStarts S.1) (x2).toNatClampNeg (b6g_edges S.1))), S.2) → (wp_X6_findEdgesOf S2 (x2) (fun u4 => (B12 ((x2 + (1 : Int32))) u4)))))))
set_option maxRecDepth 20000 in
theorem t_X6_findEdges_12b {X : bf_X} (C : bf_C X RX6 cX6_findEdges 3 none) (hR : bf_Rm X 3 71) (S : bT6 × bT1) (x2 : Int32) (Q : (bT6 × bT1) → Prop) (B12 : Int32 → (bT6 × bT1) → Prop) (hB12 : ∀ (x2 : Int32) (S : bT6 × bT1), B12 x2 S → bf_A X (bf_Zv X bW6_1 Q) 3 12 [some (.ref 0), some (.ref 13), some (.int x2)] [] (bW6_1 S)) (h : wp_X6_findEdges_12b S x2 Q B12) : bf_A X (bf_Zv X bW6_1 Q) 3 12 [some (.ref 0), some (.ref 13), some (.int x2)] [] (bW6_1 S) := by
  unfold wp_X6_findEdges_12b at h
  refine bs_iload_n C (bf_dk dd_X6_findEdges 8 rfl) rfl ?_
  refine bs_aload_n C (bf_dk dd_X6_findEdges 9 rfl) rfl ?_
  refine bs_get C (bf_dk dd_X6_findEdges 10 rfl) cl_6 in_6 12 (Nat.le_of_ble_eq_true rfl) rfl f_6_48 (ge_bW6_1_0 S) rfl ?_
  refine bs_icmp_ge C (bf_dk dd_X6_findEdges 11 rfl) (tgt := 42) rfl (fun c => ?_) (fun c => ?_)
  · replace h := h.1 c
    refine bs_aload_n C (bf_dk dd_X6_findEdges 24 rfl) rfl ?_
    refine bs_get C (bf_dk dd_X6_findEdges 25 rfl) cl_6 in_6 3 (Nat.le_of_ble_eq_true rfl) rfl f_6_21 (ge_bW6_1_0 S) rfl ?_
    refine bs_aload_n C (bf_dk dd_X6_findEdges 26 rfl) rfl ?_
    refine bs_get C (bf_dk dd_X6_findEdges 27 rfl) cl_6 in_6 12 (Nat.le_of_ble_eq_true rfl) rfl f_6_48 (ge_bW6_1_0 S) rfl ?_
    refine bs_aload_n C (bf_dk dd_X6_findEdges 28 rfl) rfl ?_
    refine bs_get C (bf_dk dd_X6_findEdges 29 rfl) cl_6 in_6 13 (Nat.le_of_ble_eq_true rfl) rfl f_6_52 (ge_bW6_1_0 S) rfl ?_
    obtain ⟨hi, h⟩ := h
    refine bs_iast C (bf_dk dd_X6_findEdges 30 rfl) (ge_bW6_1_4 S) hi (ar_bW6_1_4 S _) ?_
    refine bs_nameS bW6_1 (fun S1 eS1 => ?_)
    replace h := h S1 eS1
    exact bs_vret (u := S1) C (bf_dk dd_X6_findEdges 31 rfl) rfl h
  · replace h := h.2 c
    refine bs_aload_n C (bf_dk dd_X6_findEdges 12 rfl) rfl ?_
    refine bs_get C (bf_dk dd_X6_findEdges 13 rfl) cl_6 in_6 3 (Nat.le_of_ble_eq_true rfl) rfl f_6_21 (ge_bW6_1_0 S) rfl ?_
    refine bs_iload_n C (bf_dk dd_X6_findEdges 14 rfl) rfl ?_
    refine bs_aload_n C (bf_dk dd_X6_findEdges 15 rfl) rfl ?_
    refine bs_get C (bf_dk dd_X6_findEdges 16 rfl) cl_6 in_6 13 (Nat.le_of_ble_eq_true rfl) rfl f_6_52 (ge_bW6_1_0 S) rfl ?_
    obtain ⟨hi, h⟩ := h
    refine bs_iast C (bf_dk dd_X6_findEdges 17 rfl) (ge_bW6_1_4 S) hi (ar_bW6_1_4 S _) ?_
    refine bs_nameS bW6_1 (fun S2 eS2 => ?_)
    replace h := h S2 eS2
    refine bs_aload_n C (bf_dk dd_X6_findEdges 18 rfl) rfl ?_
    refine bs_iload_n C (bf_dk dd_X6_findEdges 19 rfl) rfl ?_
    refine bs_aload_n C (bf_dk dd_X6_findEdges 20 rfl) rfl ?_
    refine bs_selfV_v C hR (c_X6_findEdgesOf _ _ _ _ _ S2 (x2) _ h) my_X6_findEdgesOf m_6_128 rfl cl_6 (ge_bW6_1_0 _) rfl (Nat.le_of_ble_eq_true rfl) (Nat.le_of_ble_eq_true rfl) (st := []) (Nat.le_of_ble_eq_true rfl) (bf_dk dd_X6_findEdges 21 rfl) rfl (len := 27) (fun _ => rfl) (fun u4 h => ?_)
    refine bs_iinc C (bf_dk dd_X6_findEdges 22 rfl) (x2 + (1 : Int32)) rfl rfl (Nat.le_of_ble_eq_true rfl) (Nat.le_of_ble_eq_true rfl) (lv2 := [some (.ref 0), some (.ref 13), some (.int (x2 + (1 : Int32)))]) rfl ?_
    refine bs_goto C (bf_dk dd_X6_findEdges 23 rfl) (tgt := 12) rfl ?_
    exact bs_weak (bf_s1 (bf_s1 (bf_s1 bf_s0))) (hB12 ((x2 + (1 : Int32))) u4 h)
def wp_X6_findEdges_12 (S : bT6 × bT1) (x2 : Int32) (Q : (bT6 × bT1) → Prop) : Prop := ∃ I : Nat → Int32 → (bT6 × bT1) → Prop, (∃ n : Nat, I n x2 S) ∧ ∀ (n : Nat) (x2 : Int32) (S : bT6 × bT1), I n x2 S → wp_X6_findEdges_12b S x2 Q (fun x2 S => ∃ n2 : Nat, n2 < n ∧ I n2 x2 S)
theorem t_X6_findEdges_12 {X : bf_X} (C : bf_C X RX6 cX6_findEdges 3 none) (hR : bf_Rm X 3 71) (S : bT6 × bT1) (x2 : Int32) (Q : (bT6 × bT1) → Prop) (h : wp_X6_findEdges_12 S x2 Q) : bf_A X (bf_Zv X bW6_1 Q) 3 12 [some (.ref 0), some (.ref 13), some (.int x2)] [] (bW6_1 S) := by
  obtain ⟨I, ⟨n0, h0⟩, hI⟩ := h
  have key : ∀ (n : Nat) (x2 : Int32) (S : bT6 × bT1), I n x2 S → bf_A X (bf_Zv X bW6_1 Q) 3 12 [some (.ref 0), some (.ref 13), some (.int x2)] [] (bW6_1 S) := by
    intro n
    induction n using Nat.strongRecOn with
    | _ n ih =>
      intro x2 S hi
      exact t_X6_findEdges_12b C hR S x2 Q _ (fun x2 S hb => by obtain ⟨n2, hn, hi2⟩ := hb; exact ih n2 hn x2 S hi2) (hI n x2 S hi)
  exact key n0 x2 S h0
def wp_X6_findEdges (S : bT6 × bT1) (Q : (bT6 × bT1) → Prop) : Prop := (∀ S5 : bT6 × bT1, S5 = ((b6s_edges S.1 (0 : Int32)), S.2) → (∀ S6 : bT6 × bT1, S6 = ((b6s_children S5.1 (0 : Int32)), S5.2) → (wp_X6_findEdges_12 S6 ((0 : Int32)) Q)))
set_option maxRecDepth 20000 in
theorem t_X6_findEdges {X : bf_X} (C : bf_C X RX6 cX6_findEdges 3 none) (hR : bf_Rm X 3 71) (S : bT6 × bT1) (Q : (bT6 × bT1) → Prop) (h : wp_X6_findEdges S Q) : bf_A X (bf_Zv X bW6_1 Q) 3 0 [some (.ref 0), some (.ref 13), none] [] (bW6_1 S) := by
  unfold wp_X6_findEdges at h
  refine bs_aload_n C (bf_dk dd_X6_findEdges 0 rfl) rfl ?_
  refine bs_iconst C (bf_dk dd_X6_findEdges 1 rfl) (0 : Int32) (by decide) ?_
  refine bs_put C (bf_dk dd_X6_findEdges 2 rfl) tyX6_ok nmX6 cl_6 in_6 13 (Nat.le_of_ble_eq_true rfl) rfl f_6_52 rfl (ge_bW6_1_0 S) (Nat.le_of_ble_eq_true rfl) rfl rfl (pu_bW6_1_0_13 S (0 : Int32)) ?_
  refine bs_nameS bW6_1 (fun S5 eS5 => ?_)
  replace h := h S5 eS5
  refine bs_aload_n C (bf_dk dd_X6_findEdges 3 rfl) rfl ?_
  refine bs_iconst C (bf_dk dd_X6_findEdges 4 rfl) (0 : Int32) (by decide) ?_
  refine bs_put C (bf_dk dd_X6_findEdges 5 rfl) tyX6_ok nmX6 cl_6 in_6 14 (Nat.le_of_ble_eq_true rfl) rfl f_6_55 rfl (ge_bW6_1_0 S5) (Nat.le_of_ble_eq_true rfl) rfl rfl (pu_bW6_1_0_14 S5 (0 : Int32)) ?_
  refine bs_nameS bW6_1 (fun S6 eS6 => ?_)
  replace h := h S6 eS6
  refine bs_iconst C (bf_dk dd_X6_findEdges 6 rfl) (0 : Int32) (by decide) ?_
  refine bs_istore_n C (bf_dk dd_X6_findEdges 7 rfl) rfl (Nat.le_of_ble_eq_true rfl) (Nat.le_of_ble_eq_true rfl) (lv2 := [some (.ref 0), some (.ref 13), some (.int (0 : Int32))]) rfl ?_
  exact bs_weak (bf_s1 (bf_s1 (bf_s1 bf_s0))) (t_X6_findEdges_12 C hR S6 ((0 : Int32)) Q h)
theorem c_X6_findEdges (l : Launch) (dC : Nat → ClassId) (dI : Nat → Nat → Nat) (ac : Nat → ClassId) (al : Nat → Nat) (S : bT6 × bT1) (Q : (bT6 × bT1) → Prop) (h : wp_X6_findEdges S Q) : bf_M l yX6_findEdges cX6_findEdges 3 none 3 71 dC dI ac al [.ref 0, .ref 13] (bW6_1 S) (bf_Kv dC dI ac al bW6_1 Q) := by
  refine bf_start [some (.ref 0), some (.ref 13), none] (by decide) (Nat.le_of_ble_eq_true rfl) (bf_s1 (bf_s1 (bf_en 1))) ?_
  intro X hl C hR e1 e2 e3 e4
  subst e1; subst e2; subst e3; subst e4
  exact t_X6_findEdges C hR S Q h
def wp_X6_addNode (S : bT6) (a1 : Int32) (a2 : Int32) (Q : (bT6) → Prop) : Prop := (((232 : Int32) ≤ (b6g_nodes S) → (Q S)) ∧ (¬ (232 : Int32) ≤ (b6g_nodes S) → (vp_in (b6g_nodes S) 232 ∧ (∀ S1 : bT6, S1 = (b6s_nodeLevels S (upd (b6g_nodeLevels S) ((b6g_nodes S)).toNatClampNeg a1)) → (vp_in (b6g_nodes S1) 232 ∧ (∀ S2 : bT6, S2 = (b6s_firstLeaves S1 (upd (b6g_firstLeaves S1) ((b6g_nodes S1)).toNatClampNeg a2)) → (vp_in (b6g_nodes S2) 232 ∧ (∀ S3 : bT6, S3 = (b6s_leafCounts S2 (upd (b6g_leafCounts S2) ((b6g_nodes S2)).toNatClampNeg (0 : Int32))) → (∀ S4 : bT6, S4 = (b6s_nodes S3 ((b6g_nodes S3) + (1 : Int32))) → (Q S4))))))))))
set_option maxRecDepth 20000 in
theorem t_X6_addNode {X : bf_X} (C : bf_C X RX6 cX6_addNode 3 none) (hR : bf_Rm X 0 0) (S : bT6) (a1 : Int32) (a2 : Int32) (Q : (bT6) → Prop) (h : wp_X6_addNode S a1 a2 Q) : bf_A X (bf_Zv X bW6 Q) 3 0 [some (.ref 0), some (.int a1), some (.int a2)] [] (bW6 S) := by
  unfold wp_X6_addNode at h
  refine bs_aload_n C (bf_dk dd_X6_addNode 0 rfl) rfl ?_
  refine bs_get C (bf_dk dd_X6_addNode 1 rfl) cl_6 in_6 12 (Nat.le_of_ble_eq_true rfl) rfl f_6_48 (ge_bW6_0 S) rfl ?_
  refine bs_sipush C (bf_dk dd_X6_addNode 2 rfl) (232 : Int32) (by decide) ?_
  refine bs_icmp_ge C (bf_dk dd_X6_addNode 3 rfl) (tgt := 50) rfl (fun c => ?_) (fun c => ?_)
  · replace h := h.1 c
    exact bs_vret (u := S) C (bf_dk dd_X6_addNode 28 rfl) rfl h
  · replace h := h.2 c
    refine bs_aload_n C (bf_dk dd_X6_addNode 4 rfl) rfl ?_
    refine bs_get C (bf_dk dd_X6_addNode 5 rfl) cl_6 in_6 0 (Nat.le_of_ble_eq_true rfl) rfl f_6_9 (ge_bW6_0 S) rfl ?_
    refine bs_aload_n C (bf_dk dd_X6_addNode 6 rfl) rfl ?_
    refine bs_get C (bf_dk dd_X6_addNode 7 rfl) cl_6 in_6 12 (Nat.le_of_ble_eq_true rfl) rfl f_6_48 (ge_bW6_0 S) rfl ?_
    refine bs_iload_n C (bf_dk dd_X6_addNode 8 rfl) rfl ?_
    obtain ⟨hi, h⟩ := h
    refine bs_iast C (bf_dk dd_X6_addNode 9 rfl) (ge_bW6_1 S) hi (ar_bW6_1 S _) ?_
    refine bs_nameS bW6 (fun S1 eS1 => ?_)
    replace h := h S1 eS1
    refine bs_aload_n C (bf_dk dd_X6_addNode 10 rfl) rfl ?_
    refine bs_get C (bf_dk dd_X6_addNode 11 rfl) cl_6 in_6 1 (Nat.le_of_ble_eq_true rfl) rfl f_6_15 (ge_bW6_0 S1) rfl ?_
    refine bs_aload_n C (bf_dk dd_X6_addNode 12 rfl) rfl ?_
    refine bs_get C (bf_dk dd_X6_addNode 13 rfl) cl_6 in_6 12 (Nat.le_of_ble_eq_true rfl) rfl f_6_48 (ge_bW6_0 S1) rfl ?_
    refine bs_iload_n C (bf_dk dd_X6_addNode 14 rfl) rfl ?_
    obtain ⟨hi, h⟩ := h
    refine bs_iast C (bf_dk dd_X6_addNode 15 rfl) (ge_bW6_2 S1) hi (ar_bW6_2 S1 _) ?_
    refine bs_nameS bW6 (fun S2 eS2 => ?_)
    replace h := h S2 eS2
    refine bs_aload_n C (bf_dk dd_X6_addNode 16 rfl) rfl ?_
    refine bs_get C (bf_dk dd_X6_addNode 17 rfl) cl_6 in_6 2 (Nat.le_of_ble_eq_true rfl) rfl f_6_18 (ge_bW6_0 S2) rfl ?_
    refine bs_aload_n C (bf_dk dd_X6_addNode 18 rfl) rfl ?_
    refine bs_get C (bf_dk dd_X6_addNode 19 rfl) cl_6 in_6 12 (Nat.le_of_ble_eq_true rfl) rfl f_6_48 (ge_bW6_0 S2) rfl ?_
    refine bs_iconst C (bf_dk dd_X6_addNode 20 rfl) (0 : Int32) (by decide) ?_
    obtain ⟨hi, h⟩ := h
    refine bs_iast C (bf_dk dd_X6_addNode 21 rfl) (ge_bW6_3 S2) hi (ar_bW6_3 S2 _) ?_
    refine bs_nameS bW6 (fun S3 eS3 => ?_)
    replace h := h S3 eS3
    refine bs_aload_n C (bf_dk dd_X6_addNode 22 rfl) rfl ?_
    refine bs_dup C (bf_dk dd_X6_addNode 23 rfl) rfl ?_
    refine bs_get C (bf_dk dd_X6_addNode 24 rfl) cl_6 in_6 12 (Nat.le_of_ble_eq_true rfl) rfl f_6_48 (ge_bW6_0 S3) rfl ?_
    refine bs_iconst C (bf_dk dd_X6_addNode 25 rfl) (1 : Int32) (by decide) ?_
    refine bs_iadd C (bf_dk dd_X6_addNode 26 rfl) ?_
    refine bs_put C (bf_dk dd_X6_addNode 27 rfl) tyX6_ok nmX6 cl_6 in_6 12 (Nat.le_of_ble_eq_true rfl) rfl f_6_48 rfl (ge_bW6_0 S3) (Nat.le_of_ble_eq_true rfl) rfl rfl (pu_bW6_0_12 S3 ((b6g_nodes S3) + (1 : Int32))) ?_
    refine bs_nameS bW6 (fun S4 eS4 => ?_)
    replace h := h S4 eS4
    exact bs_vret (u := S4) C (bf_dk dd_X6_addNode 28 rfl) rfl h
theorem c_X6_addNode (l : Launch) (dC : Nat → ClassId) (dI : Nat → Nat → Nat) (ac : Nat → ClassId) (al : Nat → Nat) (S : bT6) (a1 : Int32) (a2 : Int32) (Q : (bT6) → Prop) (h : wp_X6_addNode S a1 a2 Q) : bf_M l yX6_addNode cX6_addNode 3 none 0 0 dC dI ac al [.ref 0, .int a1, .int a2] (bW6 S) (bf_Kv dC dI ac al bW6 Q) := by
  refine bf_start [some (.ref 0), some (.int a1), some (.int a2)] (by decide) (Nat.le_of_ble_eq_true rfl) (bf_s1 (bf_s1 (bf_s1 bf_s0))) ?_
  intro X hl C hR e1 e2 e3 e4
  subst e1; subst e2; subst e3; subst e4
  exact t_X6_addNode C hR S a1 a2 Q h
def wp_X6_findNodesOf_134 (S : bT6 × bT1) (x1 : Int32) (x3 : Int32) (x4 : Int32) (Q : (bT6 × bT1) → Prop) (B5 : Int32 → Int32 → Int32 → (bT6 × bT1) → Prop) : Prop := (B5 (x1) (x3) ((x4 + (1 : Int32))) S)
set_option maxRecDepth 20000 in
theorem t_X6_findNodesOf_134 {X : bf_X} (C : bf_C X RX6 cX6_findNodesOf 8 none) (hR : bf_Rm X 2 42) (S : bT6 × bT1) (x1 : Int32) (x3 : Int32) (x4 : Int32) (Q : (bT6 × bT1) → Prop) (B5 : Int32 → Int32 → Int32 → (bT6 × bT1) → Prop) (hB5 : ∀ (x1 : Int32) (x3 : Int32) (x4 : Int32) (S : bT6 × bT1), B5 x1 x3 x4 S → bf_A X (bf_Zv X bW6_1 Q) 8 5 [some (.ref 0), some (.int x1), some (.ref 13), some (.int x3), some (.int x4), none, none, none] [] (bW6_1 S)) (h : wp_X6_findNodesOf_134 S x1 x3 x4 Q B5) : bf_A X (bf_Zv X bW6_1 Q) 8 134 [some (.ref 0), some (.int x1), some (.ref 13), some (.int x3), some (.int x4), none, none, none] [] (bW6_1 S) := by
  unfold wp_X6_findNodesOf_134 at h
  refine bs_iinc C (bf_dk dd_X6_findNodesOf 72 rfl) (x4 + (1 : Int32)) rfl rfl (Nat.le_of_ble_eq_true rfl) (Nat.le_of_ble_eq_true rfl) (lv2 := [some (.ref 0), some (.int x1), some (.ref 13), some (.int x3), some (.int (x4 + (1 : Int32))), none, none, none]) rfl ?_
  refine bs_goto C (bf_dk dd_X6_findNodesOf 73 rfl) (tgt := 5) rfl ?_
  exact bs_weak (bf_s1 (bf_s1 (bf_s1 (bf_s1 (bf_s1 (bf_sn (bf_sn (bf_sn bf_s0)))))))) (hB5 (x1) (x3) ((x4 + (1 : Int32))) S h)
def wp_X6_findNodesOf_131 (S : bT6 × bT1) (x1 : Int32) (x4 : Int32) (Q : (bT6 × bT1) → Prop) (B5 : Int32 → Int32 → Int32 → (bT6 × bT1) → Prop) : Prop := (wp_X6_findNodesOf_134 S (x1) (x4) (x4) Q B5)
set_option maxRecDepth 20000 in
theorem t_X6_findNodesOf_131 {X : bf_X} (C : bf_C X RX6 cX6_findNodesOf 8 none) (hR : bf_Rm X 2 42) (S : bT6 × bT1) (x1 : Int32) (x4 : Int32) (Q : (bT6 × bT1) → Prop) (B5 : Int32 → Int32 → Int32 → (bT6 × bT1) → Prop) (hB5 : ∀ (x1 : Int32) (x3 : Int32) (x4 : Int32) (S : bT6 × bT1), B5 x1 x3 x4 S → bf_A X (bf_Zv X bW6_1 Q) 8 5 [some (.ref 0), some (.int x1), some (.ref 13), some (.int x3), some (.int x4), none, none, none] [] (bW6_1 S)) (h : wp_X6_findNodesOf_131 S x1 x4 Q B5) : bf_A X (bf_Zv X bW6_1 Q) 8 131 [some (.ref 0), some (.int x1), some (.ref 13), none, some (.int x4), none, none, none] [] (bW6_1 S) := by
  unfold wp_X6_findNodesOf_131 at h
  refine bs_iload C (bf_dk dd_X6_findNodesOf 70 rfl) rfl ?_
  refine bs_istore_n C (bf_dk dd_X6_findNodesOf 71 rfl) rfl (Nat.le_of_ble_eq_true rfl) (Nat.le_of_ble_eq_true rfl) (lv2 := [some (.ref 0), some (.int x1), some (.ref 13), some (.int x4), some (.int x4), none, none, none]) rfl ?_
  exact bs_weak (bf_s1 (bf_s1 (bf_s1 (bf_s1 (bf_s1 (bf_sn (bf_sn (bf_sn bf_s0)))))))) (t_X6_findNodesOf_134 C hR S (x1) (x4) (x4) Q B5 hB5 h)
def wp_X6_findNodesOf_99 (S : bT6 × bT1) (x1 : Int32) (x4 : Int32) (Q : (bT6 × bT1) → Prop) (B5 : Int32 → Int32 → Int32 → (bT6 × bT1) → Prop) : Prop := (((b6g_nodes S.1) ≤ 0 → (wp_X6_findNodesOf_131 S (x1) (x4) Q B5)) ∧ (¬ (b6g_nodes S.1) ≤ 0 → (((232 : Int32) < (b6g_nodes S.1) → (wp_X6_findNodesOf_131 S (x1) (x4) Q B5)) ∧ (¬ (232 : Int32) < (b6g_nodes S.1) → (vp_in ((b6g_nodes S.1) - (1 : Int32)) 232 ∧ (∀ v1 : Int32, v1 = (((b6g_leafCounts S.1) (((b6g_nodes S.1) - (1 : Int32))).toNatClampNeg) + (1 : Int32)) → (vp_in ((b6g_nodes S.1) - (1 : Int32)) 232 ∧ (∀ S2 : bT6 × bT1, S2 = ((b6s_leafCounts S.1 (upd (b6g_leafCounts S.1) (((b6g_nodes S.1) - (1 : Int32))).toNatClampNeg v1)), S.2) → (wp_X6_findNodesOf_131 S2 (x1) (x4) Q B5)))))))))
set_option maxRecDepth 20000 in
theorem t_X6_findNodesOf_99 {X : bf_X} (C : bf_C X RX6 cX6_findNodesOf 8 none) (hR : bf_Rm X 2 42) (S : bT6 × bT1) (x1 : Int32) (x4 : Int32) (Q : (bT6 × bT1) → Prop) (B5 : Int32 → Int32 → Int32 → (bT6 × bT1) → Prop) (hB5 : ∀ (x1 : Int32) (x3 : Int32) (x4 : Int32) (S : bT6 × bT1), B5 x1 x3 x4 S → bf_A X (bf_Zv X bW6_1 Q) 8 5 [some (.ref 0), some (.int x1), some (.ref 13), some (.int x3), some (.int x4), none, none, none] [] (bW6_1 S)) (h : wp_X6_findNodesOf_99 S x1 x4 Q B5) : bf_A X (bf_Zv X bW6_1 Q) 8 99 [some (.ref 0), some (.int x1), some (.ref 13), none, some (.int x4), none, none, none] [] (bW6_1 S) := by
  unfold wp_X6_findNodesOf_99 at h
  refine bs_aload_n C (bf_dk dd_X6_findNodesOf 52 rfl) rfl ?_
  refine bs_get C (bf_dk dd_X6_findNodesOf 53 rfl) cl_6 in_6 12 (Nat.le_of_ble_eq_true rfl) rfl f_6_48 (ge_bW6_1_0 S) rfl ?_
  refine bs_if_le C (bf_dk dd_X6_findNodesOf 54 rfl) (tgt := 131) rfl (fun c => ?_) (fun c => ?_)
  · replace h := h.1 c
    exact bs_weak (bf_s1 (bf_s1 (bf_s1 (bf_sn (bf_s1 (bf_sn (bf_sn (bf_sn bf_s0)))))))) (t_X6_findNodesOf_131 C hR S (x1) (x4) Q B5 hB5 h)
  · replace h := h.2 c
    refine bs_aload_n C (bf_dk dd_X6_findNodesOf 55 rfl) rfl ?_
    refine bs_get C (bf_dk dd_X6_findNodesOf 56 rfl) cl_6 in_6 12 (Nat.le_of_ble_eq_true rfl) rfl f_6_48 (ge_bW6_1_0 S) rfl ?_
    refine bs_sipush C (bf_dk dd_X6_findNodesOf 57 rfl) (232 : Int32) (by decide) ?_
    refine bs_icmp_gt C (bf_dk dd_X6_findNodesOf 58 rfl) (tgt := 131) rfl (fun c => ?_) (fun c => ?_)
    · replace h := h.1 c
      exact bs_weak (bf_s1 (bf_s1 (bf_s1 (bf_sn (bf_s1 (bf_sn (bf_sn (bf_sn bf_s0)))))))) (t_X6_findNodesOf_131 C hR S (x1) (x4) Q B5 hB5 h)
    · replace h := h.2 c
      refine bs_aload_n C (bf_dk dd_X6_findNodesOf 59 rfl) rfl ?_
      refine bs_get C (bf_dk dd_X6_findNodesOf 60 rfl) cl_6 in_6 2 (Nat.le_of_ble_eq_true rfl) rfl f_6_18 (ge_bW6_1_0 S) rfl ?_
      refine bs_aload_n C (bf_dk dd_X6_findNodesOf 61 rfl) rfl ?_
      refine bs_get C (bf_dk dd_X6_findNodesOf 62 rfl) cl_6 in_6 12 (Nat.le_of_ble_eq_true rfl) rfl f_6_48 (ge_bW6_1_0 S) rfl ?_
      refine bs_iconst C (bf_dk dd_X6_findNodesOf 63 rfl) (1 : Int32) (by decide) ?_
      refine bs_isub C (bf_dk dd_X6_findNodesOf 64 rfl) ?_
      refine bs_dup2 C (bf_dk dd_X6_findNodesOf 65 rfl) rfl rfl ?_
      obtain ⟨hi, h⟩ := h
      refine bs_iald C (bf_dk dd_X6_findNodesOf 66 rfl) (ge_bW6_1_3 S) hi ?_
      refine bs_iconst C (bf_dk dd_X6_findNodesOf 67 rfl) (1 : Int32) (by decide) ?_
      refine bs_iadd C (bf_dk dd_X6_findNodesOf 68 rfl) ?_
      refine bs_name (fun v1 ev1 => ?_)
      replace h := h v1 ev1
      obtain ⟨hi, h⟩ := h
      refine bs_iast C (bf_dk dd_X6_findNodesOf 69 rfl) (ge_bW6_1_3 S) hi (ar_bW6_1_3 S _) ?_
      refine bs_nameS bW6_1 (fun S2 eS2 => ?_)
      replace h := h S2 eS2
      exact bs_weak (bf_s1 (bf_s1 (bf_s1 (bf_sn (bf_s1 (bf_sn (bf_sn (bf_sn bf_s0)))))))) (t_X6_findNodesOf_131 C hR S2 (x1) (x4) Q B5 hB5 h)
def wp_X6_findNodesOf_92 (S : bT6 × bT1) (x1 : Int32) (x4 : Int32) (Q : (bT6 × bT1) → Prop) (B5 : Int32 → Int32 → Int32 → (bT6 × bT1) → Prop) : Prop := (wp_X6_addNode S.1 (x1) (x4) (fun u4 => (∀ S5 : bT6 × bT1, S5 = (u4, S.2) → (wp_X6_findNodesOf_99 S5 (x1) (x4) Q B5))))
set_option maxRecDepth 20000 in
theorem t_X6_findNodesOf_92 {X : bf_X} (C : bf_C X RX6 cX6_findNodesOf 8 none) (hR : bf_Rm X 2 42) (S : bT6 × bT1) (x1 : Int32) (x4 : Int32) (Q : (bT6 × bT1) → Prop) (B5 : Int32 → Int32 → Int32 → (bT6 × bT1) → Prop) (hB5 : ∀ (x1 : Int32) (x3 : Int32) (x4 : Int32) (S : bT6 × bT1), B5 x1 x3 x4 S → bf_A X (bf_Zv X bW6_1 Q) 8 5 [some (.ref 0), some (.int x1), some (.ref 13), some (.int x3), some (.int x4), none, none, none] [] (bW6_1 S)) (h : wp_X6_findNodesOf_92 S x1 x4 Q B5) : bf_A X (bf_Zv X bW6_1 Q) 8 92 [some (.ref 0), some (.int x1), some (.ref 13), none, some (.int x4), none, none, none] [] (bW6_1 S) := by
  unfold wp_X6_findNodesOf_92 at h
  refine bs_aload_n C (bf_dk dd_X6_findNodesOf 48 rfl) rfl ?_
  refine bs_iload_n C (bf_dk dd_X6_findNodesOf 49 rfl) rfl ?_
  refine bs_iload C (bf_dk dd_X6_findNodesOf 50 rfl) rfl ?_
  refine bs_callV_v (ps := [0, 1, 2, 3, 4, 5, 6, 7, 8, 9, 10, 11, 12]) (w := (bW6_1 S)) C hR (c_X6_addNode _ _ _ _ _ S.1 (x1) (x4) _ h) my_X6_addNode m_6_124 rfl cl_6 (ge_bW6_0 _) rfl (Nat.le_of_ble_eq_true rfl) (Nat.le_of_ble_eq_true rfl) (su_bW6_1_0_bW6 S) bnd_0t12 (st := []) (Nat.le_of_ble_eq_true rfl) (bf_dk dd_X6_findNodesOf 51 rfl) rfl (fun _ => rfl) (w2 := fun u4 => bW6_1 (u4, S.2)) (pt_bW6_1_0_bW6 S) (fun u4 h => ?_)
  refine bs_nameS bW6_1 (fun S5 eS5 => ?_)
  replace h := h S5 eS5
  exact bs_weak (bf_s1 (bf_s1 (bf_s1 (bf_sn (bf_s1 (bf_sn (bf_sn (bf_sn bf_s0)))))))) (t_X6_findNodesOf_99 C hR S5 (x1) (x4) Q B5 hB5 h)
def wp_X6_findNodesOf_48 (S : bT6 × bT1) (x1 : Int32) (x3 : Int32) (x4 : Int32) (t0 : Int32) (Q : (bT6 × bT1) → Prop) (B5 : Int32 → Int32 → Int32 → (bT6 × bT1) → Prop) : Prop := ((t0 = 0 → (wp_X6_findNodesOf_134 S (x1) (x3) (x4) Q B5)) ∧ (¬ t0 = 0 → (wp_X0_bytesAt (b1g_owners S.2) (x4) (fun r6 => (wp_X0_bytesAt (b1g_owners S.2) (x3) (fun r8 => ((x3 = (-1 : Int32) → (wp_X6_findNodesOf_92 S (x1) (x4) Q B5)) ∧ (¬ x3 = (-1 : Int32) → (wp_X8_front (x1) (fun r10 => (((lg_cmp ((r6 ^^^ r8) &&& r10) (0 : Int64)) = 0 → (wp_X6_findNodesOf_99 S (x1) (x4) Q B5)) ∧ (¬ (lg_cmp ((r6 ^^^ r8) &&& r10) (0 : Int64)) = 0 → (wp_X6_findNodesOf_92 S (x1) (x4) Q B5)))))))))))))
set_option maxRecDepth 20000 in
theorem t_X6_findNodesOf_48 {X : bf_X} (C : bf_C X RX6 cX6_findNodesOf 8 none) (hR : bf_Rm X 2 42) (S : bT6 × bT1) (x1 : Int32) (x3 : Int32) (x4 : Int32) (t0 : Int32) (Q : (bT6 × bT1) → Prop) (B5 : Int32 → Int32 → Int32 → (bT6 × bT1) → Prop) (hB5 : ∀ (x1 : Int32) (x3 : Int32) (x4 : Int32) (S : bT6 × bT1), B5 x1 x3 x4 S → bf_A X (bf_Zv X bW6_1 Q) 8 5 [some (.ref 0), some (.int x1), some (.ref 13), some (.int x3), some (.int x4), none, none, none] [] (bW6_1 S)) (h : wp_X6_findNodesOf_48 S x1 x3 x4 t0 Q B5) : bf_A X (bf_Zv X bW6_1 Q) 8 48 [some (.ref 0), some (.int x1), some (.ref 13), some (.int x3), some (.int x4), none, none, none] [.int t0] (bW6_1 S) := by
  unfold wp_X6_findNodesOf_48 at h
  refine bs_istore C (bf_dk dd_X6_findNodesOf 25 rfl) (Nat.le_of_ble_eq_true rfl) (Nat.le_of_ble_eq_true rfl) (lv2 := [some (.ref 0), some (.int x1), some (.ref 13), some (.int x3), some (.int x4), some (.int t0), none, none]) rfl ?_
  refine bs_iload C (bf_dk dd_X6_findNodesOf 26 rfl) rfl ?_
  refine bs_if_eq C (bf_dk dd_X6_findNodesOf 27 rfl) (tgt := 134) rfl (fun c => ?_) (fun c => ?_)
  · replace h := h.1 c
    exact bs_weak (bf_s1 (bf_s1 (bf_s1 (bf_s1 (bf_s1 (bf_sn (bf_sn (bf_sn bf_s0)))))))) (t_X6_findNodesOf_134 C hR S (x1) (x3) (x4) Q B5 hB5 h)
  · replace h := h.2 c
    refine bs_aload_n C (bf_dk dd_X6_findNodesOf 28 rfl) rfl ?_
    refine bs_get C (bf_dk dd_X6_findNodesOf 29 rfl) cl_1 in_1 0 (Nat.le_of_ble_eq_true rfl) rfl f_6_111 (ge_bW6_1_13 S) rfl ?_
    refine bs_iload C (bf_dk dd_X6_findNodesOf 30 rfl) rfl ?_
    refine bs_pureV_l (ps := [14, 15, 16]) (w := (bW6_1 S)) C hR (c_X0_bytesAt _ _ _ _ _ (b1g_owners S.2) (x4) _ h) my_X0_bytesAt m_6_115 rfl cl_0 (ge_bW0_0 _) rfl (Nat.le_of_ble_eq_true rfl) (Nat.le_of_ble_eq_true rfl) (su_bW6_1_14_bW0 S) rfl (st := []) (Nat.le_of_ble_eq_true rfl) (bf_dk dd_X6_findNodesOf 31 rfl) rfl (fun _ => rfl) (fun r6 h => ?_)
    refine bs_aload_n C (bf_dk dd_X6_findNodesOf 32 rfl) rfl ?_
    refine bs_get C (bf_dk dd_X6_findNodesOf 33 rfl) cl_1 in_1 0 (Nat.le_of_ble_eq_true rfl) rfl f_6_111 (ge_bW6_1_13 S) rfl ?_
    refine bs_iload_n C (bf_dk dd_X6_findNodesOf 34 rfl) rfl ?_
    refine bs_pureV_l (ps := [14, 15, 16]) (w := (bW6_1 S)) C hR (c_X0_bytesAt _ _ _ _ _ (b1g_owners S.2) (x3) _ h) my_X0_bytesAt m_6_115 rfl cl_0 (ge_bW0_0 _) rfl (Nat.le_of_ble_eq_true rfl) (Nat.le_of_ble_eq_true rfl) (su_bW6_1_14_bW0 S) rfl (st := [.long r6]) (Nat.le_of_ble_eq_true rfl) (bf_dk dd_X6_findNodesOf 35 rfl) rfl (fun _ => rfl) (fun r8 h => ?_)
    refine bs_lxor C (bf_dk dd_X6_findNodesOf 36 rfl) ?_
    refine bs_lstore C (bf_dk dd_X6_findNodesOf 37 rfl) (Nat.le_of_ble_eq_true rfl) (Nat.le_of_ble_eq_true rfl) (lv2 := [some (.ref 0), some (.int x1), some (.ref 13), some (.int x3), some (.int x4), some (.int t0), some (.long (r6 ^^^ r8)), none]) rfl ?_
    refine bs_iload_n C (bf_dk dd_X6_findNodesOf 38 rfl) rfl ?_
    refine bs_iconst C (bf_dk dd_X6_findNodesOf 39 rfl) (-1 : Int32) (by decide) ?_
    refine bs_icmp_eq C (bf_dk dd_X6_findNodesOf 40 rfl) (tgt := 92) rfl (fun c => ?_) (fun c => ?_)
    · replace h := h.1 c
      exact bs_weak (bf_s1 (bf_s1 (bf_s1 (bf_sn (bf_s1 (bf_sn (bf_sn (bf_sn bf_s0)))))))) (t_X6_findNodesOf_92 C hR S (x1) (x4) Q B5 hB5 h)
    · replace h := h.2 c
      refine bs_lload C (bf_dk dd_X6_findNodesOf 41 rfl) rfl ?_
      refine bs_iload_n C (bf_dk dd_X6_findNodesOf 42 rfl) rfl ?_
      refine bs_pureSN_l (ps := []) (w := (bW6_1 S)) C hR (c_X8_front _ _ _ _ _ (x1) _ h) my_X8_front m_6_121 rfl (Nat.le_of_ble_eq_true rfl) (Nat.le_of_ble_eq_true rfl) rfl rfl (st := [.long (r6 ^^^ r8)]) (Nat.le_of_ble_eq_true rfl) (bf_dk dd_X6_findNodesOf 43 rfl) rfl (fun _ => rfl) (fun r10 h => ?_)
      refine bs_land C (bf_dk dd_X6_findNodesOf 44 rfl) ?_
      refine bs_lconst C (bf_dk dd_X6_findNodesOf 45 rfl) (0 : Int64) (by decide) ?_
      refine bs_lcmp C (bf_dk dd_X6_findNodesOf 46 rfl) ?_
      refine bs_if_eq C (bf_dk dd_X6_findNodesOf 47 rfl) (tgt := 99) rfl (fun c => ?_) (fun c => ?_)
      · replace h := h.1 c
        exact bs_weak (bf_s1 (bf_s1 (bf_s1 (bf_sn (bf_s1 (bf_sn (bf_sn (bf_sn bf_s0)))))))) (t_X6_findNodesOf_99 C hR S (x1) (x4) Q B5 hB5 h)
      · replace h := h.2 c
        exact bs_weak (bf_s1 (bf_s1 (bf_s1 (bf_sn (bf_s1 (bf_sn (bf_sn (bf_sn bf_s0)))))))) (t_X6_findNodesOf_92 C hR S (x1) (x4) Q B5 hB5 h)
def wp_X6_findNodesOf_47 (S : bT6 × bT1) (x1 : Int32) (x3 : Int32) (x4 : Int32) (Q : (bT6 × bT1) → Prop) (B5 : Int32 → Int32 → Int32 → (bT6 × bT1) → Prop) : Prop := (wp_X6_findNodesOf_48 S (x1) (x3) (x4) ((0 : Int32)) Q B5)
set_option maxRecDepth 20000 in
theorem t_X6_findNodesOf_47 {X : bf_X} (C : bf_C X RX6 cX6_findNodesOf 8 none) (hR : bf_Rm X 2 42) (S : bT6 × bT1) (x1 : Int32) (x3 : Int32) (x4 : Int32) (Q : (bT6 × bT1) → Prop) (B5 : Int32 → Int32 → Int32 → (bT6 × bT1) → Prop) (hB5 : ∀ (x1 : Int32) (x3 : Int32) (x4 : Int32) (S : bT6 × bT1), B5 x1 x3 x4 S → bf_A X (bf_Zv X bW6_1 Q) 8 5 [some (.ref 0), some (.int x1), some (.ref 13), some (.int x3), some (.int x4), none, none, none] [] (bW6_1 S)) (h : wp_X6_findNodesOf_47 S x1 x3 x4 Q B5) : bf_A X (bf_Zv X bW6_1 Q) 8 47 [some (.ref 0), some (.int x1), some (.ref 13), some (.int x3), some (.int x4), none, none, none] [] (bW6_1 S) := by
  unfold wp_X6_findNodesOf_47 at h
  refine bs_iconst C (bf_dk dd_X6_findNodesOf 24 rfl) (0 : Int32) (by decide) ?_
  exact bs_weak (bf_s1 (bf_s1 (bf_s1 (bf_s1 (bf_s1 (bf_sn (bf_sn (bf_sn bf_s0)))))))) (t_X6_findNodesOf_48 C hR S (x1) (x3) (x4) ((0 : Int32)) Q B5 hB5 h)
def wp_X6_findNodesOf_43 (S : bT6 × bT1) (x1 : Int32) (x3 : Int32) (x4 : Int32) (Q : (bT6 × bT1) → Prop) (B5 : Int32 → Int32 → Int32 → (bT6 × bT1) → Prop) : Prop := (wp_X6_findNodesOf_48 S (x1) (x3) (x4) ((1 : Int32)) Q B5)
set_option maxRecDepth 20000 in
theorem t_X6_findNodesOf_43 {X : bf_X} (C : bf_C X RX6 cX6_findNodesOf 8 none) (hR : bf_Rm X 2 42) (S : bT6 × bT1) (x1 : Int32) (x3 : Int32) (x4 : Int32) (Q : (bT6 × bT1) → Prop) (B5 : Int32 → Int32 → Int32 → (bT6 × bT1) → Prop) (hB5 : ∀ (x1 : Int32) (x3 : Int32) (x4 : Int32) (S : bT6 × bT1), B5 x1 x3 x4 S → bf_A X (bf_Zv X bW6_1 Q) 8 5 [some (.ref 0), some (.int x1), some (.ref 13), some (.int x3), some (.int x4), none, none, none] [] (bW6_1 S)) (h : wp_X6_findNodesOf_43 S x1 x3 x4 Q B5) : bf_A X (bf_Zv X bW6_1 Q) 8 43 [some (.ref 0), some (.int x1), some (.ref 13), some (.int x3), some (.int x4), none, none, none] [] (bW6_1 S) := by
  unfold wp_X6_findNodesOf_43 at h
  refine bs_iconst C (bf_dk dd_X6_findNodesOf 22 rfl) (1 : Int32) (by decide) ?_
  refine bs_goto C (bf_dk dd_X6_findNodesOf 23 rfl) (tgt := 48) rfl ?_
  exact bs_weak (bf_s1 (bf_s1 (bf_s1 (bf_s1 (bf_s1 (bf_sn (bf_sn (bf_sn bf_s0)))))))) (t_X6_findNodesOf_48 C hR S (x1) (x3) (x4) ((1 : Int32)) Q B5 hB5 h)
def wp_X6_findNodesOf_5b (S : bT6 × bT1) (x1 : Int32) (x3 : Int32) (x4 : Int32) (Q : (bT6 × bT1) → Prop) (B5 : Int32 → Int32 → Int32 → (bT6 × bT1) → Prop) : Prop := (wp_X1_count S.2 (fun r12 => ((r12 ≤ x4 → (Q S)) ∧ (¬ r12 ≤ x4 → (wp_X1_lengthAt S.2 (x4) (fun r14 => ((x1 < r14 → (wp_X6_findNodesOf_43 S (x1) (x3) (x4) Q B5)) ∧ (¬ x1 < r14 → (wp_X1_isEnded S.2 (x4) (fun r16 => ((r16 = 0 → (wp_X6_findNodesOf_47 S (x1) (x3) (x4) Q B5)) ∧ (¬ r16 = 0 → (wp_X1_lengthAt S.2 (x4) (fun r18 => ((¬ r18 = x1 → (wp_X6_findNodesOf_47 S (x1) (x3) (x4) Q B5)) ∧ (r18 = x1 → (wp_X6_findNodesOf_43 S (x1) (x3) (x4) Q B5)))))))))))))))))
set_option maxRecDepth 20000 in
theorem t_X6_findNodesOf_5b {X : bf_X} (C : bf_C X RX6 cX6_findNodesOf 8 none) (hR : bf_Rm X 2 42) (S : bT6 × bT1) (x1 : Int32) (x3 : Int32) (x4 : Int32) (Q : (bT6 × bT1) → Prop) (B5 : Int32 → Int32 → Int32 → (bT6 × bT1) → Prop) (hB5 : ∀ (x1 : Int32) (x3 : Int32) (x4 : Int32) (S : bT6 × bT1), B5 x1 x3 x4 S → bf_A X (bf_Zv X bW6_1 Q) 8 5 [some (.ref 0), some (.int x1), some (.ref 13), some (.int x3), some (.int x4), none, none, none] [] (bW6_1 S)) (h : wp_X6_findNodesOf_5b S x1 x3 x4 Q B5) : bf_A X (bf_Zv X bW6_1 Q) 8 5 [some (.ref 0), some (.int x1), some (.ref 13), some (.int x3), some (.int x4), none, none, none] [] (bW6_1 S) := by
  unfold wp_X6_findNodesOf_5b at h
  refine bs_iload C (bf_dk dd_X6_findNodesOf 4 rfl) rfl ?_
  refine bs_aload_n C (bf_dk dd_X6_findNodesOf 5 rfl) rfl ?_
  refine bs_pureV_i (ps := [13, 14, 15, 16, 17, 18, 19, 20, 21, 22, 23, 24, 25, 26]) (w := (bW6_1 S)) C hR (c_X1_count _ _ _ _ _ S.2 _ h) my_X1_count m_6_98 rfl cl_1 (ge_bW1_0 _) rfl (Nat.le_of_ble_eq_true rfl) (Nat.le_of_ble_eq_true rfl) (su_bW6_1_13_bW1 S) bnd_13t26 (st := [.int x4]) (Nat.le_of_ble_eq_true rfl) (bf_dk dd_X6_findNodesOf 6 rfl) rfl (fun _ => rfl) (fun r12 h => ?_)
  refine bs_icmp_ge C (bf_dk dd_X6_findNodesOf 7 rfl) (tgt := 140) rfl (fun c => ?_) (fun c => ?_)
  · replace h := h.1 c
    exact bs_vret (u := S) C (bf_dk dd_X6_findNodesOf 74 rfl) rfl h
  · replace h := h.2 c
    refine bs_aload_n C (bf_dk dd_X6_findNodesOf 8 rfl) rfl ?_
    refine bs_iload C (bf_dk dd_X6_findNodesOf 9 rfl) rfl ?_
    refine bs_pureV_i (ps := [13, 14, 15, 16, 17, 18, 19, 20, 21, 22, 23, 24, 25, 26]) (w := (bW6_1 S)) C hR (c_X1_lengthAt _ _ _ _ _ S.2 (x4) _ h) my_X1_lengthAt m_6_104 rfl cl_1 (ge_bW1_0 _) rfl (Nat.le_of_ble_eq_true rfl) (Nat.le_of_ble_eq_true rfl) (su_bW6_1_13_bW1 S) bnd_13t26 (st := []) (Nat.le_of_ble_eq_true rfl) (bf_dk dd_X6_findNodesOf 10 rfl) rfl (fun _ => rfl) (fun r14 h => ?_)
    refine bs_iload_n C (bf_dk dd_X6_findNodesOf 11 rfl) rfl ?_
    refine bs_icmp_gt C (bf_dk dd_X6_findNodesOf 12 rfl) (tgt := 43) rfl (fun c => ?_) (fun c => ?_)
    · replace h := h.1 c
      exact bs_weak (bf_s1 (bf_s1 (bf_s1 (bf_s1 (bf_s1 (bf_sn (bf_sn (bf_sn bf_s0)))))))) (t_X6_findNodesOf_43 C hR S (x1) (x3) (x4) Q B5 hB5 h)
    · replace h := h.2 c
      refine bs_aload_n C (bf_dk dd_X6_findNodesOf 13 rfl) rfl ?_
      refine bs_iload C (bf_dk dd_X6_findNodesOf 14 rfl) rfl ?_
      refine bs_pureV_i (ps := [13, 14, 15, 16, 17, 18, 19, 20, 21, 22, 23, 24, 25, 26]) (w := (bW6_1 S)) C hR (c_X1_isEnded _ _ _ _ _ S.2 (x4) _ h) my_X1_isEnded m_6_107 rfl cl_1 (ge_bW1_0 _) rfl (Nat.le_of_ble_eq_true rfl) (Nat.le_of_ble_eq_true rfl) (su_bW6_1_13_bW1 S) bnd_13t26 (st := []) (Nat.le_of_ble_eq_true rfl) (bf_dk dd_X6_findNodesOf 15 rfl) rfl (fun _ => rfl) (fun r16 h => ?_)
      refine bs_if_eq C (bf_dk dd_X6_findNodesOf 16 rfl) (tgt := 47) rfl (fun c => ?_) (fun c => ?_)
      · replace h := h.1 c
        exact bs_weak (bf_s1 (bf_s1 (bf_s1 (bf_s1 (bf_s1 (bf_sn (bf_sn (bf_sn bf_s0)))))))) (t_X6_findNodesOf_47 C hR S (x1) (x3) (x4) Q B5 hB5 h)
      · replace h := h.2 c
        refine bs_aload_n C (bf_dk dd_X6_findNodesOf 17 rfl) rfl ?_
        refine bs_iload C (bf_dk dd_X6_findNodesOf 18 rfl) rfl ?_
        refine bs_pureV_i (ps := [13, 14, 15, 16, 17, 18, 19, 20, 21, 22, 23, 24, 25, 26]) (w := (bW6_1 S)) C hR (c_X1_lengthAt _ _ _ _ _ S.2 (x4) _ h) my_X1_lengthAt m_6_104 rfl cl_1 (ge_bW1_0 _) rfl (Nat.le_of_ble_eq_true rfl) (Nat.le_of_ble_eq_true rfl) (su_bW6_1_13_bW1 S) bnd_13t26 (st := []) (Nat.le_of_ble_eq_true rfl) (bf_dk dd_X6_findNodesOf 19 rfl) rfl (fun _ => rfl) (fun r18 h => ?_)
        refine bs_iload_n C (bf_dk dd_X6_findNodesOf 20 rfl) rfl ?_
        refine bs_icmp_ne C (bf_dk dd_X6_findNodesOf 21 rfl) (tgt := 47) rfl (fun c => ?_) (fun c => ?_)
        · replace h := h.1 c
          exact bs_weak (bf_s1 (bf_s1 (bf_s1 (bf_s1 (bf_s1 (bf_sn (bf_sn (bf_sn bf_s0)))))))) (t_X6_findNodesOf_47 C hR S (x1) (x3) (x4) Q B5 hB5 h)
        · replace h := h.2 c
          exact bs_weak (bf_s1 (bf_s1 (bf_s1 (bf_s1 (bf_s1 (bf_sn (bf_sn (bf_sn bf_s0)))))))) (t_X6_findNodesOf_43 C hR S (x1) (x3) (x4) Q B5 hB5 h)
def wp_X6_findNodesOf_5 (S : bT6 × bT1) (x1 : Int32) (x3 : Int32) (x4 : Int32) (Q : (bT6 × bT1) → Prop) : Prop := ∃ I : Nat → Int32 → Int32 → Int32 → (bT6 × bT1) → Prop, (∃ n : Nat, I n x1 x3 x4 S) ∧ ∀ (n : Nat) (x1 : Int32) (x3 : Int32) (x4 : Int32) (S : bT6 × bT1), I n x1 x3 x4 S → wp_X6_findNodesOf_5b S x1 x3 x4 Q (fun x1 x3 x4 S => ∃ n2 : Nat, n2 < n ∧ I n2 x1 x3 x4 S)
theorem t_X6_findNodesOf_5 {X : bf_X} (C : bf_C X RX6 cX6_findNodesOf 8 none) (hR : bf_Rm X 2 42) (S : bT6 × bT1) (x1 : Int32) (x3 : Int32) (x4 : Int32) (Q : (bT6 × bT1) → Prop) (h : wp_X6_findNodesOf_5 S x1 x3 x4 Q) : bf_A X (bf_Zv X bW6_1 Q) 8 5 [some (.ref 0), some (.int x1), some (.ref 13), some (.int x3), some (.int x4), none, none, none] [] (bW6_1 S) := by
  obtain ⟨I, ⟨n0, h0⟩, hI⟩ := h
  have key : ∀ (n : Nat) (x1 : Int32) (x3 : Int32) (x4 : Int32) (S : bT6 × bT1), I n x1 x3 x4 S → bf_A X (bf_Zv X bW6_1 Q) 8 5 [some (.ref 0), some (.int x1), some (.ref 13), some (.int x3), some (.int x4), none, none, none] [] (bW6_1 S) := by
    intro n
    induction n using Nat.strongRecOn with
    | _ n ih =>
      intro x1 x3 x4 S hi
      exact t_X6_findNodesOf_5b C hR S x1 x3 x4 Q _ (fun x1 x3 x4 S hb => by obtain ⟨n2, hn, hi2⟩ := hb; exact ih n2 hn x1 x3 x4 S hi2) (hI n x1 x3 x4 S hi)
  exact key n0 x1 x3 x4 S h0
def wp_X6_findNodesOf (S : bT6 × bT1) (a1 : Int32) (Q : (bT6 × bT1) → Prop) : Prop := (wp_X6_findNodesOf_5 S (a1) ((-1 : Int32)) ((0 : Int32)) Q)
set_option maxRecDepth 20000 in
theorem t_X6_findNodesOf {X : bf_X} (C : bf_C X RX6 cX6_findNodesOf 8 none) (hR : bf_Rm X 2 42) (S : bT6 × bT1) (a1 : Int32) (Q : (bT6 × bT1) → Prop) (h : wp_X6_findNodesOf S a1 Q) : bf_A X (bf_Zv X bW6_1 Q) 8 0 [some (.ref 0), some (.int a1), some (.ref 13), none, none, none, none, none] [] (bW6_1 S) := by
  unfold wp_X6_findNodesOf at h
  refine bs_iconst C (bf_dk dd_X6_findNodesOf 0 rfl) (-1 : Int32) (by decide) ?_
  refine bs_istore_n C (bf_dk dd_X6_findNodesOf 1 rfl) rfl (Nat.le_of_ble_eq_true rfl) (Nat.le_of_ble_eq_true rfl) (lv2 := [some (.ref 0), some (.int a1), some (.ref 13), some (.int (-1 : Int32)), none, none, none, none]) rfl ?_
  refine bs_iconst C (bf_dk dd_X6_findNodesOf 2 rfl) (0 : Int32) (by decide) ?_
  refine bs_istore C (bf_dk dd_X6_findNodesOf 3 rfl) (Nat.le_of_ble_eq_true rfl) (Nat.le_of_ble_eq_true rfl) (lv2 := [some (.ref 0), some (.int a1), some (.ref 13), some (.int (-1 : Int32)), some (.int (0 : Int32)), none, none, none]) rfl ?_
  exact bs_weak (bf_s1 (bf_s1 (bf_s1 (bf_s1 (bf_s1 (bf_sn (bf_sn (bf_sn bf_s0)))))))) (t_X6_findNodesOf_5 C hR S (a1) ((-1 : Int32)) ((0 : Int32)) Q h)
theorem c_X6_findNodesOf (l : Launch) (dC : Nat → ClassId) (dI : Nat → Nat → Nat) (ac : Nat → ClassId) (al : Nat → Nat) (S : bT6 × bT1) (a1 : Int32) (Q : (bT6 × bT1) → Prop) (h : wp_X6_findNodesOf S a1 Q) : bf_M l yX6_findNodesOf cX6_findNodesOf 8 none 2 42 dC dI ac al [.ref 0, .int a1, .ref 13] (bW6_1 S) (bf_Kv dC dI ac al bW6_1 Q) := by
  refine bf_start [some (.ref 0), some (.int a1), some (.ref 13), none, none, none, none, none] (by decide) (Nat.le_of_ble_eq_true rfl) (bf_s1 (bf_s1 (bf_s1 (bf_en 5)))) ?_
  intro X hl C hR e1 e2 e3 e4
  subst e1; subst e2; subst e3; subst e4
  exact t_X6_findNodesOf C hR S a1 Q h
def wp_X6_findNodes_54 (S : bT6 × bT1) (x2 : Int32) (Q : (bT6 × bT1) → Prop) (B12 : Int32 → (bT6 × bT1) → Prop) : Prop := (B12 ((x2 + (1 : Int32))) S)
set_option maxRecDepth 20000 in
theorem t_X6_findNodes_54 {X : bf_X} (C : bf_C X RX6 cX6_findNodes 3 none) (hR : bf_Rm X 3 69) (S : bT6 × bT1) (x2 : Int32) (Q : (bT6 × bT1) → Prop) (B12 : Int32 → (bT6 × bT1) → Prop) (hB12 : ∀ (x2 : Int32) (S : bT6 × bT1), B12 x2 S → bf_A X (bf_Zv X bW6_1 Q) 3 12 [some (.ref 0), some (.ref 13), some (.int x2)] [] (bW6_1 S)) (h : wp_X6_findNodes_54 S x2 Q B12) : bf_A X (bf_Zv X bW6_1 Q) 3 54 [some (.ref 0), some (.ref 13), some (.int x2)] [] (bW6_1 S) := by
  unfold wp_X6_findNodes_54 at h
  refine bs_iinc C (bf_dk dd_X6_findNodes 33 rfl) (x2 + (1 : Int32)) rfl rfl (Nat.le_of_ble_eq_true rfl) (Nat.le_of_ble_eq_true rfl) (lv2 := [some (.ref 0), some (.ref 13), some (.int (x2 + (1 : Int32)))]) rfl ?_
  refine bs_goto C (bf_dk dd_X6_findNodes 34 rfl) (tgt := 12) rfl ?_
  exact bs_weak (bf_s1 (bf_s1 (bf_s1 bf_s0))) (hB12 ((x2 + (1 : Int32))) S h)
def wp_X6_findNodes_12b (S : bT6 × bT1) (x2 : Int32) (Q : (bT6 × bT1) → Prop) (B12 : Int32 → (bT6 × bT1) → Prop) : Prop := (((8 : Int32) ≤ x2 → (vp_in (8 : Int32) 9 ∧ (∀ S1 : bT6 × bT1, S1 = ((b6s_levelStarts S.1 (upd (b6g_levelStarts S.1) ((8 : Int32)).toNatClampNeg (b6g_nodes S.1))), S.2) → (Q S1)))) ∧ (¬ (8 : Int32) ≤ x2 → (vp_in x2 9 ∧ (∀ S2 : bT6 × bT1, S2 = ((b6s_levelStarts S.1 (upd (b6g_levelStarts S.1) (x2).toNatClampNeg (b6g_nodes S.1))), S.2) → (wp_X6_findNodesOf S2 (x2) (fun u4 => (vp_in x2 9 ∧ (((b6g_nodes u4.1) ≤ ((b6g_levelStarts u4.1) (x2).toNatClampNeg) → (wp_X6_findNodes_54 u4 (x2) Q B12)) ∧ (¬ (b6g_nodes u4.1) ≤ ((b6g_levelStarts u4.1) (x2).toNatClampNeg) → (∀ S5 : bT6 × bT1, S5 = ((b6s_levels u4.1 (x2 + (1 : Int32))), u4.2) → (wp_X6_findNodes_54 S5 (x2) Q B12)))))))))))
set_option maxRecDepth 20000 in
theorem t_X6_findNodes_12b {X : bf_X} (C : bf_C X RX6 cX6_findNodes 3 none) (hR : bf_Rm X 3 69) (S : bT6 × bT1) (x2 : Int32) (Q : (bT6 × bT1) → Prop) (B12 : Int32 → (bT6 × bT1) → Prop) (hB12 : ∀ (x2 : Int32) (S : bT6 × bT1), B12 x2 S → bf_A X (bf_Zv X bW6_1 Q) 3 12 [some (.ref 0), some (.ref 13), some (.int x2)] [] (bW6_1 S)) (h : wp_X6_findNodes_12b S x2 Q B12) : bf_A X (bf_Zv X bW6_1 Q) 3 12 [some (.ref 0), some (.ref 13), some (.int x2)] [] (bW6_1 S) := by
  unfold wp_X6_findNodes_12b at h
  refine bs_iload_n C (bf_dk dd_X6_findNodes 8 rfl) rfl ?_
  refine bs_bipush C (bf_dk dd_X6_findNodes 9 rfl) (8 : Int32) (by decide) ?_
  refine bs_icmp_ge C (bf_dk dd_X6_findNodes 10 rfl) (tgt := 60) rfl (fun c => ?_) (fun c => ?_)
  · replace h := h.1 c
    refine bs_aload_n C (bf_dk dd_X6_findNodes 35 rfl) rfl ?_
    refine bs_get C (bf_dk dd_X6_findNodes 36 rfl) cl_6 in_6 8 (Nat.le_of_ble_eq_true rfl) rfl f_6_36 (ge_bW6_1_0 S) rfl ?_
    refine bs_bipush C (bf_dk dd_X6_findNodes 37 rfl) (8 : Int32) (by decide) ?_
    refine bs_aload_n C (bf_dk dd_X6_findNodes 38 rfl) rfl ?_
    refine bs_get C (bf_dk dd_X6_findNodes 39 rfl) cl_6 in_6 12 (Nat.le_of_ble_eq_true rfl) rfl f_6_48 (ge_bW6_1_0 S) rfl ?_
    obtain ⟨hi, h⟩ := h
    refine bs_iast C (bf_dk dd_X6_findNodes 40 rfl) (ge_bW6_1_9 S) hi (ar_bW6_1_9 S _) ?_
    refine bs_nameS bW6_1 (fun S1 eS1 => ?_)
    replace h := h S1 eS1
    exact bs_vret (u := S1) C (bf_dk dd_X6_findNodes 41 rfl) rfl h
  · replace h := h.2 c
    refine bs_aload_n C (bf_dk dd_X6_findNodes 11 rfl) rfl ?_
    refine bs_get C (bf_dk dd_X6_findNodes 12 rfl) cl_6 in_6 8 (Nat.le_of_ble_eq_true rfl) rfl f_6_36 (ge_bW6_1_0 S) rfl ?_
    refine bs_iload_n C (bf_dk dd_X6_findNodes 13 rfl) rfl ?_
    refine bs_aload_n C (bf_dk dd_X6_findNodes 14 rfl) rfl ?_
    refine bs_get C (bf_dk dd_X6_findNodes 15 rfl) cl_6 in_6 12 (Nat.le_of_ble_eq_true rfl) rfl f_6_48 (ge_bW6_1_0 S) rfl ?_
    obtain ⟨hi, h⟩ := h
    refine bs_iast C (bf_dk dd_X6_findNodes 16 rfl) (ge_bW6_1_9 S) hi (ar_bW6_1_9 S _) ?_
    refine bs_nameS bW6_1 (fun S2 eS2 => ?_)
    replace h := h S2 eS2
    refine bs_aload_n C (bf_dk dd_X6_findNodes 17 rfl) rfl ?_
    refine bs_iload_n C (bf_dk dd_X6_findNodes 18 rfl) rfl ?_
    refine bs_aload_n C (bf_dk dd_X6_findNodes 19 rfl) rfl ?_
    refine bs_selfV_v C hR (c_X6_findNodesOf _ _ _ _ _ S2 (x2) _ h) my_X6_findNodesOf m_6_94 rfl cl_6 (ge_bW6_1_0 _) rfl (Nat.le_of_ble_eq_true rfl) (Nat.le_of_ble_eq_true rfl) (st := []) (Nat.le_of_ble_eq_true rfl) (bf_dk dd_X6_findNodes 20 rfl) rfl (len := 27) (fun _ => rfl) (fun u4 h => ?_)
    refine bs_aload_n C (bf_dk dd_X6_findNodes 21 rfl) rfl ?_
    refine bs_get C (bf_dk dd_X6_findNodes 22 rfl) cl_6 in_6 12 (Nat.le_of_ble_eq_true rfl) rfl f_6_48 (ge_bW6_1_0 u4) rfl ?_
    refine bs_aload_n C (bf_dk dd_X6_findNodes 23 rfl) rfl ?_
    refine bs_get C (bf_dk dd_X6_findNodes 24 rfl) cl_6 in_6 8 (Nat.le_of_ble_eq_true rfl) rfl f_6_36 (ge_bW6_1_0 u4) rfl ?_
    refine bs_iload_n C (bf_dk dd_X6_findNodes 25 rfl) rfl ?_
    obtain ⟨hi, h⟩ := h
    refine bs_iald C (bf_dk dd_X6_findNodes 26 rfl) (ge_bW6_1_9 u4) hi ?_
    refine bs_icmp_le C (bf_dk dd_X6_findNodes 27 rfl) (tgt := 54) rfl (fun c => ?_) (fun c => ?_)
    · replace h := h.1 c
      exact bs_weak (bf_s1 (bf_s1 (bf_s1 bf_s0))) (t_X6_findNodes_54 C hR u4 (x2) Q B12 hB12 h)
    · replace h := h.2 c
      refine bs_aload_n C (bf_dk dd_X6_findNodes 28 rfl) rfl ?_
      refine bs_iload_n C (bf_dk dd_X6_findNodes 29 rfl) rfl ?_
      refine bs_iconst C (bf_dk dd_X6_findNodes 30 rfl) (1 : Int32) (by decide) ?_
      refine bs_iadd C (bf_dk dd_X6_findNodes 31 rfl) ?_
      refine bs_put C (bf_dk dd_X6_findNodes 32 rfl) tyX6_ok nmX6 cl_6 in_6 15 (Nat.le_of_ble_eq_true rfl) rfl f_6_58 rfl (ge_bW6_1_0 u4) (Nat.le_of_ble_eq_true rfl) rfl rfl (pu_bW6_1_0_15 u4 (x2 + (1 : Int32))) ?_
      refine bs_nameS bW6_1 (fun S5 eS5 => ?_)
      replace h := h S5 eS5
      exact bs_weak (bf_s1 (bf_s1 (bf_s1 bf_s0))) (t_X6_findNodes_54 C hR S5 (x2) Q B12 hB12 h)
def wp_X6_findNodes_12 (S : bT6 × bT1) (x2 : Int32) (Q : (bT6 × bT1) → Prop) : Prop := ∃ I : Nat → Int32 → (bT6 × bT1) → Prop, (∃ n : Nat, I n x2 S) ∧ ∀ (n : Nat) (x2 : Int32) (S : bT6 × bT1), I n x2 S → wp_X6_findNodes_12b S x2 Q (fun x2 S => ∃ n2 : Nat, n2 < n ∧ I n2 x2 S)
theorem t_X6_findNodes_12 {X : bf_X} (C : bf_C X RX6 cX6_findNodes 3 none) (hR : bf_Rm X 3 69) (S : bT6 × bT1) (x2 : Int32) (Q : (bT6 × bT1) → Prop) (h : wp_X6_findNodes_12 S x2 Q) : bf_A X (bf_Zv X bW6_1 Q) 3 12 [some (.ref 0), some (.ref 13), some (.int x2)] [] (bW6_1 S) := by
  obtain ⟨I, ⟨n0, h0⟩, hI⟩ := h
  have key : ∀ (n : Nat) (x2 : Int32) (S : bT6 × bT1), I n x2 S → bf_A X (bf_Zv X bW6_1 Q) 3 12 [some (.ref 0), some (.ref 13), some (.int x2)] [] (bW6_1 S) := by
    intro n
    induction n using Nat.strongRecOn with
    | _ n ih =>
      intro x2 S hi
      exact t_X6_findNodes_12b C hR S x2 Q _ (fun x2 S hb => by obtain ⟨n2, hn, hi2⟩ := hb; exact ih n2 hn x2 S hi2) (hI n x2 S hi)
  exact key n0 x2 S h0
def wp_X6_findNodes (S : bT6 × bT1) (Q : (bT6 × bT1) → Prop) : Prop := (∀ S6 : bT6 × bT1, S6 = ((b6s_nodes S.1 (0 : Int32)), S.2) → (∀ S7 : bT6 × bT1, S7 = ((b6s_levels S6.1 (0 : Int32)), S6.2) → (wp_X6_findNodes_12 S7 ((0 : Int32)) Q)))
set_option maxRecDepth 20000 in
theorem t_X6_findNodes {X : bf_X} (C : bf_C X RX6 cX6_findNodes 3 none) (hR : bf_Rm X 3 69) (S : bT6 × bT1) (Q : (bT6 × bT1) → Prop) (h : wp_X6_findNodes S Q) : bf_A X (bf_Zv X bW6_1 Q) 3 0 [some (.ref 0), some (.ref 13), none] [] (bW6_1 S) := by
  unfold wp_X6_findNodes at h
  refine bs_aload_n C (bf_dk dd_X6_findNodes 0 rfl) rfl ?_
  refine bs_iconst C (bf_dk dd_X6_findNodes 1 rfl) (0 : Int32) (by decide) ?_
  refine bs_put C (bf_dk dd_X6_findNodes 2 rfl) tyX6_ok nmX6 cl_6 in_6 12 (Nat.le_of_ble_eq_true rfl) rfl f_6_48 rfl (ge_bW6_1_0 S) (Nat.le_of_ble_eq_true rfl) rfl rfl (pu_bW6_1_0_12 S (0 : Int32)) ?_
  refine bs_nameS bW6_1 (fun S6 eS6 => ?_)
  replace h := h S6 eS6
  refine bs_aload_n C (bf_dk dd_X6_findNodes 3 rfl) rfl ?_
  refine bs_iconst C (bf_dk dd_X6_findNodes 4 rfl) (0 : Int32) (by decide) ?_
  refine bs_put C (bf_dk dd_X6_findNodes 5 rfl) tyX6_ok nmX6 cl_6 in_6 15 (Nat.le_of_ble_eq_true rfl) rfl f_6_58 rfl (ge_bW6_1_0 S6) (Nat.le_of_ble_eq_true rfl) rfl rfl (pu_bW6_1_0_15 S6 (0 : Int32)) ?_
  refine bs_nameS bW6_1 (fun S7 eS7 => ?_)
  replace h := h S7 eS7
  refine bs_iconst C (bf_dk dd_X6_findNodes 6 rfl) (0 : Int32) (by decide) ?_
  refine bs_istore_n C (bf_dk dd_X6_findNodes 7 rfl) rfl (Nat.le_of_ble_eq_true rfl) (Nat.le_of_ble_eq_true rfl) (lv2 := [some (.ref 0), some (.ref 13), some (.int (0 : Int32))]) rfl ?_
  exact bs_weak (bf_s1 (bf_s1 (bf_s1 bf_s0))) (t_X6_findNodes_12 C hR S7 ((0 : Int32)) Q h)
theorem c_X6_findNodes (l : Launch) (dC : Nat → ClassId) (dI : Nat → Nat → Nat) (ac : Nat → ClassId) (al : Nat → Nat) (S : bT6 × bT1) (Q : (bT6 × bT1) → Prop) (h : wp_X6_findNodes S Q) : bf_M l yX6_findNodes cX6_findNodes 3 none 3 69 dC dI ac al [.ref 0, .ref 13] (bW6_1 S) (bf_Kv dC dI ac al bW6_1 Q) := by
  refine bf_start [some (.ref 0), some (.ref 13), none] (by decide) (Nat.le_of_ble_eq_true rfl) (bf_s1 (bf_s1 (bf_en 1))) ?_
  intro X hl C hR e1 e2 e3 e4
  subst e1; subst e2; subst e3; subst e4
  exact t_X6_findNodes C hR S Q h
def wp_X6_findPlaces_68 (S : bT6) (x1 : Int32) (x2 : Int32) (Q : (bT6) → Prop) (B4 : Int32 → Int32 → (bT6) → Prop) : Prop := (B4 (x1) ((x2 + (1 : Int32))) S)
set_option maxRecDepth 20000 in
theorem t_X6_findPlaces_68 {X : bf_X} (C : bf_C X RX6 cX6_findPlaces 4 none) (hR : bf_Rm X 1 21) (S : bT6) (x1 : Int32) (x2 : Int32) (Q : (bT6) → Prop) (B4 : Int32 → Int32 → (bT6) → Prop) (hB4 : ∀ (x1 : Int32) (x2 : Int32) (S : bT6), B4 x1 x2 S → bf_A X (bf_Zv X bW6 Q) 4 4 [some (.ref 0), some (.int x1), some (.int x2), none] [] (bW6 S)) (h : wp_X6_findPlaces_68 S x1 x2 Q B4) : bf_A X (bf_Zv X bW6 Q) 4 68 [some (.ref 0), some (.int x1), some (.int x2), none] [] (bW6 S) := by
  unfold wp_X6_findPlaces_68 at h
  refine bs_iinc C (bf_dk dd_X6_findPlaces 40 rfl) (x2 + (1 : Int32)) rfl rfl (Nat.le_of_ble_eq_true rfl) (Nat.le_of_ble_eq_true rfl) (lv2 := [some (.ref 0), some (.int x1), some (.int (x2 + (1 : Int32))), none]) rfl ?_
  refine bs_goto C (bf_dk dd_X6_findPlaces 41 rfl) (tgt := 4) rfl ?_
  exact bs_weak (bf_s1 (bf_s1 (bf_s1 (bf_sn bf_s0)))) (hB4 (x1) ((x2 + (1 : Int32))) S h)
def wp_X6_findPlaces_4b (S : bT6) (x1 : Int32) (x2 : Int32) (Q : (bT6) → Prop) (B4 : Int32 → Int32 → (bT6) → Prop) : Prop := (((b6g_edges S) ≤ x2 → (Q S)) ∧ (¬ (b6g_edges S) ≤ x2 → (wp_X8_at 296 (b6g_edgeLeaves S) (x2) (fun r1 => ((r1 < 0 → (wp_X6_findPlaces_68 S (x1) (x2) Q B4)) ∧ (¬ r1 < 0 → (((64 : Int32) ≤ r1 → (wp_X6_findPlaces_68 S (x1) (x2) Q B4)) ∧ (¬ (64 : Int32) ≤ r1 → (((64 : Int32) ≤ x1 → (wp_X6_findPlaces_68 S (x1) (x2) Q B4)) ∧ (¬ (64 : Int32) ≤ x1 → (vp_in r1 64 ∧ (∀ S3 : bT6, S3 = (b6s_places S (upd (b6g_places S) (r1).toNatClampNeg x1)) → (vp_in x1 64 ∧ (∀ S4 : bT6, S4 = (b6s_leavesByPlace S3 (upd (b6g_leavesByPlace S3) (x1).toNatClampNeg r1)) → (wp_X8_at 296 (b6g_edgeNodes S4) (x2) (fun r5 => (vp_in r1 64 ∧ (∀ S7 : bT6, S7 = (b6s_leafNodes S4 (upd (b6g_leafNodes S4) (r1).toNatClampNeg r5)) → (wp_X6_findPlaces_68 S7 ((x1 + (1 : Int32))) (x2) Q B4)))))))))))))))))))
set_option maxRecDepth 20000 in
theorem t_X6_findPlaces_4b {X : bf_X} (C : bf_C X RX6 cX6_findPlaces 4 none) (hR : bf_Rm X 1 21) (S : bT6) (x1 : Int32) (x2 : Int32) (Q : (bT6) → Prop) (B4 : Int32 → Int32 → (bT6) → Prop) (hB4 : ∀ (x1 : Int32) (x2 : Int32) (S : bT6), B4 x1 x2 S → bf_A X (bf_Zv X bW6 Q) 4 4 [some (.ref 0), some (.int x1), some (.int x2), none] [] (bW6 S)) (h : wp_X6_findPlaces_4b S x1 x2 Q B4) : bf_A X (bf_Zv X bW6 Q) 4 4 [some (.ref 0), some (.int x1), some (.int x2), none] [] (bW6 S) := by
  unfold wp_X6_findPlaces_4b at h
  refine bs_iload_n C (bf_dk dd_X6_findPlaces 4 rfl) rfl ?_
  refine bs_aload_n C (bf_dk dd_X6_findPlaces 5 rfl) rfl ?_
  refine bs_get C (bf_dk dd_X6_findPlaces 6 rfl) cl_6 in_6 13 (Nat.le_of_ble_eq_true rfl) rfl f_6_52 (ge_bW6_0 S) rfl ?_
  refine bs_icmp_ge C (bf_dk dd_X6_findPlaces 7 rfl) (tgt := 74) rfl (fun c => ?_) (fun c => ?_)
  · replace h := h.1 c
    exact bs_vret (u := S) C (bf_dk dd_X6_findPlaces 42 rfl) rfl h
  · replace h := h.2 c
    refine bs_aload_n C (bf_dk dd_X6_findPlaces 8 rfl) rfl ?_
    refine bs_get C (bf_dk dd_X6_findPlaces 9 rfl) cl_6 in_6 6 (Nat.le_of_ble_eq_true rfl) rfl f_6_30 (ge_bW6_0 S) rfl ?_
    refine bs_iload_n C (bf_dk dd_X6_findPlaces 10 rfl) rfl ?_
    refine bs_pureSN_i (ps := [7]) (w := (bW6 S)) C hR (c_X8_at _ _ _ _ _ 296 (b6g_edgeLeaves S) (x2) _ h) my_X8_at m_6_90 rfl (Nat.le_of_ble_eq_true rfl) (Nat.le_of_ble_eq_true rfl) (su_bW6_7_bWan296 S) rfl (st := []) (Nat.le_of_ble_eq_true rfl) (bf_dk dd_X6_findPlaces 11 rfl) rfl (fun _ => rfl) (fun r1 h => ?_)
    refine bs_istore_n C (bf_dk dd_X6_findPlaces 12 rfl) rfl (Nat.le_of_ble_eq_true rfl) (Nat.le_of_ble_eq_true rfl) (lv2 := [some (.ref 0), some (.int x1), some (.int x2), some (.int r1)]) rfl ?_
    refine bs_iload_n C (bf_dk dd_X6_findPlaces 13 rfl) rfl ?_
    refine bs_if_lt C (bf_dk dd_X6_findPlaces 14 rfl) (tgt := 68) rfl (fun c => ?_) (fun c => ?_)
    · replace h := h.1 c
      exact bs_weak (bf_s1 (bf_s1 (bf_s1 (bf_sn bf_s0)))) (t_X6_findPlaces_68 C hR S (x1) (x2) Q B4 hB4 h)
    · replace h := h.2 c
      refine bs_iload_n C (bf_dk dd_X6_findPlaces 15 rfl) rfl ?_
      refine bs_bipush C (bf_dk dd_X6_findPlaces 16 rfl) (64 : Int32) (by decide) ?_
      refine bs_icmp_ge C (bf_dk dd_X6_findPlaces 17 rfl) (tgt := 68) rfl (fun c => ?_) (fun c => ?_)
      · replace h := h.1 c
        exact bs_weak (bf_s1 (bf_s1 (bf_s1 (bf_sn bf_s0)))) (t_X6_findPlaces_68 C hR S (x1) (x2) Q B4 hB4 h)
      · replace h := h.2 c
        refine bs_iload_n C (bf_dk dd_X6_findPlaces 18 rfl) rfl ?_
        refine bs_bipush C (bf_dk dd_X6_findPlaces 19 rfl) (64 : Int32) (by decide) ?_
        refine bs_icmp_ge C (bf_dk dd_X6_findPlaces 20 rfl) (tgt := 68) rfl (fun c => ?_) (fun c => ?_)
        · replace h := h.1 c
          exact bs_weak (bf_s1 (bf_s1 (bf_s1 (bf_sn bf_s0)))) (t_X6_findPlaces_68 C hR S (x1) (x2) Q B4 hB4 h)
        · replace h := h.2 c
          refine bs_aload_n C (bf_dk dd_X6_findPlaces 21 rfl) rfl ?_
          refine bs_get C (bf_dk dd_X6_findPlaces 22 rfl) cl_6 in_6 9 (Nat.le_of_ble_eq_true rfl) rfl f_6_39 (ge_bW6_0 S) rfl ?_
          refine bs_iload_n C (bf_dk dd_X6_findPlaces 23 rfl) rfl ?_
          refine bs_iload_n C (bf_dk dd_X6_findPlaces 24 rfl) rfl ?_
          obtain ⟨hi, h⟩ := h
          refine bs_iast C (bf_dk dd_X6_findPlaces 25 rfl) (ge_bW6_10 S) hi (ar_bW6_10 S _) ?_
          refine bs_nameS bW6 (fun S3 eS3 => ?_)
          replace h := h S3 eS3
          refine bs_aload_n C (bf_dk dd_X6_findPlaces 26 rfl) rfl ?_
          refine bs_get C (bf_dk dd_X6_findPlaces 27 rfl) cl_6 in_6 10 (Nat.le_of_ble_eq_true rfl) rfl f_6_42 (ge_bW6_0 S3) rfl ?_
          refine bs_iload_n C (bf_dk dd_X6_findPlaces 28 rfl) rfl ?_
          refine bs_iload_n C (bf_dk dd_X6_findPlaces 29 rfl) rfl ?_
          obtain ⟨hi, h⟩ := h
          refine bs_iast C (bf_dk dd_X6_findPlaces 30 rfl) (ge_bW6_11 S3) hi (ar_bW6_11 S3 _) ?_
          refine bs_nameS bW6 (fun S4 eS4 => ?_)
          replace h := h S4 eS4
          refine bs_aload_n C (bf_dk dd_X6_findPlaces 31 rfl) rfl ?_
          refine bs_get C (bf_dk dd_X6_findPlaces 32 rfl) cl_6 in_6 11 (Nat.le_of_ble_eq_true rfl) rfl f_6_45 (ge_bW6_0 S4) rfl ?_
          refine bs_iload_n C (bf_dk dd_X6_findPlaces 33 rfl) rfl ?_
          refine bs_aload_n C (bf_dk dd_X6_findPlaces 34 rfl) rfl ?_
          refine bs_get C (bf_dk dd_X6_findPlaces 35 rfl) cl_6 in_6 4 (Nat.le_of_ble_eq_true rfl) rfl f_6_24 (ge_bW6_0 S4) rfl ?_
          refine bs_iload_n C (bf_dk dd_X6_findPlaces 36 rfl) rfl ?_
          refine bs_pureSN_i (ps := [5]) (w := (bW6 S4)) C hR (c_X8_at _ _ _ _ _ 296 (b6g_edgeNodes S4) (x2) _ h) my_X8_at m_6_90 rfl (Nat.le_of_ble_eq_true rfl) (Nat.le_of_ble_eq_true rfl) (su_bW6_5_bWan296 S4) rfl (st := [.int r1, .ref 12]) (Nat.le_of_ble_eq_true rfl) (bf_dk dd_X6_findPlaces 37 rfl) rfl (fun _ => rfl) (fun r5 h => ?_)
          obtain ⟨hi, h⟩ := h
          refine bs_iast C (bf_dk dd_X6_findPlaces 38 rfl) (ge_bW6_12 S4) hi (ar_bW6_12 S4 _) ?_
          refine bs_nameS bW6 (fun S7 eS7 => ?_)
          replace h := h S7 eS7
          refine bs_iinc C (bf_dk dd_X6_findPlaces 39 rfl) (x1 + (1 : Int32)) rfl rfl (Nat.le_of_ble_eq_true rfl) (Nat.le_of_ble_eq_true rfl) (lv2 := [some (.ref 0), some (.int (x1 + (1 : Int32))), some (.int x2), some (.int r1)]) rfl ?_
          exact bs_weak (bf_s1 (bf_s1 (bf_s1 (bf_sn bf_s0)))) (t_X6_findPlaces_68 C hR S7 ((x1 + (1 : Int32))) (x2) Q B4 hB4 h)
def wp_X6_findPlaces_4 (S : bT6) (x1 : Int32) (x2 : Int32) (Q : (bT6) → Prop) : Prop := ∃ I : Nat → Int32 → Int32 → (bT6) → Prop, (∃ n : Nat, I n x1 x2 S) ∧ ∀ (n : Nat) (x1 : Int32) (x2 : Int32) (S : bT6), I n x1 x2 S → wp_X6_findPlaces_4b S x1 x2 Q (fun x1 x2 S => ∃ n2 : Nat, n2 < n ∧ I n2 x1 x2 S)
theorem t_X6_findPlaces_4 {X : bf_X} (C : bf_C X RX6 cX6_findPlaces 4 none) (hR : bf_Rm X 1 21) (S : bT6) (x1 : Int32) (x2 : Int32) (Q : (bT6) → Prop) (h : wp_X6_findPlaces_4 S x1 x2 Q) : bf_A X (bf_Zv X bW6 Q) 4 4 [some (.ref 0), some (.int x1), some (.int x2), none] [] (bW6 S) := by
  obtain ⟨I, ⟨n0, h0⟩, hI⟩ := h
  have key : ∀ (n : Nat) (x1 : Int32) (x2 : Int32) (S : bT6), I n x1 x2 S → bf_A X (bf_Zv X bW6 Q) 4 4 [some (.ref 0), some (.int x1), some (.int x2), none] [] (bW6 S) := by
    intro n
    induction n using Nat.strongRecOn with
    | _ n ih =>
      intro x1 x2 S hi
      exact t_X6_findPlaces_4b C hR S x1 x2 Q _ (fun x1 x2 S hb => by obtain ⟨n2, hn, hi2⟩ := hb; exact ih n2 hn x1 x2 S hi2) (hI n x1 x2 S hi)
  exact key n0 x1 x2 S h0
def wp_X6_findPlaces (S : bT6) (Q : (bT6) → Prop) : Prop := (wp_X6_findPlaces_4 S ((0 : Int32)) ((0 : Int32)) Q)
set_option maxRecDepth 20000 in
theorem t_X6_findPlaces {X : bf_X} (C : bf_C X RX6 cX6_findPlaces 4 none) (hR : bf_Rm X 1 21) (S : bT6) (Q : (bT6) → Prop) (h : wp_X6_findPlaces S Q) : bf_A X (bf_Zv X bW6 Q) 4 0 [some (.ref 0), none, none, none] [] (bW6 S) := by
  unfold wp_X6_findPlaces at h
  refine bs_iconst C (bf_dk dd_X6_findPlaces 0 rfl) (0 : Int32) (by decide) ?_
  refine bs_istore_n C (bf_dk dd_X6_findPlaces 1 rfl) rfl (Nat.le_of_ble_eq_true rfl) (Nat.le_of_ble_eq_true rfl) (lv2 := [some (.ref 0), some (.int (0 : Int32)), none, none]) rfl ?_
  refine bs_iconst C (bf_dk dd_X6_findPlaces 2 rfl) (0 : Int32) (by decide) ?_
  refine bs_istore_n C (bf_dk dd_X6_findPlaces 3 rfl) rfl (Nat.le_of_ble_eq_true rfl) (Nat.le_of_ble_eq_true rfl) (lv2 := [some (.ref 0), some (.int (0 : Int32)), some (.int (0 : Int32)), none]) rfl ?_
  exact bs_weak (bf_s1 (bf_s1 (bf_s1 (bf_sn bf_s0)))) (t_X6_findPlaces_4 C hR S ((0 : Int32)) ((0 : Int32)) Q h)
theorem c_X6_findPlaces (l : Launch) (dC : Nat → ClassId) (dI : Nat → Nat → Nat) (ac : Nat → ClassId) (al : Nat → Nat) (S : bT6) (Q : (bT6) → Prop) (h : wp_X6_findPlaces S Q) : bf_M l yX6_findPlaces cX6_findPlaces 4 none 1 21 dC dI ac al [.ref 0] (bW6 S) (bf_Kv dC dI ac al bW6 Q) := by
  refine bf_start [some (.ref 0), none, none, none] (by decide) (Nat.le_of_ble_eq_true rfl) (bf_s1 (bf_en 3)) ?_
  intro X hl C hR e1 e2 e3 e4
  subst e1; subst e2; subst e3; subst e4
  exact t_X6_findPlaces C hR S Q h
def wp_X6_edgesAmong (S : bT6) (a1 : Int32) (a2 : Int32) (Q : Int32 → Prop) : Prop := (wp_X8_at 233 (b6g_edgeStarts S) (a2) (fun r1 => (wp_X8_at 233 (b6g_edgeStarts S) (a1) (fun r3 => (Q (r1 - r3))))))
set_option maxRecDepth 20000 in
theorem t_X6_edgesAmong {X : bf_X} (C : bf_C X RX6 cX6_edgesAmong 3 (some .int)) (hR : bf_Rm X 1 21) (S : bT6) (a1 : Int32) (a2 : Int32) (Q : Int32 → Prop) (h : wp_X6_edgesAmong S a1 a2 Q) : bf_A X (bf_Zi X bW6 (fun r u => u = S ∧ Q r)) 3 0 [some (.ref 0), some (.int a1), some (.int a2)] [] (bW6 S) := by
  unfold wp_X6_edgesAmong at h
  refine bs_aload_n C (bf_dk dd_X6_edgesAmong 0 rfl) rfl ?_
  refine bs_get C (bf_dk dd_X6_edgesAmong 1 rfl) cl_6 in_6 3 (Nat.le_of_ble_eq_true rfl) rfl f_6_21 (ge_bW6_0 S) rfl ?_
  refine bs_iload_n C (bf_dk dd_X6_edgesAmong 2 rfl) rfl ?_
  refine bs_pureSN_i (ps := [4]) (w := (bW6 S)) C hR (c_X8_at _ _ _ _ _ 233 (b6g_edgeStarts S) (a2) _ h) my_X8_at m_6_90 rfl (Nat.le_of_ble_eq_true rfl) (Nat.le_of_ble_eq_true rfl) (su_bW6_4_bWan233 S) rfl (st := []) (Nat.le_of_ble_eq_true rfl) (bf_dk dd_X6_edgesAmong 3 rfl) rfl (fun _ => rfl) (fun r1 h => ?_)
  refine bs_aload_n C (bf_dk dd_X6_edgesAmong 4 rfl) rfl ?_
  refine bs_get C (bf_dk dd_X6_edgesAmong 5 rfl) cl_6 in_6 3 (Nat.le_of_ble_eq_true rfl) rfl f_6_21 (ge_bW6_0 S) rfl ?_
  refine bs_iload_n C (bf_dk dd_X6_edgesAmong 6 rfl) rfl ?_
  refine bs_pureSN_i (ps := [4]) (w := (bW6 S)) C hR (c_X8_at _ _ _ _ _ 233 (b6g_edgeStarts S) (a1) _ h) my_X8_at m_6_90 rfl (Nat.le_of_ble_eq_true rfl) (Nat.le_of_ble_eq_true rfl) (su_bW6_4_bWan233 S) rfl (st := [.int r1]) (Nat.le_of_ble_eq_true rfl) (bf_dk dd_X6_edgesAmong 7 rfl) rfl (fun _ => rfl) (fun r3 h => ?_)
  refine bs_isub C (bf_dk dd_X6_edgesAmong 8 rfl) ?_
  exact bs_iret (u := S) C (bf_dk dd_X6_edgesAmong 9 rfl) rfl ⟨rfl, h⟩
theorem c_X6_edgesAmong (l : Launch) (dC : Nat → ClassId) (dI : Nat → Nat → Nat) (ac : Nat → ClassId) (al : Nat → Nat) (S : bT6) (a1 : Int32) (a2 : Int32) (Q : Int32 → Prop) (h : wp_X6_edgesAmong S a1 a2 Q) : bf_M l yX6_edgesAmong cX6_edgesAmong 3 (some .int) 1 21 dC dI ac al [.ref 0, .int a1, .int a2] (bW6 S) (bf_Ki dC dI ac al bW6 (fun r u => u = S ∧ Q r)) := by
  refine bf_start [some (.ref 0), some (.int a1), some (.int a2)] (by decide) (Nat.le_of_ble_eq_true rfl) (bf_s1 (bf_s1 (bf_s1 bf_s0))) ?_
  intro X hl C hR e1 e2 e3 e4
  subst e1; subst e2; subst e3; subst e4
  exact t_X6_edgesAmong C hR S a1 a2 Q h
def wp_X6_bitsBy (S : bT6) (a1 : Int32) (Q : Int32 → Prop) : Prop := (wp_X8_at 9 (b6g_levelStarts S) (a1) (fun r1 => (wp_X6_edgesAmong S (r1) ((b6g_nodes S)) (fun r3 => (Q (((513 : Int32) * r1) + ((11 : Int32) * r3)))))))
set_option maxRecDepth 20000 in
theorem t_X6_bitsBy {X : bf_X} (C : bf_C X RX6 cX6_bitsBy 3 (some .int)) (hR : bf_Rm X 2 43) (S : bT6) (a1 : Int32) (Q : Int32 → Prop) (h : wp_X6_bitsBy S a1 Q) : bf_A X (bf_Zi X bW6 (fun r u => u = S ∧ Q r)) 3 0 [some (.ref 0), some (.int a1), none] [] (bW6 S) := by
  unfold wp_X6_bitsBy at h
  refine bs_aload_n C (bf_dk dd_X6_bitsBy 0 rfl) rfl ?_
  refine bs_get C (bf_dk dd_X6_bitsBy 1 rfl) cl_6 in_6 8 (Nat.le_of_ble_eq_true rfl) rfl f_6_36 (ge_bW6_0 S) rfl ?_
  refine bs_iload_n C (bf_dk dd_X6_bitsBy 2 rfl) rfl ?_
  refine bs_pureSN_i (ps := [9]) (w := (bW6 S)) C hR (c_X8_at _ _ _ _ _ 9 (b6g_levelStarts S) (a1) _ h) my_X8_at m_6_90 rfl (Nat.le_of_ble_eq_true rfl) (Nat.le_of_ble_eq_true rfl) (su_bW6_9_bWan9 S) rfl (st := []) (Nat.le_of_ble_eq_true rfl) (bf_dk dd_X6_bitsBy 3 rfl) rfl (fun _ => rfl) (fun r1 h => ?_)
  refine bs_istore_n C (bf_dk dd_X6_bitsBy 4 rfl) rfl (Nat.le_of_ble_eq_true rfl) (Nat.le_of_ble_eq_true rfl) (lv2 := [some (.ref 0), some (.int a1), some (.int r1)]) rfl ?_
  refine bs_sipush C (bf_dk dd_X6_bitsBy 5 rfl) (513 : Int32) (by decide) ?_
  refine bs_iload_n C (bf_dk dd_X6_bitsBy 6 rfl) rfl ?_
  refine bs_imul C (bf_dk dd_X6_bitsBy 7 rfl) ?_
  refine bs_bipush C (bf_dk dd_X6_bitsBy 8 rfl) (11 : Int32) (by decide) ?_
  refine bs_aload_n C (bf_dk dd_X6_bitsBy 9 rfl) rfl ?_
  refine bs_iload_n C (bf_dk dd_X6_bitsBy 10 rfl) rfl ?_
  refine bs_aload_n C (bf_dk dd_X6_bitsBy 11 rfl) rfl ?_
  refine bs_get C (bf_dk dd_X6_bitsBy 12 rfl) cl_6 in_6 12 (Nat.le_of_ble_eq_true rfl) rfl f_6_48 (ge_bW6_0 S) rfl ?_
  refine bs_selfPV_i C hR (c_X6_edgesAmong _ _ _ _ _ S (r1) ((b6g_nodes S)) _ h) my_X6_edgesAmong m_6_142 rfl cl_6 (ge_bW6_0 _) rfl (Nat.le_of_ble_eq_true rfl) (Nat.le_of_ble_eq_true rfl) (st := [.int (11 : Int32), .int ((513 : Int32) * r1)]) (Nat.le_of_ble_eq_true rfl) (bf_dk dd_X6_bitsBy 13 rfl) rfl (fun r3 h => ?_)
  refine bs_imul C (bf_dk dd_X6_bitsBy 14 rfl) ?_
  refine bs_iadd C (bf_dk dd_X6_bitsBy 15 rfl) ?_
  exact bs_iret (u := S) C (bf_dk dd_X6_bitsBy 16 rfl) rfl ⟨rfl, h⟩
theorem c_X6_bitsBy (l : Launch) (dC : Nat → ClassId) (dI : Nat → Nat → Nat) (ac : Nat → ClassId) (al : Nat → Nat) (S : bT6) (a1 : Int32) (Q : Int32 → Prop) (h : wp_X6_bitsBy S a1 Q) : bf_M l yX6_bitsBy cX6_bitsBy 3 (some .int) 2 43 dC dI ac al [.ref 0, .int a1] (bW6 S) (bf_Ki dC dI ac al bW6 (fun r u => u = S ∧ Q r)) := by
  refine bf_start [some (.ref 0), some (.int a1), none] (by decide) (Nat.le_of_ble_eq_true rfl) (bf_s1 (bf_s1 (bf_en 1))) ?_
  intro X hl C hR e1 e2 e3 e4
  subst e1; subst e2; subst e3; subst e4
  exact t_X6_bitsBy C hR S a1 Q h
def wp_X6_upperBy_43 (S : bT6) (x1 : Int32) (x2 : Int32) (x3 : Int32) (Q : Int32 → Prop) (B4 : Int32 → Int32 → Int32 → Prop) : Prop := (B4 (x1) (x2) ((x3 + (1 : Int32))))
set_option maxRecDepth 20000 in
theorem t_X6_upperBy_43 {X : bf_X} (C : bf_C X RX6 cX6_upperBy 5 (some .int)) (hR : bf_Rm X 3 65) (S : bT6) (x1 : Int32) (x2 : Int32) (x3 : Int32) (Q : Int32 → Prop) (B4 : Int32 → Int32 → Int32 → Prop) (hB4 : ∀ (x1 : Int32) (x2 : Int32) (x3 : Int32), B4 x1 x2 x3 → bf_A X (bf_Zi X bW6 (fun r u => u = S ∧ Q r)) 5 4 [some (.ref 0), some (.int x1), some (.int x2), some (.int x3), none] [] (bW6 S)) (h : wp_X6_upperBy_43 S x1 x2 x3 Q B4) : bf_A X (bf_Zi X bW6 (fun r u => u = S ∧ Q r)) 5 43 [some (.ref 0), some (.int x1), some (.int x2), some (.int x3), none] [] (bW6 S) := by
  unfold wp_X6_upperBy_43 at h
  refine bs_iinc C (bf_dk dd_X6_upperBy 26 rfl) (x3 + (1 : Int32)) rfl rfl (Nat.le_of_ble_eq_true rfl) (Nat.le_of_ble_eq_true rfl) (lv2 := [some (.ref 0), some (.int x1), some (.int x2), some (.int (x3 + (1 : Int32))), none]) rfl ?_
  refine bs_goto C (bf_dk dd_X6_upperBy 27 rfl) (tgt := 4) rfl ?_
  exact bs_weak (bf_s1 (bf_s1 (bf_s1 (bf_s1 (bf_sn bf_s0))))) (hB4 (x1) (x2) ((x3 + (1 : Int32))) h)
def wp_X6_upperBy_4b (S : bT6) (x1 : Int32) (x2 : Int32) (x3 : Int32) (Q : Int32 → Prop) (B4 : Int32 → Int32 → Int32 → Prop) : Prop := (((b6g_levels S) < x3 → (Q x2)) ∧ (¬ (b6g_levels S) < x3 → (wp_X8_at 9 (b6g_levelStarts S) (x3) (fun r1 => (∀ v3 : Int32, v3 = ((513 : Int32) * r1) → (wp_X6_bitsBy S (x3) (fun r4 => (((r4 - v3) < (x1 * v3) → (wp_X6_upperBy_43 S (x1) (x2) (x3) Q B4)) ∧ (¬ (r4 - v3) < (x1 * v3) → (wp_X6_upperBy_43 S (x1) (x3) (x3) Q B4))))))))))
set_option maxRecDepth 20000 in
theorem t_X6_upperBy_4b {X : bf_X} (C : bf_C X RX6 cX6_upperBy 5 (some .int)) (hR : bf_Rm X 3 65) (S : bT6) (x1 : Int32) (x2 : Int32) (x3 : Int32) (Q : Int32 → Prop) (B4 : Int32 → Int32 → Int32 → Prop) (hB4 : ∀ (x1 : Int32) (x2 : Int32) (x3 : Int32), B4 x1 x2 x3 → bf_A X (bf_Zi X bW6 (fun r u => u = S ∧ Q r)) 5 4 [some (.ref 0), some (.int x1), some (.int x2), some (.int x3), none] [] (bW6 S)) (h : wp_X6_upperBy_4b S x1 x2 x3 Q B4) : bf_A X (bf_Zi X bW6 (fun r u => u = S ∧ Q r)) 5 4 [some (.ref 0), some (.int x1), some (.int x2), some (.int x3), none] [] (bW6 S) := by
  unfold wp_X6_upperBy_4b at h
  refine bs_iload_n C (bf_dk dd_X6_upperBy 4 rfl) rfl ?_
  refine bs_aload_n C (bf_dk dd_X6_upperBy 5 rfl) rfl ?_
  refine bs_get C (bf_dk dd_X6_upperBy 6 rfl) cl_6 in_6 15 (Nat.le_of_ble_eq_true rfl) rfl f_6_58 (ge_bW6_0 S) rfl ?_
  refine bs_icmp_gt C (bf_dk dd_X6_upperBy 7 rfl) (tgt := 49) rfl (fun c => ?_) (fun c => ?_)
  · replace h := h.1 c
    refine bs_iload_n C (bf_dk dd_X6_upperBy 28 rfl) rfl ?_
    exact bs_iret (u := S) C (bf_dk dd_X6_upperBy 29 rfl) rfl ⟨rfl, h⟩
  · replace h := h.2 c
    refine bs_sipush C (bf_dk dd_X6_upperBy 8 rfl) (513 : Int32) (by decide) ?_
    refine bs_aload_n C (bf_dk dd_X6_upperBy 9 rfl) rfl ?_
    refine bs_get C (bf_dk dd_X6_upperBy 10 rfl) cl_6 in_6 8 (Nat.le_of_ble_eq_true rfl) rfl f_6_36 (ge_bW6_0 S) rfl ?_
    refine bs_iload_n C (bf_dk dd_X6_upperBy 11 rfl) rfl ?_
    refine bs_pureSN_i (ps := [9]) (w := (bW6 S)) C hR (c_X8_at _ _ _ _ _ 9 (b6g_levelStarts S) (x3) _ h) my_X8_at m_6_90 rfl (Nat.le_of_ble_eq_true rfl) (Nat.le_of_ble_eq_true rfl) (su_bW6_9_bWan9 S) rfl (st := [.int (513 : Int32)]) (Nat.le_of_ble_eq_true rfl) (bf_dk dd_X6_upperBy 12 rfl) rfl (fun _ => rfl) (fun r1 h => ?_)
    refine bs_imul C (bf_dk dd_X6_upperBy 13 rfl) ?_
    refine bs_name (fun v3 ev3 => ?_)
    replace h := h v3 ev3
    refine bs_istore C (bf_dk dd_X6_upperBy 14 rfl) (Nat.le_of_ble_eq_true rfl) (Nat.le_of_ble_eq_true rfl) (lv2 := [some (.ref 0), some (.int x1), some (.int x2), some (.int x3), some (.int v3)]) rfl ?_
    refine bs_iload_n C (bf_dk dd_X6_upperBy 15 rfl) rfl ?_
    refine bs_iload C (bf_dk dd_X6_upperBy 16 rfl) rfl ?_
    refine bs_imul C (bf_dk dd_X6_upperBy 17 rfl) ?_
    refine bs_aload_n C (bf_dk dd_X6_upperBy 18 rfl) rfl ?_
    refine bs_iload_n C (bf_dk dd_X6_upperBy 19 rfl) rfl ?_
    refine bs_selfPV_i C hR (c_X6_bitsBy _ _ _ _ _ S (x3) _ h) my_X6_bitsBy m_6_139 rfl cl_6 (ge_bW6_0 _) rfl (Nat.le_of_ble_eq_true rfl) (Nat.le_of_ble_eq_true rfl) (st := [.int (x1 * v3)]) (Nat.le_of_ble_eq_true rfl) (bf_dk dd_X6_upperBy 20 rfl) rfl (fun r4 h => ?_)
    refine bs_iload C (bf_dk dd_X6_upperBy 21 rfl) rfl ?_
    refine bs_isub C (bf_dk dd_X6_upperBy 22 rfl) ?_
    refine bs_icmp_gt C (bf_dk dd_X6_upperBy 23 rfl) (tgt := 43) rfl (fun c => ?_) (fun c => ?_)
    · replace h := h.1 c
      exact bs_weak (bf_s1 (bf_s1 (bf_s1 (bf_s1 (bf_sn bf_s0))))) (t_X6_upperBy_43 C hR S (x1) (x2) (x3) Q B4 hB4 h)
    · replace h := h.2 c
      refine bs_iload_n C (bf_dk dd_X6_upperBy 24 rfl) rfl ?_
      refine bs_istore_n C (bf_dk dd_X6_upperBy 25 rfl) rfl (Nat.le_of_ble_eq_true rfl) (Nat.le_of_ble_eq_true rfl) (lv2 := [some (.ref 0), some (.int x1), some (.int x3), some (.int x3), some (.int v3)]) rfl ?_
      exact bs_weak (bf_s1 (bf_s1 (bf_s1 (bf_s1 (bf_sn bf_s0))))) (t_X6_upperBy_43 C hR S (x1) (x3) (x3) Q B4 hB4 h)
def wp_X6_upperBy_4 (S : bT6) (x1 : Int32) (x2 : Int32) (x3 : Int32) (Q : Int32 → Prop) : Prop := ∃ I : Nat → Int32 → Int32 → Int32 → Prop, (∃ n : Nat, I n x1 x2 x3) ∧ ∀ (n : Nat) (x1 : Int32) (x2 : Int32) (x3 : Int32), I n x1 x2 x3 → wp_X6_upperBy_4b S x1 x2 x3 Q (fun x1 x2 x3 => ∃ n2 : Nat, n2 < n ∧ I n2 x1 x2 x3)
theorem t_X6_upperBy_4 {X : bf_X} (C : bf_C X RX6 cX6_upperBy 5 (some .int)) (hR : bf_Rm X 3 65) (S : bT6) (x1 : Int32) (x2 : Int32) (x3 : Int32) (Q : Int32 → Prop) (h : wp_X6_upperBy_4 S x1 x2 x3 Q) : bf_A X (bf_Zi X bW6 (fun r u => u = S ∧ Q r)) 5 4 [some (.ref 0), some (.int x1), some (.int x2), some (.int x3), none] [] (bW6 S) := by
  obtain ⟨I, ⟨n0, h0⟩, hI⟩ := h
  have key : ∀ (n : Nat) (x1 : Int32) (x2 : Int32) (x3 : Int32), I n x1 x2 x3 → bf_A X (bf_Zi X bW6 (fun r u => u = S ∧ Q r)) 5 4 [some (.ref 0), some (.int x1), some (.int x2), some (.int x3), none] [] (bW6 S) := by
    intro n
    induction n using Nat.strongRecOn with
    | _ n ih =>
      intro x1 x2 x3 hi
      exact t_X6_upperBy_4b C hR S x1 x2 x3 Q _ (fun x1 x2 x3 hb => by obtain ⟨n2, hn, hi2⟩ := hb; exact ih n2 hn x1 x2 x3 hi2) (hI n x1 x2 x3 hi)
  exact key n0 x1 x2 x3 h0
def wp_X6_upperBy (S : bT6) (a1 : Int32) (Q : Int32 → Prop) : Prop := (wp_X6_upperBy_4 S (a1) ((0 : Int32)) ((1 : Int32)) Q)
set_option maxRecDepth 20000 in
theorem t_X6_upperBy {X : bf_X} (C : bf_C X RX6 cX6_upperBy 5 (some .int)) (hR : bf_Rm X 3 65) (S : bT6) (a1 : Int32) (Q : Int32 → Prop) (h : wp_X6_upperBy S a1 Q) : bf_A X (bf_Zi X bW6 (fun r u => u = S ∧ Q r)) 5 0 [some (.ref 0), some (.int a1), none, none, none] [] (bW6 S) := by
  unfold wp_X6_upperBy at h
  refine bs_iconst C (bf_dk dd_X6_upperBy 0 rfl) (0 : Int32) (by decide) ?_
  refine bs_istore_n C (bf_dk dd_X6_upperBy 1 rfl) rfl (Nat.le_of_ble_eq_true rfl) (Nat.le_of_ble_eq_true rfl) (lv2 := [some (.ref 0), some (.int a1), some (.int (0 : Int32)), none, none]) rfl ?_
  refine bs_iconst C (bf_dk dd_X6_upperBy 2 rfl) (1 : Int32) (by decide) ?_
  refine bs_istore_n C (bf_dk dd_X6_upperBy 3 rfl) rfl (Nat.le_of_ble_eq_true rfl) (Nat.le_of_ble_eq_true rfl) (lv2 := [some (.ref 0), some (.int a1), some (.int (0 : Int32)), some (.int (1 : Int32)), none]) rfl ?_
  exact bs_weak (bf_s1 (bf_s1 (bf_s1 (bf_s1 (bf_sn bf_s0))))) (t_X6_upperBy_4 C hR S (a1) ((0 : Int32)) ((1 : Int32)) Q h)
theorem c_X6_upperBy (l : Launch) (dC : Nat → ClassId) (dI : Nat → Nat → Nat) (ac : Nat → ClassId) (al : Nat → Nat) (S : bT6) (a1 : Int32) (Q : Int32 → Prop) (h : wp_X6_upperBy S a1 Q) : bf_M l yX6_upperBy cX6_upperBy 5 (some .int) 3 65 dC dI ac al [.ref 0, .int a1] (bW6 S) (bf_Ki dC dI ac al bW6 (fun r u => u = S ∧ Q r)) := by
  refine bf_start [some (.ref 0), some (.int a1), none, none, none] (by decide) (Nat.le_of_ble_eq_true rfl) (bf_s1 (bf_s1 (bf_en 3))) ?_
  intro X hl C hR e1 e2 e3 e4
  subst e1; subst e2; subst e3; subst e4
  exact t_X6_upperBy C hR S a1 Q h
def wp_X6_make_37 (S : bT6 × bT1) (t1 : Int32) (Q : (bT6 × bT1) → Prop) : Prop := (∀ S1 : bT6 × bT1, S1 = ((b6s_upper S.1 t1), S.2) → (wp_X8_at 9 (b6g_levelStarts S1.1) ((b6g_upper S1.1)) (fun r2 => (∀ S4 : bT6 × bT1, S4 = ((b6s_upperNodes S1.1 r2), S1.2) → (wp_X8_at 233 (b6g_edgeStarts S4.1) ((b6g_upperNodes S4.1)) (fun r5 => (∀ S7 : bT6 × bT1, S7 = ((b6s_itemStart S4.1 r5), S4.2) → (Q S7))))))))
set_option maxRecDepth 20000 in
theorem t_X6_make_37 {X : bf_X} (C : bf_C X RX6 cX6_make 4 none) (hR : bf_Rm X 4 93) (S : bT6 × bT1) (t1 : Int32) (Q : (bT6 × bT1) → Prop) (h : wp_X6_make_37 S t1 Q) : bf_A X (bf_Zv X bW6_1 Q) 4 37 [some (.ref 0), none, none, none] [.int t1, .ref 0] (bW6_1 S) := by
  unfold wp_X6_make_37 at h
  refine bs_put C (bf_dk dd_X6_make 20 rfl) tyX6_ok nmX6 cl_6 in_6 16 (Nat.le_of_ble_eq_true rfl) rfl f_6_61 rfl (ge_bW6_1_0 S) (Nat.le_of_ble_eq_true rfl) rfl rfl (pu_bW6_1_0_16 S t1) ?_
  refine bs_nameS bW6_1 (fun S1 eS1 => ?_)
  replace h := h S1 eS1
  refine bs_aload_n C (bf_dk dd_X6_make 21 rfl) rfl ?_
  refine bs_aload_n C (bf_dk dd_X6_make 22 rfl) rfl ?_
  refine bs_get C (bf_dk dd_X6_make 23 rfl) cl_6 in_6 8 (Nat.le_of_ble_eq_true rfl) rfl f_6_36 (ge_bW6_1_0 S1) rfl ?_
  refine bs_aload_n C (bf_dk dd_X6_make 24 rfl) rfl ?_
  refine bs_get C (bf_dk dd_X6_make 25 rfl) cl_6 in_6 16 (Nat.le_of_ble_eq_true rfl) rfl f_6_61 (ge_bW6_1_0 S1) rfl ?_
  refine bs_pureSN_i (ps := [9]) (w := (bW6_1 S1)) C hR (c_X8_at _ _ _ _ _ 9 (b6g_levelStarts S1.1) ((b6g_upper S1.1)) _ h) my_X8_at m_6_90 rfl (Nat.le_of_ble_eq_true rfl) (Nat.le_of_ble_eq_true rfl) (su_bW6_1_9_bWan9 S1) rfl (st := [.ref 0]) (Nat.le_of_ble_eq_true rfl) (bf_dk dd_X6_make 26 rfl) rfl (fun _ => rfl) (fun r2 h => ?_)
  refine bs_put C (bf_dk dd_X6_make 27 rfl) tyX6_ok nmX6 cl_6 in_6 17 (Nat.le_of_ble_eq_true rfl) rfl f_6_64 rfl (ge_bW6_1_0 S1) (Nat.le_of_ble_eq_true rfl) rfl rfl (pu_bW6_1_0_17 S1 r2) ?_
  refine bs_nameS bW6_1 (fun S4 eS4 => ?_)
  replace h := h S4 eS4
  refine bs_aload_n C (bf_dk dd_X6_make 28 rfl) rfl ?_
  refine bs_aload_n C (bf_dk dd_X6_make 29 rfl) rfl ?_
  refine bs_get C (bf_dk dd_X6_make 30 rfl) cl_6 in_6 3 (Nat.le_of_ble_eq_true rfl) rfl f_6_21 (ge_bW6_1_0 S4) rfl ?_
  refine bs_aload_n C (bf_dk dd_X6_make 31 rfl) rfl ?_
  refine bs_get C (bf_dk dd_X6_make 32 rfl) cl_6 in_6 17 (Nat.le_of_ble_eq_true rfl) rfl f_6_64 (ge_bW6_1_0 S4) rfl ?_
  refine bs_pureSN_i (ps := [4]) (w := (bW6_1 S4)) C hR (c_X8_at _ _ _ _ _ 233 (b6g_edgeStarts S4.1) ((b6g_upperNodes S4.1)) _ h) my_X8_at m_6_90 rfl (Nat.le_of_ble_eq_true rfl) (Nat.le_of_ble_eq_true rfl) (su_bW6_1_4_bWan233 S4) rfl (st := [.ref 0]) (Nat.le_of_ble_eq_true rfl) (bf_dk dd_X6_make 33 rfl) rfl (fun _ => rfl) (fun r5 h => ?_)
  refine bs_put C (bf_dk dd_X6_make 34 rfl) tyX6_ok nmX6 cl_6 in_6 18 (Nat.le_of_ble_eq_true rfl) rfl f_6_67 rfl (ge_bW6_1_0 S4) (Nat.le_of_ble_eq_true rfl) rfl rfl (pu_bW6_1_0_18 S4 r5) ?_
  refine bs_nameS bW6_1 (fun S7 eS7 => ?_)
  replace h := h S7 eS7
  exact bs_vret (u := S7) C (bf_dk dd_X6_make 35 rfl) rfl h
def wp_X6_make (S : bT6 × bT1) (a2 : Int32) (a3 : Int32) (Q : (bT6 × bT1) → Prop) : Prop := (wp_X6_findNodes S (fun u9 => (wp_X6_findEdges u9 (fun u11 => (wp_X6_findPlaces u11.1 (fun u13 => (∀ S14 : bT6 × bT1, S14 = (u13, u11.2) → ((¬ a2 = (9 : Int32) → (wp_X6_make_37 S14 ((if (b6g_levels S14.1) < a2 then (b6g_levels S14.1) else a2)) Q)) ∧ (a2 = (9 : Int32) → (wp_X6_upperBy S14.1 (a3) (fun r15 => (wp_X6_make_37 S14 (r15) Q))))))))))))
set_option maxRecDepth 20000 in
theorem t_X6_make {X : bf_X} (C : bf_C X RX6 cX6_make 4 none) (hR : bf_Rm X 4 93) (S : bT6 × bT1) (a2 : Int32) (a3 : Int32) (Q : (bT6 × bT1) → Prop) (h : wp_X6_make S a2 a3 Q) : bf_A X (bf_Zv X bW6_1 Q) 4 0 [some (.ref 0), some (.ref 13), some (.int a2), some (.int a3)] [] (bW6_1 S) := by
  unfold wp_X6_make at h
  refine bs_aload_n C (bf_dk dd_X6_make 0 rfl) rfl ?_
  refine bs_aload_n C (bf_dk dd_X6_make 1 rfl) rfl ?_
  refine bs_selfV_v C hR (c_X6_findNodes _ _ _ _ _ S _ h) my_X6_findNodes m_6_70 rfl cl_6 (ge_bW6_1_0 _) rfl (Nat.le_of_ble_eq_true rfl) (Nat.le_of_ble_eq_true rfl) (st := []) (Nat.le_of_ble_eq_true rfl) (bf_dk dd_X6_make 2 rfl) rfl (len := 27) (fun _ => rfl) (fun u9 h => ?_)
  refine bs_aload_n C (bf_dk dd_X6_make 3 rfl) rfl ?_
  refine bs_aload_n C (bf_dk dd_X6_make 4 rfl) rfl ?_
  refine bs_selfV_v C hR (c_X6_findEdges _ _ _ _ _ u9 _ h) my_X6_findEdges m_6_74 rfl cl_6 (ge_bW6_1_0 _) rfl (Nat.le_of_ble_eq_true rfl) (Nat.le_of_ble_eq_true rfl) (st := []) (Nat.le_of_ble_eq_true rfl) (bf_dk dd_X6_make 5 rfl) rfl (len := 27) (fun _ => rfl) (fun u11 h => ?_)
  refine bs_aload_n C (bf_dk dd_X6_make 6 rfl) rfl ?_
  refine bs_callV_v (ps := [0, 1, 2, 3, 4, 5, 6, 7, 8, 9, 10, 11, 12]) (w := (bW6_1 u11)) C hR (c_X6_findPlaces _ _ _ _ _ u11.1 _ h) my_X6_findPlaces m_6_77 rfl cl_6 (ge_bW6_0 _) rfl (Nat.le_of_ble_eq_true rfl) (Nat.le_of_ble_eq_true rfl) (su_bW6_1_0_bW6 u11) bnd_0t12 (st := []) (Nat.le_of_ble_eq_true rfl) (bf_dk dd_X6_make 7 rfl) rfl (fun _ => rfl) (w2 := fun u13 => bW6_1 (u13, u11.2)) (pt_bW6_1_0_bW6 u11) (fun u13 h => ?_)
  refine bs_nameS bW6_1 (fun S14 eS14 => ?_)
  replace h := h S14 eS14
  refine bs_aload_n C (bf_dk dd_X6_make 8 rfl) rfl ?_
  refine bs_iload_n C (bf_dk dd_X6_make 9 rfl) rfl ?_
  refine bs_bipush C (bf_dk dd_X6_make 10 rfl) (9 : Int32) (by decide) ?_
  refine bs_icmp_ne C (bf_dk dd_X6_make 11 rfl) (tgt := 29) rfl (fun c => ?_) (fun c => ?_)
  · replace h := h.1 c
    refine bs_iload_n C (bf_dk dd_X6_make 16 rfl) rfl ?_
    refine bs_aload_n C (bf_dk dd_X6_make 17 rfl) rfl ?_
    refine bs_get C (bf_dk dd_X6_make 18 rfl) cl_6 in_6 15 (Nat.le_of_ble_eq_true rfl) rfl f_6_58 (ge_bW6_1_0 S14) rfl ?_
    refine bs_mmin C hR m_6_84 ma_min.1 ma_min.2.1 ma_min.2.2 (Nat.le_of_ble_eq_true rfl) (Nat.le_of_ble_eq_true rfl) (bf_dk dd_X6_make 19 rfl) ?_
    exact bs_weak (bf_s1 (bf_sn (bf_sn (bf_sn bf_s0)))) (t_X6_make_37 C hR S14 ((if (b6g_levels S14.1) < a2 then (b6g_levels S14.1) else a2)) Q h)
  · replace h := h.2 c
    refine bs_aload_n C (bf_dk dd_X6_make 12 rfl) rfl ?_
    refine bs_iload_n C (bf_dk dd_X6_make 13 rfl) rfl ?_
    refine bs_pureV_i (ps := [0, 1, 2, 3, 4, 5, 6, 7, 8, 9, 10, 11, 12]) (w := (bW6_1 S14)) C hR (c_X6_upperBy _ _ _ _ _ S14.1 (a3) _ h) my_X6_upperBy m_6_80 rfl cl_6 (ge_bW6_0 _) rfl (Nat.le_of_ble_eq_true rfl) (Nat.le_of_ble_eq_true rfl) (su_bW6_1_0_bW6 S14) bnd_0t12 (st := [.ref 0]) (Nat.le_of_ble_eq_true rfl) (bf_dk dd_X6_make 14 rfl) rfl (fun _ => rfl) (fun r15 h => ?_)
    refine bs_goto C (bf_dk dd_X6_make 15 rfl) (tgt := 37) rfl ?_
    exact bs_weak (bf_s1 (bf_sn (bf_sn (bf_sn bf_s0)))) (t_X6_make_37 C hR S14 (r15) Q h)
theorem c_X6_make (l : Launch) (dC : Nat → ClassId) (dI : Nat → Nat → Nat) (ac : Nat → ClassId) (al : Nat → Nat) (S : bT6 × bT1) (a2 : Int32) (a3 : Int32) (Q : (bT6 × bT1) → Prop) (h : wp_X6_make S a2 a3 Q) : bf_M l yX6_make cX6_make 4 none 4 93 dC dI ac al [.ref 0, .ref 13, .int a2, .int a3] (bW6_1 S) (bf_Kv dC dI ac al bW6_1 Q) := by
  refine bf_start [some (.ref 0), some (.ref 13), some (.int a2), some (.int a3)] (by decide) (Nat.le_of_ble_eq_true rfl) (bf_s1 (bf_s1 (bf_s1 (bf_s1 bf_s0)))) ?_
  intro X hl C hR e1 e2 e3 e4
  subst e1; subst e2; subst e3; subst e4
  exact t_X6_make C hR S a2 a3 Q h
def wp_X6_items (S : bT6) (Q : Int32 → Prop) : Prop := (Q ((b6g_edges S) - (b6g_itemStart S)))
set_option maxRecDepth 20000 in
theorem t_X6_items {X : bf_X} (C : bf_C X RX6 cX6_items 1 (some .int)) (hR : bf_Rm X 0 0) (S : bT6) (Q : Int32 → Prop) (h : wp_X6_items S Q) : bf_A X (bf_Zi X bW6 (fun r u => u = S ∧ Q r)) 1 0 [some (.ref 0)] [] (bW6 S) := by
  unfold wp_X6_items at h
  refine bs_aload_n C (bf_dk dd_X6_items 0 rfl) rfl ?_
  refine bs_get C (bf_dk dd_X6_items 1 rfl) cl_6 in_6 13 (Nat.le_of_ble_eq_true rfl) rfl f_6_52 (ge_bW6_0 S) rfl ?_
  refine bs_aload_n C (bf_dk dd_X6_items 2 rfl) rfl ?_
  refine bs_get C (bf_dk dd_X6_items 3 rfl) cl_6 in_6 18 (Nat.le_of_ble_eq_true rfl) rfl f_6_67 (ge_bW6_0 S) rfl ?_
  refine bs_isub C (bf_dk dd_X6_items 4 rfl) ?_
  exact bs_iret (u := S) C (bf_dk dd_X6_items 5 rfl) rfl ⟨rfl, h⟩
theorem c_X6_items (l : Launch) (dC : Nat → ClassId) (dI : Nat → Nat → Nat) (ac : Nat → ClassId) (al : Nat → Nat) (S : bT6) (Q : Int32 → Prop) (h : wp_X6_items S Q) : bf_M l yX6_items cX6_items 1 (some .int) 0 0 dC dI ac al [.ref 0] (bW6 S) (bf_Ki dC dI ac al bW6 (fun r u => u = S ∧ Q r)) := by
  refine bf_start [some (.ref 0)] (by decide) (Nat.le_of_ble_eq_true rfl) (bf_s1 bf_s0) ?_
  intro X hl C hR e1 e2 e3 e4
  subst e1; subst e2; subst e3; subst e4
  exact t_X6_items C hR S Q h
def wp_X6_isEnd (S : bT6) (a1 : Int32) (Q : Int32 → Prop) : Prop := (wp_X8_at 296 (b6g_edgeOctets S) (a1) (fun r1 => ((¬ r1 = (-1 : Int32) → (bf_bool (0 : Int32) ∧ Q (0 : Int32))) ∧ (r1 = (-1 : Int32) → (bf_bool (1 : Int32) ∧ Q (1 : Int32))))))
set_option maxRecDepth 20000 in
theorem t_X6_isEnd {X : bf_X} (C : bf_C X RX6 cX6_isEnd 2 (some .boolean)) (hR : bf_Rm X 1 21) (S : bT6) (a1 : Int32) (Q : Int32 → Prop) (h : wp_X6_isEnd S a1 Q) : bf_A X (bf_Zi X bW6 (fun r u => u = S ∧ Q r)) 2 0 [some (.ref 0), some (.int a1)] [] (bW6 S) := by
  unfold wp_X6_isEnd at h
  refine bs_aload_n C (bf_dk dd_X6_isEnd 0 rfl) rfl ?_
  refine bs_get C (bf_dk dd_X6_isEnd 1 rfl) cl_6 in_6 5 (Nat.le_of_ble_eq_true rfl) rfl f_6_27 (ge_bW6_0 S) rfl ?_
  refine bs_iload_n C (bf_dk dd_X6_isEnd 2 rfl) rfl ?_
  refine bs_pureSN_i (ps := [6]) (w := (bW6 S)) C hR (c_X8_at _ _ _ _ _ 296 (b6g_edgeOctets S) (a1) _ h) my_X8_at m_6_90 rfl (Nat.le_of_ble_eq_true rfl) (Nat.le_of_ble_eq_true rfl) (su_bW6_6_bWan296 S) rfl (st := []) (Nat.le_of_ble_eq_true rfl) (bf_dk dd_X6_isEnd 3 rfl) rfl (fun _ => rfl) (fun r1 h => ?_)
  refine bs_iconst C (bf_dk dd_X6_isEnd 4 rfl) (-1 : Int32) (by decide) ?_
  refine bs_icmp_ne C (bf_dk dd_X6_isEnd 5 rfl) (tgt := 16) rfl (fun c => ?_) (fun c => ?_)
  · replace h := h.1 c
    refine bs_iconst C (bf_dk dd_X6_isEnd 8 rfl) (0 : Int32) (by decide) ?_
    obtain ⟨hi, h⟩ := h
    exact bs_zret (u := S) C (bf_dk dd_X6_isEnd 9 rfl) hi rfl ⟨rfl, h⟩
  · replace h := h.2 c
    refine bs_iconst C (bf_dk dd_X6_isEnd 6 rfl) (1 : Int32) (by decide) ?_
    refine bs_goto C (bf_dk dd_X6_isEnd 7 rfl) (tgt := 17) rfl ?_
    obtain ⟨hi, h⟩ := h
    exact bs_zret (u := S) C (bf_dk dd_X6_isEnd 9 rfl) hi rfl ⟨rfl, h⟩
theorem c_X6_isEnd (l : Launch) (dC : Nat → ClassId) (dI : Nat → Nat → Nat) (ac : Nat → ClassId) (al : Nat → Nat) (S : bT6) (a1 : Int32) (Q : Int32 → Prop) (h : wp_X6_isEnd S a1 Q) : bf_M l yX6_isEnd cX6_isEnd 2 (some .boolean) 1 21 dC dI ac al [.ref 0, .int a1] (bW6 S) (bf_Ki dC dI ac al bW6 (fun r u => u = S ∧ Q r)) := by
  refine bf_start [some (.ref 0), some (.int a1)] (by decide) (Nat.le_of_ble_eq_true rfl) (bf_s1 (bf_s1 bf_s0)) ?_
  intro X hl C hR e1 e2 e3 e4
  subst e1; subst e2; subst e3; subst e4
  exact t_X6_isEnd C hR S a1 Q h
def wp_X6_hasChild (S : bT6) (a1 : Int32) (Q : Int32 → Prop) : Prop := (wp_X8_at 296 (b6g_edgeChildren S) (a1) (fun r1 => ((r1 = (-1 : Int32) → (bf_bool (0 : Int32) ∧ Q (0 : Int32))) ∧ (¬ r1 = (-1 : Int32) → (bf_bool (1 : Int32) ∧ Q (1 : Int32))))))
set_option maxRecDepth 20000 in
theorem t_X6_hasChild {X : bf_X} (C : bf_C X RX6 cX6_hasChild 2 (some .boolean)) (hR : bf_Rm X 1 21) (S : bT6) (a1 : Int32) (Q : Int32 → Prop) (h : wp_X6_hasChild S a1 Q) : bf_A X (bf_Zi X bW6 (fun r u => u = S ∧ Q r)) 2 0 [some (.ref 0), some (.int a1)] [] (bW6 S) := by
  unfold wp_X6_hasChild at h
  refine bs_aload_n C (bf_dk dd_X6_hasChild 0 rfl) rfl ?_
  refine bs_get C (bf_dk dd_X6_hasChild 1 rfl) cl_6 in_6 7 (Nat.le_of_ble_eq_true rfl) rfl f_6_33 (ge_bW6_0 S) rfl ?_
  refine bs_iload_n C (bf_dk dd_X6_hasChild 2 rfl) rfl ?_
  refine bs_pureSN_i (ps := [8]) (w := (bW6 S)) C hR (c_X8_at _ _ _ _ _ 296 (b6g_edgeChildren S) (a1) _ h) my_X8_at m_6_90 rfl (Nat.le_of_ble_eq_true rfl) (Nat.le_of_ble_eq_true rfl) (su_bW6_8_bWan296 S) rfl (st := []) (Nat.le_of_ble_eq_true rfl) (bf_dk dd_X6_hasChild 3 rfl) rfl (fun _ => rfl) (fun r1 h => ?_)
  refine bs_iconst C (bf_dk dd_X6_hasChild 4 rfl) (-1 : Int32) (by decide) ?_
  refine bs_icmp_eq C (bf_dk dd_X6_hasChild 5 rfl) (tgt := 16) rfl (fun c => ?_) (fun c => ?_)
  · replace h := h.1 c
    refine bs_iconst C (bf_dk dd_X6_hasChild 8 rfl) (0 : Int32) (by decide) ?_
    obtain ⟨hi, h⟩ := h
    exact bs_zret (u := S) C (bf_dk dd_X6_hasChild 9 rfl) hi rfl ⟨rfl, h⟩
  · replace h := h.2 c
    refine bs_iconst C (bf_dk dd_X6_hasChild 6 rfl) (1 : Int32) (by decide) ?_
    refine bs_goto C (bf_dk dd_X6_hasChild 7 rfl) (tgt := 17) rfl ?_
    obtain ⟨hi, h⟩ := h
    exact bs_zret (u := S) C (bf_dk dd_X6_hasChild 9 rfl) hi rfl ⟨rfl, h⟩
theorem c_X6_hasChild (l : Launch) (dC : Nat → ClassId) (dI : Nat → Nat → Nat) (ac : Nat → ClassId) (al : Nat → Nat) (S : bT6) (a1 : Int32) (Q : Int32 → Prop) (h : wp_X6_hasChild S a1 Q) : bf_M l yX6_hasChild cX6_hasChild 2 (some .boolean) 1 21 dC dI ac al [.ref 0, .int a1] (bW6 S) (bf_Ki dC dI ac al bW6 (fun r u => u = S ∧ Q r)) := by
  refine bf_start [some (.ref 0), some (.int a1)] (by decide) (Nat.le_of_ble_eq_true rfl) (bf_s1 (bf_s1 bf_s0)) ?_
  intro X hl C hR e1 e2 e3 e4
  subst e1; subst e2; subst e3; subst e4
  exact t_X6_hasChild C hR S a1 Q h
def wp_X6_endsAmong_40 (S : bT6) (x2 : Int32) (x4 : Int32) (t0 : Int32) (t1 : Int32) (Q : Int32 → Prop) (B12 : Int32 → Int32 → Int32 → Prop) : Prop := (B12 (x2) ((t0 + t1)) ((x4 + (1 : Int32))))
set_option maxRecDepth 20000 in
theorem t_X6_endsAmong_40 {X : bf_X} (C : bf_C X RX6 cX6_endsAmong 5 (some .int)) (hR : bf_Rm X 2 42) (S : bT6) (x2 : Int32) (x4 : Int32) (t0 : Int32) (t1 : Int32) (Q : Int32 → Prop) (B12 : Int32 → Int32 → Int32 → Prop) (hB12 : ∀ (x2 : Int32) (x3 : Int32) (x4 : Int32), B12 x2 x3 x4 → bf_A X (bf_Zi X bW6 (fun r u => u = S ∧ Q r)) 5 12 [some (.ref 0), none, some (.int x2), some (.int x3), some (.int x4)] [] (bW6 S)) (h : wp_X6_endsAmong_40 S x2 x4 t0 t1 Q B12) : bf_A X (bf_Zi X bW6 (fun r u => u = S ∧ Q r)) 5 40 [some (.ref 0), none, some (.int x2), none, some (.int x4)] [.int t1, .int t0] (bW6 S) := by
  unfold wp_X6_endsAmong_40 at h
  refine bs_iadd C (bf_dk dd_X6_endsAmong 21 rfl) ?_
  refine bs_istore_n C (bf_dk dd_X6_endsAmong 22 rfl) rfl (Nat.le_of_ble_eq_true rfl) (Nat.le_of_ble_eq_true rfl) (lv2 := [some (.ref 0), none, some (.int x2), some (.int (t0 + t1)), some (.int x4)]) rfl ?_
  refine bs_iinc C (bf_dk dd_X6_endsAmong 23 rfl) (x4 + (1 : Int32)) rfl rfl (Nat.le_of_ble_eq_true rfl) (Nat.le_of_ble_eq_true rfl) (lv2 := [some (.ref 0), none, some (.int x2), some (.int (t0 + t1)), some (.int (x4 + (1 : Int32)))]) rfl ?_
  refine bs_goto C (bf_dk dd_X6_endsAmong 24 rfl) (tgt := 12) rfl ?_
  exact bs_weak (bf_s1 (bf_sn (bf_s1 (bf_s1 (bf_s1 bf_s0))))) (hB12 (x2) ((t0 + t1)) ((x4 + (1 : Int32))) h)
def wp_X6_endsAmong_12b (S : bT6) (x2 : Int32) (x3 : Int32) (x4 : Int32) (Q : Int32 → Prop) (B12 : Int32 → Int32 → Int32 → Prop) : Prop := (wp_X8_at 233 (b6g_edgeStarts S) (x2) (fun r1 => ((r1 ≤ x4 → (Q x3)) ∧ (¬ r1 ≤ x4 → (wp_X6_isEnd S (x4) (fun r3 => ((r3 = 0 → (wp_X6_endsAmong_40 S (x2) (x4) (x3) ((0 : Int32)) Q B12)) ∧ (¬ r3 = 0 → (wp_X6_endsAmong_40 S (x2) (x4) (x3) ((1 : Int32)) Q B12)))))))))
set_option maxRecDepth 20000 in
theorem t_X6_endsAmong_12b {X : bf_X} (C : bf_C X RX6 cX6_endsAmong 5 (some .int)) (hR : bf_Rm X 2 42) (S : bT6) (x2 : Int32) (x3 : Int32) (x4 : Int32) (Q : Int32 → Prop) (B12 : Int32 → Int32 → Int32 → Prop) (hB12 : ∀ (x2 : Int32) (x3 : Int32) (x4 : Int32), B12 x2 x3 x4 → bf_A X (bf_Zi X bW6 (fun r u => u = S ∧ Q r)) 5 12 [some (.ref 0), none, some (.int x2), some (.int x3), some (.int x4)] [] (bW6 S)) (h : wp_X6_endsAmong_12b S x2 x3 x4 Q B12) : bf_A X (bf_Zi X bW6 (fun r u => u = S ∧ Q r)) 5 12 [some (.ref 0), none, some (.int x2), some (.int x3), some (.int x4)] [] (bW6 S) := by
  unfold wp_X6_endsAmong_12b at h
  refine bs_iload C (bf_dk dd_X6_endsAmong 7 rfl) rfl ?_
  refine bs_aload_n C (bf_dk dd_X6_endsAmong 8 rfl) rfl ?_
  refine bs_get C (bf_dk dd_X6_endsAmong 9 rfl) cl_6 in_6 3 (Nat.le_of_ble_eq_true rfl) rfl f_6_21 (ge_bW6_0 S) rfl ?_
  refine bs_iload_n C (bf_dk dd_X6_endsAmong 10 rfl) rfl ?_
  refine bs_pureSN_i (ps := [4]) (w := (bW6 S)) C hR (c_X8_at _ _ _ _ _ 233 (b6g_edgeStarts S) (x2) _ h) my_X8_at m_6_90 rfl (Nat.le_of_ble_eq_true rfl) (Nat.le_of_ble_eq_true rfl) (su_bW6_4_bWan233 S) rfl (st := [.int x4]) (Nat.le_of_ble_eq_true rfl) (bf_dk dd_X6_endsAmong 11 rfl) rfl (fun _ => rfl) (fun r1 h => ?_)
  refine bs_icmp_ge C (bf_dk dd_X6_endsAmong 12 rfl) (tgt := 48) rfl (fun c => ?_) (fun c => ?_)
  · replace h := h.1 c
    refine bs_iload_n C (bf_dk dd_X6_endsAmong 25 rfl) rfl ?_
    exact bs_iret (u := S) C (bf_dk dd_X6_endsAmong 26 rfl) rfl ⟨rfl, h⟩
  · replace h := h.2 c
    refine bs_iload_n C (bf_dk dd_X6_endsAmong 13 rfl) rfl ?_
    refine bs_aload_n C (bf_dk dd_X6_endsAmong 14 rfl) rfl ?_
    refine bs_iload C (bf_dk dd_X6_endsAmong 15 rfl) rfl ?_
    refine bs_selfPV_i C hR (c_X6_isEnd _ _ _ _ _ S (x4) _ h) my_X6_isEnd m_6_145 rfl cl_6 (ge_bW6_0 _) rfl (Nat.le_of_ble_eq_true rfl) (Nat.le_of_ble_eq_true rfl) (st := [.int x3]) (Nat.le_of_ble_eq_true rfl) (bf_dk dd_X6_endsAmong 16 rfl) rfl (fun r3 h => ?_)
    refine bs_if_eq C (bf_dk dd_X6_endsAmong 17 rfl) (tgt := 39) rfl (fun c => ?_) (fun c => ?_)
    · replace h := h.1 c
      refine bs_iconst C (bf_dk dd_X6_endsAmong 20 rfl) (0 : Int32) (by decide) ?_
      exact bs_weak (bf_s1 (bf_sn (bf_s1 (bf_sn (bf_s1 bf_s0))))) (t_X6_endsAmong_40 C hR S (x2) (x4) (x3) ((0 : Int32)) Q B12 hB12 h)
    · replace h := h.2 c
      refine bs_iconst C (bf_dk dd_X6_endsAmong 18 rfl) (1 : Int32) (by decide) ?_
      refine bs_goto C (bf_dk dd_X6_endsAmong 19 rfl) (tgt := 40) rfl ?_
      exact bs_weak (bf_s1 (bf_sn (bf_s1 (bf_sn (bf_s1 bf_s0))))) (t_X6_endsAmong_40 C hR S (x2) (x4) (x3) ((1 : Int32)) Q B12 hB12 h)
def wp_X6_endsAmong_12 (S : bT6) (x2 : Int32) (x3 : Int32) (x4 : Int32) (Q : Int32 → Prop) : Prop := ∃ I : Nat → Int32 → Int32 → Int32 → Prop, (∃ n : Nat, I n x2 x3 x4) ∧ ∀ (n : Nat) (x2 : Int32) (x3 : Int32) (x4 : Int32), I n x2 x3 x4 → wp_X6_endsAmong_12b S x2 x3 x4 Q (fun x2 x3 x4 => ∃ n2 : Nat, n2 < n ∧ I n2 x2 x3 x4)
theorem t_X6_endsAmong_12 {X : bf_X} (C : bf_C X RX6 cX6_endsAmong 5 (some .int)) (hR : bf_Rm X 2 42) (S : bT6) (x2 : Int32) (x3 : Int32) (x4 : Int32) (Q : Int32 → Prop) (h : wp_X6_endsAmong_12 S x2 x3 x4 Q) : bf_A X (bf_Zi X bW6 (fun r u => u = S ∧ Q r)) 5 12 [some (.ref 0), none, some (.int x2), some (.int x3), some (.int x4)] [] (bW6 S) := by
  obtain ⟨I, ⟨n0, h0⟩, hI⟩ := h
  have key : ∀ (n : Nat) (x2 : Int32) (x3 : Int32) (x4 : Int32), I n x2 x3 x4 → bf_A X (bf_Zi X bW6 (fun r u => u = S ∧ Q r)) 5 12 [some (.ref 0), none, some (.int x2), some (.int x3), some (.int x4)] [] (bW6 S) := by
    intro n
    induction n using Nat.strongRecOn with
    | _ n ih =>
      intro x2 x3 x4 hi
      exact t_X6_endsAmong_12b C hR S x2 x3 x4 Q _ (fun x2 x3 x4 hb => by obtain ⟨n2, hn, hi2⟩ := hb; exact ih n2 hn x2 x3 x4 hi2) (hI n x2 x3 x4 hi)
  exact key n0 x2 x3 x4 h0
def wp_X6_endsAmong (S : bT6) (a1 : Int32) (a2 : Int32) (Q : Int32 → Prop) : Prop := (wp_X8_at 233 (b6g_edgeStarts S) (a1) (fun r5 => (wp_X6_endsAmong_12 S (a2) ((0 : Int32)) (r5) Q)))
set_option maxRecDepth 20000 in
theorem t_X6_endsAmong {X : bf_X} (C : bf_C X RX6 cX6_endsAmong 5 (some .int)) (hR : bf_Rm X 2 42) (S : bT6) (a1 : Int32) (a2 : Int32) (Q : Int32 → Prop) (h : wp_X6_endsAmong S a1 a2 Q) : bf_A X (bf_Zi X bW6 (fun r u => u = S ∧ Q r)) 5 0 [some (.ref 0), some (.int a1), some (.int a2), none, none] [] (bW6 S) := by
  unfold wp_X6_endsAmong at h
  refine bs_iconst C (bf_dk dd_X6_endsAmong 0 rfl) (0 : Int32) (by decide) ?_
  refine bs_istore_n C (bf_dk dd_X6_endsAmong 1 rfl) rfl (Nat.le_of_ble_eq_true rfl) (Nat.le_of_ble_eq_true rfl) (lv2 := [some (.ref 0), some (.int a1), some (.int a2), some (.int (0 : Int32)), none]) rfl ?_
  refine bs_aload_n C (bf_dk dd_X6_endsAmong 2 rfl) rfl ?_
  refine bs_get C (bf_dk dd_X6_endsAmong 3 rfl) cl_6 in_6 3 (Nat.le_of_ble_eq_true rfl) rfl f_6_21 (ge_bW6_0 S) rfl ?_
  refine bs_iload_n C (bf_dk dd_X6_endsAmong 4 rfl) rfl ?_
  refine bs_pureSN_i (ps := [4]) (w := (bW6 S)) C hR (c_X8_at _ _ _ _ _ 233 (b6g_edgeStarts S) (a1) _ h) my_X8_at m_6_90 rfl (Nat.le_of_ble_eq_true rfl) (Nat.le_of_ble_eq_true rfl) (su_bW6_4_bWan233 S) rfl (st := []) (Nat.le_of_ble_eq_true rfl) (bf_dk dd_X6_endsAmong 5 rfl) rfl (fun _ => rfl) (fun r5 h => ?_)
  refine bs_istore C (bf_dk dd_X6_endsAmong 6 rfl) (Nat.le_of_ble_eq_true rfl) (Nat.le_of_ble_eq_true rfl) (lv2 := [some (.ref 0), some (.int a1), some (.int a2), some (.int (0 : Int32)), some (.int r5)]) rfl ?_
  exact bs_weak (bf_s1 (bf_sn (bf_s1 (bf_s1 (bf_s1 bf_s0))))) (t_X6_endsAmong_12 C hR S (a2) ((0 : Int32)) (r5) Q h)
theorem c_X6_endsAmong (l : Launch) (dC : Nat → ClassId) (dI : Nat → Nat → Nat) (ac : Nat → ClassId) (al : Nat → Nat) (S : bT6) (a1 : Int32) (a2 : Int32) (Q : Int32 → Prop) (h : wp_X6_endsAmong S a1 a2 Q) : bf_M l yX6_endsAmong cX6_endsAmong 5 (some .int) 2 42 dC dI ac al [.ref 0, .int a1, .int a2] (bW6 S) (bf_Ki dC dI ac al bW6 (fun r u => u = S ∧ Q r)) := by
  refine bf_start [some (.ref 0), some (.int a1), some (.int a2), none, none] (by decide) (Nat.le_of_ble_eq_true rfl) (bf_s1 (bf_s1 (bf_s1 (bf_en 2)))) ?_
  intro X hl C hR e1 e2 e3 e4
  subst e1; subst e2; subst e3; subst e4
  exact t_X6_endsAmong C hR S a1 a2 Q h
def wp_X6_branches (S : bT6) (a1 : Int32) (a2 : Int32) (Q : Int32 → Prop) : Prop := (wp_X6_edgesAmong S (a1) (a2) (fun r1 => (wp_X6_endsAmong S (a1) (a2) (fun r3 => (Q (r1 - r3))))))
set_option maxRecDepth 20000 in
theorem t_X6_branches {X : bf_X} (C : bf_C X RX6 cX6_branches 3 (some .int)) (hR : bf_Rm X 3 66) (S : bT6) (a1 : Int32) (a2 : Int32) (Q : Int32 → Prop) (h : wp_X6_branches S a1 a2 Q) : bf_A X (bf_Zi X bW6 (fun r u => u = S ∧ Q r)) 3 0 [some (.ref 0), some (.int a1), some (.int a2)] [] (bW6 S) := by
  unfold wp_X6_branches at h
  refine bs_aload_n C (bf_dk dd_X6_branches 0 rfl) rfl ?_
  refine bs_iload_n C (bf_dk dd_X6_branches 1 rfl) rfl ?_
  refine bs_iload_n C (bf_dk dd_X6_branches 2 rfl) rfl ?_
  refine bs_selfPV_i C hR (c_X6_edgesAmong _ _ _ _ _ S (a1) (a2) _ h) my_X6_edgesAmong m_6_142 rfl cl_6 (ge_bW6_0 _) rfl (Nat.le_of_ble_eq_true rfl) (Nat.le_of_ble_eq_true rfl) (st := []) (Nat.le_of_ble_eq_true rfl) (bf_dk dd_X6_branches 3 rfl) rfl (fun r1 h => ?_)
  refine bs_aload_n C (bf_dk dd_X6_branches 4 rfl) rfl ?_
  refine bs_iload_n C (bf_dk dd_X6_branches 5 rfl) rfl ?_
  refine bs_iload_n C (bf_dk dd_X6_branches 6 rfl) rfl ?_
  refine bs_selfPV_i C hR (c_X6_endsAmong _ _ _ _ _ S (a1) (a2) _ h) my_X6_endsAmong m_6_148 rfl cl_6 (ge_bW6_0 _) rfl (Nat.le_of_ble_eq_true rfl) (Nat.le_of_ble_eq_true rfl) (st := [.int r1]) (Nat.le_of_ble_eq_true rfl) (bf_dk dd_X6_branches 7 rfl) rfl (fun r3 h => ?_)
  refine bs_isub C (bf_dk dd_X6_branches 8 rfl) ?_
  exact bs_iret (u := S) C (bf_dk dd_X6_branches 9 rfl) rfl ⟨rfl, h⟩
theorem c_X6_branches (l : Launch) (dC : Nat → ClassId) (dI : Nat → Nat → Nat) (ac : Nat → ClassId) (al : Nat → Nat) (S : bT6) (a1 : Int32) (a2 : Int32) (Q : Int32 → Prop) (h : wp_X6_branches S a1 a2 Q) : bf_M l yX6_branches cX6_branches 3 (some .int) 3 66 dC dI ac al [.ref 0, .int a1, .int a2] (bW6 S) (bf_Ki dC dI ac al bW6 (fun r u => u = S ∧ Q r)) := by
  refine bf_start [some (.ref 0), some (.int a1), some (.int a2)] (by decide) (Nat.le_of_ble_eq_true rfl) (bf_s1 (bf_s1 (bf_s1 bf_s0))) ?_
  intro X hl C hR e1 e2 e3 e4
  subst e1; subst e2; subst e3; subst e4
  exact t_X6_branches C hR S a1 a2 Q h
def wp_X6_childrenOf_39 (S : bT6) (x1 : Int32) (x3 : Int32) (t0 : Int32) (t1 : Int32) (Q : Int32 → Prop) (B11 : Int32 → Int32 → Int32 → Prop) : Prop := (B11 (x1) ((t0 + t1)) ((x3 + (1 : Int32))))
set_option maxRecDepth 20000 in
theorem t_X6_childrenOf_39 {X : bf_X} (C : bf_C X RX6 cX6_childrenOf 4 (some .int)) (hR : bf_Rm X 2 42) (S : bT6) (x1 : Int32) (x3 : Int32) (t0 : Int32) (t1 : Int32) (Q : Int32 → Prop) (B11 : Int32 → Int32 → Int32 → Prop) (hB11 : ∀ (x1 : Int32) (x2 : Int32) (x3 : Int32), B11 x1 x2 x3 → bf_A X (bf_Zi X bW6 (fun r u => u = S ∧ Q r)) 4 11 [some (.ref 0), some (.int x1), some (.int x2), some (.int x3)] [] (bW6 S)) (h : wp_X6_childrenOf_39 S x1 x3 t0 t1 Q B11) : bf_A X (bf_Zi X bW6 (fun r u => u = S ∧ Q r)) 4 39 [some (.ref 0), some (.int x1), none, some (.int x3)] [.int t1, .int t0] (bW6 S) := by
  unfold wp_X6_childrenOf_39 at h
  refine bs_iadd C (bf_dk dd_X6_childrenOf 23 rfl) ?_
  refine bs_istore_n C (bf_dk dd_X6_childrenOf 24 rfl) rfl (Nat.le_of_ble_eq_true rfl) (Nat.le_of_ble_eq_true rfl) (lv2 := [some (.ref 0), some (.int x1), some (.int (t0 + t1)), some (.int x3)]) rfl ?_
  refine bs_iinc C (bf_dk dd_X6_childrenOf 25 rfl) (x3 + (1 : Int32)) rfl rfl (Nat.le_of_ble_eq_true rfl) (Nat.le_of_ble_eq_true rfl) (lv2 := [some (.ref 0), some (.int x1), some (.int (t0 + t1)), some (.int (x3 + (1 : Int32)))]) rfl ?_
  refine bs_goto C (bf_dk dd_X6_childrenOf 26 rfl) (tgt := 11) rfl ?_
  exact bs_weak (bf_s1 (bf_s1 (bf_s1 (bf_s1 bf_s0)))) (hB11 (x1) ((t0 + t1)) ((x3 + (1 : Int32))) h)
def wp_X6_childrenOf_11b (S : bT6) (x1 : Int32) (x2 : Int32) (x3 : Int32) (Q : Int32 → Prop) (B11 : Int32 → Int32 → Int32 → Prop) : Prop := (wp_X8_at 233 (b6g_edgeStarts S) ((x1 + (1 : Int32))) (fun r1 => ((r1 ≤ x3 → (Q x2)) ∧ (¬ r1 ≤ x3 → (wp_X6_hasChild S (x3) (fun r3 => ((r3 = 0 → (wp_X6_childrenOf_39 S (x1) (x3) (x2) ((0 : Int32)) Q B11)) ∧ (¬ r3 = 0 → (wp_X6_childrenOf_39 S (x1) (x3) (x2) ((1 : Int32)) Q B11)))))))))
set_option maxRecDepth 20000 in
theorem t_X6_childrenOf_11b {X : bf_X} (C : bf_C X RX6 cX6_childrenOf 4 (some .int)) (hR : bf_Rm X 2 42) (S : bT6) (x1 : Int32) (x2 : Int32) (x3 : Int32) (Q : Int32 → Prop) (B11 : Int32 → Int32 → Int32 → Prop) (hB11 : ∀ (x1 : Int32) (x2 : Int32) (x3 : Int32), B11 x1 x2 x3 → bf_A X (bf_Zi X bW6 (fun r u => u = S ∧ Q r)) 4 11 [some (.ref 0), some (.int x1), some (.int x2), some (.int x3)] [] (bW6 S)) (h : wp_X6_childrenOf_11b S x1 x2 x3 Q B11) : bf_A X (bf_Zi X bW6 (fun r u => u = S ∧ Q r)) 4 11 [some (.ref 0), some (.int x1), some (.int x2), some (.int x3)] [] (bW6 S) := by
  unfold wp_X6_childrenOf_11b at h
  refine bs_iload_n C (bf_dk dd_X6_childrenOf 7 rfl) rfl ?_
  refine bs_aload_n C (bf_dk dd_X6_childrenOf 8 rfl) rfl ?_
  refine bs_get C (bf_dk dd_X6_childrenOf 9 rfl) cl_6 in_6 3 (Nat.le_of_ble_eq_true rfl) rfl f_6_21 (ge_bW6_0 S) rfl ?_
  refine bs_iload_n C (bf_dk dd_X6_childrenOf 10 rfl) rfl ?_
  refine bs_iconst C (bf_dk dd_X6_childrenOf 11 rfl) (1 : Int32) (by decide) ?_
  refine bs_iadd C (bf_dk dd_X6_childrenOf 12 rfl) ?_
  refine bs_pureSN_i (ps := [4]) (w := (bW6 S)) C hR (c_X8_at _ _ _ _ _ 233 (b6g_edgeStarts S) ((x1 + (1 : Int32))) _ h) my_X8_at m_6_90 rfl (Nat.le_of_ble_eq_true rfl) (Nat.le_of_ble_eq_true rfl) (su_bW6_4_bWan233 S) rfl (st := [.int x3]) (Nat.le_of_ble_eq_true rfl) (bf_dk dd_X6_childrenOf 13 rfl) rfl (fun _ => rfl) (fun r1 h => ?_)
  refine bs_icmp_ge C (bf_dk dd_X6_childrenOf 14 rfl) (tgt := 47) rfl (fun c => ?_) (fun c => ?_)
  · replace h := h.1 c
    refine bs_iload_n C (bf_dk dd_X6_childrenOf 27 rfl) rfl ?_
    exact bs_iret (u := S) C (bf_dk dd_X6_childrenOf 28 rfl) rfl ⟨rfl, h⟩
  · replace h := h.2 c
    refine bs_iload_n C (bf_dk dd_X6_childrenOf 15 rfl) rfl ?_
    refine bs_aload_n C (bf_dk dd_X6_childrenOf 16 rfl) rfl ?_
    refine bs_iload_n C (bf_dk dd_X6_childrenOf 17 rfl) rfl ?_
    refine bs_selfPV_i C hR (c_X6_hasChild _ _ _ _ _ S (x3) _ h) my_X6_hasChild m_6_151 rfl cl_6 (ge_bW6_0 _) rfl (Nat.le_of_ble_eq_true rfl) (Nat.le_of_ble_eq_true rfl) (st := [.int x2]) (Nat.le_of_ble_eq_true rfl) (bf_dk dd_X6_childrenOf 18 rfl) rfl (fun r3 h => ?_)
    refine bs_if_eq C (bf_dk dd_X6_childrenOf 19 rfl) (tgt := 38) rfl (fun c => ?_) (fun c => ?_)
    · replace h := h.1 c
      refine bs_iconst C (bf_dk dd_X6_childrenOf 22 rfl) (0 : Int32) (by decide) ?_
      exact bs_weak (bf_s1 (bf_s1 (bf_sn (bf_s1 bf_s0)))) (t_X6_childrenOf_39 C hR S (x1) (x3) (x2) ((0 : Int32)) Q B11 hB11 h)
    · replace h := h.2 c
      refine bs_iconst C (bf_dk dd_X6_childrenOf 20 rfl) (1 : Int32) (by decide) ?_
      refine bs_goto C (bf_dk dd_X6_childrenOf 21 rfl) (tgt := 39) rfl ?_
      exact bs_weak (bf_s1 (bf_s1 (bf_sn (bf_s1 bf_s0)))) (t_X6_childrenOf_39 C hR S (x1) (x3) (x2) ((1 : Int32)) Q B11 hB11 h)
def wp_X6_childrenOf_11 (S : bT6) (x1 : Int32) (x2 : Int32) (x3 : Int32) (Q : Int32 → Prop) : Prop := ∃ I : Nat → Int32 → Int32 → Int32 → Prop, (∃ n : Nat, I n x1 x2 x3) ∧ ∀ (n : Nat) (x1 : Int32) (x2 : Int32) (x3 : Int32), I n x1 x2 x3 → wp_X6_childrenOf_11b S x1 x2 x3 Q (fun x1 x2 x3 => ∃ n2 : Nat, n2 < n ∧ I n2 x1 x2 x3)
theorem t_X6_childrenOf_11 {X : bf_X} (C : bf_C X RX6 cX6_childrenOf 4 (some .int)) (hR : bf_Rm X 2 42) (S : bT6) (x1 : Int32) (x2 : Int32) (x3 : Int32) (Q : Int32 → Prop) (h : wp_X6_childrenOf_11 S x1 x2 x3 Q) : bf_A X (bf_Zi X bW6 (fun r u => u = S ∧ Q r)) 4 11 [some (.ref 0), some (.int x1), some (.int x2), some (.int x3)] [] (bW6 S) := by
  obtain ⟨I, ⟨n0, h0⟩, hI⟩ := h
  have key : ∀ (n : Nat) (x1 : Int32) (x2 : Int32) (x3 : Int32), I n x1 x2 x3 → bf_A X (bf_Zi X bW6 (fun r u => u = S ∧ Q r)) 4 11 [some (.ref 0), some (.int x1), some (.int x2), some (.int x3)] [] (bW6 S) := by
    intro n
    induction n using Nat.strongRecOn with
    | _ n ih =>
      intro x1 x2 x3 hi
      exact t_X6_childrenOf_11b C hR S x1 x2 x3 Q _ (fun x1 x2 x3 hb => by obtain ⟨n2, hn, hi2⟩ := hb; exact ih n2 hn x1 x2 x3 hi2) (hI n x1 x2 x3 hi)
  exact key n0 x1 x2 x3 h0
def wp_X6_childrenOf (S : bT6) (a1 : Int32) (Q : Int32 → Prop) : Prop := (wp_X8_at 233 (b6g_edgeStarts S) (a1) (fun r5 => (wp_X6_childrenOf_11 S (a1) ((0 : Int32)) (r5) Q)))
set_option maxRecDepth 20000 in
theorem t_X6_childrenOf {X : bf_X} (C : bf_C X RX6 cX6_childrenOf 4 (some .int)) (hR : bf_Rm X 2 42) (S : bT6) (a1 : Int32) (Q : Int32 → Prop) (h : wp_X6_childrenOf S a1 Q) : bf_A X (bf_Zi X bW6 (fun r u => u = S ∧ Q r)) 4 0 [some (.ref 0), some (.int a1), none, none] [] (bW6 S) := by
  unfold wp_X6_childrenOf at h
  refine bs_iconst C (bf_dk dd_X6_childrenOf 0 rfl) (0 : Int32) (by decide) ?_
  refine bs_istore_n C (bf_dk dd_X6_childrenOf 1 rfl) rfl (Nat.le_of_ble_eq_true rfl) (Nat.le_of_ble_eq_true rfl) (lv2 := [some (.ref 0), some (.int a1), some (.int (0 : Int32)), none]) rfl ?_
  refine bs_aload_n C (bf_dk dd_X6_childrenOf 2 rfl) rfl ?_
  refine bs_get C (bf_dk dd_X6_childrenOf 3 rfl) cl_6 in_6 3 (Nat.le_of_ble_eq_true rfl) rfl f_6_21 (ge_bW6_0 S) rfl ?_
  refine bs_iload_n C (bf_dk dd_X6_childrenOf 4 rfl) rfl ?_
  refine bs_pureSN_i (ps := [4]) (w := (bW6 S)) C hR (c_X8_at _ _ _ _ _ 233 (b6g_edgeStarts S) (a1) _ h) my_X8_at m_6_90 rfl (Nat.le_of_ble_eq_true rfl) (Nat.le_of_ble_eq_true rfl) (su_bW6_4_bWan233 S) rfl (st := []) (Nat.le_of_ble_eq_true rfl) (bf_dk dd_X6_childrenOf 5 rfl) rfl (fun _ => rfl) (fun r5 h => ?_)
  refine bs_istore_n C (bf_dk dd_X6_childrenOf 6 rfl) rfl (Nat.le_of_ble_eq_true rfl) (Nat.le_of_ble_eq_true rfl) (lv2 := [some (.ref 0), some (.int a1), some (.int (0 : Int32)), some (.int r5)]) rfl ?_
  exact bs_weak (bf_s1 (bf_s1 (bf_s1 (bf_s1 bf_s0)))) (t_X6_childrenOf_11 C hR S (a1) ((0 : Int32)) (r5) Q h)
theorem c_X6_childrenOf (l : Launch) (dC : Nat → ClassId) (dI : Nat → Nat → Nat) (ac : Nat → ClassId) (al : Nat → Nat) (S : bT6) (a1 : Int32) (Q : Int32 → Prop) (h : wp_X6_childrenOf S a1 Q) : bf_M l yX6_childrenOf cX6_childrenOf 4 (some .int) 2 42 dC dI ac al [.ref 0, .int a1] (bW6 S) (bf_Ki dC dI ac al bW6 (fun r u => u = S ∧ Q r)) := by
  refine bf_start [some (.ref 0), some (.int a1), none, none] (by decide) (Nat.le_of_ble_eq_true rfl) (bf_s1 (bf_s1 (bf_en 2))) ?_
  intro X hl C hR e1 e2 e3 e4
  subst e1; subst e2; subst e3; subst e4
  exact t_X6_childrenOf C hR S a1 Q h
def wp_X6_goneAlong_9b (S : bT6) (x1 : Int32) (x2 : Int32) (x3 : Int32) (Q : Int32 → Prop) (B9 : Int32 → Int32 → Int32 → Prop) : Prop := (wp_X8_at 233 (b6g_edgeStarts S) ((x1 + (1 : Int32))) (fun r1 => ((r1 ≤ x3 → (Q (-3 : Int32))) ∧ (¬ r1 ≤ x3 → (wp_X8_at 296 (b6g_edgeOctets S) (x3) (fun r3 => ((¬ r3 = x2 → (B9 (x1) (x2) ((x3 + (1 : Int32))))) ∧ (r3 = x2 → (wp_X6_hasChild S (x3) (fun r5 => ((r5 = 0 → (Q (-2 : Int32))) ∧ (¬ r5 = 0 → (wp_X8_at 296 (b6g_edgeChildren S) (x3) (fun r7 => (Q r7)))))))))))))))
set_option maxRecDepth 20000 in
theorem t_X6_goneAlong_9b {X : bf_X} (C : bf_C X RX6 cX6_goneAlong 4 (some .int)) (hR : bf_Rm X 2 42) (S : bT6) (x1 : Int32) (x2 : Int32) (x3 : Int32) (Q : Int32 → Prop) (B9 : Int32 → Int32 → Int32 → Prop) (hB9 : ∀ (x1 : Int32) (x2 : Int32) (x3 : Int32), B9 x1 x2 x3 → bf_A X (bf_Zi X bW6 (fun r u => u = S ∧ Q r)) 4 9 [some (.ref 0), some (.int x1), some (.int x2), some (.int x3)] [] (bW6 S)) (h : wp_X6_goneAlong_9b S x1 x2 x3 Q B9) : bf_A X (bf_Zi X bW6 (fun r u => u = S ∧ Q r)) 4 9 [some (.ref 0), some (.int x1), some (.int x2), some (.int x3)] [] (bW6 S) := by
  unfold wp_X6_goneAlong_9b at h
  refine bs_iload_n C (bf_dk dd_X6_goneAlong 5 rfl) rfl ?_
  refine bs_aload_n C (bf_dk dd_X6_goneAlong 6 rfl) rfl ?_
  refine bs_get C (bf_dk dd_X6_goneAlong 7 rfl) cl_6 in_6 3 (Nat.le_of_ble_eq_true rfl) rfl f_6_21 (ge_bW6_0 S) rfl ?_
  refine bs_iload_n C (bf_dk dd_X6_goneAlong 8 rfl) rfl ?_
  refine bs_iconst C (bf_dk dd_X6_goneAlong 9 rfl) (1 : Int32) (by decide) ?_
  refine bs_iadd C (bf_dk dd_X6_goneAlong 10 rfl) ?_
  refine bs_pureSN_i (ps := [4]) (w := (bW6 S)) C hR (c_X8_at _ _ _ _ _ 233 (b6g_edgeStarts S) ((x1 + (1 : Int32))) _ h) my_X8_at m_6_90 rfl (Nat.le_of_ble_eq_true rfl) (Nat.le_of_ble_eq_true rfl) (su_bW6_4_bWan233 S) rfl (st := [.int x3]) (Nat.le_of_ble_eq_true rfl) (bf_dk dd_X6_goneAlong 11 rfl) rfl (fun _ => rfl) (fun r1 h => ?_)
  refine bs_icmp_ge C (bf_dk dd_X6_goneAlong 12 rfl) (tgt := 63) rfl (fun c => ?_) (fun c => ?_)
  · replace h := h.1 c
    refine bs_bipush C (bf_dk dd_X6_goneAlong 32 rfl) (-3 : Int32) (by decide) ?_
    exact bs_iret (u := S) C (bf_dk dd_X6_goneAlong 33 rfl) rfl ⟨rfl, h⟩
  · replace h := h.2 c
    refine bs_aload_n C (bf_dk dd_X6_goneAlong 13 rfl) rfl ?_
    refine bs_get C (bf_dk dd_X6_goneAlong 14 rfl) cl_6 in_6 5 (Nat.le_of_ble_eq_true rfl) rfl f_6_27 (ge_bW6_0 S) rfl ?_
    refine bs_iload_n C (bf_dk dd_X6_goneAlong 15 rfl) rfl ?_
    refine bs_pureSN_i (ps := [6]) (w := (bW6 S)) C hR (c_X8_at _ _ _ _ _ 296 (b6g_edgeOctets S) (x3) _ h) my_X8_at m_6_90 rfl (Nat.le_of_ble_eq_true rfl) (Nat.le_of_ble_eq_true rfl) (su_bW6_6_bWan296 S) rfl (st := []) (Nat.le_of_ble_eq_true rfl) (bf_dk dd_X6_goneAlong 16 rfl) rfl (fun _ => rfl) (fun r3 h => ?_)
    refine bs_iload_n C (bf_dk dd_X6_goneAlong 17 rfl) rfl ?_
    refine bs_icmp_ne C (bf_dk dd_X6_goneAlong 18 rfl) (tgt := 57) rfl (fun c => ?_) (fun c => ?_)
    · replace h := h.1 c
      refine bs_iinc C (bf_dk dd_X6_goneAlong 30 rfl) (x3 + (1 : Int32)) rfl rfl (Nat.le_of_ble_eq_true rfl) (Nat.le_of_ble_eq_true rfl) (lv2 := [some (.ref 0), some (.int x1), some (.int x2), some (.int (x3 + (1 : Int32)))]) rfl ?_
      refine bs_goto C (bf_dk dd_X6_goneAlong 31 rfl) (tgt := 9) rfl ?_
      exact bs_weak (bf_s1 (bf_s1 (bf_s1 (bf_s1 bf_s0)))) (hB9 (x1) (x2) ((x3 + (1 : Int32))) h)
    · replace h := h.2 c
      refine bs_aload_n C (bf_dk dd_X6_goneAlong 19 rfl) rfl ?_
      refine bs_iload_n C (bf_dk dd_X6_goneAlong 20 rfl) rfl ?_
      refine bs_selfPV_i C hR (c_X6_hasChild _ _ _ _ _ S (x3) _ h) my_X6_hasChild m_6_151 rfl cl_6 (ge_bW6_0 _) rfl (Nat.le_of_ble_eq_true rfl) (Nat.le_of_ble_eq_true rfl) (st := []) (Nat.le_of_ble_eq_true rfl) (bf_dk dd_X6_goneAlong 21 rfl) rfl (fun r5 h => ?_)
      refine bs_if_eq C (bf_dk dd_X6_goneAlong 22 rfl) (tgt := 54) rfl (fun c => ?_) (fun c => ?_)
      · replace h := h.1 c
        refine bs_bipush C (bf_dk dd_X6_goneAlong 28 rfl) (-2 : Int32) (by decide) ?_
        exact bs_iret (u := S) C (bf_dk dd_X6_goneAlong 29 rfl) rfl ⟨rfl, h⟩
      · replace h := h.2 c
        refine bs_aload_n C (bf_dk dd_X6_goneAlong 23 rfl) rfl ?_
        refine bs_get C (bf_dk dd_X6_goneAlong 24 rfl) cl_6 in_6 7 (Nat.le_of_ble_eq_true rfl) rfl f_6_33 (ge_bW6_0 S) rfl ?_
        refine bs_iload_n C (bf_dk dd_X6_goneAlong 25 rfl) rfl ?_
        refine bs_pureSN_i (ps := [8]) (w := (bW6 S)) C hR (c_X8_at _ _ _ _ _ 296 (b6g_edgeChildren S) (x3) _ h) my_X8_at m_6_90 rfl (Nat.le_of_ble_eq_true rfl) (Nat.le_of_ble_eq_true rfl) (su_bW6_8_bWan296 S) rfl (st := []) (Nat.le_of_ble_eq_true rfl) (bf_dk dd_X6_goneAlong 26 rfl) rfl (fun _ => rfl) (fun r7 h => ?_)
        refine bs_goto C (bf_dk dd_X6_goneAlong 27 rfl) (tgt := 56) rfl ?_
        exact bs_iret (u := S) C (bf_dk dd_X6_goneAlong 29 rfl) rfl ⟨rfl, h⟩
def wp_X6_goneAlong_9 (S : bT6) (x1 : Int32) (x2 : Int32) (x3 : Int32) (Q : Int32 → Prop) : Prop := ∃ I : Nat → Int32 → Int32 → Int32 → Prop, (∃ n : Nat, I n x1 x2 x3) ∧ ∀ (n : Nat) (x1 : Int32) (x2 : Int32) (x3 : Int32), I n x1 x2 x3 → wp_X6_goneAlong_9b S x1 x2 x3 Q (fun x1 x2 x3 => ∃ n2 : Nat, n2 < n ∧ I n2 x1 x2 x3)
theorem t_X6_goneAlong_9 {X : bf_X} (C : bf_C X RX6 cX6_goneAlong 4 (some .int)) (hR : bf_Rm X 2 42) (S : bT6) (x1 : Int32) (x2 : Int32) (x3 : Int32) (Q : Int32 → Prop) (h : wp_X6_goneAlong_9 S x1 x2 x3 Q) : bf_A X (bf_Zi X bW6 (fun r u => u = S ∧ Q r)) 4 9 [some (.ref 0), some (.int x1), some (.int x2), some (.int x3)] [] (bW6 S) := by
  obtain ⟨I, ⟨n0, h0⟩, hI⟩ := h
  have key : ∀ (n : Nat) (x1 : Int32) (x2 : Int32) (x3 : Int32), I n x1 x2 x3 → bf_A X (bf_Zi X bW6 (fun r u => u = S ∧ Q r)) 4 9 [some (.ref 0), some (.int x1), some (.int x2), some (.int x3)] [] (bW6 S) := by
    intro n
    induction n using Nat.strongRecOn with
    | _ n ih =>
      intro x1 x2 x3 hi
      exact t_X6_goneAlong_9b C hR S x1 x2 x3 Q _ (fun x1 x2 x3 hb => by obtain ⟨n2, hn, hi2⟩ := hb; exact ih n2 hn x1 x2 x3 hi2) (hI n x1 x2 x3 hi)
  exact key n0 x1 x2 x3 h0
def wp_X6_goneAlong (S : bT6) (a1 : Int32) (a2 : Int32) (Q : Int32 → Prop) : Prop := (wp_X8_at 233 (b6g_edgeStarts S) (a1) (fun r9 => (wp_X6_goneAlong_9 S (a1) (a2) (r9) Q)))
set_option maxRecDepth 20000 in
theorem t_X6_goneAlong {X : bf_X} (C : bf_C X RX6 cX6_goneAlong 4 (some .int)) (hR : bf_Rm X 2 42) (S : bT6) (a1 : Int32) (a2 : Int32) (Q : Int32 → Prop) (h : wp_X6_goneAlong S a1 a2 Q) : bf_A X (bf_Zi X bW6 (fun r u => u = S ∧ Q r)) 4 0 [some (.ref 0), some (.int a1), some (.int a2), none] [] (bW6 S) := by
  unfold wp_X6_goneAlong at h
  refine bs_aload_n C (bf_dk dd_X6_goneAlong 0 rfl) rfl ?_
  refine bs_get C (bf_dk dd_X6_goneAlong 1 rfl) cl_6 in_6 3 (Nat.le_of_ble_eq_true rfl) rfl f_6_21 (ge_bW6_0 S) rfl ?_
  refine bs_iload_n C (bf_dk dd_X6_goneAlong 2 rfl) rfl ?_
  refine bs_pureSN_i (ps := [4]) (w := (bW6 S)) C hR (c_X8_at _ _ _ _ _ 233 (b6g_edgeStarts S) (a1) _ h) my_X8_at m_6_90 rfl (Nat.le_of_ble_eq_true rfl) (Nat.le_of_ble_eq_true rfl) (su_bW6_4_bWan233 S) rfl (st := []) (Nat.le_of_ble_eq_true rfl) (bf_dk dd_X6_goneAlong 3 rfl) rfl (fun _ => rfl) (fun r9 h => ?_)
  refine bs_istore_n C (bf_dk dd_X6_goneAlong 4 rfl) rfl (Nat.le_of_ble_eq_true rfl) (Nat.le_of_ble_eq_true rfl) (lv2 := [some (.ref 0), some (.int a1), some (.int a2), some (.int r9)]) rfl ?_
  exact bs_weak (bf_s1 (bf_s1 (bf_s1 (bf_s1 bf_s0)))) (t_X6_goneAlong_9 C hR S (a1) (a2) (r9) Q h)
theorem c_X6_goneAlong (l : Launch) (dC : Nat → ClassId) (dI : Nat → Nat → Nat) (ac : Nat → ClassId) (al : Nat → Nat) (S : bT6) (a1 : Int32) (a2 : Int32) (Q : Int32 → Prop) (h : wp_X6_goneAlong S a1 a2 Q) : bf_M l yX6_goneAlong cX6_goneAlong 4 (some .int) 2 42 dC dI ac al [.ref 0, .int a1, .int a2] (bW6 S) (bf_Ki dC dI ac al bW6 (fun r u => u = S ∧ Q r)) := by
  refine bf_start [some (.ref 0), some (.int a1), some (.int a2), none] (by decide) (Nat.le_of_ble_eq_true rfl) (bf_s1 (bf_s1 (bf_s1 (bf_en 1)))) ?_
  intro X hl C hR e1 e2 e3 e4
  subst e1; subst e2; subst e3; subst e4
  exact t_X6_goneAlong C hR S a1 a2 Q h
def wp_X6_isOfItems_15 (Q : Int32 → Prop) : Prop := (bf_bool (1 : Int32) ∧ Q (1 : Int32))
set_option maxRecDepth 20000 in
theorem t_X6_isOfItems_15 {X : bf_X} (C : bf_C X RX6 cX6_isOfItems 1 (some .boolean)) (hR : bf_Rm X 0 0) (Q : Int32 → Prop) (h : wp_X6_isOfItems_15 Q) : bf_A X (bf_Zi X bWu (fun r u => u = () ∧ Q r)) 1 15 [none] [] (bWu ()) := by
  unfold wp_X6_isOfItems_15 at h
  refine bs_iconst C (bf_dk dd_X6_isOfItems 9 rfl) (1 : Int32) (by decide) ?_
  refine bs_goto C (bf_dk dd_X6_isOfItems 10 rfl) (tgt := 20) rfl ?_
  obtain ⟨hi, h⟩ := h
  exact bs_zret (u := ()) C (bf_dk dd_X6_isOfItems 12 rfl) hi rfl ⟨rfl, h⟩
def wp_X6_isOfItems (a0 : Int32) (Q : Int32 → Prop) : Prop := ((a0 = (3 : Int32) → (wp_X6_isOfItems_15 Q)) ∧ (¬ a0 = (3 : Int32) → ((a0 = (4 : Int32) → (wp_X6_isOfItems_15 Q)) ∧ (¬ a0 = (4 : Int32) → ((¬ a0 = (5 : Int32) → (bf_bool (0 : Int32) ∧ Q (0 : Int32))) ∧ (a0 = (5 : Int32) → (wp_X6_isOfItems_15 Q)))))))
set_option maxRecDepth 20000 in
theorem t_X6_isOfItems {X : bf_X} (C : bf_C X RX6 cX6_isOfItems 1 (some .boolean)) (hR : bf_Rm X 0 0) (a0 : Int32) (Q : Int32 → Prop) (h : wp_X6_isOfItems a0 Q) : bf_A X (bf_Zi X bWu (fun r u => u = () ∧ Q r)) 1 0 [some (.int a0)] [] (bWu ()) := by
  unfold wp_X6_isOfItems at h
  refine bs_iload_n C (bf_dk dd_X6_isOfItems 0 rfl) rfl ?_
  refine bs_iconst C (bf_dk dd_X6_isOfItems 1 rfl) (3 : Int32) (by decide) ?_
  refine bs_icmp_eq C (bf_dk dd_X6_isOfItems 2 rfl) (tgt := 15) rfl (fun c => ?_) (fun c => ?_)
  · replace h := h.1 c
    exact bs_weak (bf_sn bf_s0) (t_X6_isOfItems_15 C hR Q h)
  · replace h := h.2 c
    refine bs_iload_n C (bf_dk dd_X6_isOfItems 3 rfl) rfl ?_
    refine bs_iconst C (bf_dk dd_X6_isOfItems 4 rfl) (4 : Int32) (by decide) ?_
    refine bs_icmp_eq C (bf_dk dd_X6_isOfItems 5 rfl) (tgt := 15) rfl (fun c => ?_) (fun c => ?_)
    · replace h := h.1 c
      exact bs_weak (bf_sn bf_s0) (t_X6_isOfItems_15 C hR Q h)
    · replace h := h.2 c
      refine bs_iload_n C (bf_dk dd_X6_isOfItems 6 rfl) rfl ?_
      refine bs_iconst C (bf_dk dd_X6_isOfItems 7 rfl) (5 : Int32) (by decide) ?_
      refine bs_icmp_ne C (bf_dk dd_X6_isOfItems 8 rfl) (tgt := 19) rfl (fun c => ?_) (fun c => ?_)
      · replace h := h.1 c
        refine bs_iconst C (bf_dk dd_X6_isOfItems 11 rfl) (0 : Int32) (by decide) ?_
        obtain ⟨hi, h⟩ := h
        exact bs_zret (u := ()) C (bf_dk dd_X6_isOfItems 12 rfl) hi rfl ⟨rfl, h⟩
      · replace h := h.2 c
        exact bs_weak (bf_sn bf_s0) (t_X6_isOfItems_15 C hR Q h)
theorem c_X6_isOfItems (l : Launch) (dC : Nat → ClassId) (dI : Nat → Nat → Nat) (ac : Nat → ClassId) (al : Nat → Nat) (a0 : Int32) (Q : Int32 → Prop) (h : wp_X6_isOfItems a0 Q) : bf_M l yX6_isOfItems cX6_isOfItems 1 (some .boolean) 0 0 dC dI ac al [.int a0] (bWu ()) (bf_Ki dC dI ac al bWu (fun r u => u = () ∧ Q r)) := by
  refine bf_start [some (.int a0)] (by decide) (Nat.le_of_ble_eq_true rfl) (bf_s1 bf_s0) ?_
  intro X hl C hR e1 e2 e3 e4
  subst e1; subst e2; subst e3; subst e4
  exact t_X6_isOfItems C hR a0 Q h
def wp_X6_firstEdgeOf (S : bT6) (a1 : Int32) (Q : Int32 → Prop) : Prop := (wp_X6_isOfItems (a1) (fun r1 => ((r1 = 0 → (Q (0 : Int32))) ∧ (¬ r1 = 0 → (Q (b6g_itemStart S))))))
set_option maxRecDepth 20000 in
theorem t_X6_firstEdgeOf {X : bf_X} (C : bf_C X RX6 cX6_firstEdgeOf 2 (some .int)) (hR : bf_Rm X 1 20) (S : bT6) (a1 : Int32) (Q : Int32 → Prop) (h : wp_X6_firstEdgeOf S a1 Q) : bf_A X (bf_Zi X bW6 (fun r u => u = S ∧ Q r)) 2 0 [some (.ref 0), some (.int a1)] [] (bW6 S) := by
  unfold wp_X6_firstEdgeOf at h
  refine bs_iload_n C (bf_dk dd_X6_firstEdgeOf 0 rfl) rfl ?_
  refine bs_pureS_i (ps := []) (w := (bW6 S)) C hR (c_X6_isOfItems _ _ _ _ _ (a1) _ h) my_X6_isOfItems m_6_154 rfl (Nat.le_of_ble_eq_true rfl) (Nat.le_of_ble_eq_true rfl) rfl rfl (st := []) (Nat.le_of_ble_eq_true rfl) (bf_dk dd_X6_firstEdgeOf 1 rfl) rfl (fun _ => rfl) (fun r1 h => ?_)
  refine bs_if_eq C (bf_dk dd_X6_firstEdgeOf 2 rfl) (tgt := 14) rfl (fun c => ?_) (fun c => ?_)
  · replace h := h.1 c
    refine bs_iconst C (bf_dk dd_X6_firstEdgeOf 6 rfl) (0 : Int32) (by decide) ?_
    exact bs_iret (u := S) C (bf_dk dd_X6_firstEdgeOf 7 rfl) rfl ⟨rfl, h⟩
  · replace h := h.2 c
    refine bs_aload_n C (bf_dk dd_X6_firstEdgeOf 3 rfl) rfl ?_
    refine bs_get C (bf_dk dd_X6_firstEdgeOf 4 rfl) cl_6 in_6 18 (Nat.le_of_ble_eq_true rfl) rfl f_6_67 (ge_bW6_0 S) rfl ?_
    refine bs_goto C (bf_dk dd_X6_firstEdgeOf 5 rfl) (tgt := 15) rfl ?_
    exact bs_iret (u := S) C (bf_dk dd_X6_firstEdgeOf 7 rfl) rfl ⟨rfl, h⟩
theorem c_X6_firstEdgeOf (l : Launch) (dC : Nat → ClassId) (dI : Nat → Nat → Nat) (ac : Nat → ClassId) (al : Nat → Nat) (S : bT6) (a1 : Int32) (Q : Int32 → Prop) (h : wp_X6_firstEdgeOf S a1 Q) : bf_M l yX6_firstEdgeOf cX6_firstEdgeOf 2 (some .int) 1 20 dC dI ac al [.ref 0, .int a1] (bW6 S) (bf_Ki dC dI ac al bW6 (fun r u => u = S ∧ Q r)) := by
  refine bf_start [some (.ref 0), some (.int a1)] (by decide) (Nat.le_of_ble_eq_true rfl) (bf_s1 (bf_s1 bf_s0)) ?_
  intro X hl C hR e1 e2 e3 e4
  subst e1; subst e2; subst e3; subst e4
  exact t_X6_firstEdgeOf C hR S a1 Q h
def wp_X6_lastEdgeOf (S : bT6) (a1 : Int32) (Q : Int32 → Prop) : Prop := (wp_X6_isOfItems (a1) (fun r1 => ((r1 = 0 → (Q ((b6g_itemStart S) - (1 : Int32)))) ∧ (¬ r1 = 0 → (Q ((b6g_edges S) - (1 : Int32)))))))
set_option maxRecDepth 20000 in
theorem t_X6_lastEdgeOf {X : bf_X} (C : bf_C X RX6 cX6_lastEdgeOf 2 (some .int)) (hR : bf_Rm X 1 20) (S : bT6) (a1 : Int32) (Q : Int32 → Prop) (h : wp_X6_lastEdgeOf S a1 Q) : bf_A X (bf_Zi X bW6 (fun r u => u = S ∧ Q r)) 2 0 [some (.ref 0), some (.int a1)] [] (bW6 S) := by
  unfold wp_X6_lastEdgeOf at h
  refine bs_iload_n C (bf_dk dd_X6_lastEdgeOf 0 rfl) rfl ?_
  refine bs_pureS_i (ps := []) (w := (bW6 S)) C hR (c_X6_isOfItems _ _ _ _ _ (a1) _ h) my_X6_isOfItems m_6_154 rfl (Nat.le_of_ble_eq_true rfl) (Nat.le_of_ble_eq_true rfl) rfl rfl (st := []) (Nat.le_of_ble_eq_true rfl) (bf_dk dd_X6_lastEdgeOf 1 rfl) rfl (fun _ => rfl) (fun r1 h => ?_)
  refine bs_if_eq C (bf_dk dd_X6_lastEdgeOf 2 rfl) (tgt := 16) rfl (fun c => ?_) (fun c => ?_)
  · replace h := h.1 c
    refine bs_aload_n C (bf_dk dd_X6_lastEdgeOf 8 rfl) rfl ?_
    refine bs_get C (bf_dk dd_X6_lastEdgeOf 9 rfl) cl_6 in_6 18 (Nat.le_of_ble_eq_true rfl) rfl f_6_67 (ge_bW6_0 S) rfl ?_
    refine bs_iconst C (bf_dk dd_X6_lastEdgeOf 10 rfl) (1 : Int32) (by decide) ?_
    refine bs_isub C (bf_dk dd_X6_lastEdgeOf 11 rfl) ?_
    exact bs_iret (u := S) C (bf_dk dd_X6_lastEdgeOf 12 rfl) rfl ⟨rfl, h⟩
  · replace h := h.2 c
    refine bs_aload_n C (bf_dk dd_X6_lastEdgeOf 3 rfl) rfl ?_
    refine bs_get C (bf_dk dd_X6_lastEdgeOf 4 rfl) cl_6 in_6 13 (Nat.le_of_ble_eq_true rfl) rfl f_6_52 (ge_bW6_0 S) rfl ?_
    refine bs_iconst C (bf_dk dd_X6_lastEdgeOf 5 rfl) (1 : Int32) (by decide) ?_
    refine bs_isub C (bf_dk dd_X6_lastEdgeOf 6 rfl) ?_
    refine bs_goto C (bf_dk dd_X6_lastEdgeOf 7 rfl) (tgt := 22) rfl ?_
    exact bs_iret (u := S) C (bf_dk dd_X6_lastEdgeOf 12 rfl) rfl ⟨rfl, h⟩
theorem c_X6_lastEdgeOf (l : Launch) (dC : Nat → ClassId) (dI : Nat → Nat → Nat) (ac : Nat → ClassId) (al : Nat → Nat) (S : bT6) (a1 : Int32) (Q : Int32 → Prop) (h : wp_X6_lastEdgeOf S a1 Q) : bf_M l yX6_lastEdgeOf cX6_lastEdgeOf 2 (some .int) 1 20 dC dI ac al [.ref 0, .int a1] (bW6 S) (bf_Ki dC dI ac al bW6 (fun r u => u = S ∧ Q r)) := by
  refine bf_start [some (.ref 0), some (.int a1)] (by decide) (Nat.le_of_ble_eq_true rfl) (bf_s1 (bf_s1 bf_s0)) ?_
  intro X hl C hR e1 e2 e3 e4
  subst e1; subst e2; subst e3; subst e4
  exact t_X6_lastEdgeOf C hR S a1 Q h
def wp_X6_rowLength_9 (S : bT6) (Q : Int32 → Prop) : Prop := (Q ((256 : Int32) * (b6g_upperNodes S)))
set_option maxRecDepth 20000 in
theorem t_X6_rowLength_9 {X : bf_X} (C : bf_C X RX6 cX6_rowLength 2 (some .int)) (hR : bf_Rm X 1 20) (S : bT6) (Q : Int32 → Prop) (h : wp_X6_rowLength_9 S Q) : bf_A X (bf_Zi X bW6 (fun r u => u = S ∧ Q r)) 2 9 [some (.ref 0), none] [] (bW6 S) := by
  unfold wp_X6_rowLength_9 at h
  refine bs_sipush C (bf_dk dd_X6_rowLength 5 rfl) (256 : Int32) (by decide) ?_
  refine bs_aload_n C (bf_dk dd_X6_rowLength 6 rfl) rfl ?_
  refine bs_get C (bf_dk dd_X6_rowLength 7 rfl) cl_6 in_6 17 (Nat.le_of_ble_eq_true rfl) rfl f_6_64 (ge_bW6_0 S) rfl ?_
  refine bs_imul C (bf_dk dd_X6_rowLength 8 rfl) ?_
  exact bs_iret (u := S) C (bf_dk dd_X6_rowLength 9 rfl) rfl ⟨rfl, h⟩
def wp_X6_rowLength (S : bT6) (a1 : Int32) (Q : Int32 → Prop) : Prop := ((a1 = 0 → (wp_X6_rowLength_9 S Q)) ∧ (¬ a1 = 0 → ((¬ a1 = (1 : Int32) → ((¬ a1 = (2 : Int32) → (wp_X6_items S (fun r1 => (Q r1)))) ∧ (a1 = (2 : Int32) → (Q (b6g_upperNodes S))))) ∧ (a1 = (1 : Int32) → (wp_X6_rowLength_9 S Q)))))
set_option maxRecDepth 20000 in
theorem t_X6_rowLength {X : bf_X} (C : bf_C X RX6 cX6_rowLength 2 (some .int)) (hR : bf_Rm X 1 20) (S : bT6) (a1 : Int32) (Q : Int32 → Prop) (h : wp_X6_rowLength S a1 Q) : bf_A X (bf_Zi X bW6 (fun r u => u = S ∧ Q r)) 2 0 [some (.ref 0), some (.int a1)] [] (bW6 S) := by
  unfold wp_X6_rowLength at h
  refine bs_iload_n C (bf_dk dd_X6_rowLength 0 rfl) rfl ?_
  refine bs_if_eq C (bf_dk dd_X6_rowLength 1 rfl) (tgt := 9) rfl (fun c => ?_) (fun c => ?_)
  · replace h := h.1 c
    exact bs_weak (bf_s1 (bf_sn bf_s0)) (t_X6_rowLength_9 C hR S Q h)
  · replace h := h.2 c
    refine bs_iload_n C (bf_dk dd_X6_rowLength 2 rfl) rfl ?_
    refine bs_iconst C (bf_dk dd_X6_rowLength 3 rfl) (1 : Int32) (by decide) ?_
    refine bs_icmp_ne C (bf_dk dd_X6_rowLength 4 rfl) (tgt := 18) rfl (fun c => ?_) (fun c => ?_)
    · replace h := h.1 c
      refine bs_iload_n C (bf_dk dd_X6_rowLength 10 rfl) rfl ?_
      refine bs_iconst C (bf_dk dd_X6_rowLength 11 rfl) (2 : Int32) (by decide) ?_
      refine bs_icmp_ne C (bf_dk dd_X6_rowLength 12 rfl) (tgt := 30) rfl (fun c => ?_) (fun c => ?_)
      · replace h := h.1 c
        refine bs_aload_n C (bf_dk dd_X6_rowLength 16 rfl) rfl ?_
        refine bs_selfPV_i C hR (c_X6_items _ _ _ _ _ S _ h) my_X6_items m_6_157 rfl cl_6 (ge_bW6_0 _) rfl (Nat.le_of_ble_eq_true rfl) (Nat.le_of_ble_eq_true rfl) (st := []) (Nat.le_of_ble_eq_true rfl) (bf_dk dd_X6_rowLength 17 rfl) rfl (fun r1 h => ?_)
        exact bs_iret (u := S) C (bf_dk dd_X6_rowLength 18 rfl) rfl ⟨rfl, h⟩
      · replace h := h.2 c
        refine bs_aload_n C (bf_dk dd_X6_rowLength 13 rfl) rfl ?_
        refine bs_get C (bf_dk dd_X6_rowLength 14 rfl) cl_6 in_6 17 (Nat.le_of_ble_eq_true rfl) rfl f_6_64 (ge_bW6_0 S) rfl ?_
        refine bs_goto C (bf_dk dd_X6_rowLength 15 rfl) (tgt := 34) rfl ?_
        exact bs_iret (u := S) C (bf_dk dd_X6_rowLength 18 rfl) rfl ⟨rfl, h⟩
    · replace h := h.2 c
      exact bs_weak (bf_s1 (bf_sn bf_s0)) (t_X6_rowLength_9 C hR S Q h)
theorem c_X6_rowLength (l : Launch) (dC : Nat → ClassId) (dI : Nat → Nat → Nat) (ac : Nat → ClassId) (al : Nat → Nat) (S : bT6) (a1 : Int32) (Q : Int32 → Prop) (h : wp_X6_rowLength S a1 Q) : bf_M l yX6_rowLength cX6_rowLength 2 (some .int) 1 20 dC dI ac al [.ref 0, .int a1] (bW6 S) (bf_Ki dC dI ac al bW6 (fun r u => u = S ∧ Q r)) := by
  refine bf_start [some (.ref 0), some (.int a1)] (by decide) (Nat.le_of_ble_eq_true rfl) (bf_s1 (bf_s1 bf_s0)) ?_
  intro X hl C hR e1 e2 e3 e4
  subst e1; subst e2; subst e3; subst e4
  exact t_X6_rowLength C hR S a1 Q h
def wp_X6_oneOf (S : bT6) (a1 : Int32) (a2 : Int32) (Q : Int32 → Prop) : Prop := (wp_X8_at 296 (b6g_edgeNodes S) (a2) (fun r1 => ((((a1).toInt < 0 ∨ 4 < (a1).toInt) → (wp_X8_at 233 (b6g_edgeStarts S) (r1) (fun r3 => ((¬ a2 = r3 → (Q (-1 : Int32))) ∧ (a2 = r3 → (Q (a2 - (b6g_itemStart S)))))))) ∧ (a1 = (0 : Int32) → (wp_X6_isEnd S (a2) (fun r5 => ((r5 = 0 → (wp_X8_at 296 (b6g_edgeOctets S) (a2) (fun r7 => (Q (((256 : Int32) * r1) + r7))))) ∧ (¬ r5 = 0 → (Q (-1 : Int32))))))) ∧ (a1 = (1 : Int32) → (wp_X6_hasChild S (a2) (fun r9 => ((r9 = 0 → (Q (-1 : Int32))) ∧ (¬ r9 = 0 → (wp_X8_at 296 (b6g_edgeOctets S) (a2) (fun r11 => (Q (((256 : Int32) * r1) + r11))))))))) ∧ (a1 = (2 : Int32) → (wp_X6_isEnd S (a2) (fun r13 => ((r13 = 0 → (Q (-1 : Int32))) ∧ (¬ r13 = 0 → (Q r1)))))) ∧ (a1 = (3 : Int32) → (wp_X6_isEnd S (a2) (fun r15 => ((r15 = 0 → (Q (-1 : Int32))) ∧ (¬ r15 = 0 → (Q (a2 - (b6g_itemStart S)))))))) ∧ (a1 = (4 : Int32) → (wp_X6_hasChild S (a2) (fun r17 => ((r17 = 0 → (Q (-1 : Int32))) ∧ (¬ r17 = 0 → (Q (a2 - (b6g_itemStart S)))))))))))
set_option maxRecDepth 20000 in
theorem t_X6_oneOf {X : bf_X} (C : bf_C X RX6 cX6_oneOf 4 (some .int)) (hR : bf_Rm X 2 42) (S : bT6) (a1 : Int32) (a2 : Int32) (Q : Int32 → Prop) (h : wp_X6_oneOf S a1 a2 Q) : bf_A X (bf_Zi X bW6 (fun r u => u = S ∧ Q r)) 4 0 [some (.ref 0), some (.int a1), some (.int a2), none] [] (bW6 S) := by
  unfold wp_X6_oneOf at h
  refine bs_aload_n C (bf_dk dd_X6_oneOf 0 rfl) rfl ?_
  refine bs_get C (bf_dk dd_X6_oneOf 1 rfl) cl_6 in_6 4 (Nat.le_of_ble_eq_true rfl) rfl f_6_24 (ge_bW6_0 S) rfl ?_
  refine bs_iload_n C (bf_dk dd_X6_oneOf 2 rfl) rfl ?_
  refine bs_pureSN_i (ps := [5]) (w := (bW6 S)) C hR (c_X8_at _ _ _ _ _ 296 (b6g_edgeNodes S) (a2) _ h) my_X8_at m_6_90 rfl (Nat.le_of_ble_eq_true rfl) (Nat.le_of_ble_eq_true rfl) (su_bW6_5_bWan296 S) rfl (st := []) (Nat.le_of_ble_eq_true rfl) (bf_dk dd_X6_oneOf 3 rfl) rfl (fun _ => rfl) (fun r1 h => ?_)
  refine bs_istore_n C (bf_dk dd_X6_oneOf 4 rfl) rfl (Nat.le_of_ble_eq_true rfl) (Nat.le_of_ble_eq_true rfl) (lv2 := [some (.ref 0), some (.int a1), some (.int a2), some (.int r1)]) rfl ?_
  refine bs_iload_n C (bf_dk dd_X6_oneOf 5 rfl) rfl ?_
  refine bs_table C (tdef := 150) (fun k => List.getD [44, 71, 98, 112, 131] k 0) 5 (bf_dk dd_X6_oneOf 6 rfl) rfl rfl (fun k hk => by rcases (show k = 0 ∨ k = 1 ∨ k = 2 ∨ k = 3 ∨ k = 4 by omega) with rfl | rfl | rfl | rfl | rfl <;> exact ⟨_, rfl, rfl⟩) (fun c => ?_) (fun k hk c => ?_)
  · replace h := h.1 c
    refine bs_iload_n C (bf_dk dd_X6_oneOf 67 rfl) rfl ?_
    refine bs_aload_n C (bf_dk dd_X6_oneOf 68 rfl) rfl ?_
    refine bs_get C (bf_dk dd_X6_oneOf 69 rfl) cl_6 in_6 3 (Nat.le_of_ble_eq_true rfl) rfl f_6_21 (ge_bW6_0 S) rfl ?_
    refine bs_iload_n C (bf_dk dd_X6_oneOf 70 rfl) rfl ?_
    refine bs_pureSN_i (ps := [4]) (w := (bW6 S)) C hR (c_X8_at _ _ _ _ _ 233 (b6g_edgeStarts S) (r1) _ h) my_X8_at m_6_90 rfl (Nat.le_of_ble_eq_true rfl) (Nat.le_of_ble_eq_true rfl) (su_bW6_4_bWan233 S) rfl (st := [.int a2]) (Nat.le_of_ble_eq_true rfl) (bf_dk dd_X6_oneOf 71 rfl) rfl (fun _ => rfl) (fun r3 h => ?_)
    refine bs_icmp_ne C (bf_dk dd_X6_oneOf 72 rfl) (tgt := 171) rfl (fun c => ?_) (fun c => ?_)
    · replace h := h.1 c
      refine bs_iconst C (bf_dk dd_X6_oneOf 78 rfl) (-1 : Int32) (by decide) ?_
      exact bs_iret (u := S) C (bf_dk dd_X6_oneOf 79 rfl) rfl ⟨rfl, h⟩
    · replace h := h.2 c
      refine bs_iload_n C (bf_dk dd_X6_oneOf 73 rfl) rfl ?_
      refine bs_aload_n C (bf_dk dd_X6_oneOf 74 rfl) rfl ?_
      refine bs_get C (bf_dk dd_X6_oneOf 75 rfl) cl_6 in_6 18 (Nat.le_of_ble_eq_true rfl) rfl f_6_67 (ge_bW6_0 S) rfl ?_
      refine bs_isub C (bf_dk dd_X6_oneOf 76 rfl) ?_
      refine bs_goto C (bf_dk dd_X6_oneOf 77 rfl) (tgt := 172) rfl ?_
      exact bs_iret (u := S) C (bf_dk dd_X6_oneOf 79 rfl) rfl ⟨rfl, h⟩
  · rcases (show k = 0 ∨ k = 1 ∨ k = 2 ∨ k = 3 ∨ k = 4 by omega) with rfl | rfl | rfl | rfl | rfl
    · replace h := h.2.1 (bf_i32 c (by decide))
      refine bs_aload_n C (bf_dk dd_X6_oneOf 7 rfl) rfl ?_
      refine bs_iload_n C (bf_dk dd_X6_oneOf 8 rfl) rfl ?_
      refine bs_selfPV_i C hR (c_X6_isEnd _ _ _ _ _ S (a2) _ h) my_X6_isEnd m_6_145 rfl cl_6 (ge_bW6_0 _) rfl (Nat.le_of_ble_eq_true rfl) (Nat.le_of_ble_eq_true rfl) (st := []) (Nat.le_of_ble_eq_true rfl) (bf_dk dd_X6_oneOf 9 rfl) rfl (fun r5 h => ?_)
      refine bs_if_eq C (bf_dk dd_X6_oneOf 10 rfl) (tgt := 56) rfl (fun c => ?_) (fun c => ?_)
      · replace h := h.1 c
        refine bs_sipush C (bf_dk dd_X6_oneOf 13 rfl) (256 : Int32) (by decide) ?_
        refine bs_iload_n C (bf_dk dd_X6_oneOf 14 rfl) rfl ?_
        refine bs_imul C (bf_dk dd_X6_oneOf 15 rfl) ?_
        refine bs_aload_n C (bf_dk dd_X6_oneOf 16 rfl) rfl ?_
        refine bs_get C (bf_dk dd_X6_oneOf 17 rfl) cl_6 in_6 5 (Nat.le_of_ble_eq_true rfl) rfl f_6_27 (ge_bW6_0 S) rfl ?_
        refine bs_iload_n C (bf_dk dd_X6_oneOf 18 rfl) rfl ?_
        refine bs_pureSN_i (ps := [6]) (w := (bW6 S)) C hR (c_X8_at _ _ _ _ _ 296 (b6g_edgeOctets S) (a2) _ h) my_X8_at m_6_90 rfl (Nat.le_of_ble_eq_true rfl) (Nat.le_of_ble_eq_true rfl) (su_bW6_6_bWan296 S) rfl (st := [.int ((256 : Int32) * r1)]) (Nat.le_of_ble_eq_true rfl) (bf_dk dd_X6_oneOf 19 rfl) rfl (fun _ => rfl) (fun r7 h => ?_)
        refine bs_iadd C (bf_dk dd_X6_oneOf 20 rfl) ?_
        exact bs_iret (u := S) C (bf_dk dd_X6_oneOf 21 rfl) rfl ⟨rfl, h⟩
      · replace h := h.2 c
        refine bs_iconst C (bf_dk dd_X6_oneOf 11 rfl) (-1 : Int32) (by decide) ?_
        refine bs_goto C (bf_dk dd_X6_oneOf 12 rfl) (tgt := 70) rfl ?_
        exact bs_iret (u := S) C (bf_dk dd_X6_oneOf 21 rfl) rfl ⟨rfl, h⟩
    · replace h := h.2.2.1 (bf_i32 c (by decide))
      refine bs_aload_n C (bf_dk dd_X6_oneOf 22 rfl) rfl ?_
      refine bs_iload_n C (bf_dk dd_X6_oneOf 23 rfl) rfl ?_
      refine bs_selfPV_i C hR (c_X6_hasChild _ _ _ _ _ S (a2) _ h) my_X6_hasChild m_6_151 rfl cl_6 (ge_bW6_0 _) rfl (Nat.le_of_ble_eq_true rfl) (Nat.le_of_ble_eq_true rfl) (st := []) (Nat.le_of_ble_eq_true rfl) (bf_dk dd_X6_oneOf 24 rfl) rfl (fun r9 h => ?_)
      refine bs_if_eq C (bf_dk dd_X6_oneOf 25 rfl) (tgt := 96) rfl (fun c => ?_) (fun c => ?_)
      · replace h := h.1 c
        refine bs_iconst C (bf_dk dd_X6_oneOf 35 rfl) (-1 : Int32) (by decide) ?_
        exact bs_iret (u := S) C (bf_dk dd_X6_oneOf 36 rfl) rfl ⟨rfl, h⟩
      · replace h := h.2 c
        refine bs_sipush C (bf_dk dd_X6_oneOf 26 rfl) (256 : Int32) (by decide) ?_
        refine bs_iload_n C (bf_dk dd_X6_oneOf 27 rfl) rfl ?_
        refine bs_imul C (bf_dk dd_X6_oneOf 28 rfl) ?_
        refine bs_aload_n C (bf_dk dd_X6_oneOf 29 rfl) rfl ?_
        refine bs_get C (bf_dk dd_X6_oneOf 30 rfl) cl_6 in_6 5 (Nat.le_of_ble_eq_true rfl) rfl f_6_27 (ge_bW6_0 S) rfl ?_
        refine bs_iload_n C (bf_dk dd_X6_oneOf 31 rfl) rfl ?_
        refine bs_pureSN_i (ps := [6]) (w := (bW6 S)) C hR (c_X8_at _ _ _ _ _ 296 (b6g_edgeOctets S) (a2) _ h) my_X8_at m_6_90 rfl (Nat.le_of_ble_eq_true rfl) (Nat.le_of_ble_eq_true rfl) (su_bW6_6_bWan296 S) rfl (st := [.int ((256 : Int32) * r1)]) (Nat.le_of_ble_eq_true rfl) (bf_dk dd_X6_oneOf 32 rfl) rfl (fun _ => rfl) (fun r11 h => ?_)
        refine bs_iadd C (bf_dk dd_X6_oneOf 33 rfl) ?_
        refine bs_goto C (bf_dk dd_X6_oneOf 34 rfl) (tgt := 97) rfl ?_
        exact bs_iret (u := S) C (bf_dk dd_X6_oneOf 36 rfl) rfl ⟨rfl, h⟩
    · replace h := h.2.2.2.1 (bf_i32 c (by decide))
      refine bs_aload_n C (bf_dk dd_X6_oneOf 37 rfl) rfl ?_
      refine bs_iload_n C (bf_dk dd_X6_oneOf 38 rfl) rfl ?_
      refine bs_selfPV_i C hR (c_X6_isEnd _ _ _ _ _ S (a2) _ h) my_X6_isEnd m_6_145 rfl cl_6 (ge_bW6_0 _) rfl (Nat.le_of_ble_eq_true rfl) (Nat.le_of_ble_eq_true rfl) (st := []) (Nat.le_of_ble_eq_true rfl) (bf_dk dd_X6_oneOf 39 rfl) rfl (fun r13 h => ?_)
      refine bs_if_eq C (bf_dk dd_X6_oneOf 40 rfl) (tgt := 110) rfl (fun c => ?_) (fun c => ?_)
      · replace h := h.1 c
        refine bs_iconst C (bf_dk dd_X6_oneOf 43 rfl) (-1 : Int32) (by decide) ?_
        exact bs_iret (u := S) C (bf_dk dd_X6_oneOf 44 rfl) rfl ⟨rfl, h⟩
      · replace h := h.2 c
        refine bs_iload_n C (bf_dk dd_X6_oneOf 41 rfl) rfl ?_
        refine bs_goto C (bf_dk dd_X6_oneOf 42 rfl) (tgt := 111) rfl ?_
        exact bs_iret (u := S) C (bf_dk dd_X6_oneOf 44 rfl) rfl ⟨rfl, h⟩
    · replace h := h.2.2.2.2.1 (bf_i32 c (by decide))
      refine bs_aload_n C (bf_dk dd_X6_oneOf 45 rfl) rfl ?_
      refine bs_iload_n C (bf_dk dd_X6_oneOf 46 rfl) rfl ?_
      refine bs_selfPV_i C hR (c_X6_isEnd _ _ _ _ _ S (a2) _ h) my_X6_isEnd m_6_145 rfl cl_6 (ge_bW6_0 _) rfl (Nat.le_of_ble_eq_true rfl) (Nat.le_of_ble_eq_true rfl) (st := []) (Nat.le_of_ble_eq_true rfl) (bf_dk dd_X6_oneOf 47 rfl) rfl (fun r15 h => ?_)
      refine bs_if_eq C (bf_dk dd_X6_oneOf 48 rfl) (tgt := 129) rfl (fun c => ?_) (fun c => ?_)
      · replace h := h.1 c
        refine bs_iconst C (bf_dk dd_X6_oneOf 54 rfl) (-1 : Int32) (by decide) ?_
        exact bs_iret (u := S) C (bf_dk dd_X6_oneOf 55 rfl) rfl ⟨rfl, h⟩
      · replace h := h.2 c
        refine bs_iload_n C (bf_dk dd_X6_oneOf 49 rfl) rfl ?_
        refine bs_aload_n C (bf_dk dd_X6_oneOf 50 rfl) rfl ?_
        refine bs_get C (bf_dk dd_X6_oneOf 51 rfl) cl_6 in_6 18 (Nat.le_of_ble_eq_true rfl) rfl f_6_67 (ge_bW6_0 S) rfl ?_
        refine bs_isub C (bf_dk dd_X6_oneOf 52 rfl) ?_
        refine bs_goto C (bf_dk dd_X6_oneOf 53 rfl) (tgt := 130) rfl ?_
        exact bs_iret (u := S) C (bf_dk dd_X6_oneOf 55 rfl) rfl ⟨rfl, h⟩
    · replace h := h.2.2.2.2.2 (bf_i32 c (by decide))
      refine bs_aload_n C (bf_dk dd_X6_oneOf 56 rfl) rfl ?_
      refine bs_iload_n C (bf_dk dd_X6_oneOf 57 rfl) rfl ?_
      refine bs_selfPV_i C hR (c_X6_hasChild _ _ _ _ _ S (a2) _ h) my_X6_hasChild m_6_151 rfl cl_6 (ge_bW6_0 _) rfl (Nat.le_of_ble_eq_true rfl) (Nat.le_of_ble_eq_true rfl) (st := []) (Nat.le_of_ble_eq_true rfl) (bf_dk dd_X6_oneOf 58 rfl) rfl (fun r17 h => ?_)
      refine bs_if_eq C (bf_dk dd_X6_oneOf 59 rfl) (tgt := 148) rfl (fun c => ?_) (fun c => ?_)
      · replace h := h.1 c
        refine bs_iconst C (bf_dk dd_X6_oneOf 65 rfl) (-1 : Int32) (by decide) ?_
        exact bs_iret (u := S) C (bf_dk dd_X6_oneOf 66 rfl) rfl ⟨rfl, h⟩
      · replace h := h.2 c
        refine bs_iload_n C (bf_dk dd_X6_oneOf 60 rfl) rfl ?_
        refine bs_aload_n C (bf_dk dd_X6_oneOf 61 rfl) rfl ?_
        refine bs_get C (bf_dk dd_X6_oneOf 62 rfl) cl_6 in_6 18 (Nat.le_of_ble_eq_true rfl) rfl f_6_67 (ge_bW6_0 S) rfl ?_
        refine bs_isub C (bf_dk dd_X6_oneOf 63 rfl) ?_
        refine bs_goto C (bf_dk dd_X6_oneOf 64 rfl) (tgt := 149) rfl ?_
        exact bs_iret (u := S) C (bf_dk dd_X6_oneOf 66 rfl) rfl ⟨rfl, h⟩
theorem c_X6_oneOf (l : Launch) (dC : Nat → ClassId) (dI : Nat → Nat → Nat) (ac : Nat → ClassId) (al : Nat → Nat) (S : bT6) (a1 : Int32) (a2 : Int32) (Q : Int32 → Prop) (h : wp_X6_oneOf S a1 a2 Q) : bf_M l yX6_oneOf cX6_oneOf 4 (some .int) 2 42 dC dI ac al [.ref 0, .int a1, .int a2] (bW6 S) (bf_Ki dC dI ac al bW6 (fun r u => u = S ∧ Q r)) := by
  refine bf_start [some (.ref 0), some (.int a1), some (.int a2), none] (by decide) (Nat.le_of_ble_eq_true rfl) (bf_s1 (bf_s1 (bf_s1 (bf_en 1)))) ?_
  intro X hl C hR e1 e2 e3 e4
  subst e1; subst e2; subst e3; subst e4
  exact t_X6_oneOf C hR S a1 a2 Q h
def wp_X6_onesAhead_50 (S : bT6) (x1 : Int32) (x2 : Int32) (x4 : Int32) (x5 : Int32) (t0 : Int32) (t1 : Int32) (Q : Int32 → Prop) (B16 : Int32 → Int32 → Int32 → Int32 → Int32 → Prop) : Prop := (B16 (x1) (x2) ((t0 + t1)) (x4) ((x5 + (1 : Int32))))
set_option maxRecDepth 20000 in
theorem t_X6_onesAhead_50 {X : bf_X} (C : bf_C X RX6 cX6_onesAhead 7 (some .int)) (hR : bf_Rm X 3 65) (S : bT6) (x1 : Int32) (x2 : Int32) (x4 : Int32) (x5 : Int32) (t0 : Int32) (t1 : Int32) (Q : Int32 → Prop) (B16 : Int32 → Int32 → Int32 → Int32 → Int32 → Prop) (hB16 : ∀ (x1 : Int32) (x2 : Int32) (x3 : Int32) (x4 : Int32) (x5 : Int32), B16 x1 x2 x3 x4 x5 → bf_A X (bf_Zi X bW6 (fun r u => u = S ∧ Q r)) 7 16 [some (.ref 0), some (.int x1), some (.int x2), some (.int x3), some (.int x4), some (.int x5), none] [] (bW6 S)) (h : wp_X6_onesAhead_50 S x1 x2 x4 x5 t0 t1 Q B16) : bf_A X (bf_Zi X bW6 (fun r u => u = S ∧ Q r)) 7 50 [some (.ref 0), some (.int x1), some (.int x2), none, some (.int x4), some (.int x5), none] [.int t1, .int t0] (bW6 S) := by
  unfold wp_X6_onesAhead_50 at h
  refine bs_iadd C (bf_dk dd_X6_onesAhead 28 rfl) ?_
  refine bs_istore_n C (bf_dk dd_X6_onesAhead 29 rfl) rfl (Nat.le_of_ble_eq_true rfl) (Nat.le_of_ble_eq_true rfl) (lv2 := [some (.ref 0), some (.int x1), some (.int x2), some (.int (t0 + t1)), some (.int x4), some (.int x5), none]) rfl ?_
  refine bs_iinc C (bf_dk dd_X6_onesAhead 30 rfl) (x5 + (1 : Int32)) rfl rfl (Nat.le_of_ble_eq_true rfl) (Nat.le_of_ble_eq_true rfl) (lv2 := [some (.ref 0), some (.int x1), some (.int x2), some (.int (t0 + t1)), some (.int x4), some (.int (x5 + (1 : Int32))), none]) rfl ?_
  refine bs_goto C (bf_dk dd_X6_onesAhead 31 rfl) (tgt := 16) rfl ?_
  exact bs_weak (bf_s1 (bf_s1 (bf_s1 (bf_s1 (bf_s1 (bf_s1 (bf_sn bf_s0))))))) (hB16 (x1) (x2) ((t0 + t1)) (x4) ((x5 + (1 : Int32))) h)
def wp_X6_onesAhead_49 (S : bT6) (x1 : Int32) (x2 : Int32) (x4 : Int32) (x5 : Int32) (t0 : Int32) (Q : Int32 → Prop) (B16 : Int32 → Int32 → Int32 → Int32 → Int32 → Prop) : Prop := (wp_X6_onesAhead_50 S (x1) (x2) (x4) (x5) (t0) ((0 : Int32)) Q B16)
set_option maxRecDepth 20000 in
theorem t_X6_onesAhead_49 {X : bf_X} (C : bf_C X RX6 cX6_onesAhead 7 (some .int)) (hR : bf_Rm X 3 65) (S : bT6) (x1 : Int32) (x2 : Int32) (x4 : Int32) (x5 : Int32) (t0 : Int32) (Q : Int32 → Prop) (B16 : Int32 → Int32 → Int32 → Int32 → Int32 → Prop) (hB16 : ∀ (x1 : Int32) (x2 : Int32) (x3 : Int32) (x4 : Int32) (x5 : Int32), B16 x1 x2 x3 x4 x5 → bf_A X (bf_Zi X bW6 (fun r u => u = S ∧ Q r)) 7 16 [some (.ref 0), some (.int x1), some (.int x2), some (.int x3), some (.int x4), some (.int x5), none] [] (bW6 S)) (h : wp_X6_onesAhead_49 S x1 x2 x4 x5 t0 Q B16) : bf_A X (bf_Zi X bW6 (fun r u => u = S ∧ Q r)) 7 49 [some (.ref 0), some (.int x1), some (.int x2), none, some (.int x4), some (.int x5), none] [.int t0] (bW6 S) := by
  unfold wp_X6_onesAhead_49 at h
  refine bs_iconst C (bf_dk dd_X6_onesAhead 27 rfl) (0 : Int32) (by decide) ?_
  exact bs_weak (bf_s1 (bf_s1 (bf_s1 (bf_sn (bf_s1 (bf_s1 (bf_sn bf_s0))))))) (t_X6_onesAhead_50 C hR S (x1) (x2) (x4) (x5) (t0) ((0 : Int32)) Q B16 hB16 h)
def wp_X6_onesAhead_16b (S : bT6) (x1 : Int32) (x2 : Int32) (x3 : Int32) (x4 : Int32) (x5 : Int32) (Q : Int32 → Prop) (B16 : Int32 → Int32 → Int32 → Int32 → Int32 → Prop) : Prop := ((x4 < x5 → (Q x3)) ∧ (¬ x4 < x5 → (wp_X6_oneOf S (x1) (x5) (fun r1 => ((r1 = (-1 : Int32) → (wp_X6_onesAhead_49 S (x1) (x2) (x4) (x5) (x3) Q B16)) ∧ (¬ r1 = (-1 : Int32) → ((x2 ≤ r1 → (wp_X6_onesAhead_49 S (x1) (x2) (x4) (x5) (x3) Q B16)) ∧ (¬ x2 ≤ r1 → (wp_X6_onesAhead_50 S (x1) (x2) (x4) (x5) (x3) ((1 : Int32)) Q B16)))))))))
set_option maxRecDepth 20000 in
theorem t_X6_onesAhead_16b {X : bf_X} (C : bf_C X RX6 cX6_onesAhead 7 (some .int)) (hR : bf_Rm X 3 65) (S : bT6) (x1 : Int32) (x2 : Int32) (x3 : Int32) (x4 : Int32) (x5 : Int32) (Q : Int32 → Prop) (B16 : Int32 → Int32 → Int32 → Int32 → Int32 → Prop) (hB16 : ∀ (x1 : Int32) (x2 : Int32) (x3 : Int32) (x4 : Int32) (x5 : Int32), B16 x1 x2 x3 x4 x5 → bf_A X (bf_Zi X bW6 (fun r u => u = S ∧ Q r)) 7 16 [some (.ref 0), some (.int x1), some (.int x2), some (.int x3), some (.int x4), some (.int x5), none] [] (bW6 S)) (h : wp_X6_onesAhead_16b S x1 x2 x3 x4 x5 Q B16) : bf_A X (bf_Zi X bW6 (fun r u => u = S ∧ Q r)) 7 16 [some (.ref 0), some (.int x1), some (.int x2), some (.int x3), some (.int x4), some (.int x5), none] [] (bW6 S) := by
  unfold wp_X6_onesAhead_16b at h
  refine bs_iload C (bf_dk dd_X6_onesAhead 10 rfl) rfl ?_
  refine bs_iload C (bf_dk dd_X6_onesAhead 11 rfl) rfl ?_
  refine bs_icmp_gt C (bf_dk dd_X6_onesAhead 12 rfl) (tgt := 58) rfl (fun c => ?_) (fun c => ?_)
  · replace h := h.1 c
    refine bs_iload_n C (bf_dk dd_X6_onesAhead 32 rfl) rfl ?_
    exact bs_iret (u := S) C (bf_dk dd_X6_onesAhead 33 rfl) rfl ⟨rfl, h⟩
  · replace h := h.2 c
    refine bs_aload_n C (bf_dk dd_X6_onesAhead 13 rfl) rfl ?_
    refine bs_iload_n C (bf_dk dd_X6_onesAhead 14 rfl) rfl ?_
    refine bs_iload C (bf_dk dd_X6_onesAhead 15 rfl) rfl ?_
    refine bs_selfPV_i C hR (c_X6_oneOf _ _ _ _ _ S (x1) (x5) _ h) my_X6_oneOf m_6_166 rfl cl_6 (ge_bW6_0 _) rfl (Nat.le_of_ble_eq_true rfl) (Nat.le_of_ble_eq_true rfl) (st := []) (Nat.le_of_ble_eq_true rfl) (bf_dk dd_X6_onesAhead 16 rfl) rfl (fun r1 h => ?_)
    refine bs_istore C (bf_dk dd_X6_onesAhead 17 rfl) (Nat.le_of_ble_eq_true rfl) (Nat.le_of_ble_eq_true rfl) (lv2 := [some (.ref 0), some (.int x1), some (.int x2), some (.int x3), some (.int x4), some (.int x5), some (.int r1)]) rfl ?_
    refine bs_iload_n C (bf_dk dd_X6_onesAhead 18 rfl) rfl ?_
    refine bs_iload C (bf_dk dd_X6_onesAhead 19 rfl) rfl ?_
    refine bs_iconst C (bf_dk dd_X6_onesAhead 20 rfl) (-1 : Int32) (by decide) ?_
    refine bs_icmp_eq C (bf_dk dd_X6_onesAhead 21 rfl) (tgt := 49) rfl (fun c => ?_) (fun c => ?_)
    · replace h := h.1 c
      exact bs_weak (bf_s1 (bf_s1 (bf_s1 (bf_sn (bf_s1 (bf_s1 (bf_sn bf_s0))))))) (t_X6_onesAhead_49 C hR S (x1) (x2) (x4) (x5) (x3) Q B16 hB16 h)
    · replace h := h.2 c
      refine bs_iload C (bf_dk dd_X6_onesAhead 22 rfl) rfl ?_
      refine bs_iload_n C (bf_dk dd_X6_onesAhead 23 rfl) rfl ?_
      refine bs_icmp_ge C (bf_dk dd_X6_onesAhead 24 rfl) (tgt := 49) rfl (fun c => ?_) (fun c => ?_)
      · replace h := h.1 c
        exact bs_weak (bf_s1 (bf_s1 (bf_s1 (bf_sn (bf_s1 (bf_s1 (bf_sn bf_s0))))))) (t_X6_onesAhead_49 C hR S (x1) (x2) (x4) (x5) (x3) Q B16 hB16 h)
      · replace h := h.2 c
        refine bs_iconst C (bf_dk dd_X6_onesAhead 25 rfl) (1 : Int32) (by decide) ?_
        refine bs_goto C (bf_dk dd_X6_onesAhead 26 rfl) (tgt := 50) rfl ?_
        exact bs_weak (bf_s1 (bf_s1 (bf_s1 (bf_sn (bf_s1 (bf_s1 (bf_sn bf_s0))))))) (t_X6_onesAhead_50 C hR S (x1) (x2) (x4) (x5) (x3) ((1 : Int32)) Q B16 hB16 h)
def wp_X6_onesAhead_16 (S : bT6) (x1 : Int32) (x2 : Int32) (x3 : Int32) (x4 : Int32) (x5 : Int32) (Q : Int32 → Prop) : Prop := ∃ I : Nat → Int32 → Int32 → Int32 → Int32 → Int32 → Prop, (∃ n : Nat, I n x1 x2 x3 x4 x5) ∧ ∀ (n : Nat) (x1 : Int32) (x2 : Int32) (x3 : Int32) (x4 : Int32) (x5 : Int32), I n x1 x2 x3 x4 x5 → wp_X6_onesAhead_16b S x1 x2 x3 x4 x5 Q (fun x1 x2 x3 x4 x5 => ∃ n2 : Nat, n2 < n ∧ I n2 x1 x2 x3 x4 x5)
theorem t_X6_onesAhead_16 {X : bf_X} (C : bf_C X RX6 cX6_onesAhead 7 (some .int)) (hR : bf_Rm X 3 65) (S : bT6) (x1 : Int32) (x2 : Int32) (x3 : Int32) (x4 : Int32) (x5 : Int32) (Q : Int32 → Prop) (h : wp_X6_onesAhead_16 S x1 x2 x3 x4 x5 Q) : bf_A X (bf_Zi X bW6 (fun r u => u = S ∧ Q r)) 7 16 [some (.ref 0), some (.int x1), some (.int x2), some (.int x3), some (.int x4), some (.int x5), none] [] (bW6 S) := by
  obtain ⟨I, ⟨n0, h0⟩, hI⟩ := h
  have key : ∀ (n : Nat) (x1 : Int32) (x2 : Int32) (x3 : Int32) (x4 : Int32) (x5 : Int32), I n x1 x2 x3 x4 x5 → bf_A X (bf_Zi X bW6 (fun r u => u = S ∧ Q r)) 7 16 [some (.ref 0), some (.int x1), some (.int x2), some (.int x3), some (.int x4), some (.int x5), none] [] (bW6 S) := by
    intro n
    induction n using Nat.strongRecOn with
    | _ n ih =>
      intro x1 x2 x3 x4 x5 hi
      exact t_X6_onesAhead_16b C hR S x1 x2 x3 x4 x5 Q _ (fun x1 x2 x3 x4 x5 hb => by obtain ⟨n2, hn, hi2⟩ := hb; exact ih n2 hn x1 x2 x3 x4 x5 hi2) (hI n x1 x2 x3 x4 x5 hi)
  exact key n0 x1 x2 x3 x4 x5 h0
def wp_X6_onesAhead (S : bT6) (a1 : Int32) (a2 : Int32) (Q : Int32 → Prop) : Prop := (wp_X6_lastEdgeOf S (a1) (fun r3 => (wp_X6_firstEdgeOf S (a1) (fun r5 => (wp_X6_onesAhead_16 S (a1) (a2) ((0 : Int32)) (r3) (r5) Q)))))
set_option maxRecDepth 20000 in
theorem t_X6_onesAhead {X : bf_X} (C : bf_C X RX6 cX6_onesAhead 7 (some .int)) (hR : bf_Rm X 3 65) (S : bT6) (a1 : Int32) (a2 : Int32) (Q : Int32 → Prop) (h : wp_X6_onesAhead S a1 a2 Q) : bf_A X (bf_Zi X bW6 (fun r u => u = S ∧ Q r)) 7 0 [some (.ref 0), some (.int a1), some (.int a2), none, none, none, none] [] (bW6 S) := by
  unfold wp_X6_onesAhead at h
  refine bs_iconst C (bf_dk dd_X6_onesAhead 0 rfl) (0 : Int32) (by decide) ?_
  refine bs_istore_n C (bf_dk dd_X6_onesAhead 1 rfl) rfl (Nat.le_of_ble_eq_true rfl) (Nat.le_of_ble_eq_true rfl) (lv2 := [some (.ref 0), some (.int a1), some (.int a2), some (.int (0 : Int32)), none, none, none]) rfl ?_
  refine bs_aload_n C (bf_dk dd_X6_onesAhead 2 rfl) rfl ?_
  refine bs_iload_n C (bf_dk dd_X6_onesAhead 3 rfl) rfl ?_
  refine bs_selfPV_i C hR (c_X6_lastEdgeOf _ _ _ _ _ S (a1) _ h) my_X6_lastEdgeOf m_6_160 rfl cl_6 (ge_bW6_0 _) rfl (Nat.le_of_ble_eq_true rfl) (Nat.le_of_ble_eq_true rfl) (st := []) (Nat.le_of_ble_eq_true rfl) (bf_dk dd_X6_onesAhead 4 rfl) rfl (fun r3 h => ?_)
  refine bs_istore C (bf_dk dd_X6_onesAhead 5 rfl) (Nat.le_of_ble_eq_true rfl) (Nat.le_of_ble_eq_true rfl) (lv2 := [some (.ref 0), some (.int a1), some (.int a2), some (.int (0 : Int32)), some (.int r3), none, none]) rfl ?_
  refine bs_aload_n C (bf_dk dd_X6_onesAhead 6 rfl) rfl ?_
  refine bs_iload_n C (bf_dk dd_X6_onesAhead 7 rfl) rfl ?_
  refine bs_selfPV_i C hR (c_X6_firstEdgeOf _ _ _ _ _ S (a1) _ h) my_X6_firstEdgeOf m_6_163 rfl cl_6 (ge_bW6_0 _) rfl (Nat.le_of_ble_eq_true rfl) (Nat.le_of_ble_eq_true rfl) (st := []) (Nat.le_of_ble_eq_true rfl) (bf_dk dd_X6_onesAhead 8 rfl) rfl (fun r5 h => ?_)
  refine bs_istore C (bf_dk dd_X6_onesAhead 9 rfl) (Nat.le_of_ble_eq_true rfl) (Nat.le_of_ble_eq_true rfl) (lv2 := [some (.ref 0), some (.int a1), some (.int a2), some (.int (0 : Int32)), some (.int r3), some (.int r5), none]) rfl ?_
  exact bs_weak (bf_s1 (bf_s1 (bf_s1 (bf_s1 (bf_s1 (bf_s1 (bf_sn bf_s0))))))) (t_X6_onesAhead_16 C hR S (a1) (a2) ((0 : Int32)) (r3) (r5) Q h)
theorem c_X6_onesAhead (l : Launch) (dC : Nat → ClassId) (dI : Nat → Nat → Nat) (ac : Nat → ClassId) (al : Nat → Nat) (S : bT6) (a1 : Int32) (a2 : Int32) (Q : Int32 → Prop) (h : wp_X6_onesAhead S a1 a2 Q) : bf_M l yX6_onesAhead cX6_onesAhead 7 (some .int) 3 65 dC dI ac al [.ref 0, .int a1, .int a2] (bW6 S) (bf_Ki dC dI ac al bW6 (fun r u => u = S ∧ Q r)) := by
  refine bf_start [some (.ref 0), some (.int a1), some (.int a2), none, none, none, none] (by decide) (Nat.le_of_ble_eq_true rfl) (bf_s1 (bf_s1 (bf_s1 (bf_en 4)))) ?_
  intro X hl C hR e1 e2 e3 e4
  subst e1; subst e2; subst e3; subst e4
  exact t_X6_onesAhead C hR S a1 a2 Q h
def wp_X6_placeOfOne_49 (S : bT6) (x1 : Int32) (x2 : Int32) (x3 : Int32) (x4 : Int32) (x5 : Int32) (Q : Int32 → Prop) (B16 : Int32 → Int32 → Int32 → Int32 → Int32 → Prop) : Prop := (B16 (x1) (x2) (x3) (x4) ((x5 + (1 : Int32))))
set_option maxRecDepth 20000 in
theorem t_X6_placeOfOne_49 {X : bf_X} (C : bf_C X RX6 cX6_placeOfOne 7 (some .int)) (hR : bf_Rm X 3 65) (S : bT6) (x1 : Int32) (x2 : Int32) (x3 : Int32) (x4 : Int32) (x5 : Int32) (Q : Int32 → Prop) (B16 : Int32 → Int32 → Int32 → Int32 → Int32 → Prop) (hB16 : ∀ (x1 : Int32) (x2 : Int32) (x3 : Int32) (x4 : Int32) (x5 : Int32), B16 x1 x2 x3 x4 x5 → bf_A X (bf_Zi X bW6 (fun r u => u = S ∧ Q r)) 7 16 [some (.ref 0), some (.int x1), some (.int x2), some (.int x3), some (.int x4), some (.int x5), none] [] (bW6 S)) (h : wp_X6_placeOfOne_49 S x1 x2 x3 x4 x5 Q B16) : bf_A X (bf_Zi X bW6 (fun r u => u = S ∧ Q r)) 7 49 [some (.ref 0), some (.int x1), some (.int x2), some (.int x3), some (.int x4), some (.int x5), none] [] (bW6 S) := by
  unfold wp_X6_placeOfOne_49 at h
  refine bs_iinc C (bf_dk dd_X6_placeOfOne 27 rfl) (x5 + (1 : Int32)) rfl rfl (Nat.le_of_ble_eq_true rfl) (Nat.le_of_ble_eq_true rfl) (lv2 := [some (.ref 0), some (.int x1), some (.int x2), some (.int x3), some (.int x4), some (.int (x5 + (1 : Int32))), none]) rfl ?_
  refine bs_goto C (bf_dk dd_X6_placeOfOne 28 rfl) (tgt := 16) rfl ?_
  exact bs_weak (bf_s1 (bf_s1 (bf_s1 (bf_s1 (bf_s1 (bf_s1 (bf_sn bf_s0))))))) (hB16 (x1) (x2) (x3) (x4) ((x5 + (1 : Int32))) h)
def wp_X6_placeOfOne_16b (S : bT6) (x1 : Int32) (x2 : Int32) (x3 : Int32) (x4 : Int32) (x5 : Int32) (Q : Int32 → Prop) (B16 : Int32 → Int32 → Int32 → Int32 → Int32 → Prop) : Prop := ((x4 < x5 → (Q (-1 : Int32))) ∧ (¬ x4 < x5 → (wp_X6_oneOf S (x1) (x5) (fun r1 => ((r1 = (-1 : Int32) → (wp_X6_placeOfOne_49 S (x1) (x2) (x3) (x4) (x5) Q B16)) ∧ (¬ r1 = (-1 : Int32) → ((¬ x3 = x2 → (wp_X6_placeOfOne_49 S (x1) (x2) ((x3 + (1 : Int32))) (x4) (x5) Q B16)) ∧ (x3 = x2 → (Q r1)))))))))
set_option maxRecDepth 20000 in
theorem t_X6_placeOfOne_16b {X : bf_X} (C : bf_C X RX6 cX6_placeOfOne 7 (some .int)) (hR : bf_Rm X 3 65) (S : bT6) (x1 : Int32) (x2 : Int32) (x3 : Int32) (x4 : Int32) (x5 : Int32) (Q : Int32 → Prop) (B16 : Int32 → Int32 → Int32 → Int32 → Int32 → Prop) (hB16 : ∀ (x1 : Int32) (x2 : Int32) (x3 : Int32) (x4 : Int32) (x5 : Int32), B16 x1 x2 x3 x4 x5 → bf_A X (bf_Zi X bW6 (fun r u => u = S ∧ Q r)) 7 16 [some (.ref 0), some (.int x1), some (.int x2), some (.int x3), some (.int x4), some (.int x5), none] [] (bW6 S)) (h : wp_X6_placeOfOne_16b S x1 x2 x3 x4 x5 Q B16) : bf_A X (bf_Zi X bW6 (fun r u => u = S ∧ Q r)) 7 16 [some (.ref 0), some (.int x1), some (.int x2), some (.int x3), some (.int x4), some (.int x5), none] [] (bW6 S) := by
  unfold wp_X6_placeOfOne_16b at h
  refine bs_iload C (bf_dk dd_X6_placeOfOne 10 rfl) rfl ?_
  refine bs_iload C (bf_dk dd_X6_placeOfOne 11 rfl) rfl ?_
  refine bs_icmp_gt C (bf_dk dd_X6_placeOfOne 12 rfl) (tgt := 55) rfl (fun c => ?_) (fun c => ?_)
  · replace h := h.1 c
    refine bs_iconst C (bf_dk dd_X6_placeOfOne 29 rfl) (-1 : Int32) (by decide) ?_
    exact bs_iret (u := S) C (bf_dk dd_X6_placeOfOne 30 rfl) rfl ⟨rfl, h⟩
  · replace h := h.2 c
    refine bs_aload_n C (bf_dk dd_X6_placeOfOne 13 rfl) rfl ?_
    refine bs_iload_n C (bf_dk dd_X6_placeOfOne 14 rfl) rfl ?_
    refine bs_iload C (bf_dk dd_X6_placeOfOne 15 rfl) rfl ?_
    refine bs_selfPV_i C hR (c_X6_oneOf _ _ _ _ _ S (x1) (x5) _ h) my_X6_oneOf m_6_166 rfl cl_6 (ge_bW6_0 _) rfl (Nat.le_of_ble_eq_true rfl) (Nat.le_of_ble_eq_true rfl) (st := []) (Nat.le_of_ble_eq_true rfl) (bf_dk dd_X6_placeOfOne 16 rfl) rfl (fun r1 h => ?_)
    refine bs_istore C (bf_dk dd_X6_placeOfOne 17 rfl) (Nat.le_of_ble_eq_true rfl) (Nat.le_of_ble_eq_true rfl) (lv2 := [some (.ref 0), some (.int x1), some (.int x2), some (.int x3), some (.int x4), some (.int x5), some (.int r1)]) rfl ?_
    refine bs_iload C (bf_dk dd_X6_placeOfOne 18 rfl) rfl ?_
    refine bs_iconst C (bf_dk dd_X6_placeOfOne 19 rfl) (-1 : Int32) (by decide) ?_
    refine bs_icmp_eq C (bf_dk dd_X6_placeOfOne 20 rfl) (tgt := 49) rfl (fun c => ?_) (fun c => ?_)
    · replace h := h.1 c
      exact bs_weak (bf_s1 (bf_s1 (bf_s1 (bf_s1 (bf_s1 (bf_s1 (bf_sn bf_s0))))))) (t_X6_placeOfOne_49 C hR S (x1) (x2) (x3) (x4) (x5) Q B16 hB16 h)
    · replace h := h.2 c
      refine bs_iload_n C (bf_dk dd_X6_placeOfOne 21 rfl) rfl ?_
      refine bs_iload_n C (bf_dk dd_X6_placeOfOne 22 rfl) rfl ?_
      refine bs_icmp_ne C (bf_dk dd_X6_placeOfOne 23 rfl) (tgt := 46) rfl (fun c => ?_) (fun c => ?_)
      · replace h := h.1 c
        refine bs_iinc C (bf_dk dd_X6_placeOfOne 26 rfl) (x3 + (1 : Int32)) rfl rfl (Nat.le_of_ble_eq_true rfl) (Nat.le_of_ble_eq_true rfl) (lv2 := [some (.ref 0), some (.int x1), some (.int x2), some (.int (x3 + (1 : Int32))), some (.int x4), some (.int x5), some (.int r1)]) rfl ?_
        exact bs_weak (bf_s1 (bf_s1 (bf_s1 (bf_s1 (bf_s1 (bf_s1 (bf_sn bf_s0))))))) (t_X6_placeOfOne_49 C hR S (x1) (x2) ((x3 + (1 : Int32))) (x4) (x5) Q B16 hB16 h)
      · replace h := h.2 c
        refine bs_iload C (bf_dk dd_X6_placeOfOne 24 rfl) rfl ?_
        exact bs_iret (u := S) C (bf_dk dd_X6_placeOfOne 25 rfl) rfl ⟨rfl, h⟩
def wp_X6_placeOfOne_16 (S : bT6) (x1 : Int32) (x2 : Int32) (x3 : Int32) (x4 : Int32) (x5 : Int32) (Q : Int32 → Prop) : Prop := ∃ I : Nat → Int32 → Int32 → Int32 → Int32 → Int32 → Prop, (∃ n : Nat, I n x1 x2 x3 x4 x5) ∧ ∀ (n : Nat) (x1 : Int32) (x2 : Int32) (x3 : Int32) (x4 : Int32) (x5 : Int32), I n x1 x2 x3 x4 x5 → wp_X6_placeOfOne_16b S x1 x2 x3 x4 x5 Q (fun x1 x2 x3 x4 x5 => ∃ n2 : Nat, n2 < n ∧ I n2 x1 x2 x3 x4 x5)
theorem t_X6_placeOfOne_16 {X : bf_X} (C : bf_C X RX6 cX6_placeOfOne 7 (some .int)) (hR : bf_Rm X 3 65) (S : bT6) (x1 : Int32) (x2 : Int32) (x3 : Int32) (x4 : Int32) (x5 : Int32) (Q : Int32 → Prop) (h : wp_X6_placeOfOne_16 S x1 x2 x3 x4 x5 Q) : bf_A X (bf_Zi X bW6 (fun r u => u = S ∧ Q r)) 7 16 [some (.ref 0), some (.int x1), some (.int x2), some (.int x3), some (.int x4), some (.int x5), none] [] (bW6 S) := by
  obtain ⟨I, ⟨n0, h0⟩, hI⟩ := h
  have key : ∀ (n : Nat) (x1 : Int32) (x2 : Int32) (x3 : Int32) (x4 : Int32) (x5 : Int32), I n x1 x2 x3 x4 x5 → bf_A X (bf_Zi X bW6 (fun r u => u = S ∧ Q r)) 7 16 [some (.ref 0), some (.int x1), some (.int x2), some (.int x3), some (.int x4), some (.int x5), none] [] (bW6 S) := by
    intro n
    induction n using Nat.strongRecOn with
    | _ n ih =>
      intro x1 x2 x3 x4 x5 hi
      exact t_X6_placeOfOne_16b C hR S x1 x2 x3 x4 x5 Q _ (fun x1 x2 x3 x4 x5 hb => by obtain ⟨n2, hn, hi2⟩ := hb; exact ih n2 hn x1 x2 x3 x4 x5 hi2) (hI n x1 x2 x3 x4 x5 hi)
  exact key n0 x1 x2 x3 x4 x5 h0
def wp_X6_placeOfOne (S : bT6) (a1 : Int32) (a2 : Int32) (Q : Int32 → Prop) : Prop := (wp_X6_lastEdgeOf S (a1) (fun r3 => (wp_X6_firstEdgeOf S (a1) (fun r5 => (wp_X6_placeOfOne_16 S (a1) (a2) ((0 : Int32)) (r3) (r5) Q)))))
set_option maxRecDepth 20000 in
theorem t_X6_placeOfOne {X : bf_X} (C : bf_C X RX6 cX6_placeOfOne 7 (some .int)) (hR : bf_Rm X 3 65) (S : bT6) (a1 : Int32) (a2 : Int32) (Q : Int32 → Prop) (h : wp_X6_placeOfOne S a1 a2 Q) : bf_A X (bf_Zi X bW6 (fun r u => u = S ∧ Q r)) 7 0 [some (.ref 0), some (.int a1), some (.int a2), none, none, none, none] [] (bW6 S) := by
  unfold wp_X6_placeOfOne at h
  refine bs_iconst C (bf_dk dd_X6_placeOfOne 0 rfl) (0 : Int32) (by decide) ?_
  refine bs_istore_n C (bf_dk dd_X6_placeOfOne 1 rfl) rfl (Nat.le_of_ble_eq_true rfl) (Nat.le_of_ble_eq_true rfl) (lv2 := [some (.ref 0), some (.int a1), some (.int a2), some (.int (0 : Int32)), none, none, none]) rfl ?_
  refine bs_aload_n C (bf_dk dd_X6_placeOfOne 2 rfl) rfl ?_
  refine bs_iload_n C (bf_dk dd_X6_placeOfOne 3 rfl) rfl ?_
  refine bs_selfPV_i C hR (c_X6_lastEdgeOf _ _ _ _ _ S (a1) _ h) my_X6_lastEdgeOf m_6_160 rfl cl_6 (ge_bW6_0 _) rfl (Nat.le_of_ble_eq_true rfl) (Nat.le_of_ble_eq_true rfl) (st := []) (Nat.le_of_ble_eq_true rfl) (bf_dk dd_X6_placeOfOne 4 rfl) rfl (fun r3 h => ?_)
  refine bs_istore C (bf_dk dd_X6_placeOfOne 5 rfl) (Nat.le_of_ble_eq_true rfl) (Nat.le_of_ble_eq_true rfl) (lv2 := [some (.ref 0), some (.int a1), some (.int a2), some (.int (0 : Int32)), some (.int r3), none, none]) rfl ?_
  refine bs_aload_n C (bf_dk dd_X6_placeOfOne 6 rfl) rfl ?_
  refine bs_iload_n C (bf_dk dd_X6_placeOfOne 7 rfl) rfl ?_
  refine bs_selfPV_i C hR (c_X6_firstEdgeOf _ _ _ _ _ S (a1) _ h) my_X6_firstEdgeOf m_6_163 rfl cl_6 (ge_bW6_0 _) rfl (Nat.le_of_ble_eq_true rfl) (Nat.le_of_ble_eq_true rfl) (st := []) (Nat.le_of_ble_eq_true rfl) (bf_dk dd_X6_placeOfOne 8 rfl) rfl (fun r5 h => ?_)
  refine bs_istore C (bf_dk dd_X6_placeOfOne 9 rfl) (Nat.le_of_ble_eq_true rfl) (Nat.le_of_ble_eq_true rfl) (lv2 := [some (.ref 0), some (.int a1), some (.int a2), some (.int (0 : Int32)), some (.int r3), some (.int r5), none]) rfl ?_
  exact bs_weak (bf_s1 (bf_s1 (bf_s1 (bf_s1 (bf_s1 (bf_s1 (bf_sn bf_s0))))))) (t_X6_placeOfOne_16 C hR S (a1) (a2) ((0 : Int32)) (r3) (r5) Q h)
theorem c_X6_placeOfOne (l : Launch) (dC : Nat → ClassId) (dI : Nat → Nat → Nat) (ac : Nat → ClassId) (al : Nat → Nat) (S : bT6) (a1 : Int32) (a2 : Int32) (Q : Int32 → Prop) (h : wp_X6_placeOfOne S a1 a2 Q) : bf_M l yX6_placeOfOne cX6_placeOfOne 7 (some .int) 3 65 dC dI ac al [.ref 0, .int a1, .int a2] (bW6 S) (bf_Ki dC dI ac al bW6 (fun r u => u = S ∧ Q r)) := by
  refine bf_start [some (.ref 0), some (.int a1), some (.int a2), none, none, none, none] (by decide) (Nat.le_of_ble_eq_true rfl) (bf_s1 (bf_s1 (bf_s1 (bf_en 4)))) ?_
  intro X hl C hR e1 e2 e3 e4
  subst e1; subst e2; subst e3; subst e4
  exact t_X6_placeOfOne C hR S a1 a2 Q h
def wp_X7_zerosFromHighest_2b (x0 : Int32) (x1 : Int32) (Q : Int32 → Prop) (B2 : Int32 → Int32 → Prop) : Prop := (((8 : Int32) ≤ x1 → (Q x1)) ∧ (¬ (8 : Int32) ≤ x1 → (wp_X8_highest (x0) ((x1 + (1 : Int32))) (fun r1 => ((¬ r1 = 0 → (Q x1)) ∧ (r1 = 0 → (B2 (x0) ((x1 + (1 : Int32))))))))))
set_option maxRecDepth 20000 in
theorem t_X7_zerosFromHighest_2b {X : bf_X} (C : bf_C X RX7 cX7_zerosFromHighest 2 (some .int)) (hR : bf_Rm X 1 21) (x0 : Int32) (x1 : Int32) (Q : Int32 → Prop) (B2 : Int32 → Int32 → Prop) (hB2 : ∀ (x0 : Int32) (x1 : Int32), B2 x0 x1 → bf_A X (bf_Zi X bWu (fun r u => u = () ∧ Q r)) 2 2 [some (.int x0), some (.int x1)] [] (bWu ())) (h : wp_X7_zerosFromHighest_2b x0 x1 Q B2) : bf_A X (bf_Zi X bWu (fun r u => u = () ∧ Q r)) 2 2 [some (.int x0), some (.int x1)] [] (bWu ()) := by
  unfold wp_X7_zerosFromHighest_2b at h
  refine bs_iload_n C (bf_dk dd_X7_zerosFromHighest 2 rfl) rfl ?_
  refine bs_bipush C (bf_dk dd_X7_zerosFromHighest 3 rfl) (8 : Int32) (by decide) ?_
  refine bs_icmp_ge C (bf_dk dd_X7_zerosFromHighest 4 rfl) (tgt := 24) rfl (fun c => ?_) (fun c => ?_)
  · replace h := h.1 c
    refine bs_iload_n C (bf_dk dd_X7_zerosFromHighest 13 rfl) rfl ?_
    exact bs_iret (u := ()) C (bf_dk dd_X7_zerosFromHighest 14 rfl) rfl ⟨rfl, h⟩
  · replace h := h.2 c
    refine bs_iload_n C (bf_dk dd_X7_zerosFromHighest 5 rfl) rfl ?_
    refine bs_iload_n C (bf_dk dd_X7_zerosFromHighest 6 rfl) rfl ?_
    refine bs_iconst C (bf_dk dd_X7_zerosFromHighest 7 rfl) (1 : Int32) (by decide) ?_
    refine bs_iadd C (bf_dk dd_X7_zerosFromHighest 8 rfl) ?_
    refine bs_pureSN_i (ps := []) (w := (bWu ())) C hR (c_X8_highest _ _ _ _ _ (x0) ((x1 + (1 : Int32))) _ h) my_X8_highest m_7_101 rfl (Nat.le_of_ble_eq_true rfl) (Nat.le_of_ble_eq_true rfl) rfl rfl (st := []) (Nat.le_of_ble_eq_true rfl) (bf_dk dd_X7_zerosFromHighest 9 rfl) rfl (fun _ => rfl) (fun r1 h => ?_)
    refine bs_if_ne C (bf_dk dd_X7_zerosFromHighest 10 rfl) (tgt := 24) rfl (fun c => ?_) (fun c => ?_)
    · replace h := h.1 c
      refine bs_iload_n C (bf_dk dd_X7_zerosFromHighest 13 rfl) rfl ?_
      exact bs_iret (u := ()) C (bf_dk dd_X7_zerosFromHighest 14 rfl) rfl ⟨rfl, h⟩
    · replace h := h.2 c
      refine bs_iinc C (bf_dk dd_X7_zerosFromHighest 11 rfl) (x1 + (1 : Int32)) rfl rfl (Nat.le_of_ble_eq_true rfl) (Nat.le_of_ble_eq_true rfl) (lv2 := [some (.int x0), some (.int (x1 + (1 : Int32)))]) rfl ?_
      refine bs_goto C (bf_dk dd_X7_zerosFromHighest 12 rfl) (tgt := 2) rfl ?_
      exact bs_weak (bf_s1 (bf_s1 bf_s0)) (hB2 (x0) ((x1 + (1 : Int32))) h)
def wp_X7_zerosFromHighest_2 (x0 : Int32) (x1 : Int32) (Q : Int32 → Prop) : Prop := ∃ I : Nat → Int32 → Int32 → Prop, (∃ n : Nat, I n x0 x1) ∧ ∀ (n : Nat) (x0 : Int32) (x1 : Int32), I n x0 x1 → wp_X7_zerosFromHighest_2b x0 x1 Q (fun x0 x1 => ∃ n2 : Nat, n2 < n ∧ I n2 x0 x1)
theorem t_X7_zerosFromHighest_2 {X : bf_X} (C : bf_C X RX7 cX7_zerosFromHighest 2 (some .int)) (hR : bf_Rm X 1 21) (x0 : Int32) (x1 : Int32) (Q : Int32 → Prop) (h : wp_X7_zerosFromHighest_2 x0 x1 Q) : bf_A X (bf_Zi X bWu (fun r u => u = () ∧ Q r)) 2 2 [some (.int x0), some (.int x1)] [] (bWu ()) := by
  obtain ⟨I, ⟨n0, h0⟩, hI⟩ := h
  have key : ∀ (n : Nat) (x0 : Int32) (x1 : Int32), I n x0 x1 → bf_A X (bf_Zi X bWu (fun r u => u = () ∧ Q r)) 2 2 [some (.int x0), some (.int x1)] [] (bWu ()) := by
    intro n
    induction n using Nat.strongRecOn with
    | _ n ih =>
      intro x0 x1 hi
      exact t_X7_zerosFromHighest_2b C hR x0 x1 Q _ (fun x0 x1 hb => by obtain ⟨n2, hn, hi2⟩ := hb; exact ih n2 hn x0 x1 hi2) (hI n x0 x1 hi)
  exact key n0 x0 x1 h0
def wp_X7_zerosFromHighest (a0 : Int32) (Q : Int32 → Prop) : Prop := (wp_X7_zerosFromHighest_2 (a0) ((0 : Int32)) Q)
set_option maxRecDepth 20000 in
theorem t_X7_zerosFromHighest {X : bf_X} (C : bf_C X RX7 cX7_zerosFromHighest 2 (some .int)) (hR : bf_Rm X 1 21) (a0 : Int32) (Q : Int32 → Prop) (h : wp_X7_zerosFromHighest a0 Q) : bf_A X (bf_Zi X bWu (fun r u => u = () ∧ Q r)) 2 0 [some (.int a0), none] [] (bWu ()) := by
  unfold wp_X7_zerosFromHighest at h
  refine bs_iconst C (bf_dk dd_X7_zerosFromHighest 0 rfl) (0 : Int32) (by decide) ?_
  refine bs_istore_n C (bf_dk dd_X7_zerosFromHighest 1 rfl) rfl (Nat.le_of_ble_eq_true rfl) (Nat.le_of_ble_eq_true rfl) (lv2 := [some (.int a0), some (.int (0 : Int32))]) rfl ?_
  exact bs_weak (bf_s1 (bf_s1 bf_s0)) (t_X7_zerosFromHighest_2 C hR (a0) ((0 : Int32)) Q h)
theorem c_X7_zerosFromHighest (l : Launch) (dC : Nat → ClassId) (dI : Nat → Nat → Nat) (ac : Nat → ClassId) (al : Nat → Nat) (a0 : Int32) (Q : Int32 → Prop) (h : wp_X7_zerosFromHighest a0 Q) : bf_M l yX7_zerosFromHighest cX7_zerosFromHighest 2 (some .int) 1 21 dC dI ac al [.int a0] (bWu ()) (bf_Ki dC dI ac al bWu (fun r u => u = () ∧ Q r)) := by
  refine bf_start [some (.int a0), none] (by decide) (Nat.le_of_ble_eq_true rfl) (bf_s1 (bf_en 1)) ?_
  intro X hl C hR e1 e2 e3 e4
  subst e1; subst e2; subst e3; subst e4
  exact t_X7_zerosFromHighest C hR a0 Q h
def wp_X7_zerosFromLowest_2b (x0 : Int32) (x1 : Int32) (Q : Int32 → Prop) (B2 : Int32 → Int32 → Prop) : Prop := (((8 : Int32) ≤ x1 → (Q x1)) ∧ (¬ (8 : Int32) ≤ x1 → (wp_X8_lowest (x0) ((x1 + (1 : Int32))) (fun r1 => ((¬ r1 = 0 → (Q x1)) ∧ (r1 = 0 → (B2 (x0) ((x1 + (1 : Int32))))))))))
set_option maxRecDepth 20000 in
theorem t_X7_zerosFromLowest_2b {X : bf_X} (C : bf_C X RX7 cX7_zerosFromLowest 2 (some .int)) (hR : bf_Rm X 1 21) (x0 : Int32) (x1 : Int32) (Q : Int32 → Prop) (B2 : Int32 → Int32 → Prop) (hB2 : ∀ (x0 : Int32) (x1 : Int32), B2 x0 x1 → bf_A X (bf_Zi X bWu (fun r u => u = () ∧ Q r)) 2 2 [some (.int x0), some (.int x1)] [] (bWu ())) (h : wp_X7_zerosFromLowest_2b x0 x1 Q B2) : bf_A X (bf_Zi X bWu (fun r u => u = () ∧ Q r)) 2 2 [some (.int x0), some (.int x1)] [] (bWu ()) := by
  unfold wp_X7_zerosFromLowest_2b at h
  refine bs_iload_n C (bf_dk dd_X7_zerosFromLowest 2 rfl) rfl ?_
  refine bs_bipush C (bf_dk dd_X7_zerosFromLowest 3 rfl) (8 : Int32) (by decide) ?_
  refine bs_icmp_ge C (bf_dk dd_X7_zerosFromLowest 4 rfl) (tgt := 24) rfl (fun c => ?_) (fun c => ?_)
  · replace h := h.1 c
    refine bs_iload_n C (bf_dk dd_X7_zerosFromLowest 13 rfl) rfl ?_
    exact bs_iret (u := ()) C (bf_dk dd_X7_zerosFromLowest 14 rfl) rfl ⟨rfl, h⟩
  · replace h := h.2 c
    refine bs_iload_n C (bf_dk dd_X7_zerosFromLowest 5 rfl) rfl ?_
    refine bs_iload_n C (bf_dk dd_X7_zerosFromLowest 6 rfl) rfl ?_
    refine bs_iconst C (bf_dk dd_X7_zerosFromLowest 7 rfl) (1 : Int32) (by decide) ?_
    refine bs_iadd C (bf_dk dd_X7_zerosFromLowest 8 rfl) ?_
    refine bs_pureSN_i (ps := []) (w := (bWu ())) C hR (c_X8_lowest _ _ _ _ _ (x0) ((x1 + (1 : Int32))) _ h) my_X8_lowest m_7_98 rfl (Nat.le_of_ble_eq_true rfl) (Nat.le_of_ble_eq_true rfl) rfl rfl (st := []) (Nat.le_of_ble_eq_true rfl) (bf_dk dd_X7_zerosFromLowest 9 rfl) rfl (fun _ => rfl) (fun r1 h => ?_)
    refine bs_if_ne C (bf_dk dd_X7_zerosFromLowest 10 rfl) (tgt := 24) rfl (fun c => ?_) (fun c => ?_)
    · replace h := h.1 c
      refine bs_iload_n C (bf_dk dd_X7_zerosFromLowest 13 rfl) rfl ?_
      exact bs_iret (u := ()) C (bf_dk dd_X7_zerosFromLowest 14 rfl) rfl ⟨rfl, h⟩
    · replace h := h.2 c
      refine bs_iinc C (bf_dk dd_X7_zerosFromLowest 11 rfl) (x1 + (1 : Int32)) rfl rfl (Nat.le_of_ble_eq_true rfl) (Nat.le_of_ble_eq_true rfl) (lv2 := [some (.int x0), some (.int (x1 + (1 : Int32)))]) rfl ?_
      refine bs_goto C (bf_dk dd_X7_zerosFromLowest 12 rfl) (tgt := 2) rfl ?_
      exact bs_weak (bf_s1 (bf_s1 bf_s0)) (hB2 (x0) ((x1 + (1 : Int32))) h)
def wp_X7_zerosFromLowest_2 (x0 : Int32) (x1 : Int32) (Q : Int32 → Prop) : Prop := ∃ I : Nat → Int32 → Int32 → Prop, (∃ n : Nat, I n x0 x1) ∧ ∀ (n : Nat) (x0 : Int32) (x1 : Int32), I n x0 x1 → wp_X7_zerosFromLowest_2b x0 x1 Q (fun x0 x1 => ∃ n2 : Nat, n2 < n ∧ I n2 x0 x1)
theorem t_X7_zerosFromLowest_2 {X : bf_X} (C : bf_C X RX7 cX7_zerosFromLowest 2 (some .int)) (hR : bf_Rm X 1 21) (x0 : Int32) (x1 : Int32) (Q : Int32 → Prop) (h : wp_X7_zerosFromLowest_2 x0 x1 Q) : bf_A X (bf_Zi X bWu (fun r u => u = () ∧ Q r)) 2 2 [some (.int x0), some (.int x1)] [] (bWu ()) := by
  obtain ⟨I, ⟨n0, h0⟩, hI⟩ := h
  have key : ∀ (n : Nat) (x0 : Int32) (x1 : Int32), I n x0 x1 → bf_A X (bf_Zi X bWu (fun r u => u = () ∧ Q r)) 2 2 [some (.int x0), some (.int x1)] [] (bWu ()) := by
    intro n
    induction n using Nat.strongRecOn with
    | _ n ih =>
      intro x0 x1 hi
      exact t_X7_zerosFromLowest_2b C hR x0 x1 Q _ (fun x0 x1 hb => by obtain ⟨n2, hn, hi2⟩ := hb; exact ih n2 hn x0 x1 hi2) (hI n x0 x1 hi)
  exact key n0 x0 x1 h0
def wp_X7_zerosFromLowest (a0 : Int32) (Q : Int32 → Prop) : Prop := (wp_X7_zerosFromLowest_2 (a0) ((0 : Int32)) Q)
set_option maxRecDepth 20000 in
theorem t_X7_zerosFromLowest {X : bf_X} (C : bf_C X RX7 cX7_zerosFromLowest 2 (some .int)) (hR : bf_Rm X 1 21) (a0 : Int32) (Q : Int32 → Prop) (h : wp_X7_zerosFromLowest a0 Q) : bf_A X (bf_Zi X bWu (fun r u => u = () ∧ Q r)) 2 0 [some (.int a0), none] [] (bWu ()) := by
  unfold wp_X7_zerosFromLowest at h
  refine bs_iconst C (bf_dk dd_X7_zerosFromLowest 0 rfl) (0 : Int32) (by decide) ?_
  refine bs_istore_n C (bf_dk dd_X7_zerosFromLowest 1 rfl) rfl (Nat.le_of_ble_eq_true rfl) (Nat.le_of_ble_eq_true rfl) (lv2 := [some (.int a0), some (.int (0 : Int32))]) rfl ?_
  exact bs_weak (bf_s1 (bf_s1 bf_s0)) (t_X7_zerosFromLowest_2 C hR (a0) ((0 : Int32)) Q h)
theorem c_X7_zerosFromLowest (l : Launch) (dC : Nat → ClassId) (dI : Nat → Nat → Nat) (ac : Nat → ClassId) (al : Nat → Nat) (a0 : Int32) (Q : Int32 → Prop) (h : wp_X7_zerosFromLowest a0 Q) : bf_M l yX7_zerosFromLowest cX7_zerosFromLowest 2 (some .int) 1 21 dC dI ac al [.int a0] (bWu ()) (bf_Ki dC dI ac al bWu (fun r u => u = () ∧ Q r)) := by
  refine bf_start [some (.int a0), none] (by decide) (Nat.le_of_ble_eq_true rfl) (bf_s1 (bf_en 1)) ?_
  intro X hl C hR e1 e2 e3 e4
  subst e1; subst e2; subst e3; subst e4
  exact t_X7_zerosFromLowest C hR a0 Q h
def wp_X7_compare_25 (S : bT7 × bT1) (x2 : Int64) (x4 : Int32) (x5 : Int32) (t0 : Int32) (Q : (bT7 × bT1) → Prop) : Prop := ((x5 < 0 → (Q S)) ∧ (¬ x5 < 0 → (((16 : Int32) ≤ x5 → (Q S)) ∧ (¬ (16 : Int32) ≤ x5 → (vp_in x5 16 ∧ (∀ S1 : bT7 × bT1, S1 = ((b7s_likeHash S.1 (upd (b7g_likeHash S.1) (x5).toNatClampNeg (-1 : Int32))), S.2) → (vp_in x5 16 ∧ (∀ S2 : bT7 × bT1, S2 = ((b7s_likeNext S1.1 (upd (b7g_likeNext S1.1) (x5).toNatClampNeg (-1 : Int32))), S1.2) → ((t0 = (-1 : Int32) → (Q S2)) ∧ (¬ t0 = (-1 : Int32) → (wp_X8_mixed ((b1g_salt S2.2)) (x2) (x4) (fun r3 => (wp_X8_at 64 (b1g_hashes S2.2) (t0) (fun r5 => (wp_X1_lengthAt S2.2 (t0) (fun r7 => (wp_X8_octetAt (x2) (r7) (fun r9 => (wp_X8_at 64 (b1g_nexts S2.2) (t0) (fun r11 => (wp_X7_zerosFromLowest ((r3 ^^^ r5)) (fun r13 => (vp_in x5 16 ∧ (∀ S15 : bT7 × bT1, S15 = ((b7s_likeHash S2.1 (upd (b7g_likeHash S2.1) (x5).toNatClampNeg r13)), S2.2) → (wp_X7_zerosFromHighest ((r9 ^^^ r11)) (fun r16 => (vp_in x5 16 ∧ (∀ S18 : bT7 × bT1, S18 = ((b7s_likeNext S15.1 (upd (b7g_likeNext S15.1) (x5).toNatClampNeg r16)), S15.2) → (Q S18)))))))))))))))))))))))))))))
set_option maxRecDepth 20000 in
theorem t_X7_compare_25 {X : bf_X} (C : bf_C X RX7 cX7_compare 9 none) (hR : bf_Rm X 4 99) (S : bT7 × bT1) (x2 : Int64) (x4 : Int32) (x5 : Int32) (t0 : Int32) (Q : (bT7 × bT1) → Prop) (h : wp_X7_compare_25 S x2 x4 x5 t0 Q) : bf_A X (bf_Zv X bW7_1 Q) 9 25 [some (.ref 0), some (.ref 3), some (.long x2), none, some (.int x4), some (.int x5), none, none, none] [.int t0] (bW7_1 S) := by
  unfold wp_X7_compare_25 at h
  refine bs_istore C (bf_dk dd_X7_compare 13 rfl) (Nat.le_of_ble_eq_true rfl) (Nat.le_of_ble_eq_true rfl) (lv2 := [some (.ref 0), some (.ref 3), some (.long x2), none, some (.int x4), some (.int x5), some (.int t0), none, none]) rfl ?_
  refine bs_iload C (bf_dk dd_X7_compare 14 rfl) rfl ?_
  refine bs_if_lt C (bf_dk dd_X7_compare 15 rfl) (tgt := 129) rfl (fun c => ?_) (fun c => ?_)
  · replace h := h.1 c
    exact bs_vret (u := S) C (bf_dk dd_X7_compare 66 rfl) rfl h
  · replace h := h.2 c
    refine bs_iload C (bf_dk dd_X7_compare 16 rfl) rfl ?_
    refine bs_bipush C (bf_dk dd_X7_compare 17 rfl) (16 : Int32) (by decide) ?_
    refine bs_icmp_ge C (bf_dk dd_X7_compare 18 rfl) (tgt := 129) rfl (fun c => ?_) (fun c => ?_)
    · replace h := h.1 c
      exact bs_vret (u := S) C (bf_dk dd_X7_compare 66 rfl) rfl h
    · replace h := h.2 c
      refine bs_aload_n C (bf_dk dd_X7_compare 19 rfl) rfl ?_
      refine bs_get C (bf_dk dd_X7_compare 20 rfl) cl_7 in_7 0 (Nat.le_of_ble_eq_true rfl) rfl f_7_9 (ge_bW7_1_0 S) rfl ?_
      refine bs_iload C (bf_dk dd_X7_compare 21 rfl) rfl ?_
      refine bs_iconst C (bf_dk dd_X7_compare 22 rfl) (-1 : Int32) (by decide) ?_
      obtain ⟨hi, h⟩ := h
      refine bs_iast C (bf_dk dd_X7_compare 23 rfl) (ge_bW7_1_1 S) hi (ar_bW7_1_1 S _) ?_
      refine bs_nameS bW7_1 (fun S1 eS1 => ?_)
      replace h := h S1 eS1
      refine bs_aload_n C (bf_dk dd_X7_compare 24 rfl) rfl ?_
      refine bs_get C (bf_dk dd_X7_compare 25 rfl) cl_7 in_7 1 (Nat.le_of_ble_eq_true rfl) rfl f_7_15 (ge_bW7_1_0 S1) rfl ?_
      refine bs_iload C (bf_dk dd_X7_compare 26 rfl) rfl ?_
      refine bs_iconst C (bf_dk dd_X7_compare 27 rfl) (-1 : Int32) (by decide) ?_
      obtain ⟨hi, h⟩ := h
      refine bs_iast C (bf_dk dd_X7_compare 28 rfl) (ge_bW7_1_2 S1) hi (ar_bW7_1_2 S1 _) ?_
      refine bs_nameS bW7_1 (fun S2 eS2 => ?_)
      replace h := h S2 eS2
      refine bs_iload C (bf_dk dd_X7_compare 29 rfl) rfl ?_
      refine bs_iconst C (bf_dk dd_X7_compare 30 rfl) (-1 : Int32) (by decide) ?_
      refine bs_icmp_eq C (bf_dk dd_X7_compare 31 rfl) (tgt := 129) rfl (fun c => ?_) (fun c => ?_)
      · replace h := h.1 c
        exact bs_vret (u := S2) C (bf_dk dd_X7_compare 66 rfl) rfl h
      · replace h := h.2 c
        refine bs_aload_n C (bf_dk dd_X7_compare 32 rfl) rfl ?_
        refine bs_get C (bf_dk dd_X7_compare 33 rfl) cl_1 in_1 9 (Nat.le_of_ble_eq_true rfl) rfl f_7_71 (ge_bW7_1_3 S2) rfl ?_
        refine bs_lload_n C (bf_dk dd_X7_compare 34 rfl) rfl ?_
        refine bs_iload C (bf_dk dd_X7_compare 35 rfl) rfl ?_
        refine bs_pureSN_i (ps := []) (w := (bW7_1 S2)) C hR (c_X8_mixed _ _ _ _ _ ((b1g_salt S2.2)) (x2) (x4) _ h) my_X8_mixed m_7_74 rfl (Nat.le_of_ble_eq_true rfl) (Nat.le_of_ble_eq_true rfl) rfl rfl (st := []) (Nat.le_of_ble_eq_true rfl) (bf_dk dd_X7_compare 36 rfl) rfl (fun _ => rfl) (fun r3 h => ?_)
        refine bs_aload_n C (bf_dk dd_X7_compare 37 rfl) rfl ?_
        refine bs_get C (bf_dk dd_X7_compare 38 rfl) cl_1 in_1 5 (Nat.le_of_ble_eq_true rfl) rfl f_7_78 (ge_bW7_1_3 S2) rfl ?_
        refine bs_iload C (bf_dk dd_X7_compare 39 rfl) rfl ?_
        refine bs_pureSN_i (ps := [15]) (w := (bW7_1 S2)) C hR (c_X8_at _ _ _ _ _ 64 (b1g_hashes S2.2) (t0) _ h) my_X8_at m_7_81 rfl (Nat.le_of_ble_eq_true rfl) (Nat.le_of_ble_eq_true rfl) (su_bW7_1_15_bWan64 S2) rfl (st := [.int r3]) (Nat.le_of_ble_eq_true rfl) (bf_dk dd_X7_compare 40 rfl) rfl (fun _ => rfl) (fun r5 h => ?_)
        refine bs_ixor C (bf_dk dd_X7_compare 41 rfl) ?_
        refine bs_istore C (bf_dk dd_X7_compare 42 rfl) (Nat.le_of_ble_eq_true rfl) (Nat.le_of_ble_eq_true rfl) (lv2 := [some (.ref 0), some (.ref 3), some (.long x2), none, some (.int x4), some (.int x5), some (.int t0), some (.int (r3 ^^^ r5)), none]) rfl ?_
        refine bs_lload_n C (bf_dk dd_X7_compare 43 rfl) rfl ?_
        refine bs_aload_n C (bf_dk dd_X7_compare 44 rfl) rfl ?_
        refine bs_iload C (bf_dk dd_X7_compare 45 rfl) rfl ?_
        refine bs_pureV_i (ps := [3, 4, 5, 6, 7, 8, 9, 10, 11, 12, 13, 14, 15, 16]) (w := (bW7_1 S2)) C hR (c_X1_lengthAt _ _ _ _ _ S2.2 (t0) _ h) my_X1_lengthAt m_7_85 rfl cl_1 (ge_bW1_0 _) rfl (Nat.le_of_ble_eq_true rfl) (Nat.le_of_ble_eq_true rfl) (su_bW7_1_3_bW1 S2) bnd_3t16 (st := [.long x2]) (Nat.le_of_ble_eq_true rfl) (bf_dk dd_X7_compare 46 rfl) rfl (fun _ => rfl) (fun r7 h => ?_)
        refine bs_pureSN_i (ps := []) (w := (bW7_1 S2)) C hR (c_X8_octetAt _ _ _ _ _ (x2) (r7) _ h) my_X8_octetAt m_7_86 rfl (Nat.le_of_ble_eq_true rfl) (Nat.le_of_ble_eq_true rfl) rfl rfl (st := []) (Nat.le_of_ble_eq_true rfl) (bf_dk dd_X7_compare 47 rfl) rfl (fun _ => rfl) (fun r9 h => ?_)
        refine bs_aload_n C (bf_dk dd_X7_compare 48 rfl) rfl ?_
        refine bs_get C (bf_dk dd_X7_compare 49 rfl) cl_1 in_1 6 (Nat.le_of_ble_eq_true rfl) rfl f_7_89 (ge_bW7_1_3 S2) rfl ?_
        refine bs_iload C (bf_dk dd_X7_compare 50 rfl) rfl ?_
        refine bs_pureSN_i (ps := [16]) (w := (bW7_1 S2)) C hR (c_X8_at _ _ _ _ _ 64 (b1g_nexts S2.2) (t0) _ h) my_X8_at m_7_81 rfl (Nat.le_of_ble_eq_true rfl) (Nat.le_of_ble_eq_true rfl) (su_bW7_1_16_bWan64 S2) rfl (st := [.int r9]) (Nat.le_of_ble_eq_true rfl) (bf_dk dd_X7_compare 51 rfl) rfl (fun _ => rfl) (fun r11 h => ?_)
        refine bs_ixor C (bf_dk dd_X7_compare 52 rfl) ?_
        refine bs_istore C (bf_dk dd_X7_compare 53 rfl) (Nat.le_of_ble_eq_true rfl) (Nat.le_of_ble_eq_true rfl) (lv2 := [some (.ref 0), some (.ref 3), some (.long x2), none, some (.int x4), some (.int x5), some (.int t0), some (.int (r3 ^^^ r5)), some (.int (r9 ^^^ r11))]) rfl ?_
        refine bs_aload_n C (bf_dk dd_X7_compare 54 rfl) rfl ?_
        refine bs_get C (bf_dk dd_X7_compare 55 rfl) cl_7 in_7 0 (Nat.le_of_ble_eq_true rfl) rfl f_7_9 (ge_bW7_1_0 S2) rfl ?_
        refine bs_iload C (bf_dk dd_X7_compare 56 rfl) rfl ?_
        refine bs_iload C (bf_dk dd_X7_compare 57 rfl) rfl ?_
        refine bs_pureS_i (ps := []) (w := (bW7_1 S2)) C hR (c_X7_zerosFromLowest _ _ _ _ _ ((r3 ^^^ r5)) _ h) my_X7_zerosFromLowest m_7_92 rfl (Nat.le_of_ble_eq_true rfl) (Nat.le_of_ble_eq_true rfl) rfl rfl (st := [.int x5, .ref 1]) (Nat.le_of_ble_eq_true rfl) (bf_dk dd_X7_compare 58 rfl) rfl (fun _ => rfl) (fun r13 h => ?_)
        obtain ⟨hi, h⟩ := h
        refine bs_iast C (bf_dk dd_X7_compare 59 rfl) (ge_bW7_1_1 S2) hi (ar_bW7_1_1 S2 _) ?_
        refine bs_nameS bW7_1 (fun S15 eS15 => ?_)
        replace h := h S15 eS15
        refine bs_aload_n C (bf_dk dd_X7_compare 60 rfl) rfl ?_
        refine bs_get C (bf_dk dd_X7_compare 61 rfl) cl_7 in_7 1 (Nat.le_of_ble_eq_true rfl) rfl f_7_15 (ge_bW7_1_0 S15) rfl ?_
        refine bs_iload C (bf_dk dd_X7_compare 62 rfl) rfl ?_
        refine bs_iload C (bf_dk dd_X7_compare 63 rfl) rfl ?_
        refine bs_pureS_i (ps := []) (w := (bW7_1 S15)) C hR (c_X7_zerosFromHighest _ _ _ _ _ ((r9 ^^^ r11)) _ h) my_X7_zerosFromHighest m_7_95 rfl (Nat.le_of_ble_eq_true rfl) (Nat.le_of_ble_eq_true rfl) rfl rfl (st := [.int x5, .ref 2]) (Nat.le_of_ble_eq_true rfl) (bf_dk dd_X7_compare 64 rfl) rfl (fun _ => rfl) (fun r16 h => ?_)
        obtain ⟨hi, h⟩ := h
        refine bs_iast C (bf_dk dd_X7_compare 65 rfl) (ge_bW7_1_2 S15) hi (ar_bW7_1_2 S15 _) ?_
        refine bs_nameS bW7_1 (fun S18 eS18 => ?_)
        replace h := h S18 eS18
        exact bs_vret (u := S18) C (bf_dk dd_X7_compare 66 rfl) rfl h
def wp_X7_compare (S : bT7 × bT1) (a2 : Int64) (a4 : Int32) (a5 : Int32) (Q : (bT7 × bT1) → Prop) : Prop := (wp_X0_numberOf (b1g_owners S.2) (a2) (a4) (fun r19 => ((¬ r19 = (-1 : Int32) → (wp_X7_compare_25 S (a2) (a4) (a5) ((-1 : Int32)) Q)) ∧ (r19 = (-1 : Int32) → (wp_X1_beginningOf S.2 (a2) (a4) (fun r21 => (wp_X7_compare_25 S (a2) (a4) (a5) (r21) Q)))))))
set_option maxRecDepth 20000 in
theorem t_X7_compare {X : bf_X} (C : bf_C X RX7 cX7_compare 9 none) (hR : bf_Rm X 4 99) (S : bT7 × bT1) (a2 : Int64) (a4 : Int32) (a5 : Int32) (Q : (bT7 × bT1) → Prop) (h : wp_X7_compare S a2 a4 a5 Q) : bf_A X (bf_Zv X bW7_1 Q) 9 0 [some (.ref 0), some (.ref 3), some (.long a2), none, some (.int a4), some (.int a5), none, none, none] [] (bW7_1 S) := by
  unfold wp_X7_compare at h
  refine bs_aload_n C (bf_dk dd_X7_compare 0 rfl) rfl ?_
  refine bs_get C (bf_dk dd_X7_compare 1 rfl) cl_1 in_1 0 (Nat.le_of_ble_eq_true rfl) rfl f_7_58 (ge_bW7_1_3 S) rfl ?_
  refine bs_lload_n C (bf_dk dd_X7_compare 2 rfl) rfl ?_
  refine bs_iload C (bf_dk dd_X7_compare 3 rfl) rfl ?_
  refine bs_pureV_i (ps := [4, 5, 6]) (w := (bW7_1 S)) C hR (c_X0_numberOf _ _ _ _ _ (b1g_owners S.2) (a2) (a4) _ h) my_X0_numberOf m_7_64 rfl cl_0 (ge_bW0_0 _) rfl (Nat.le_of_ble_eq_true rfl) (Nat.le_of_ble_eq_true rfl) (su_bW7_1_4_bW0 S) rfl (st := []) (Nat.le_of_ble_eq_true rfl) (bf_dk dd_X7_compare 4 rfl) rfl (fun _ => rfl) (fun r19 h => ?_)
  refine bs_iconst C (bf_dk dd_X7_compare 5 rfl) (-1 : Int32) (by decide) ?_
  refine bs_icmp_ne C (bf_dk dd_X7_compare 6 rfl) (tgt := 24) rfl (fun c => ?_) (fun c => ?_)
  · replace h := h.1 c
    refine bs_iconst C (bf_dk dd_X7_compare 12 rfl) (-1 : Int32) (by decide) ?_
    exact bs_weak (bf_s1 (bf_s1 (bf_s1 (bf_sn (bf_s1 (bf_s1 (bf_sn (bf_sn (bf_sn bf_s0))))))))) (t_X7_compare_25 C hR S (a2) (a4) (a5) ((-1 : Int32)) Q h)
  · replace h := h.2 c
    refine bs_aload_n C (bf_dk dd_X7_compare 7 rfl) rfl ?_
    refine bs_lload_n C (bf_dk dd_X7_compare 8 rfl) rfl ?_
    refine bs_iload C (bf_dk dd_X7_compare 9 rfl) rfl ?_
    refine bs_pureV_i (ps := [3, 4, 5, 6, 7, 8, 9, 10, 11, 12, 13, 14, 15, 16]) (w := (bW7_1 S)) C hR (c_X1_beginningOf _ _ _ _ _ S.2 (a2) (a4) _ h) my_X1_beginningOf m_7_68 rfl cl_1 (ge_bW1_0 _) rfl (Nat.le_of_ble_eq_true rfl) (Nat.le_of_ble_eq_true rfl) (su_bW7_1_3_bW1 S) bnd_3t16 (st := []) (Nat.le_of_ble_eq_true rfl) (bf_dk dd_X7_compare 10 rfl) rfl (fun _ => rfl) (fun r21 h => ?_)
    refine bs_goto C (bf_dk dd_X7_compare 11 rfl) (tgt := 25) rfl ?_
    exact bs_weak (bf_s1 (bf_s1 (bf_s1 (bf_sn (bf_s1 (bf_s1 (bf_sn (bf_sn (bf_sn bf_s0))))))))) (t_X7_compare_25 C hR S (a2) (a4) (a5) (r21) Q h)
theorem c_X7_compare (l : Launch) (dC : Nat → ClassId) (dI : Nat → Nat → Nat) (ac : Nat → ClassId) (al : Nat → Nat) (S : bT7 × bT1) (a2 : Int64) (a4 : Int32) (a5 : Int32) (Q : (bT7 × bT1) → Prop) (h : wp_X7_compare S a2 a4 a5 Q) : bf_M l yX7_compare cX7_compare 9 none 4 99 dC dI ac al [.ref 0, .ref 3, .long a2, .int a4, .int a5] (bW7_1 S) (bf_Kv dC dI ac al bW7_1 Q) := by
  refine bf_start [some (.ref 0), some (.ref 3), some (.long a2), none, some (.int a4), some (.int a5), none, none, none] (by decide) (Nat.le_of_ble_eq_true rfl) (bf_s1 (bf_s1 (bf_s1 (bf_sn (bf_s1 (bf_s1 (bf_en 3))))))) ?_
  intro X hl C hR e1 e2 e3 e4
  subst e1; subst e2; subst e3; subst e4
  exact t_X7_compare C hR S a2 a4 a5 Q h
def wp_X7_falseBy_46 (S : bT7) (x1 : Int32) (x2 : Int32) (x4 : Int32) (t0 : Int32) (t1 : Int32) (Q : Int32 → Prop) (B5 : Int32 → Int32 → Int32 → Int32 → Prop) : Prop := (B5 (x1) (x2) ((t0 + t1)) ((x4 + (1 : Int32))))
set_option maxRecDepth 20000 in
theorem t_X7_falseBy_46 {X : bf_X} (C : bf_C X RX7 cX7_falseBy 5 (some .int)) (hR : bf_Rm X 1 21) (S : bT7) (x1 : Int32) (x2 : Int32) (x4 : Int32) (t0 : Int32) (t1 : Int32) (Q : Int32 → Prop) (B5 : Int32 → Int32 → Int32 → Int32 → Prop) (hB5 : ∀ (x1 : Int32) (x2 : Int32) (x3 : Int32) (x4 : Int32), B5 x1 x2 x3 x4 → bf_A X (bf_Zi X bW7 (fun r u => u = S ∧ Q r)) 5 5 [some (.ref 0), some (.int x1), some (.int x2), some (.int x3), some (.int x4)] [] (bW7 S)) (h : wp_X7_falseBy_46 S x1 x2 x4 t0 t1 Q B5) : bf_A X (bf_Zi X bW7 (fun r u => u = S ∧ Q r)) 5 46 [some (.ref 0), some (.int x1), some (.int x2), none, some (.int x4)] [.int t1, .int t0] (bW7 S) := by
  unfold wp_X7_falseBy_46 at h
  refine bs_iadd C (bf_dk dd_X7_falseBy 24 rfl) ?_
  refine bs_istore_n C (bf_dk dd_X7_falseBy 25 rfl) rfl (Nat.le_of_ble_eq_true rfl) (Nat.le_of_ble_eq_true rfl) (lv2 := [some (.ref 0), some (.int x1), some (.int x2), some (.int (t0 + t1)), some (.int x4)]) rfl ?_
  refine bs_iinc C (bf_dk dd_X7_falseBy 26 rfl) (x4 + (1 : Int32)) rfl rfl (Nat.le_of_ble_eq_true rfl) (Nat.le_of_ble_eq_true rfl) (lv2 := [some (.ref 0), some (.int x1), some (.int x2), some (.int (t0 + t1)), some (.int (x4 + (1 : Int32)))]) rfl ?_
  refine bs_goto C (bf_dk dd_X7_falseBy 27 rfl) (tgt := 5) rfl ?_
  exact bs_weak (bf_s1 (bf_s1 (bf_s1 (bf_s1 (bf_s1 bf_s0))))) (hB5 (x1) (x2) ((t0 + t1)) ((x4 + (1 : Int32))) h)
def wp_X7_falseBy_45 (S : bT7) (x1 : Int32) (x2 : Int32) (x4 : Int32) (t0 : Int32) (Q : Int32 → Prop) (B5 : Int32 → Int32 → Int32 → Int32 → Prop) : Prop := (wp_X7_falseBy_46 S (x1) (x2) (x4) (t0) ((0 : Int32)) Q B5)
set_option maxRecDepth 20000 in
theorem t_X7_falseBy_45 {X : bf_X} (C : bf_C X RX7 cX7_falseBy 5 (some .int)) (hR : bf_Rm X 1 21) (S : bT7) (x1 : Int32) (x2 : Int32) (x4 : Int32) (t0 : Int32) (Q : Int32 → Prop) (B5 : Int32 → Int32 → Int32 → Int32 → Prop) (hB5 : ∀ (x1 : Int32) (x2 : Int32) (x3 : Int32) (x4 : Int32), B5 x1 x2 x3 x4 → bf_A X (bf_Zi X bW7 (fun r u => u = S ∧ Q r)) 5 5 [some (.ref 0), some (.int x1), some (.int x2), some (.int x3), some (.int x4)] [] (bW7 S)) (h : wp_X7_falseBy_45 S x1 x2 x4 t0 Q B5) : bf_A X (bf_Zi X bW7 (fun r u => u = S ∧ Q r)) 5 45 [some (.ref 0), some (.int x1), some (.int x2), none, some (.int x4)] [.int t0] (bW7 S) := by
  unfold wp_X7_falseBy_45 at h
  refine bs_iconst C (bf_dk dd_X7_falseBy 23 rfl) (0 : Int32) (by decide) ?_
  exact bs_weak (bf_s1 (bf_s1 (bf_s1 (bf_sn (bf_s1 bf_s0))))) (t_X7_falseBy_46 C hR S (x1) (x2) (x4) (t0) ((0 : Int32)) Q B5 hB5 h)
def wp_X7_falseBy_5b (S : bT7) (x1 : Int32) (x2 : Int32) (x3 : Int32) (x4 : Int32) (Q : Int32 → Prop) (B5 : Int32 → Int32 → Int32 → Int32 → Prop) : Prop := (((b7g_count S) ≤ x4 → (Q x3)) ∧ (¬ (b7g_count S) ≤ x4 → (wp_X8_at 16 (b7g_likeHash S) (x4) (fun r1 => ((r1 < x1 → (wp_X7_falseBy_45 S (x1) (x2) (x4) (x3) Q B5)) ∧ (¬ r1 < x1 → (wp_X8_at 16 (b7g_likeNext S) (x4) (fun r3 => ((r3 < x2 → (wp_X7_falseBy_45 S (x1) (x2) (x4) (x3) Q B5)) ∧ (¬ r3 < x2 → (wp_X7_falseBy_46 S (x1) (x2) (x4) (x3) ((1 : Int32)) Q B5)))))))))))
set_option maxRecDepth 20000 in
theorem t_X7_falseBy_5b {X : bf_X} (C : bf_C X RX7 cX7_falseBy 5 (some .int)) (hR : bf_Rm X 1 21) (S : bT7) (x1 : Int32) (x2 : Int32) (x3 : Int32) (x4 : Int32) (Q : Int32 → Prop) (B5 : Int32 → Int32 → Int32 → Int32 → Prop) (hB5 : ∀ (x1 : Int32) (x2 : Int32) (x3 : Int32) (x4 : Int32), B5 x1 x2 x3 x4 → bf_A X (bf_Zi X bW7 (fun r u => u = S ∧ Q r)) 5 5 [some (.ref 0), some (.int x1), some (.int x2), some (.int x3), some (.int x4)] [] (bW7 S)) (h : wp_X7_falseBy_5b S x1 x2 x3 x4 Q B5) : bf_A X (bf_Zi X bW7 (fun r u => u = S ∧ Q r)) 5 5 [some (.ref 0), some (.int x1), some (.int x2), some (.int x3), some (.int x4)] [] (bW7 S) := by
  unfold wp_X7_falseBy_5b at h
  refine bs_iload C (bf_dk dd_X7_falseBy 4 rfl) rfl ?_
  refine bs_aload_n C (bf_dk dd_X7_falseBy 5 rfl) rfl ?_
  refine bs_get C (bf_dk dd_X7_falseBy 6 rfl) cl_7 in_7 2 (Nat.le_of_ble_eq_true rfl) rfl f_7_18 (ge_bW7_0 S) rfl ?_
  refine bs_icmp_ge C (bf_dk dd_X7_falseBy 7 rfl) (tgt := 54) rfl (fun c => ?_) (fun c => ?_)
  · replace h := h.1 c
    refine bs_iload_n C (bf_dk dd_X7_falseBy 28 rfl) rfl ?_
    exact bs_iret (u := S) C (bf_dk dd_X7_falseBy 29 rfl) rfl ⟨rfl, h⟩
  · replace h := h.2 c
    refine bs_iload_n C (bf_dk dd_X7_falseBy 8 rfl) rfl ?_
    refine bs_aload_n C (bf_dk dd_X7_falseBy 9 rfl) rfl ?_
    refine bs_get C (bf_dk dd_X7_falseBy 10 rfl) cl_7 in_7 0 (Nat.le_of_ble_eq_true rfl) rfl f_7_9 (ge_bW7_0 S) rfl ?_
    refine bs_iload C (bf_dk dd_X7_falseBy 11 rfl) rfl ?_
    refine bs_pureSN_i (ps := [1]) (w := (bW7 S)) C hR (c_X8_at _ _ _ _ _ 16 (b7g_likeHash S) (x4) _ h) my_X8_at m_7_81 rfl (Nat.le_of_ble_eq_true rfl) (Nat.le_of_ble_eq_true rfl) (su_bW7_1_bWan16 S) rfl (st := [.int x3]) (Nat.le_of_ble_eq_true rfl) (bf_dk dd_X7_falseBy 12 rfl) rfl (fun _ => rfl) (fun r1 h => ?_)
    refine bs_iload_n C (bf_dk dd_X7_falseBy 13 rfl) rfl ?_
    refine bs_icmp_lt C (bf_dk dd_X7_falseBy 14 rfl) (tgt := 45) rfl (fun c => ?_) (fun c => ?_)
    · replace h := h.1 c
      exact bs_weak (bf_s1 (bf_s1 (bf_s1 (bf_sn (bf_s1 bf_s0))))) (t_X7_falseBy_45 C hR S (x1) (x2) (x4) (x3) Q B5 hB5 h)
    · replace h := h.2 c
      refine bs_aload_n C (bf_dk dd_X7_falseBy 15 rfl) rfl ?_
      refine bs_get C (bf_dk dd_X7_falseBy 16 rfl) cl_7 in_7 1 (Nat.le_of_ble_eq_true rfl) rfl f_7_15 (ge_bW7_0 S) rfl ?_
      refine bs_iload C (bf_dk dd_X7_falseBy 17 rfl) rfl ?_
      refine bs_pureSN_i (ps := [2]) (w := (bW7 S)) C hR (c_X8_at _ _ _ _ _ 16 (b7g_likeNext S) (x4) _ h) my_X8_at m_7_81 rfl (Nat.le_of_ble_eq_true rfl) (Nat.le_of_ble_eq_true rfl) (su_bW7_2_bWan16 S) rfl (st := [.int x3]) (Nat.le_of_ble_eq_true rfl) (bf_dk dd_X7_falseBy 18 rfl) rfl (fun _ => rfl) (fun r3 h => ?_)
      refine bs_iload_n C (bf_dk dd_X7_falseBy 19 rfl) rfl ?_
      refine bs_icmp_lt C (bf_dk dd_X7_falseBy 20 rfl) (tgt := 45) rfl (fun c => ?_) (fun c => ?_)
      · replace h := h.1 c
        exact bs_weak (bf_s1 (bf_s1 (bf_s1 (bf_sn (bf_s1 bf_s0))))) (t_X7_falseBy_45 C hR S (x1) (x2) (x4) (x3) Q B5 hB5 h)
      · replace h := h.2 c
        refine bs_iconst C (bf_dk dd_X7_falseBy 21 rfl) (1 : Int32) (by decide) ?_
        refine bs_goto C (bf_dk dd_X7_falseBy 22 rfl) (tgt := 46) rfl ?_
        exact bs_weak (bf_s1 (bf_s1 (bf_s1 (bf_sn (bf_s1 bf_s0))))) (t_X7_falseBy_46 C hR S (x1) (x2) (x4) (x3) ((1 : Int32)) Q B5 hB5 h)
def wp_X7_falseBy_5 (S : bT7) (x1 : Int32) (x2 : Int32) (x3 : Int32) (x4 : Int32) (Q : Int32 → Prop) : Prop := ∃ I : Nat → Int32 → Int32 → Int32 → Int32 → Prop, (∃ n : Nat, I n x1 x2 x3 x4) ∧ ∀ (n : Nat) (x1 : Int32) (x2 : Int32) (x3 : Int32) (x4 : Int32), I n x1 x2 x3 x4 → wp_X7_falseBy_5b S x1 x2 x3 x4 Q (fun x1 x2 x3 x4 => ∃ n2 : Nat, n2 < n ∧ I n2 x1 x2 x3 x4)
theorem t_X7_falseBy_5 {X : bf_X} (C : bf_C X RX7 cX7_falseBy 5 (some .int)) (hR : bf_Rm X 1 21) (S : bT7) (x1 : Int32) (x2 : Int32) (x3 : Int32) (x4 : Int32) (Q : Int32 → Prop) (h : wp_X7_falseBy_5 S x1 x2 x3 x4 Q) : bf_A X (bf_Zi X bW7 (fun r u => u = S ∧ Q r)) 5 5 [some (.ref 0), some (.int x1), some (.int x2), some (.int x3), some (.int x4)] [] (bW7 S) := by
  obtain ⟨I, ⟨n0, h0⟩, hI⟩ := h
  have key : ∀ (n : Nat) (x1 : Int32) (x2 : Int32) (x3 : Int32) (x4 : Int32), I n x1 x2 x3 x4 → bf_A X (bf_Zi X bW7 (fun r u => u = S ∧ Q r)) 5 5 [some (.ref 0), some (.int x1), some (.int x2), some (.int x3), some (.int x4)] [] (bW7 S) := by
    intro n
    induction n using Nat.strongRecOn with
    | _ n ih =>
      intro x1 x2 x3 x4 hi
      exact t_X7_falseBy_5b C hR S x1 x2 x3 x4 Q _ (fun x1 x2 x3 x4 hb => by obtain ⟨n2, hn, hi2⟩ := hb; exact ih n2 hn x1 x2 x3 x4 hi2) (hI n x1 x2 x3 x4 hi)
  exact key n0 x1 x2 x3 x4 h0
def wp_X7_falseBy (S : bT7) (a1 : Int32) (a2 : Int32) (Q : Int32 → Prop) : Prop := (wp_X7_falseBy_5 S (a1) (a2) ((0 : Int32)) ((0 : Int32)) Q)
set_option maxRecDepth 20000 in
theorem t_X7_falseBy {X : bf_X} (C : bf_C X RX7 cX7_falseBy 5 (some .int)) (hR : bf_Rm X 1 21) (S : bT7) (a1 : Int32) (a2 : Int32) (Q : Int32 → Prop) (h : wp_X7_falseBy S a1 a2 Q) : bf_A X (bf_Zi X bW7 (fun r u => u = S ∧ Q r)) 5 0 [some (.ref 0), some (.int a1), some (.int a2), none, none] [] (bW7 S) := by
  unfold wp_X7_falseBy at h
  refine bs_iconst C (bf_dk dd_X7_falseBy 0 rfl) (0 : Int32) (by decide) ?_
  refine bs_istore_n C (bf_dk dd_X7_falseBy 1 rfl) rfl (Nat.le_of_ble_eq_true rfl) (Nat.le_of_ble_eq_true rfl) (lv2 := [some (.ref 0), some (.int a1), some (.int a2), some (.int (0 : Int32)), none]) rfl ?_
  refine bs_iconst C (bf_dk dd_X7_falseBy 2 rfl) (0 : Int32) (by decide) ?_
  refine bs_istore C (bf_dk dd_X7_falseBy 3 rfl) (Nat.le_of_ble_eq_true rfl) (Nat.le_of_ble_eq_true rfl) (lv2 := [some (.ref 0), some (.int a1), some (.int a2), some (.int (0 : Int32)), some (.int (0 : Int32))]) rfl ?_
  exact bs_weak (bf_s1 (bf_s1 (bf_s1 (bf_s1 (bf_s1 bf_s0))))) (t_X7_falseBy_5 C hR S (a1) (a2) ((0 : Int32)) ((0 : Int32)) Q h)
theorem c_X7_falseBy (l : Launch) (dC : Nat → ClassId) (dI : Nat → Nat → Nat) (ac : Nat → ClassId) (al : Nat → Nat) (S : bT7) (a1 : Int32) (a2 : Int32) (Q : Int32 → Prop) (h : wp_X7_falseBy S a1 a2 Q) : bf_M l yX7_falseBy cX7_falseBy 5 (some .int) 1 21 dC dI ac al [.ref 0, .int a1, .int a2] (bW7 S) (bf_Ki dC dI ac al bW7 (fun r u => u = S ∧ Q r)) := by
  refine bf_start [some (.ref 0), some (.int a1), some (.int a2), none, none] (by decide) (Nat.le_of_ble_eq_true rfl) (bf_s1 (bf_s1 (bf_s1 (bf_en 2)))) ?_
  intro X hl C hR e1 e2 e3 e4
  subst e1; subst e2; subst e3; subst e4
  exact t_X7_falseBy C hR S a1 a2 Q h
def wp_X7_tune_145 (S : bT7 × bT1 × bT0) (x3 : Int32) (x4 : Int32) (x5 : Int32) (Q : (bT7 × bT1 × bT0) → Prop) (B73 : Int32 → Int32 → (bT7 × bT1 × bT0) → Prop) (B90 : Int32 → Int32 → Int32 → (bT7 × bT1 × bT0) → Prop) : Prop := (B90 (x3) (x4) ((x5 + (1 : Int32))) S)
set_option maxRecDepth 20000 in
theorem t_X7_tune_145 {X : bf_X} (C : bf_C X RX7 cX7_tune 7 none) (hR : bf_Rm X 5 127) (S : bT7 × bT1 × bT0) (x3 : Int32) (x4 : Int32) (x5 : Int32) (Q : (bT7 × bT1 × bT0) → Prop) (B73 : Int32 → Int32 → (bT7 × bT1 × bT0) → Prop) (B90 : Int32 → Int32 → Int32 → (bT7 × bT1 × bT0) → Prop) (hB73 : ∀ (x3 : Int32) (x4 : Int32) (S : bT7 × bT1 × bT0), B73 x3 x4 S → bf_A X (bf_Zv X bW7_1_0 Q) 7 73 [some (.ref 0), none, none, some (.int x3), some (.int x4), none, none] [] (bW7_1_0 S)) (hB90 : ∀ (x3 : Int32) (x4 : Int32) (x5 : Int32) (S : bT7 × bT1 × bT0), B90 x3 x4 x5 S → bf_A X (bf_Zv X bW7_1_0 Q) 7 90 [some (.ref 0), none, none, some (.int x3), some (.int x4), some (.int x5), none] [] (bW7_1_0 S)) (h : wp_X7_tune_145 S x3 x4 x5 Q B73 B90) : bf_A X (bf_Zv X bW7_1_0 Q) 7 145 [some (.ref 0), none, none, some (.int x3), some (.int x4), some (.int x5), none] [] (bW7_1_0 S) := by
  unfold wp_X7_tune_145 at h
  refine bs_iinc C (bf_dk dd_X7_tune 74 rfl) (x5 + (1 : Int32)) rfl rfl (Nat.le_of_ble_eq_true rfl) (Nat.le_of_ble_eq_true rfl) (lv2 := [some (.ref 0), none, none, some (.int x3), some (.int x4), some (.int (x5 + (1 : Int32))), none]) rfl ?_
  refine bs_goto C (bf_dk dd_X7_tune 75 rfl) (tgt := 90) rfl ?_
  exact bs_weak (bf_s1 (bf_sn (bf_sn (bf_s1 (bf_s1 (bf_s1 (bf_sn bf_s0))))))) (hB90 (x3) (x4) ((x5 + (1 : Int32))) S h)
def wp_X7_tune_90b (S : bT7 × bT1 × bT0) (x3 : Int32) (x4 : Int32) (x5 : Int32) (Q : (bT7 × bT1 × bT0) → Prop) (B73 : Int32 → Int32 → (bT7 × bT1 × bT0) → Prop) (B90 : Int32 → Int32 → Int32 → (bT7 × bT1 × bT0) → Prop) : Prop := (((if (8 : Int32) < x4 then (8 : Int32) else x4) < x5 → (B73 (x3) ((x4 + (1 : Int32))) S)) ∧ (¬ (if (8 : Int32) < x4 then (8 : Int32) else x4) < x5 → (wp_X7_falseBy S.1 (x5) ((x4 - x5)) (fun r1 => (((b7g_falsely S.1) ≤ r1 → (wp_X7_tune_145 S (x3) (x4) (x5) Q B73 B90)) ∧ (¬ (b7g_falsely S.1) ≤ r1 → (∀ S3 : bT7 × bT1 × bT0, S3 = ((b7s_falsely S.1 r1), S.2) → (∀ S4 : bT7 × bT1 × bT0, S4 = ((b7s_hashBits S3.1 x5), S3.2) → (∀ S5 : bT7 × bT1 × bT0, S5 = ((b7s_realBits S4.1 (x4 - x5)), S4.2) → (wp_X7_tune_145 S5 (x3) (x4) (x5) Q B73 B90))))))))))
set_option maxRecDepth 20000 in
theorem t_X7_tune_90b {X : bf_X} (C : bf_C X RX7 cX7_tune 7 none) (hR : bf_Rm X 5 127) (S : bT7 × bT1 × bT0) (x3 : Int32) (x4 : Int32) (x5 : Int32) (Q : (bT7 × bT1 × bT0) → Prop) (B73 : Int32 → Int32 → (bT7 × bT1 × bT0) → Prop) (B90 : Int32 → Int32 → Int32 → (bT7 × bT1 × bT0) → Prop) (hB73 : ∀ (x3 : Int32) (x4 : Int32) (S : bT7 × bT1 × bT0), B73 x3 x4 S → bf_A X (bf_Zv X bW7_1_0 Q) 7 73 [some (.ref 0), none, none, some (.int x3), some (.int x4), none, none] [] (bW7_1_0 S)) (hB90 : ∀ (x3 : Int32) (x4 : Int32) (x5 : Int32) (S : bT7 × bT1 × bT0), B90 x3 x4 x5 S → bf_A X (bf_Zv X bW7_1_0 Q) 7 90 [some (.ref 0), none, none, some (.int x3), some (.int x4), some (.int x5), none] [] (bW7_1_0 S)) (h : wp_X7_tune_90b S x3 x4 x5 Q B73 B90) : bf_A X (bf_Zv X bW7_1_0 Q) 7 90 [some (.ref 0), none, none, some (.int x3), some (.int x4), some (.int x5), none] [] (bW7_1_0 S) := by
  unfold wp_X7_tune_90b at h
  refine bs_iload C (bf_dk dd_X7_tune 47 rfl) rfl ?_
  refine bs_iload C (bf_dk dd_X7_tune 48 rfl) rfl ?_
  refine bs_bipush C (bf_dk dd_X7_tune 49 rfl) (8 : Int32) (by decide) ?_
  refine bs_mmin C hR m_7_34 ma_min.1 ma_min.2.1 ma_min.2.2 (Nat.le_of_ble_eq_true rfl) (Nat.le_of_ble_eq_true rfl) (bf_dk dd_X7_tune 50 rfl) ?_
  refine bs_icmp_gt C (bf_dk dd_X7_tune 51 rfl) (tgt := 151) rfl (fun c => ?_) (fun c => ?_)
  · replace h := h.1 c
    refine bs_iinc C (bf_dk dd_X7_tune 76 rfl) (x4 + (1 : Int32)) rfl rfl (Nat.le_of_ble_eq_true rfl) (Nat.le_of_ble_eq_true rfl) (lv2 := [some (.ref 0), none, none, some (.int x3), some (.int (x4 + (1 : Int32))), some (.int x5), none]) rfl ?_
    refine bs_goto C (bf_dk dd_X7_tune 77 rfl) (tgt := 73) rfl ?_
    exact bs_weak (bf_s1 (bf_sn (bf_sn (bf_s1 (bf_s1 (bf_sn (bf_sn bf_s0))))))) (hB73 (x3) ((x4 + (1 : Int32))) S h)
  · replace h := h.2 c
    refine bs_aload_n C (bf_dk dd_X7_tune 52 rfl) rfl ?_
    refine bs_iload C (bf_dk dd_X7_tune 53 rfl) rfl ?_
    refine bs_iload C (bf_dk dd_X7_tune 54 rfl) rfl ?_
    refine bs_iload C (bf_dk dd_X7_tune 55 rfl) rfl ?_
    refine bs_isub C (bf_dk dd_X7_tune 56 rfl) ?_
    refine bs_pureV_i (ps := [0, 1, 2]) (w := (bW7_1_0 S)) C hR (c_X7_falseBy _ _ _ _ _ S.1 (x5) ((x4 - x5)) _ h) my_X7_falseBy m_7_52 rfl cl_7 (ge_bW7_0 _) rfl (Nat.le_of_ble_eq_true rfl) (Nat.le_of_ble_eq_true rfl) (su_bW7_1_0_0_bW7 S) rfl (st := []) (Nat.le_of_ble_eq_true rfl) (bf_dk dd_X7_tune 57 rfl) rfl (fun _ => rfl) (fun r1 h => ?_)
    refine bs_istore C (bf_dk dd_X7_tune 58 rfl) (Nat.le_of_ble_eq_true rfl) (Nat.le_of_ble_eq_true rfl) (lv2 := [some (.ref 0), none, none, some (.int x3), some (.int x4), some (.int x5), some (.int r1)]) rfl ?_
    refine bs_iload C (bf_dk dd_X7_tune 59 rfl) rfl ?_
    refine bs_aload_n C (bf_dk dd_X7_tune 60 rfl) rfl ?_
    refine bs_get C (bf_dk dd_X7_tune 61 rfl) cl_7 in_7 5 (Nat.le_of_ble_eq_true rfl) rfl f_7_28 (ge_bW7_1_0_0 S) rfl ?_
    refine bs_icmp_ge C (bf_dk dd_X7_tune 62 rfl) (tgt := 145) rfl (fun c => ?_) (fun c => ?_)
    · replace h := h.1 c
      exact bs_weak (bf_s1 (bf_sn (bf_sn (bf_s1 (bf_s1 (bf_s1 (bf_sn bf_s0))))))) (t_X7_tune_145 C hR S (x3) (x4) (x5) Q B73 B90 hB73 hB90 h)
    · replace h := h.2 c
      refine bs_aload_n C (bf_dk dd_X7_tune 63 rfl) rfl ?_
      refine bs_iload C (bf_dk dd_X7_tune 64 rfl) rfl ?_
      refine bs_put C (bf_dk dd_X7_tune 65 rfl) tyX7_ok nmX7 cl_7 in_7 5 (Nat.le_of_ble_eq_true rfl) rfl f_7_28 rfl (ge_bW7_1_0_0 S) (Nat.le_of_ble_eq_true rfl) rfl rfl (pu_bW7_1_0_0_5 S r1) ?_
      refine bs_nameS bW7_1_0 (fun S3 eS3 => ?_)
      replace h := h S3 eS3
      refine bs_aload_n C (bf_dk dd_X7_tune 66 rfl) rfl ?_
      refine bs_iload C (bf_dk dd_X7_tune 67 rfl) rfl ?_
      refine bs_put C (bf_dk dd_X7_tune 68 rfl) tyX7_ok nmX7 cl_7 in_7 3 (Nat.le_of_ble_eq_true rfl) rfl f_7_22 rfl (ge_bW7_1_0_0 S3) (Nat.le_of_ble_eq_true rfl) rfl rfl (pu_bW7_1_0_0_3 S3 x5) ?_
      refine bs_nameS bW7_1_0 (fun S4 eS4 => ?_)
      replace h := h S4 eS4
      refine bs_aload_n C (bf_dk dd_X7_tune 69 rfl) rfl ?_
      refine bs_iload C (bf_dk dd_X7_tune 70 rfl) rfl ?_
      refine bs_iload C (bf_dk dd_X7_tune 71 rfl) rfl ?_
      refine bs_isub C (bf_dk dd_X7_tune 72 rfl) ?_
      refine bs_put C (bf_dk dd_X7_tune 73 rfl) tyX7_ok nmX7 cl_7 in_7 4 (Nat.le_of_ble_eq_true rfl) rfl f_7_25 rfl (ge_bW7_1_0_0 S4) (Nat.le_of_ble_eq_true rfl) rfl rfl (pu_bW7_1_0_0_4 S4 (x4 - x5)) ?_
      refine bs_nameS bW7_1_0 (fun S5 eS5 => ?_)
      replace h := h S5 eS5
      exact bs_weak (bf_s1 (bf_sn (bf_sn (bf_s1 (bf_s1 (bf_s1 (bf_sn bf_s0))))))) (t_X7_tune_145 C hR S5 (x3) (x4) (x5) Q B73 B90 hB73 hB90 h)
def wp_X7_tune_90 (S : bT7 × bT1 × bT0) (x3 : Int32) (x4 : Int32) (x5 : Int32) (Q : (bT7 × bT1 × bT0) → Prop) (B73 : Int32 → Int32 → (bT7 × bT1 × bT0) → Prop) : Prop := ∃ I : Nat → Int32 → Int32 → Int32 → (bT7 × bT1 × bT0) → Prop, (∃ n : Nat, I n x3 x4 x5 S) ∧ ∀ (n : Nat) (x3 : Int32) (x4 : Int32) (x5 : Int32) (S : bT7 × bT1 × bT0), I n x3 x4 x5 S → wp_X7_tune_90b S x3 x4 x5 Q B73 (fun x3 x4 x5 S => ∃ n2 : Nat, n2 < n ∧ I n2 x3 x4 x5 S)
theorem t_X7_tune_90 {X : bf_X} (C : bf_C X RX7 cX7_tune 7 none) (hR : bf_Rm X 5 127) (S : bT7 × bT1 × bT0) (x3 : Int32) (x4 : Int32) (x5 : Int32) (Q : (bT7 × bT1 × bT0) → Prop) (B73 : Int32 → Int32 → (bT7 × bT1 × bT0) → Prop) (hB73 : ∀ (x3 : Int32) (x4 : Int32) (S : bT7 × bT1 × bT0), B73 x3 x4 S → bf_A X (bf_Zv X bW7_1_0 Q) 7 73 [some (.ref 0), none, none, some (.int x3), some (.int x4), none, none] [] (bW7_1_0 S)) (h : wp_X7_tune_90 S x3 x4 x5 Q B73) : bf_A X (bf_Zv X bW7_1_0 Q) 7 90 [some (.ref 0), none, none, some (.int x3), some (.int x4), some (.int x5), none] [] (bW7_1_0 S) := by
  obtain ⟨I, ⟨n0, h0⟩, hI⟩ := h
  have key : ∀ (n : Nat) (x3 : Int32) (x4 : Int32) (x5 : Int32) (S : bT7 × bT1 × bT0), I n x3 x4 x5 S → bf_A X (bf_Zv X bW7_1_0 Q) 7 90 [some (.ref 0), none, none, some (.int x3), some (.int x4), some (.int x5), none] [] (bW7_1_0 S) := by
    intro n
    induction n using Nat.strongRecOn with
    | _ n ih =>
      intro x3 x4 x5 S hi
      exact t_X7_tune_90b C hR S x3 x4 x5 Q B73 _ hB73 (fun x3 x4 x5 S hb => by obtain ⟨n2, hn, hi2⟩ := hb; exact ih n2 hn x3 x4 x5 S hi2) (hI n x3 x4 x5 S hi)
  exact key n0 x3 x4 x5 S h0
def wp_X7_tune_73b (S : bT7 × bT1 × bT0) (x3 : Int32) (x4 : Int32) (Q : (bT7 × bT1 × bT0) → Prop) (B73 : Int32 → Int32 → (bT7 × bT1 × bT0) → Prop) : Prop := ((x3 < x4 → (Q S)) ∧ (¬ x3 < x4 → (∀ v6 : Int32, v6 = (if (x4 - (8 : Int32)) < (0 : Int32) then (0 : Int32) else (x4 - (8 : Int32))) → (wp_X7_tune_90 S (x3) (x4) (v6) Q B73))))
set_option maxRecDepth 20000 in
theorem t_X7_tune_73b {X : bf_X} (C : bf_C X RX7 cX7_tune 7 none) (hR : bf_Rm X 5 127) (S : bT7 × bT1 × bT0) (x3 : Int32) (x4 : Int32) (Q : (bT7 × bT1 × bT0) → Prop) (B73 : Int32 → Int32 → (bT7 × bT1 × bT0) → Prop) (hB73 : ∀ (x3 : Int32) (x4 : Int32) (S : bT7 × bT1 × bT0), B73 x3 x4 S → bf_A X (bf_Zv X bW7_1_0 Q) 7 73 [some (.ref 0), none, none, some (.int x3), some (.int x4), none, none] [] (bW7_1_0 S)) (h : wp_X7_tune_73b S x3 x4 Q B73) : bf_A X (bf_Zv X bW7_1_0 Q) 7 73 [some (.ref 0), none, none, some (.int x3), some (.int x4), none, none] [] (bW7_1_0 S) := by
  unfold wp_X7_tune_73b at h
  refine bs_iload C (bf_dk dd_X7_tune 38 rfl) rfl ?_
  refine bs_iload_n C (bf_dk dd_X7_tune 39 rfl) rfl ?_
  refine bs_icmp_gt C (bf_dk dd_X7_tune 40 rfl) (tgt := 157) rfl (fun c => ?_) (fun c => ?_)
  · replace h := h.1 c
    exact bs_vret (u := S) C (bf_dk dd_X7_tune 78 rfl) rfl h
  · replace h := h.2 c
    refine bs_iload C (bf_dk dd_X7_tune 41 rfl) rfl ?_
    refine bs_bipush C (bf_dk dd_X7_tune 42 rfl) (8 : Int32) (by decide) ?_
    refine bs_isub C (bf_dk dd_X7_tune 43 rfl) ?_
    refine bs_iconst C (bf_dk dd_X7_tune 44 rfl) (0 : Int32) (by decide) ?_
    refine bs_mmax C hR m_7_55 ma_max.1 ma_max.2.1 ma_max.2.2 (Nat.le_of_ble_eq_true rfl) (Nat.le_of_ble_eq_true rfl) (bf_dk dd_X7_tune 45 rfl) ?_
    refine bs_name (fun v6 ev6 => ?_)
    replace h := h v6 ev6
    refine bs_istore C (bf_dk dd_X7_tune 46 rfl) (Nat.le_of_ble_eq_true rfl) (Nat.le_of_ble_eq_true rfl) (lv2 := [some (.ref 0), none, none, some (.int x3), some (.int x4), some (.int v6), none]) rfl ?_
    exact bs_weak (bf_s1 (bf_sn (bf_sn (bf_s1 (bf_s1 (bf_s1 (bf_sn bf_s0))))))) (t_X7_tune_90 C hR S (x3) (x4) (v6) Q B73 hB73 h)
def wp_X7_tune_73 (S : bT7 × bT1 × bT0) (x3 : Int32) (x4 : Int32) (Q : (bT7 × bT1 × bT0) → Prop) : Prop := ∃ I : Nat → Int32 → Int32 → (bT7 × bT1 × bT0) → Prop, (∃ n : Nat, I n x3 x4 S) ∧ ∀ (n : Nat) (x3 : Int32) (x4 : Int32) (S : bT7 × bT1 × bT0), I n x3 x4 S → wp_X7_tune_73b S x3 x4 Q (fun x3 x4 S => ∃ n2 : Nat, n2 < n ∧ I n2 x3 x4 S)
theorem t_X7_tune_73 {X : bf_X} (C : bf_C X RX7 cX7_tune 7 none) (hR : bf_Rm X 5 127) (S : bT7 × bT1 × bT0) (x3 : Int32) (x4 : Int32) (Q : (bT7 × bT1 × bT0) → Prop) (h : wp_X7_tune_73 S x3 x4 Q) : bf_A X (bf_Zv X bW7_1_0 Q) 7 73 [some (.ref 0), none, none, some (.int x3), some (.int x4), none, none] [] (bW7_1_0 S) := by
  obtain ⟨I, ⟨n0, h0⟩, hI⟩ := h
  have key : ∀ (n : Nat) (x3 : Int32) (x4 : Int32) (S : bT7 × bT1 × bT0), I n x3 x4 S → bf_A X (bf_Zv X bW7_1_0 Q) 7 73 [some (.ref 0), none, none, some (.int x3), some (.int x4), none, none] [] (bW7_1_0 S) := by
    intro n
    induction n using Nat.strongRecOn with
    | _ n ih =>
      intro x3 x4 S hi
      exact t_X7_tune_73b C hR S x3 x4 Q _ (fun x3 x4 S hb => by obtain ⟨n2, hn, hi2⟩ := hb; exact ih n2 hn x3 x4 S hi2) (hI n x3 x4 S hi)
  exact key n0 x3 x4 S h0
def wp_X7_tune_16b (S : bT7 × bT1 × bT0) (x3 : Int32) (x4 : Int32) (Q : (bT7 × bT1 × bT0) → Prop) (B16 : Int32 → Int32 → (bT7 × bT1 × bT0) → Prop) : Prop := (((b7g_count S.1) ≤ x4 → (∀ S7 : bT7 × bT1 × bT0, S7 = ((b7s_hashBits S.1 (0 : Int32)), S.2) → (∀ S8 : bT7 × bT1 × bT0, S8 = ((b7s_realBits S7.1 (0 : Int32)), S7.2) → (wp_X7_falseBy S8.1 ((0 : Int32)) ((0 : Int32)) (fun r9 => (∀ S11 : bT7 × bT1 × bT0, S11 = ((b7s_falsely S8.1 r9), S8.2) → (wp_X7_tune_73 S11 (x3) ((1 : Int32)) Q))))))) ∧ (¬ (b7g_count S.1) ≤ x4 → (wp_X0_bytesAt S.2.2 (x4) (fun r12 => (wp_X0_lengthAt S.2.2 (x4) (fun r14 => (wp_X7_compare (S.1, S.2.1) (r12) (r14) (x4) (fun u17 => (∀ S18 : bT7 × bT1 × bT0, S18 = ((u17.1, S.2).1, u17.2, (u17.1, S.2).2.2) → (B16 (x3) ((x4 + (1 : Int32))) S18))))))))))
set_option maxRecDepth 20000 in
theorem t_X7_tune_16b {X : bf_X} (C : bf_C X RX7 cX7_tune 7 none) (hR : bf_Rm X 5 127) (S : bT7 × bT1 × bT0) (x3 : Int32) (x4 : Int32) (Q : (bT7 × bT1 × bT0) → Prop) (B16 : Int32 → Int32 → (bT7 × bT1 × bT0) → Prop) (hB16 : ∀ (x3 : Int32) (x4 : Int32) (S : bT7 × bT1 × bT0), B16 x3 x4 S → bf_A X (bf_Zv X bW7_1_0 Q) 7 16 [some (.ref 0), some (.ref 3), some (.ref 17), some (.int x3), some (.int x4), none, none] [] (bW7_1_0 S)) (h : wp_X7_tune_16b S x3 x4 Q B16) : bf_A X (bf_Zv X bW7_1_0 Q) 7 16 [some (.ref 0), some (.ref 3), some (.ref 17), some (.int x3), some (.int x4), none, none] [] (bW7_1_0 S) := by
  unfold wp_X7_tune_16b at h
  refine bs_iload C (bf_dk dd_X7_tune 8 rfl) rfl ?_
  refine bs_aload_n C (bf_dk dd_X7_tune 9 rfl) rfl ?_
  refine bs_get C (bf_dk dd_X7_tune 10 rfl) cl_7 in_7 2 (Nat.le_of_ble_eq_true rfl) rfl f_7_18 (ge_bW7_1_0_0 S) rfl ?_
  refine bs_icmp_ge C (bf_dk dd_X7_tune 11 rfl) (tgt := 50) rfl (fun c => ?_) (fun c => ?_)
  · replace h := h.1 c
    refine bs_aload_n C (bf_dk dd_X7_tune 24 rfl) rfl ?_
    refine bs_iconst C (bf_dk dd_X7_tune 25 rfl) (0 : Int32) (by decide) ?_
    refine bs_put C (bf_dk dd_X7_tune 26 rfl) tyX7_ok nmX7 cl_7 in_7 3 (Nat.le_of_ble_eq_true rfl) rfl f_7_22 rfl (ge_bW7_1_0_0 S) (Nat.le_of_ble_eq_true rfl) rfl rfl (pu_bW7_1_0_0_3 S (0 : Int32)) ?_
    refine bs_nameS bW7_1_0 (fun S7 eS7 => ?_)
    replace h := h S7 eS7
    refine bs_aload_n C (bf_dk dd_X7_tune 27 rfl) rfl ?_
    refine bs_iconst C (bf_dk dd_X7_tune 28 rfl) (0 : Int32) (by decide) ?_
    refine bs_put C (bf_dk dd_X7_tune 29 rfl) tyX7_ok nmX7 cl_7 in_7 4 (Nat.le_of_ble_eq_true rfl) rfl f_7_25 rfl (ge_bW7_1_0_0 S7) (Nat.le_of_ble_eq_true rfl) rfl rfl (pu_bW7_1_0_0_4 S7 (0 : Int32)) ?_
    refine bs_nameS bW7_1_0 (fun S8 eS8 => ?_)
    replace h := h S8 eS8
    refine bs_aload_n C (bf_dk dd_X7_tune 30 rfl) rfl ?_
    refine bs_aload_n C (bf_dk dd_X7_tune 31 rfl) rfl ?_
    refine bs_iconst C (bf_dk dd_X7_tune 32 rfl) (0 : Int32) (by decide) ?_
    refine bs_iconst C (bf_dk dd_X7_tune 33 rfl) (0 : Int32) (by decide) ?_
    refine bs_pureV_i (ps := [0, 1, 2]) (w := (bW7_1_0 S8)) C hR (c_X7_falseBy _ _ _ _ _ S8.1 ((0 : Int32)) ((0 : Int32)) _ h) my_X7_falseBy m_7_52 rfl cl_7 (ge_bW7_0 _) rfl (Nat.le_of_ble_eq_true rfl) (Nat.le_of_ble_eq_true rfl) (su_bW7_1_0_0_bW7 S8) rfl (st := [.ref 0]) (Nat.le_of_ble_eq_true rfl) (bf_dk dd_X7_tune 34 rfl) rfl (fun _ => rfl) (fun r9 h => ?_)
    refine bs_put C (bf_dk dd_X7_tune 35 rfl) tyX7_ok nmX7 cl_7 in_7 5 (Nat.le_of_ble_eq_true rfl) rfl f_7_28 rfl (ge_bW7_1_0_0 S8) (Nat.le_of_ble_eq_true rfl) rfl rfl (pu_bW7_1_0_0_5 S8 r9) ?_
    refine bs_nameS bW7_1_0 (fun S11 eS11 => ?_)
    replace h := h S11 eS11
    refine bs_iconst C (bf_dk dd_X7_tune 36 rfl) (1 : Int32) (by decide) ?_
    refine bs_istore C (bf_dk dd_X7_tune 37 rfl) (Nat.le_of_ble_eq_true rfl) (Nat.le_of_ble_eq_true rfl) (lv2 := [some (.ref 0), some (.ref 3), some (.ref 17), some (.int x3), some (.int (1 : Int32)), none, none]) rfl ?_
    exact bs_weak (bf_s1 (bf_sn (bf_sn (bf_s1 (bf_s1 (bf_sn (bf_sn bf_s0))))))) (t_X7_tune_73 C hR S11 (x3) ((1 : Int32)) Q h)
  · replace h := h.2 c
    refine bs_aload_n C (bf_dk dd_X7_tune 12 rfl) rfl ?_
    refine bs_aload_n C (bf_dk dd_X7_tune 13 rfl) rfl ?_
    refine bs_aload_n C (bf_dk dd_X7_tune 14 rfl) rfl ?_
    refine bs_iload C (bf_dk dd_X7_tune 15 rfl) rfl ?_
    refine bs_pureV_l (ps := [17, 18, 19]) (w := (bW7_1_0 S)) C hR (c_X0_bytesAt _ _ _ _ _ S.2.2 (x4) _ h) my_X0_bytesAt m_7_40 rfl cl_0 (ge_bW0_0 _) rfl (Nat.le_of_ble_eq_true rfl) (Nat.le_of_ble_eq_true rfl) (su_bW7_1_0_17_bW0 S) rfl (st := [.ref 3, .ref 0]) (Nat.le_of_ble_eq_true rfl) (bf_dk dd_X7_tune 16 rfl) rfl (fun _ => rfl) (fun r12 h => ?_)
    refine bs_aload_n C (bf_dk dd_X7_tune 17 rfl) rfl ?_
    refine bs_iload C (bf_dk dd_X7_tune 18 rfl) rfl ?_
    refine bs_pureV_i (ps := [17, 18, 19]) (w := (bW7_1_0 S)) C hR (c_X0_lengthAt _ _ _ _ _ S.2.2 (x4) _ h) my_X0_lengthAt m_7_44 rfl cl_0 (ge_bW0_0 _) rfl (Nat.le_of_ble_eq_true rfl) (Nat.le_of_ble_eq_true rfl) (su_bW7_1_0_17_bW0 S) rfl (st := [.long r12, .ref 3, .ref 0]) (Nat.le_of_ble_eq_true rfl) (bf_dk dd_X7_tune 19 rfl) rfl (fun _ => rfl) (fun r14 h => ?_)
    refine bs_iload C (bf_dk dd_X7_tune 20 rfl) rfl ?_
    refine bs_callV_v (ps := [0, 1, 2, 3, 4, 5, 6, 7, 8, 9, 10, 11, 12, 13, 14, 15, 16]) (w := (bW7_1_0 S)) C hR (c_X7_compare _ _ _ _ _ (S.1, S.2.1) (r12) (r14) (x4) _ h) my_X7_compare m_7_48 rfl cl_7 (ge_bW7_1_0 _) rfl (Nat.le_of_ble_eq_true rfl) (Nat.le_of_ble_eq_true rfl) (su_bW7_1_0_0_3_bW7_1 S) bnd_0t16 (st := []) (Nat.le_of_ble_eq_true rfl) (bf_dk dd_X7_tune 21 rfl) rfl (fun _ => rfl) (w2 := fun u17 => bW7_1_0 ((u17.1, S.2).1, u17.2, (u17.1, S.2).2.2)) (pt_bW7_1_0_0_3_bW7_1 S) (fun u17 h => ?_)
    refine bs_nameS bW7_1_0 (fun S18 eS18 => ?_)
    replace h := h S18 eS18
    refine bs_iinc C (bf_dk dd_X7_tune 22 rfl) (x4 + (1 : Int32)) rfl rfl (Nat.le_of_ble_eq_true rfl) (Nat.le_of_ble_eq_true rfl) (lv2 := [some (.ref 0), some (.ref 3), some (.ref 17), some (.int x3), some (.int (x4 + (1 : Int32))), none, none]) rfl ?_
    refine bs_goto C (bf_dk dd_X7_tune 23 rfl) (tgt := 16) rfl ?_
    exact bs_weak (bf_s1 (bf_s1 (bf_s1 (bf_s1 (bf_s1 (bf_sn (bf_sn bf_s0))))))) (hB16 (x3) ((x4 + (1 : Int32))) S18 h)
def wp_X7_tune_16 (S : bT7 × bT1 × bT0) (x3 : Int32) (x4 : Int32) (Q : (bT7 × bT1 × bT0) → Prop) : Prop := ∃ I : Nat → Int32 → Int32 → (bT7 × bT1 × bT0) → Prop, (∃ n : Nat, I n x3 x4 S) ∧ ∀ (n : Nat) (x3 : Int32) (x4 : Int32) (S : bT7 × bT1 × bT0), I n x3 x4 S → wp_X7_tune_16b S x3 x4 Q (fun x3 x4 S => ∃ n2 : Nat, n2 < n ∧ I n2 x3 x4 S)
theorem t_X7_tune_16 {X : bf_X} (C : bf_C X RX7 cX7_tune 7 none) (hR : bf_Rm X 5 127) (S : bT7 × bT1 × bT0) (x3 : Int32) (x4 : Int32) (Q : (bT7 × bT1 × bT0) → Prop) (h : wp_X7_tune_16 S x3 x4 Q) : bf_A X (bf_Zv X bW7_1_0 Q) 7 16 [some (.ref 0), some (.ref 3), some (.ref 17), some (.int x3), some (.int x4), none, none] [] (bW7_1_0 S) := by
  obtain ⟨I, ⟨n0, h0⟩, hI⟩ := h
  have key : ∀ (n : Nat) (x3 : Int32) (x4 : Int32) (S : bT7 × bT1 × bT0), I n x3 x4 S → bf_A X (bf_Zv X bW7_1_0 Q) 7 16 [some (.ref 0), some (.ref 3), some (.ref 17), some (.int x3), some (.int x4), none, none] [] (bW7_1_0 S) := by
    intro n
    induction n using Nat.strongRecOn with
    | _ n ih =>
      intro x3 x4 S hi
      exact t_X7_tune_16b C hR S x3 x4 Q _ (fun x3 x4 S hb => by obtain ⟨n2, hn, hi2⟩ := hb; exact ih n2 hn x3 x4 S hi2) (hI n x3 x4 S hi)
  exact key n0 x3 x4 S h0
def wp_X7_tune (S : bT7 × bT1 × bT0) (a3 : Int32) (Q : (bT7 × bT1 × bT0) → Prop) : Prop := (∀ v19 : Int32, v19 = (if (16 : Int32) < (b0g_count S.2.2) then (16 : Int32) else (b0g_count S.2.2)) → (∀ S20 : bT7 × bT1 × bT0, S20 = ((b7s_count S.1 v19), S.2) → (wp_X7_tune_16 S20 (a3) ((0 : Int32)) Q)))
set_option maxRecDepth 20000 in
theorem t_X7_tune {X : bf_X} (C : bf_C X RX7 cX7_tune 7 none) (hR : bf_Rm X 5 127) (S : bT7 × bT1 × bT0) (a3 : Int32) (Q : (bT7 × bT1 × bT0) → Prop) (h : wp_X7_tune S a3 Q) : bf_A X (bf_Zv X bW7_1_0 Q) 7 0 [some (.ref 0), some (.ref 3), some (.ref 17), some (.int a3), none, none, none] [] (bW7_1_0 S) := by
  unfold wp_X7_tune at h
  refine bs_aload_n C (bf_dk dd_X7_tune 0 rfl) rfl ?_
  refine bs_aload_n C (bf_dk dd_X7_tune 1 rfl) rfl ?_
  refine bs_get C (bf_dk dd_X7_tune 2 rfl) cl_0 in_0 2 (Nat.le_of_ble_eq_true rfl) rfl f_7_31 (ge_bW7_1_0_17 S) rfl ?_
  refine bs_bipush C (bf_dk dd_X7_tune 3 rfl) (16 : Int32) (by decide) ?_
  refine bs_mmin C hR m_7_34 ma_min.1 ma_min.2.1 ma_min.2.2 (Nat.le_of_ble_eq_true rfl) (Nat.le_of_ble_eq_true rfl) (bf_dk dd_X7_tune 4 rfl) ?_
  refine bs_name (fun v19 ev19 => ?_)
  replace h := h v19 ev19
  refine bs_put C (bf_dk dd_X7_tune 5 rfl) tyX7_ok nmX7 cl_7 in_7 2 (Nat.le_of_ble_eq_true rfl) rfl f_7_18 rfl (ge_bW7_1_0_0 S) (Nat.le_of_ble_eq_true rfl) rfl rfl (pu_bW7_1_0_0_2 S v19) ?_
  refine bs_nameS bW7_1_0 (fun S20 eS20 => ?_)
  replace h := h S20 eS20
  refine bs_iconst C (bf_dk dd_X7_tune 6 rfl) (0 : Int32) (by decide) ?_
  refine bs_istore C (bf_dk dd_X7_tune 7 rfl) (Nat.le_of_ble_eq_true rfl) (Nat.le_of_ble_eq_true rfl) (lv2 := [some (.ref 0), some (.ref 3), some (.ref 17), some (.int a3), some (.int (0 : Int32)), none, none]) rfl ?_
  exact bs_weak (bf_s1 (bf_s1 (bf_s1 (bf_s1 (bf_s1 (bf_sn (bf_sn bf_s0))))))) (t_X7_tune_16 C hR S20 (a3) ((0 : Int32)) Q h)
theorem c_X7_tune (l : Launch) (dC : Nat → ClassId) (dI : Nat → Nat → Nat) (ac : Nat → ClassId) (al : Nat → Nat) (S : bT7 × bT1 × bT0) (a3 : Int32) (Q : (bT7 × bT1 × bT0) → Prop) (h : wp_X7_tune S a3 Q) : bf_M l yX7_tune cX7_tune 7 none 5 127 dC dI ac al [.ref 0, .ref 3, .ref 17, .int a3] (bW7_1_0 S) (bf_Kv dC dI ac al bW7_1_0 Q) := by
  refine bf_start [some (.ref 0), some (.ref 3), some (.ref 17), some (.int a3), none, none, none] (by decide) (Nat.le_of_ble_eq_true rfl) (bf_s1 (bf_s1 (bf_s1 (bf_s1 (bf_en 3))))) ?_
  intro X hl C hR e1 e2 e3 e4
  subst e1; subst e2; subst e3; subst e4
  exact t_X7_tune C hR S a3 Q h
def wp_X8_rebuild (S : bT8) (Q : (bT8) → Prop) : Prop := (wp_X1_make ((b8g_leaves S), (b2g_built (b8g_now S))) (fun u2 => (∀ S3 : bT8, S3 = (b8s_now (b8s_leaves S u2.1) (b2s_built (b8g_now (b8s_leaves S u2.1)) u2.2)) → (wp_X8_at 6 (b3g_values (b2g_built (b8g_now S3))) ((2 : Int32)) (fun r4 => (wp_X8_at 6 (b3g_values (b2g_built (b8g_now S3))) ((3 : Int32)) (fun r6 => (wp_X6_make ((b8g_tree S3), (b8g_leaves S3)) (r4) (r6) (fun u9 => (∀ S10 : bT8, S10 = (b8s_leaves (b8s_tree S3 u9.1) u9.2) → (Q S10)))))))))))
set_option maxRecDepth 20000 in
theorem t_X8_rebuild {X : bf_X} (C : bf_C X RX8 cX8_rebuild 1 none) (hR : bf_Rm X 5 116) (S : bT8) (Q : (bT8) → Prop) (h : wp_X8_rebuild S Q) : bf_A X (bf_Zv X bW8 Q) 1 0 [some (.ref 0)] [] (bW8 S) := by
  unfold wp_X8_rebuild at h
  refine bs_aload_n C (bf_dk dd_X8_rebuild 0 rfl) rfl ?_
  refine bs_get C (bf_dk dd_X8_rebuild 1 rfl) cl_8 in_8 3 (Nat.le_of_ble_eq_true rfl) rfl f_8_26 (ge_bW8_0 S) rfl ?_
  refine bs_aload_n C (bf_dk dd_X8_rebuild 2 rfl) rfl ?_
  refine bs_get C (bf_dk dd_X8_rebuild 3 rfl) cl_8 in_8 0 (Nat.le_of_ble_eq_true rfl) rfl f_8_12 (ge_bW8_0 S) rfl ?_
  refine bs_get C (bf_dk dd_X8_rebuild 4 rfl) cl_2 in_2 1 (Nat.le_of_ble_eq_true rfl) rfl f_8_154 (ge_bW8_1 S) rfl ?_
  refine bs_callV_v (ps := [31, 32, 33, 34, 35, 36, 37, 38, 39, 40, 41, 42, 43, 44, 7, 8, 9, 10, 11]) (w := (bW8 S)) C hR (c_X1_make _ _ _ _ _ ((b8g_leaves S), (b2g_built (b8g_now S))) _ h) my_X1_make m_8_393 rfl cl_1 (ge_bW1_3_0 _) rfl (Nat.le_of_ble_eq_true rfl) (Nat.le_of_ble_eq_true rfl) (su_bW8_31_7_bW1_3 S) bnd_31t44_7t11 (st := []) (Nat.le_of_ble_eq_true rfl) (bf_dk dd_X8_rebuild 5 rfl) rfl (fun _ => rfl) (w2 := fun u2 => bW8 (b8s_now (b8s_leaves S u2.1) (b2s_built (b8g_now (b8s_leaves S u2.1)) u2.2))) (pt_bW8_31_7_bW1_3 S) (fun u2 h => ?_)
  refine bs_nameS bW8 (fun S3 eS3 => ?_)
  replace h := h S3 eS3
  refine bs_aload_n C (bf_dk dd_X8_rebuild 6 rfl) rfl ?_
  refine bs_get C (bf_dk dd_X8_rebuild 7 rfl) cl_8 in_8 4 (Nat.le_of_ble_eq_true rfl) rfl f_8_33 (ge_bW8_0 S3) rfl ?_
  refine bs_aload_n C (bf_dk dd_X8_rebuild 8 rfl) rfl ?_
  refine bs_get C (bf_dk dd_X8_rebuild 9 rfl) cl_8 in_8 3 (Nat.le_of_ble_eq_true rfl) rfl f_8_26 (ge_bW8_0 S3) rfl ?_
  refine bs_aload_n C (bf_dk dd_X8_rebuild 10 rfl) rfl ?_
  refine bs_get C (bf_dk dd_X8_rebuild 11 rfl) cl_8 in_8 0 (Nat.le_of_ble_eq_true rfl) rfl f_8_12 (ge_bW8_0 S3) rfl ?_
  refine bs_get C (bf_dk dd_X8_rebuild 12 rfl) cl_2 in_2 1 (Nat.le_of_ble_eq_true rfl) rfl f_8_154 (ge_bW8_1 S3) rfl ?_
  refine bs_get C (bf_dk dd_X8_rebuild 13 rfl) cl_3 in_3 1 (Nat.le_of_ble_eq_true rfl) rfl f_8_122 (ge_bW8_7 S3) rfl ?_
  refine bs_iconst C (bf_dk dd_X8_rebuild 14 rfl) (2 : Int32) (by decide) ?_
  refine bs_pureS_i (ps := [11]) (w := (bW8 S3)) C hR (c_X8_at _ _ _ _ _ 6 (b3g_values (b2g_built (b8g_now S3))) ((2 : Int32)) _ h) my_X8_at m_8_115 rfl (Nat.le_of_ble_eq_true rfl) (Nat.le_of_ble_eq_true rfl) (su_bW8_11_bWan6 S3) rfl (st := [.ref 31, .ref 45]) (Nat.le_of_ble_eq_true rfl) (bf_dk dd_X8_rebuild 15 rfl) rfl (fun _ => rfl) (fun r4 h => ?_)
  refine bs_aload_n C (bf_dk dd_X8_rebuild 16 rfl) rfl ?_
  refine bs_get C (bf_dk dd_X8_rebuild 17 rfl) cl_8 in_8 0 (Nat.le_of_ble_eq_true rfl) rfl f_8_12 (ge_bW8_0 S3) rfl ?_
  refine bs_get C (bf_dk dd_X8_rebuild 18 rfl) cl_2 in_2 1 (Nat.le_of_ble_eq_true rfl) rfl f_8_154 (ge_bW8_1 S3) rfl ?_
  refine bs_get C (bf_dk dd_X8_rebuild 19 rfl) cl_3 in_3 1 (Nat.le_of_ble_eq_true rfl) rfl f_8_122 (ge_bW8_7 S3) rfl ?_
  refine bs_iconst C (bf_dk dd_X8_rebuild 20 rfl) (3 : Int32) (by decide) ?_
  refine bs_pureS_i (ps := [11]) (w := (bW8 S3)) C hR (c_X8_at _ _ _ _ _ 6 (b3g_values (b2g_built (b8g_now S3))) ((3 : Int32)) _ h) my_X8_at m_8_115 rfl (Nat.le_of_ble_eq_true rfl) (Nat.le_of_ble_eq_true rfl) (su_bW8_11_bWan6 S3) rfl (st := [.int r4, .ref 31, .ref 45]) (Nat.le_of_ble_eq_true rfl) (bf_dk dd_X8_rebuild 21 rfl) rfl (fun _ => rfl) (fun r6 h => ?_)
  refine bs_callV_v (ps := [45, 46, 47, 48, 49, 50, 51, 52, 53, 54, 55, 56, 57, 31, 32, 33, 34, 35, 36, 37, 38, 39, 40, 41, 42, 43, 44]) (w := (bW8 S3)) C hR (c_X6_make _ _ _ _ _ ((b8g_tree S3), (b8g_leaves S3)) (r4) (r6) _ h) my_X6_make m_8_396 rfl cl_6 (ge_bW6_1_0 _) rfl (Nat.le_of_ble_eq_true rfl) (Nat.le_of_ble_eq_true rfl) (su_bW8_45_31_bW6_1 S3) bnd_45t57_31t44 (st := []) (Nat.le_of_ble_eq_true rfl) (bf_dk dd_X8_rebuild 22 rfl) rfl (fun _ => rfl) (w2 := fun u9 => bW8 (b8s_leaves (b8s_tree S3 u9.1) u9.2)) (pt_bW8_45_31_bW6_1 S3) (fun u9 h => ?_)
  refine bs_nameS bW8 (fun S10 eS10 => ?_)
  replace h := h S10 eS10
  exact bs_vret (u := S10) C (bf_dk dd_X8_rebuild 23 rfl) rfl h
theorem c_X8_rebuild (l : Launch) (dC : Nat → ClassId) (dI : Nat → Nat → Nat) (ac : Nat → ClassId) (al : Nat → Nat) (S : bT8) (Q : (bT8) → Prop) (h : wp_X8_rebuild S Q) : bf_M l yX8_rebuild cX8_rebuild 1 none 5 116 dC dI ac al [.ref 0] (bW8 S) (bf_Kv dC dI ac al bW8 Q) := by
  refine bf_start [some (.ref 0)] (by decide) (Nat.le_of_ble_eq_true rfl) (bf_s1 bf_s0) ?_
  intro X hl C hR e1 e2 e3 e4
  subst e1; subst e2; subst e3; subst e4
  exact t_X8_rebuild C hR S Q h
def wp_X8_feed (S : bT8) (a1 : Int32) (a2 : Int32) (a3 : Int32) (a4 : Int32) (a5 : Int32) (Q : Int32 → (bT8) → Prop) : Prop := ((((b4g_count (b8g_tape S)) + (20 : Int32)) ≤ (160 : Int32) → (wp_X4_putFour (b8g_tape S) (a1) (fun u2 => (∀ S3 : bT8, S3 = (b8s_tape S u2) → (wp_X4_putFour (b8g_tape S3) (a2) (fun u5 => (∀ S6 : bT8, S6 = (b8s_tape S3 u5) → (wp_X4_putFour (b8g_tape S6) (a3) (fun u8 => (∀ S9 : bT8, S9 = (b8s_tape S6 u8) → (wp_X4_putFour (b8g_tape S9) (a4) (fun u11 => (∀ S12 : bT8, S12 = (b8s_tape S9 u11) → (wp_X4_putFour (b8g_tape S12) (a5) (fun u14 => (∀ S15 : bT8, S15 = (b8s_tape S12 u14) → (Q (b4g_count (b8g_tape S15)) S15))))))))))))))))) ∧ (¬ ((b4g_count (b8g_tape S)) + (20 : Int32)) ≤ (160 : Int32) → (Q (-1 : Int32) S)))
set_option maxRecDepth 20000 in
theorem t_X8_feed {X : bf_X} (C : bf_C X RX8 cX8_feed 6 (some .int)) (hR : bf_Rm X 1 22) (S : bT8) (a1 : Int32) (a2 : Int32) (a3 : Int32) (a4 : Int32) (a5 : Int32) (Q : Int32 → (bT8) → Prop) (h : wp_X8_feed S a1 a2 a3 a4 a5 Q) : bf_A X (bf_Zi X bW8 Q) 6 0 [some (.ref 0), some (.int a1), some (.int a2), some (.int a3), some (.int a4), some (.int a5)] [] (bW8 S) := by
  unfold wp_X8_feed at h
  refine bs_aload_n C (bf_dk dd_X8_feed 0 rfl) rfl ?_
  refine bs_get C (bf_dk dd_X8_feed 1 rfl) cl_8 in_8 7 (Nat.le_of_ble_eq_true rfl) rfl f_8_54 (ge_bW8_0 S) rfl ?_
  refine bs_get C (bf_dk dd_X8_feed 2 rfl) cl_4 in_4 1 (Nat.le_of_ble_eq_true rfl) rfl f_8_72 (ge_bW8_64 S) rfl ?_
  refine bs_bipush C (bf_dk dd_X8_feed 3 rfl) (20 : Int32) (by decide) ?_
  refine bs_iadd C (bf_dk dd_X8_feed 4 rfl) ?_
  refine bs_sipush C (bf_dk dd_X8_feed 5 rfl) (160 : Int32) (by decide) ?_
  refine bs_icmp_le C (bf_dk dd_X8_feed 6 rfl) (tgt := 18) rfl (fun c => ?_) (fun c => ?_)
  · replace h := h.1 c
    refine bs_aload_n C (bf_dk dd_X8_feed 9 rfl) rfl ?_
    refine bs_get C (bf_dk dd_X8_feed 10 rfl) cl_8 in_8 7 (Nat.le_of_ble_eq_true rfl) rfl f_8_54 (ge_bW8_0 S) rfl ?_
    refine bs_iload_n C (bf_dk dd_X8_feed 11 rfl) rfl ?_
    refine bs_callV_v (ps := [64, 65]) (w := (bW8 S)) C hR (c_X4_putFour _ _ _ _ _ (b8g_tape S) (a1) _ h) my_X4_putFour m_8_75 rfl cl_4 (ge_bW4_0 _) rfl (Nat.le_of_ble_eq_true rfl) (Nat.le_of_ble_eq_true rfl) (su_bW8_64_bW4 S) rfl (st := []) (Nat.le_of_ble_eq_true rfl) (bf_dk dd_X8_feed 12 rfl) rfl (fun _ => rfl) (w2 := fun u2 => bW8 (b8s_tape S u2)) (pt_bW8_64_bW4 S) (fun u2 h => ?_)
    refine bs_nameS bW8 (fun S3 eS3 => ?_)
    replace h := h S3 eS3
    refine bs_aload_n C (bf_dk dd_X8_feed 13 rfl) rfl ?_
    refine bs_get C (bf_dk dd_X8_feed 14 rfl) cl_8 in_8 7 (Nat.le_of_ble_eq_true rfl) rfl f_8_54 (ge_bW8_0 S3) rfl ?_
    refine bs_iload_n C (bf_dk dd_X8_feed 15 rfl) rfl ?_
    refine bs_callV_v (ps := [64, 65]) (w := (bW8 S3)) C hR (c_X4_putFour _ _ _ _ _ (b8g_tape S3) (a2) _ h) my_X4_putFour m_8_75 rfl cl_4 (ge_bW4_0 _) rfl (Nat.le_of_ble_eq_true rfl) (Nat.le_of_ble_eq_true rfl) (su_bW8_64_bW4 S3) rfl (st := []) (Nat.le_of_ble_eq_true rfl) (bf_dk dd_X8_feed 16 rfl) rfl (fun _ => rfl) (w2 := fun u5 => bW8 (b8s_tape S3 u5)) (pt_bW8_64_bW4 S3) (fun u5 h => ?_)
    refine bs_nameS bW8 (fun S6 eS6 => ?_)
    replace h := h S6 eS6
    refine bs_aload_n C (bf_dk dd_X8_feed 17 rfl) rfl ?_
    refine bs_get C (bf_dk dd_X8_feed 18 rfl) cl_8 in_8 7 (Nat.le_of_ble_eq_true rfl) rfl f_8_54 (ge_bW8_0 S6) rfl ?_
    refine bs_iload_n C (bf_dk dd_X8_feed 19 rfl) rfl ?_
    refine bs_callV_v (ps := [64, 65]) (w := (bW8 S6)) C hR (c_X4_putFour _ _ _ _ _ (b8g_tape S6) (a3) _ h) my_X4_putFour m_8_75 rfl cl_4 (ge_bW4_0 _) rfl (Nat.le_of_ble_eq_true rfl) (Nat.le_of_ble_eq_true rfl) (su_bW8_64_bW4 S6) rfl (st := []) (Nat.le_of_ble_eq_true rfl) (bf_dk dd_X8_feed 20 rfl) rfl (fun _ => rfl) (w2 := fun u8 => bW8 (b8s_tape S6 u8)) (pt_bW8_64_bW4 S6) (fun u8 h => ?_)
    refine bs_nameS bW8 (fun S9 eS9 => ?_)
    replace h := h S9 eS9
    refine bs_aload_n C (bf_dk dd_X8_feed 21 rfl) rfl ?_
    refine bs_get C (bf_dk dd_X8_feed 22 rfl) cl_8 in_8 7 (Nat.le_of_ble_eq_true rfl) rfl f_8_54 (ge_bW8_0 S9) rfl ?_
    refine bs_iload C (bf_dk dd_X8_feed 23 rfl) rfl ?_
    refine bs_callV_v (ps := [64, 65]) (w := (bW8 S9)) C hR (c_X4_putFour _ _ _ _ _ (b8g_tape S9) (a4) _ h) my_X4_putFour m_8_75 rfl cl_4 (ge_bW4_0 _) rfl (Nat.le_of_ble_eq_true rfl) (Nat.le_of_ble_eq_true rfl) (su_bW8_64_bW4 S9) rfl (st := []) (Nat.le_of_ble_eq_true rfl) (bf_dk dd_X8_feed 24 rfl) rfl (fun _ => rfl) (w2 := fun u11 => bW8 (b8s_tape S9 u11)) (pt_bW8_64_bW4 S9) (fun u11 h => ?_)
    refine bs_nameS bW8 (fun S12 eS12 => ?_)
    replace h := h S12 eS12
    refine bs_aload_n C (bf_dk dd_X8_feed 25 rfl) rfl ?_
    refine bs_get C (bf_dk dd_X8_feed 26 rfl) cl_8 in_8 7 (Nat.le_of_ble_eq_true rfl) rfl f_8_54 (ge_bW8_0 S12) rfl ?_
    refine bs_iload C (bf_dk dd_X8_feed 27 rfl) rfl ?_
    refine bs_callV_v (ps := [64, 65]) (w := (bW8 S12)) C hR (c_X4_putFour _ _ _ _ _ (b8g_tape S12) (a5) _ h) my_X4_putFour m_8_75 rfl cl_4 (ge_bW4_0 _) rfl (Nat.le_of_ble_eq_true rfl) (Nat.le_of_ble_eq_true rfl) (su_bW8_64_bW4 S12) rfl (st := []) (Nat.le_of_ble_eq_true rfl) (bf_dk dd_X8_feed 28 rfl) rfl (fun _ => rfl) (w2 := fun u14 => bW8 (b8s_tape S12 u14)) (pt_bW8_64_bW4 S12) (fun u14 h => ?_)
    refine bs_nameS bW8 (fun S15 eS15 => ?_)
    replace h := h S15 eS15
    refine bs_aload_n C (bf_dk dd_X8_feed 29 rfl) rfl ?_
    refine bs_get C (bf_dk dd_X8_feed 30 rfl) cl_8 in_8 7 (Nat.le_of_ble_eq_true rfl) rfl f_8_54 (ge_bW8_0 S15) rfl ?_
    refine bs_get C (bf_dk dd_X8_feed 31 rfl) cl_4 in_4 1 (Nat.le_of_ble_eq_true rfl) rfl f_8_72 (ge_bW8_64 S15) rfl ?_
    exact bs_iret (u := S15) C (bf_dk dd_X8_feed 32 rfl) rfl h
  · replace h := h.2 c
    refine bs_iconst C (bf_dk dd_X8_feed 7 rfl) (-1 : Int32) (by decide) ?_
    exact bs_iret (u := S) C (bf_dk dd_X8_feed 8 rfl) rfl h
theorem c_X8_feed (l : Launch) (dC : Nat → ClassId) (dI : Nat → Nat → Nat) (ac : Nat → ClassId) (al : Nat → Nat) (S : bT8) (a1 : Int32) (a2 : Int32) (a3 : Int32) (a4 : Int32) (a5 : Int32) (Q : Int32 → (bT8) → Prop) (h : wp_X8_feed S a1 a2 a3 a4 a5 Q) : bf_M l yX8_feed cX8_feed 6 (some .int) 1 22 dC dI ac al [.ref 0, .int a1, .int a2, .int a3, .int a4, .int a5] (bW8 S) (bf_Ki dC dI ac al bW8 Q) := by
  refine bf_start [some (.ref 0), some (.int a1), some (.int a2), some (.int a3), some (.int a4), some (.int a5)] (by decide) (Nat.le_of_ble_eq_true rfl) (bf_s1 (bf_s1 (bf_s1 (bf_s1 (bf_s1 (bf_s1 bf_s0)))))) ?_
  intro X hl C hR e1 e2 e3 e4
  subst e1; subst e2; subst e3; subst e4
  exact t_X8_feed C hR S a1 a2 a3 a4 a5 Q h
def wp_X8_end (S : bT8) (a1 : Int32) (Q : Int32 → (bT8) → Prop) : Prop := ((a1 < 0 → (bf_bool (0 : Int32) ∧ Q (0 : Int32) S)) ∧ (¬ a1 < 0 → ((a1 ≤ (b4g_count (b8g_tape S)) → (∀ S1 : bT8, S1 = (b8s_tape S (b4s_count (b8g_tape S) a1)) → (bf_bool (1 : Int32) ∧ Q (1 : Int32) S1))) ∧ (¬ a1 ≤ (b4g_count (b8g_tape S)) → (bf_bool (0 : Int32) ∧ Q (0 : Int32) S)))))
set_option maxRecDepth 20000 in
theorem t_X8_end {X : bf_X} (C : bf_C X RX8 cX8_end 2 (some .boolean)) (hR : bf_Rm X 0 0) (S : bT8) (a1 : Int32) (Q : Int32 → (bT8) → Prop) (h : wp_X8_end S a1 Q) : bf_A X (bf_Zi X bW8 Q) 2 0 [some (.ref 0), some (.int a1)] [] (bW8 S) := by
  unfold wp_X8_end at h
  refine bs_iload_n C (bf_dk dd_X8_end 0 rfl) rfl ?_
  refine bs_if_lt C (bf_dk dd_X8_end 1 rfl) (tgt := 15) rfl (fun c => ?_) (fun c => ?_)
  · replace h := h.1 c
    refine bs_iconst C (bf_dk dd_X8_end 7 rfl) (0 : Int32) (by decide) ?_
    obtain ⟨hi, h⟩ := h
    exact bs_zret (u := S) C (bf_dk dd_X8_end 8 rfl) hi rfl h
  · replace h := h.2 c
    refine bs_iload_n C (bf_dk dd_X8_end 2 rfl) rfl ?_
    refine bs_aload_n C (bf_dk dd_X8_end 3 rfl) rfl ?_
    refine bs_get C (bf_dk dd_X8_end 4 rfl) cl_8 in_8 7 (Nat.le_of_ble_eq_true rfl) rfl f_8_54 (ge_bW8_0 S) rfl ?_
    refine bs_get C (bf_dk dd_X8_end 5 rfl) cl_4 in_4 1 (Nat.le_of_ble_eq_true rfl) rfl f_8_72 (ge_bW8_64 S) rfl ?_
    refine bs_icmp_le C (bf_dk dd_X8_end 6 rfl) (tgt := 17) rfl (fun c => ?_) (fun c => ?_)
    · replace h := h.1 c
      refine bs_aload_n C (bf_dk dd_X8_end 9 rfl) rfl ?_
      refine bs_get C (bf_dk dd_X8_end 10 rfl) cl_8 in_8 7 (Nat.le_of_ble_eq_true rfl) rfl f_8_54 (ge_bW8_0 S) rfl ?_
      refine bs_iload_n C (bf_dk dd_X8_end 11 rfl) rfl ?_
      refine bs_put C (bf_dk dd_X8_end 12 rfl) tyX4_ok nmX4 cl_4 in_4 1 (Nat.le_of_ble_eq_true rfl) rfl f_8_72 rfl (ge_bW8_64 S) (Nat.le_of_ble_eq_true rfl) rfl rfl (pu_bW8_64_1 S a1) ?_
      refine bs_nameS bW8 (fun S1 eS1 => ?_)
      replace h := h S1 eS1
      refine bs_iconst C (bf_dk dd_X8_end 13 rfl) (1 : Int32) (by decide) ?_
      obtain ⟨hi, h⟩ := h
      exact bs_zret (u := S1) C (bf_dk dd_X8_end 14 rfl) hi rfl h
    · replace h := h.2 c
      refine bs_iconst C (bf_dk dd_X8_end 7 rfl) (0 : Int32) (by decide) ?_
      obtain ⟨hi, h⟩ := h
      exact bs_zret (u := S) C (bf_dk dd_X8_end 8 rfl) hi rfl h
theorem c_X8_end (l : Launch) (dC : Nat → ClassId) (dI : Nat → Nat → Nat) (ac : Nat → ClassId) (al : Nat → Nat) (S : bT8) (a1 : Int32) (Q : Int32 → (bT8) → Prop) (h : wp_X8_end S a1 Q) : bf_M l yX8_end cX8_end 2 (some .boolean) 0 0 dC dI ac al [.ref 0, .int a1] (bW8 S) (bf_Ki dC dI ac al bW8 Q) := by
  refine bf_start [some (.ref 0), some (.int a1)] (by decide) (Nat.le_of_ble_eq_true rfl) (bf_s1 (bf_s1 bf_s0)) ?_
  intro X hl C hR e1 e2 e3 e4
  subst e1; subst e2; subst e3; subst e4
  exact t_X8_end C hR S a1 Q h
def wp_X8_keys (S : bT8) (Q : Int32 → (bT8) → Prop) : Prop := (wp_X0_copyFrom ((b8g_trial S), (b3g_members (b2g_told (b8g_now S)))) (fun u2 => (∀ S3 : bT8, S3 = (b8s_now (b8s_trial S u2.1) (b2s_told (b8g_now (b8s_trial S u2.1)) (b3s_members (b2g_told (b8g_now (b8s_trial S u2.1))) u2.2))) → (wp_X4_readInto ((b8g_tape S3), (b8g_trial S3)) (fun r4 u5 => (∀ S6 : bT8, S6 = (b8s_trial (b8s_tape S3 u5.1) u5.2) → (∀ S7 : bT8, S7 = (b8s_tape S6 (b4s_count (b8g_tape S6) (0 : Int32))) → ((¬ r4 = 0 → (∀ v8 : Int32, v8 = ((b0g_count (b8g_trial S7)) - (b0g_count (b3g_members (b2g_told (b8g_now S7))))) → (wp_X0_copyFrom ((b3g_members (b2g_told (b8g_now S7))), (b8g_trial S7)) (fun u10 => (∀ S11 : bT8, S11 = (b8s_trial (b8s_now S7 (b2s_told (b8g_now S7) (b3s_members (b2g_told (b8g_now S7)) u10.1))) u10.2) → (Q v8 S11)))))) ∧ (r4 = 0 → (Q (-1 : Int32) S7))))))))))
set_option maxRecDepth 20000 in
theorem t_X8_keys {X : bf_X} (C : bf_C X RX8 cX8_keys 3 (some .int)) (hR : bf_Rm X 5 125) (S : bT8) (Q : Int32 → (bT8) → Prop) (h : wp_X8_keys S Q) : bf_A X (bf_Zi X bW8 Q) 3 0 [some (.ref 0), none, none] [] (bW8 S) := by
  unfold wp_X8_keys at h
  refine bs_aload_n C (bf_dk dd_X8_keys 0 rfl) rfl ?_
  refine bs_get C (bf_dk dd_X8_keys 1 rfl) cl_8 in_8 6 (Nat.le_of_ble_eq_true rfl) rfl f_8_47 (ge_bW8_0 S) rfl ?_
  refine bs_aload_n C (bf_dk dd_X8_keys 2 rfl) rfl ?_
  refine bs_get C (bf_dk dd_X8_keys 3 rfl) cl_8 in_8 0 (Nat.le_of_ble_eq_true rfl) rfl f_8_12 (ge_bW8_0 S) rfl ?_
  refine bs_get C (bf_dk dd_X8_keys 4 rfl) cl_2 in_2 0 (Nat.le_of_ble_eq_true rfl) rfl f_8_87 (ge_bW8_1 S) rfl ?_
  refine bs_get C (bf_dk dd_X8_keys 5 rfl) cl_3 in_3 0 (Nat.le_of_ble_eq_true rfl) rfl f_8_99 (ge_bW8_2 S) rfl ?_
  refine bs_callV_v (ps := [61, 62, 63, 3, 4, 5]) (w := (bW8 S)) C hR (c_X0_copyFrom _ _ _ _ _ ((b8g_trial S), (b3g_members (b2g_told (b8g_now S)))) _ h) my_X0_copyFrom m_8_102 rfl cl_0 (ge_bW0_0_0 _) rfl (Nat.le_of_ble_eq_true rfl) (Nat.le_of_ble_eq_true rfl) (su_bW8_61_3_bW0_0 S) bnd_61t63_3t5 (st := []) (Nat.le_of_ble_eq_true rfl) (bf_dk dd_X8_keys 6 rfl) rfl (fun _ => rfl) (w2 := fun u2 => bW8 (b8s_now (b8s_trial S u2.1) (b2s_told (b8g_now (b8s_trial S u2.1)) (b3s_members (b2g_told (b8g_now (b8s_trial S u2.1))) u2.2)))) (pt_bW8_61_3_bW0_0 S) (fun u2 h => ?_)
  refine bs_nameS bW8 (fun S3 eS3 => ?_)
  replace h := h S3 eS3
  refine bs_aload_n C (bf_dk dd_X8_keys 7 rfl) rfl ?_
  refine bs_get C (bf_dk dd_X8_keys 8 rfl) cl_8 in_8 7 (Nat.le_of_ble_eq_true rfl) rfl f_8_54 (ge_bW8_0 S3) rfl ?_
  refine bs_aload_n C (bf_dk dd_X8_keys 9 rfl) rfl ?_
  refine bs_get C (bf_dk dd_X8_keys 10 rfl) cl_8 in_8 6 (Nat.le_of_ble_eq_true rfl) rfl f_8_47 (ge_bW8_0 S3) rfl ?_
  refine bs_callV_i (ps := [64, 65, 61, 62, 63]) (w := (bW8 S3)) C hR (c_X4_readInto _ _ _ _ _ ((b8g_tape S3), (b8g_trial S3)) _ h) my_X4_readInto m_8_106 rfl cl_4 (ge_bW4_0_0 _) rfl (Nat.le_of_ble_eq_true rfl) (Nat.le_of_ble_eq_true rfl) (su_bW8_64_61_bW4_0 S3) rfl (st := []) (Nat.le_of_ble_eq_true rfl) (bf_dk dd_X8_keys 11 rfl) rfl (fun _ => rfl) (w2 := fun u5 => bW8 (b8s_trial (b8s_tape S3 u5.1) u5.2)) (pt_bW8_64_61_bW4_0 S3) (fun r4 u5 h => ?_)
  refine bs_nameS bW8 (fun S6 eS6 => ?_)
  replace h := h S6 eS6
  refine bs_istore_n C (bf_dk dd_X8_keys 12 rfl) rfl (Nat.le_of_ble_eq_true rfl) (Nat.le_of_ble_eq_true rfl) (lv2 := [some (.ref 0), some (.int r4), none]) rfl ?_
  refine bs_aload_n C (bf_dk dd_X8_keys 13 rfl) rfl ?_
  refine bs_get C (bf_dk dd_X8_keys 14 rfl) cl_8 in_8 7 (Nat.le_of_ble_eq_true rfl) rfl f_8_54 (ge_bW8_0 S6) rfl ?_
  refine bs_iconst C (bf_dk dd_X8_keys 15 rfl) (0 : Int32) (by decide) ?_
  refine bs_put C (bf_dk dd_X8_keys 16 rfl) tyX4_ok nmX4 cl_4 in_4 1 (Nat.le_of_ble_eq_true rfl) rfl f_8_72 rfl (ge_bW8_64 S6) (Nat.le_of_ble_eq_true rfl) rfl rfl (pu_bW8_64_1 S6 (0 : Int32)) ?_
  refine bs_nameS bW8 (fun S7 eS7 => ?_)
  replace h := h S7 eS7
  refine bs_iload_n C (bf_dk dd_X8_keys 17 rfl) rfl ?_
  refine bs_if_ne C (bf_dk dd_X8_keys 18 rfl) (tgt := 43) rfl (fun c => ?_) (fun c => ?_)
  · replace h := h.1 c
    refine bs_aload_n C (bf_dk dd_X8_keys 21 rfl) rfl ?_
    refine bs_get C (bf_dk dd_X8_keys 22 rfl) cl_8 in_8 6 (Nat.le_of_ble_eq_true rfl) rfl f_8_47 (ge_bW8_0 S7) rfl ?_
    refine bs_get C (bf_dk dd_X8_keys 23 rfl) cl_0 in_0 2 (Nat.le_of_ble_eq_true rfl) rfl f_8_110 (ge_bW8_61 S7) rfl ?_
    refine bs_aload_n C (bf_dk dd_X8_keys 24 rfl) rfl ?_
    refine bs_get C (bf_dk dd_X8_keys 25 rfl) cl_8 in_8 0 (Nat.le_of_ble_eq_true rfl) rfl f_8_12 (ge_bW8_0 S7) rfl ?_
    refine bs_get C (bf_dk dd_X8_keys 26 rfl) cl_2 in_2 0 (Nat.le_of_ble_eq_true rfl) rfl f_8_87 (ge_bW8_1 S7) rfl ?_
    refine bs_get C (bf_dk dd_X8_keys 27 rfl) cl_3 in_3 0 (Nat.le_of_ble_eq_true rfl) rfl f_8_99 (ge_bW8_2 S7) rfl ?_
    refine bs_get C (bf_dk dd_X8_keys 28 rfl) cl_0 in_0 2 (Nat.le_of_ble_eq_true rfl) rfl f_8_110 (ge_bW8_3 S7) rfl ?_
    refine bs_isub C (bf_dk dd_X8_keys 29 rfl) ?_
    refine bs_name (fun v8 ev8 => ?_)
    replace h := h v8 ev8
    refine bs_istore_n C (bf_dk dd_X8_keys 30 rfl) rfl (Nat.le_of_ble_eq_true rfl) (Nat.le_of_ble_eq_true rfl) (lv2 := [some (.ref 0), some (.int r4), some (.int v8)]) rfl ?_
    refine bs_aload_n C (bf_dk dd_X8_keys 31 rfl) rfl ?_
    refine bs_get C (bf_dk dd_X8_keys 32 rfl) cl_8 in_8 0 (Nat.le_of_ble_eq_true rfl) rfl f_8_12 (ge_bW8_0 S7) rfl ?_
    refine bs_get C (bf_dk dd_X8_keys 33 rfl) cl_2 in_2 0 (Nat.le_of_ble_eq_true rfl) rfl f_8_87 (ge_bW8_1 S7) rfl ?_
    refine bs_get C (bf_dk dd_X8_keys 34 rfl) cl_3 in_3 0 (Nat.le_of_ble_eq_true rfl) rfl f_8_99 (ge_bW8_2 S7) rfl ?_
    refine bs_aload_n C (bf_dk dd_X8_keys 35 rfl) rfl ?_
    refine bs_get C (bf_dk dd_X8_keys 36 rfl) cl_8 in_8 6 (Nat.le_of_ble_eq_true rfl) rfl f_8_47 (ge_bW8_0 S7) rfl ?_
    refine bs_callV_v (ps := [3, 4, 5, 61, 62, 63]) (w := (bW8 S7)) C hR (c_X0_copyFrom _ _ _ _ _ ((b3g_members (b2g_told (b8g_now S7))), (b8g_trial S7)) _ h) my_X0_copyFrom m_8_102 rfl cl_0 (ge_bW0_0_0 _) rfl (Nat.le_of_ble_eq_true rfl) (Nat.le_of_ble_eq_true rfl) (su_bW8_3_61_bW0_0 S7) bnd_3t5_61t63 (st := []) (Nat.le_of_ble_eq_true rfl) (bf_dk dd_X8_keys 37 rfl) rfl (fun _ => rfl) (w2 := fun u10 => bW8 (b8s_trial (b8s_now S7 (b2s_told (b8g_now S7) (b3s_members (b2g_told (b8g_now S7)) u10.1))) u10.2)) (pt_bW8_3_61_bW0_0 S7) (fun u10 h => ?_)
    refine bs_nameS bW8 (fun S11 eS11 => ?_)
    replace h := h S11 eS11
    refine bs_iload_n C (bf_dk dd_X8_keys 38 rfl) rfl ?_
    exact bs_iret (u := S11) C (bf_dk dd_X8_keys 39 rfl) rfl h
  · replace h := h.2 c
    refine bs_iconst C (bf_dk dd_X8_keys 19 rfl) (-1 : Int32) (by decide) ?_
    exact bs_iret (u := S7) C (bf_dk dd_X8_keys 20 rfl) rfl h
theorem c_X8_keys (l : Launch) (dC : Nat → ClassId) (dI : Nat → Nat → Nat) (ac : Nat → ClassId) (al : Nat → Nat) (S : bT8) (Q : Int32 → (bT8) → Prop) (h : wp_X8_keys S Q) : bf_M l yX8_keys cX8_keys 3 (some .int) 5 125 dC dI ac al [.ref 0] (bW8 S) (bf_Ki dC dI ac al bW8 Q) := by
  refine bf_start [some (.ref 0), none, none] (by decide) (Nat.le_of_ble_eq_true rfl) (bf_s1 (bf_en 2)) ?_
  intro X hl C hR e1 e2 e3 e4
  subst e1; subst e2; subst e3; subst e4
  exact t_X8_keys C hR S Q h
def wp_X8_state (S : bT8) (a1 : Int32) (Q : Int32 → (bT8) → Prop) : Prop := (∀ S1 : bT8, S1 = (b8s_now S (b2s_draws (b8g_now S) a1)) → (Q (b2g_draws (b8g_now S)) S1))
set_option maxRecDepth 20000 in
theorem t_X8_state {X : bf_X} (C : bf_C X RX8 cX8_state 3 (some .int)) (hR : bf_Rm X 0 0) (S : bT8) (a1 : Int32) (Q : Int32 → (bT8) → Prop) (h : wp_X8_state S a1 Q) : bf_A X (bf_Zi X bW8 Q) 3 0 [some (.ref 0), some (.int a1), none] [] (bW8 S) := by
  unfold wp_X8_state at h
  refine bs_aload_n C (bf_dk dd_X8_state 0 rfl) rfl ?_
  refine bs_get C (bf_dk dd_X8_state 1 rfl) cl_8 in_8 0 (Nat.le_of_ble_eq_true rfl) rfl f_8_12 (ge_bW8_0 S) rfl ?_
  refine bs_get C (bf_dk dd_X8_state 2 rfl) cl_2 in_2 4 (Nat.le_of_ble_eq_true rfl) rfl f_8_125 (ge_bW8_1 S) rfl ?_
  refine bs_istore_n C (bf_dk dd_X8_state 3 rfl) rfl (Nat.le_of_ble_eq_true rfl) (Nat.le_of_ble_eq_true rfl) (lv2 := [some (.ref 0), some (.int a1), some (.int (b2g_draws (b8g_now S)))]) rfl ?_
  refine bs_aload_n C (bf_dk dd_X8_state 4 rfl) rfl ?_
  refine bs_get C (bf_dk dd_X8_state 5 rfl) cl_8 in_8 0 (Nat.le_of_ble_eq_true rfl) rfl f_8_12 (ge_bW8_0 S) rfl ?_
  refine bs_iload_n C (bf_dk dd_X8_state 6 rfl) rfl ?_
  refine bs_put C (bf_dk dd_X8_state 7 rfl) tyX2_ok nmX2 cl_2 in_2 4 (Nat.le_of_ble_eq_true rfl) rfl f_8_125 rfl (ge_bW8_1 S) (Nat.le_of_ble_eq_true rfl) rfl rfl (pu_bW8_1_4 S a1) ?_
  refine bs_nameS bW8 (fun S1 eS1 => ?_)
  replace h := h S1 eS1
  refine bs_iload_n C (bf_dk dd_X8_state 8 rfl) rfl ?_
  exact bs_iret (u := S1) C (bf_dk dd_X8_state 9 rfl) rfl h
theorem c_X8_state (l : Launch) (dC : Nat → ClassId) (dI : Nat → Nat → Nat) (ac : Nat → ClassId) (al : Nat → Nat) (S : bT8) (a1 : Int32) (Q : Int32 → (bT8) → Prop) (h : wp_X8_state S a1 Q) : bf_M l yX8_state cX8_state 3 (some .int) 0 0 dC dI ac al [.ref 0, .int a1] (bW8 S) (bf_Ki dC dI ac al bW8 Q) := by
  refine bf_start [some (.ref 0), some (.int a1), none] (by decide) (Nat.le_of_ble_eq_true rfl) (bf_s1 (bf_s1 (bf_en 1))) ?_
  intro X hl C hR e1 e2 e3 e4
  subst e1; subst e2; subst e3; subst e4
  exact t_X8_state C hR S a1 Q h
def wp_X8_keyOf (a0 : Int32) (a1 : Int32) (a2 : Int32) (Q : Int64 → Prop) : Prop := (wp_X8_front (a2) (fun r1 => (Q ((((a0).toInt64 <<< (((32 : Int32)).toInt64 &&& 63)) ||| ((a1).toInt64 &&& (4294967295 : Int64))) &&& r1))))
set_option maxRecDepth 20000 in
theorem t_X8_keyOf {X : bf_X} (C : bf_C X RX8 cX8_keyOf 3 (some .long)) (hR : bf_Rm X 1 20) (a0 : Int32) (a1 : Int32) (a2 : Int32) (Q : Int64 → Prop) (h : wp_X8_keyOf a0 a1 a2 Q) : bf_A X (bf_Zl X bWu (fun r u => u = () ∧ Q r)) 3 0 [some (.int a0), some (.int a1), some (.int a2)] [] (bWu ()) := by
  unfold wp_X8_keyOf at h
  refine bs_iload_n C (bf_dk dd_X8_keyOf 0 rfl) rfl ?_
  refine bs_i2l C (bf_dk dd_X8_keyOf 1 rfl) ?_
  refine bs_bipush C (bf_dk dd_X8_keyOf 2 rfl) (32 : Int32) (by decide) ?_
  refine bs_lshl C (bf_dk dd_X8_keyOf 3 rfl) ?_
  refine bs_iload_n C (bf_dk dd_X8_keyOf 4 rfl) rfl ?_
  refine bs_i2l C (bf_dk dd_X8_keyOf 5 rfl) ?_
  refine bs_ldc2 C (bf_dk dd_X8_keyOf 6 rfl) k_8_436 ?_
  refine bs_land C (bf_dk dd_X8_keyOf 7 rfl) ?_
  refine bs_lor C (bf_dk dd_X8_keyOf 8 rfl) ?_
  refine bs_iload_n C (bf_dk dd_X8_keyOf 9 rfl) rfl ?_
  refine bs_pureS_l (ps := []) (w := (bWu ())) C hR (c_X8_front _ _ _ _ _ (a2) _ h) my_X8_front m_8_353 rfl (Nat.le_of_ble_eq_true rfl) (Nat.le_of_ble_eq_true rfl) rfl rfl (st := [.long (((a0).toInt64 <<< (((32 : Int32)).toInt64 &&& 63)) ||| ((a1).toInt64 &&& (4294967295 : Int64)))]) (Nat.le_of_ble_eq_true rfl) (bf_dk dd_X8_keyOf 10 rfl) rfl (fun _ => rfl) (fun r1 h => ?_)
  refine bs_land C (bf_dk dd_X8_keyOf 11 rfl) ?_
  exact bs_lret (u := ()) C (bf_dk dd_X8_keyOf 12 rfl) rfl ⟨rfl, h⟩
theorem c_X8_keyOf (l : Launch) (dC : Nat → ClassId) (dI : Nat → Nat → Nat) (ac : Nat → ClassId) (al : Nat → Nat) (a0 : Int32) (a1 : Int32) (a2 : Int32) (Q : Int64 → Prop) (h : wp_X8_keyOf a0 a1 a2 Q) : bf_M l yX8_keyOf cX8_keyOf 3 (some .long) 1 20 dC dI ac al [.int a0, .int a1, .int a2] (bWu ()) (bf_Kl dC dI ac al bWu (fun r u => u = () ∧ Q r)) := by
  refine bf_start [some (.int a0), some (.int a1), some (.int a2)] (by decide) (Nat.le_of_ble_eq_true rfl) (bf_s1 (bf_s1 (bf_s1 bf_s0))) ?_
  intro X hl C hR e1 e2 e3 e4
  subst e1; subst e2; subst e3; subst e4
  exact t_X8_keyOf C hR a0 a1 a2 Q h
def wp_X8_add (S : bT8) (a1 : Int32) (a2 : Int32) (a3 : Int32) (Q : Int32 → (bT8) → Prop) : Prop := (wp_X8_isLength (a3) (fun r1 => ((¬ r1 = 0 → (wp_X8_keyOf (a1) (a2) (a3) (fun r3 => (wp_X0_insert (b3g_members (b2g_told (b8g_now S))) (r3) (a3) (fun r5 u6 => (∀ S7 : bT8, S7 = (b8s_now S (b2s_told (b8g_now S) (b3s_members (b2g_told (b8g_now S)) u6))) → (Q r5 S7))))))) ∧ (r1 = 0 → (Q (-1 : Int32) S)))))
set_option maxRecDepth 20000 in
theorem t_X8_add {X : bf_X} (C : bf_C X RX8 cX8_add 4 (some .int)) (hR : bf_Rm X 4 100) (S : bT8) (a1 : Int32) (a2 : Int32) (a3 : Int32) (Q : Int32 → (bT8) → Prop) (h : wp_X8_add S a1 a2 a3 Q) : bf_A X (bf_Zi X bW8 Q) 4 0 [some (.ref 0), some (.int a1), some (.int a2), some (.int a3)] [] (bW8 S) := by
  unfold wp_X8_add at h
  refine bs_iload_n C (bf_dk dd_X8_add 0 rfl) rfl ?_
  refine bs_pureS_i (ps := []) (w := (bW8 S)) C hR (c_X8_isLength _ _ _ _ _ (a3) _ h) my_X8_isLength m_8_128 rfl (Nat.le_of_ble_eq_true rfl) (Nat.le_of_ble_eq_true rfl) rfl rfl (st := []) (Nat.le_of_ble_eq_true rfl) (bf_dk dd_X8_add 1 rfl) rfl (fun _ => rfl) (fun r1 h => ?_)
  refine bs_if_ne C (bf_dk dd_X8_add 2 rfl) (tgt := 9) rfl (fun c => ?_) (fun c => ?_)
  · replace h := h.1 c
    refine bs_aload_n C (bf_dk dd_X8_add 5 rfl) rfl ?_
    refine bs_get C (bf_dk dd_X8_add 6 rfl) cl_8 in_8 0 (Nat.le_of_ble_eq_true rfl) rfl f_8_12 (ge_bW8_0 S) rfl ?_
    refine bs_get C (bf_dk dd_X8_add 7 rfl) cl_2 in_2 0 (Nat.le_of_ble_eq_true rfl) rfl f_8_87 (ge_bW8_1 S) rfl ?_
    refine bs_get C (bf_dk dd_X8_add 8 rfl) cl_3 in_3 0 (Nat.le_of_ble_eq_true rfl) rfl f_8_99 (ge_bW8_2 S) rfl ?_
    refine bs_iload_n C (bf_dk dd_X8_add 9 rfl) rfl ?_
    refine bs_iload_n C (bf_dk dd_X8_add 10 rfl) rfl ?_
    refine bs_iload_n C (bf_dk dd_X8_add 11 rfl) rfl ?_
    refine bs_pureS_l (ps := []) (w := (bW8 S)) C hR (c_X8_keyOf _ _ _ _ _ (a1) (a2) (a3) _ h) my_X8_keyOf m_8_132 rfl (Nat.le_of_ble_eq_true rfl) (Nat.le_of_ble_eq_true rfl) rfl rfl (st := [.ref 3]) (Nat.le_of_ble_eq_true rfl) (bf_dk dd_X8_add 12 rfl) rfl (fun _ => rfl) (fun r3 h => ?_)
    refine bs_iload_n C (bf_dk dd_X8_add 13 rfl) rfl ?_
    refine bs_callV_i (ps := [3, 4, 5]) (w := (bW8 S)) C hR (c_X0_insert _ _ _ _ _ (b3g_members (b2g_told (b8g_now S))) (r3) (a3) _ h) my_X0_insert m_8_136 rfl cl_0 (ge_bW0_0 _) rfl (Nat.le_of_ble_eq_true rfl) (Nat.le_of_ble_eq_true rfl) (su_bW8_3_bW0 S) rfl (st := []) (Nat.le_of_ble_eq_true rfl) (bf_dk dd_X8_add 14 rfl) rfl (fun _ => rfl) (w2 := fun u6 => bW8 (b8s_now S (b2s_told (b8g_now S) (b3s_members (b2g_told (b8g_now S)) u6)))) (pt_bW8_3_bW0 S) (fun r5 u6 h => ?_)
    refine bs_nameS bW8 (fun S7 eS7 => ?_)
    replace h := h S7 eS7
    exact bs_iret (u := S7) C (bf_dk dd_X8_add 15 rfl) rfl h
  · replace h := h.2 c
    refine bs_iconst C (bf_dk dd_X8_add 3 rfl) (-1 : Int32) (by decide) ?_
    exact bs_iret (u := S) C (bf_dk dd_X8_add 4 rfl) rfl h
theorem c_X8_add (l : Launch) (dC : Nat → ClassId) (dI : Nat → Nat → Nat) (ac : Nat → ClassId) (al : Nat → Nat) (S : bT8) (a1 : Int32) (a2 : Int32) (a3 : Int32) (Q : Int32 → (bT8) → Prop) (h : wp_X8_add S a1 a2 a3 Q) : bf_M l yX8_add cX8_add 4 (some .int) 4 100 dC dI ac al [.ref 0, .int a1, .int a2, .int a3] (bW8 S) (bf_Ki dC dI ac al bW8 Q) := by
  refine bf_start [some (.ref 0), some (.int a1), some (.int a2), some (.int a3)] (by decide) (Nat.le_of_ble_eq_true rfl) (bf_s1 (bf_s1 (bf_s1 (bf_s1 bf_s0)))) ?_
  intro X hl C hR e1 e2 e3 e4
  subst e1; subst e2; subst e3; subst e4
  exact t_X8_add C hR S a1 a2 a3 Q h
def wp_X8_remove (S : bT8) (a1 : Int32) (a2 : Int32) (a3 : Int32) (Q : Int32 → (bT8) → Prop) : Prop := (wp_X8_isLength (a3) (fun r1 => ((¬ r1 = 0 → (wp_X8_keyOf (a1) (a2) (a3) (fun r3 => (wp_X0_numberOf (b3g_members (b2g_told (b8g_now S))) (r3) (a3) (fun r5 => (wp_X0_drop (b3g_members (b2g_told (b8g_now S))) (r5) (fun u8 => (∀ S9 : bT8, S9 = (b8s_now S (b2s_told (b8g_now S) (b3s_members (b2g_told (b8g_now S)) u8))) → (Q r5 S9))))))))) ∧ (r1 = 0 → (Q (-1 : Int32) S)))))
set_option maxRecDepth 20000 in
theorem t_X8_remove {X : bf_X} (C : bf_C X RX8 cX8_remove 5 (some .int)) (hR : bf_Rm X 4 99) (S : bT8) (a1 : Int32) (a2 : Int32) (a3 : Int32) (Q : Int32 → (bT8) → Prop) (h : wp_X8_remove S a1 a2 a3 Q) : bf_A X (bf_Zi X bW8 Q) 5 0 [some (.ref 0), some (.int a1), some (.int a2), some (.int a3), none] [] (bW8 S) := by
  unfold wp_X8_remove at h
  refine bs_iload_n C (bf_dk dd_X8_remove 0 rfl) rfl ?_
  refine bs_pureS_i (ps := []) (w := (bW8 S)) C hR (c_X8_isLength _ _ _ _ _ (a3) _ h) my_X8_isLength m_8_128 rfl (Nat.le_of_ble_eq_true rfl) (Nat.le_of_ble_eq_true rfl) rfl rfl (st := []) (Nat.le_of_ble_eq_true rfl) (bf_dk dd_X8_remove 1 rfl) rfl (fun _ => rfl) (fun r1 h => ?_)
  refine bs_if_ne C (bf_dk dd_X8_remove 2 rfl) (tgt := 9) rfl (fun c => ?_) (fun c => ?_)
  · replace h := h.1 c
    refine bs_aload_n C (bf_dk dd_X8_remove 5 rfl) rfl ?_
    refine bs_get C (bf_dk dd_X8_remove 6 rfl) cl_8 in_8 0 (Nat.le_of_ble_eq_true rfl) rfl f_8_12 (ge_bW8_0 S) rfl ?_
    refine bs_get C (bf_dk dd_X8_remove 7 rfl) cl_2 in_2 0 (Nat.le_of_ble_eq_true rfl) rfl f_8_87 (ge_bW8_1 S) rfl ?_
    refine bs_get C (bf_dk dd_X8_remove 8 rfl) cl_3 in_3 0 (Nat.le_of_ble_eq_true rfl) rfl f_8_99 (ge_bW8_2 S) rfl ?_
    refine bs_iload_n C (bf_dk dd_X8_remove 9 rfl) rfl ?_
    refine bs_iload_n C (bf_dk dd_X8_remove 10 rfl) rfl ?_
    refine bs_iload_n C (bf_dk dd_X8_remove 11 rfl) rfl ?_
    refine bs_pureS_l (ps := []) (w := (bW8 S)) C hR (c_X8_keyOf _ _ _ _ _ (a1) (a2) (a3) _ h) my_X8_keyOf m_8_132 rfl (Nat.le_of_ble_eq_true rfl) (Nat.le_of_ble_eq_true rfl) rfl rfl (st := [.ref 3]) (Nat.le_of_ble_eq_true rfl) (bf_dk dd_X8_remove 12 rfl) rfl (fun _ => rfl) (fun r3 h => ?_)
    refine bs_iload_n C (bf_dk dd_X8_remove 13 rfl) rfl ?_
    refine bs_pureV_i (ps := [3, 4, 5]) (w := (bW8 S)) C hR (c_X0_numberOf _ _ _ _ _ (b3g_members (b2g_told (b8g_now S))) (r3) (a3) _ h) my_X0_numberOf m_8_140 rfl cl_0 (ge_bW0_0 _) rfl (Nat.le_of_ble_eq_true rfl) (Nat.le_of_ble_eq_true rfl) (su_bW8_3_bW0 S) rfl (st := []) (Nat.le_of_ble_eq_true rfl) (bf_dk dd_X8_remove 14 rfl) rfl (fun _ => rfl) (fun r5 h => ?_)
    refine bs_istore C (bf_dk dd_X8_remove 15 rfl) (Nat.le_of_ble_eq_true rfl) (Nat.le_of_ble_eq_true rfl) (lv2 := [some (.ref 0), some (.int a1), some (.int a2), some (.int a3), some (.int r5)]) rfl ?_
    refine bs_aload_n C (bf_dk dd_X8_remove 16 rfl) rfl ?_
    refine bs_get C (bf_dk dd_X8_remove 17 rfl) cl_8 in_8 0 (Nat.le_of_ble_eq_true rfl) rfl f_8_12 (ge_bW8_0 S) rfl ?_
    refine bs_get C (bf_dk dd_X8_remove 18 rfl) cl_2 in_2 0 (Nat.le_of_ble_eq_true rfl) rfl f_8_87 (ge_bW8_1 S) rfl ?_
    refine bs_get C (bf_dk dd_X8_remove 19 rfl) cl_3 in_3 0 (Nat.le_of_ble_eq_true rfl) rfl f_8_99 (ge_bW8_2 S) rfl ?_
    refine bs_iload C (bf_dk dd_X8_remove 20 rfl) rfl ?_
    refine bs_callV_v (ps := [3, 4, 5]) (w := (bW8 S)) C hR (c_X0_drop _ _ _ _ _ (b3g_members (b2g_told (b8g_now S))) (r5) _ h) my_X0_drop m_8_143 rfl cl_0 (ge_bW0_0 _) rfl (Nat.le_of_ble_eq_true rfl) (Nat.le_of_ble_eq_true rfl) (su_bW8_3_bW0 S) rfl (st := []) (Nat.le_of_ble_eq_true rfl) (bf_dk dd_X8_remove 21 rfl) rfl (fun _ => rfl) (w2 := fun u8 => bW8 (b8s_now S (b2s_told (b8g_now S) (b3s_members (b2g_told (b8g_now S)) u8)))) (pt_bW8_3_bW0 S) (fun u8 h => ?_)
    refine bs_nameS bW8 (fun S9 eS9 => ?_)
    replace h := h S9 eS9
    refine bs_iload C (bf_dk dd_X8_remove 22 rfl) rfl ?_
    exact bs_iret (u := S9) C (bf_dk dd_X8_remove 23 rfl) rfl h
  · replace h := h.2 c
    refine bs_iconst C (bf_dk dd_X8_remove 3 rfl) (-1 : Int32) (by decide) ?_
    exact bs_iret (u := S) C (bf_dk dd_X8_remove 4 rfl) rfl h
theorem c_X8_remove (l : Launch) (dC : Nat → ClassId) (dI : Nat → Nat → Nat) (ac : Nat → ClassId) (al : Nat → Nat) (S : bT8) (a1 : Int32) (a2 : Int32) (a3 : Int32) (Q : Int32 → (bT8) → Prop) (h : wp_X8_remove S a1 a2 a3 Q) : bf_M l yX8_remove cX8_remove 5 (some .int) 4 99 dC dI ac al [.ref 0, .int a1, .int a2, .int a3] (bW8 S) (bf_Ki dC dI ac al bW8 Q) := by
  refine bf_start [some (.ref 0), some (.int a1), some (.int a2), some (.int a3), none] (by decide) (Nat.le_of_ble_eq_true rfl) (bf_s1 (bf_s1 (bf_s1 (bf_s1 (bf_en 1))))) ?_
  intro X hl C hR e1 e2 e3 e4
  subst e1; subst e2; subst e3; subst e4
  exact t_X8_remove C hR S a1 a2 a3 Q h
def wp_X8_fill_78 (S : bT8) (x1 : Int32) (x2 : Int32) (x3 : Int32) (x4 : Int32) (Q : Int32 → (bT8) → Prop) (B25 : Int32 → Int32 → Int32 → Int32 → (bT8) → Prop) : Prop := (B25 (x1) (x2) (x3) ((x4 + (1 : Int32))) S)
set_option maxRecDepth 20000 in
theorem t_X8_fill_78 {X : bf_X} (C : bf_C X RX8 cX8_fill 8 (some .int)) (hR : bf_Rm X 4 100) (S : bT8) (x1 : Int32) (x2 : Int32) (x3 : Int32) (x4 : Int32) (Q : Int32 → (bT8) → Prop) (B25 : Int32 → Int32 → Int32 → Int32 → (bT8) → Prop) (hB25 : ∀ (x1 : Int32) (x2 : Int32) (x3 : Int32) (x4 : Int32) (S : bT8), B25 x1 x2 x3 x4 S → bf_A X (bf_Zi X bW8 Q) 8 25 [some (.ref 0), some (.int x1), some (.int x2), some (.int x3), some (.int x4), none, none, none] [] (bW8 S)) (h : wp_X8_fill_78 S x1 x2 x3 x4 Q B25) : bf_A X (bf_Zi X bW8 Q) 8 78 [some (.ref 0), some (.int x1), some (.int x2), some (.int x3), some (.int x4), none, none, none] [] (bW8 S) := by
  unfold wp_X8_fill_78 at h
  refine bs_iinc C (bf_dk dd_X8_fill 40 rfl) (x4 + (1 : Int32)) rfl rfl (Nat.le_of_ble_eq_true rfl) (Nat.le_of_ble_eq_true rfl) (lv2 := [some (.ref 0), some (.int x1), some (.int x2), some (.int x3), some (.int (x4 + (1 : Int32))), none, none, none]) rfl ?_
  refine bs_goto C (bf_dk dd_X8_fill 41 rfl) (tgt := 25) rfl ?_
  exact bs_weak (bf_s1 (bf_s1 (bf_s1 (bf_s1 (bf_s1 (bf_sn (bf_sn (bf_sn bf_s0)))))))) (hB25 (x1) (x2) (x3) ((x4 + (1 : Int32))) S h)
def wp_X8_fill_25b (S : bT8) (x1 : Int32) (x2 : Int32) (x3 : Int32) (x4 : Int32) (Q : Int32 → (bT8) → Prop) (B25 : Int32 → Int32 → Int32 → Int32 → (bT8) → Prop) : Prop := ((x1 ≤ x4 → (Q x3 S)) ∧ (¬ x1 ≤ x4 → (wp_X2_draw (b8g_now S) (x2) (fun r1 u2 => (∀ S3 : bT8, S3 = (b8s_now S u2) → (wp_X2_drawBytes (b8g_now S3) ((r1 + (1 : Int32))) (fun r4 u5 => (∀ S6 : bT8, S6 = (b8s_now S3 u5) → (wp_X0_insert (b3g_members (b2g_told (b8g_now S6))) (r4) ((r1 + (1 : Int32))) (fun r7 u8 => (∀ S9 : bT8, S9 = (b8s_now S6 (b2s_told (b8g_now S6) (b3s_members (b2g_told (b8g_now S6)) u8))) → ((r7 = (-1 : Int32) → (wp_X8_fill_78 S9 (x1) (x2) (x3) (x4) Q B25)) ∧ (¬ r7 = (-1 : Int32) → (wp_X8_fill_78 S9 (x1) (x2) ((x3 + (1 : Int32))) (x4) Q B25))))))))))))))
set_option maxRecDepth 20000 in
theorem t_X8_fill_25b {X : bf_X} (C : bf_C X RX8 cX8_fill 8 (some .int)) (hR : bf_Rm X 4 100) (S : bT8) (x1 : Int32) (x2 : Int32) (x3 : Int32) (x4 : Int32) (Q : Int32 → (bT8) → Prop) (B25 : Int32 → Int32 → Int32 → Int32 → (bT8) → Prop) (hB25 : ∀ (x1 : Int32) (x2 : Int32) (x3 : Int32) (x4 : Int32) (S : bT8), B25 x1 x2 x3 x4 S → bf_A X (bf_Zi X bW8 Q) 8 25 [some (.ref 0), some (.int x1), some (.int x2), some (.int x3), some (.int x4), none, none, none] [] (bW8 S)) (h : wp_X8_fill_25b S x1 x2 x3 x4 Q B25) : bf_A X (bf_Zi X bW8 Q) 8 25 [some (.ref 0), some (.int x1), some (.int x2), some (.int x3), some (.int x4), none, none, none] [] (bW8 S) := by
  unfold wp_X8_fill_25b at h
  refine bs_iload C (bf_dk dd_X8_fill 15 rfl) rfl ?_
  refine bs_iload_n C (bf_dk dd_X8_fill 16 rfl) rfl ?_
  refine bs_icmp_ge C (bf_dk dd_X8_fill 17 rfl) (tgt := 84) rfl (fun c => ?_) (fun c => ?_)
  · replace h := h.1 c
    refine bs_iload_n C (bf_dk dd_X8_fill 42 rfl) rfl ?_
    exact bs_iret (u := S) C (bf_dk dd_X8_fill 43 rfl) rfl h
  · replace h := h.2 c
    refine bs_aload_n C (bf_dk dd_X8_fill 18 rfl) rfl ?_
    refine bs_get C (bf_dk dd_X8_fill 19 rfl) cl_8 in_8 0 (Nat.le_of_ble_eq_true rfl) rfl f_8_12 (ge_bW8_0 S) rfl ?_
    refine bs_iload_n C (bf_dk dd_X8_fill 20 rfl) rfl ?_
    refine bs_callV_i (ps := [1, 2, 3, 4, 5, 6, 7, 8, 9, 10, 11, 12, 13, 14, 15]) (w := (bW8 S)) C hR (c_X2_draw _ _ _ _ _ (b8g_now S) (x2) _ h) my_X2_draw m_8_146 rfl cl_2 (ge_bW2_0 _) rfl (Nat.le_of_ble_eq_true rfl) (Nat.le_of_ble_eq_true rfl) (su_bW8_1_bW2 S) bnd_1t15 (st := []) (Nat.le_of_ble_eq_true rfl) (bf_dk dd_X8_fill 21 rfl) rfl (fun _ => rfl) (w2 := fun u2 => bW8 (b8s_now S u2)) (pt_bW8_1_bW2 S) (fun r1 u2 h => ?_)
    refine bs_nameS bW8 (fun S3 eS3 => ?_)
    replace h := h S3 eS3
    refine bs_iconst C (bf_dk dd_X8_fill 22 rfl) (1 : Int32) (by decide) ?_
    refine bs_iadd C (bf_dk dd_X8_fill 23 rfl) ?_
    refine bs_istore C (bf_dk dd_X8_fill 24 rfl) (Nat.le_of_ble_eq_true rfl) (Nat.le_of_ble_eq_true rfl) (lv2 := [some (.ref 0), some (.int x1), some (.int x2), some (.int x3), some (.int x4), some (.int (r1 + (1 : Int32))), none, none]) rfl ?_
    refine bs_aload_n C (bf_dk dd_X8_fill 25 rfl) rfl ?_
    refine bs_get C (bf_dk dd_X8_fill 26 rfl) cl_8 in_8 0 (Nat.le_of_ble_eq_true rfl) rfl f_8_12 (ge_bW8_0 S3) rfl ?_
    refine bs_iload C (bf_dk dd_X8_fill 27 rfl) rfl ?_
    refine bs_callV_l (ps := [1, 2, 3, 4, 5, 6, 7, 8, 9, 10, 11, 12, 13, 14, 15]) (w := (bW8 S3)) C hR (c_X2_drawBytes _ _ _ _ _ (b8g_now S3) ((r1 + (1 : Int32))) _ h) my_X2_drawBytes m_8_150 rfl cl_2 (ge_bW2_0 _) rfl (Nat.le_of_ble_eq_true rfl) (Nat.le_of_ble_eq_true rfl) (su_bW8_1_bW2 S3) bnd_1t15 (st := []) (Nat.le_of_ble_eq_true rfl) (bf_dk dd_X8_fill 28 rfl) rfl (fun _ => rfl) (w2 := fun u5 => bW8 (b8s_now S3 u5)) (pt_bW8_1_bW2 S3) (fun r4 u5 h => ?_)
    refine bs_nameS bW8 (fun S6 eS6 => ?_)
    replace h := h S6 eS6
    refine bs_lstore C (bf_dk dd_X8_fill 29 rfl) (Nat.le_of_ble_eq_true rfl) (Nat.le_of_ble_eq_true rfl) (lv2 := [some (.ref 0), some (.int x1), some (.int x2), some (.int x3), some (.int x4), some (.int (r1 + (1 : Int32))), some (.long r4), none]) rfl ?_
    refine bs_aload_n C (bf_dk dd_X8_fill 30 rfl) rfl ?_
    refine bs_get C (bf_dk dd_X8_fill 31 rfl) cl_8 in_8 0 (Nat.le_of_ble_eq_true rfl) rfl f_8_12 (ge_bW8_0 S6) rfl ?_
    refine bs_get C (bf_dk dd_X8_fill 32 rfl) cl_2 in_2 0 (Nat.le_of_ble_eq_true rfl) rfl f_8_87 (ge_bW8_1 S6) rfl ?_
    refine bs_get C (bf_dk dd_X8_fill 33 rfl) cl_3 in_3 0 (Nat.le_of_ble_eq_true rfl) rfl f_8_99 (ge_bW8_2 S6) rfl ?_
    refine bs_lload C (bf_dk dd_X8_fill 34 rfl) rfl ?_
    refine bs_iload C (bf_dk dd_X8_fill 35 rfl) rfl ?_
    refine bs_callV_i (ps := [3, 4, 5]) (w := (bW8 S6)) C hR (c_X0_insert _ _ _ _ _ (b3g_members (b2g_told (b8g_now S6))) (r4) ((r1 + (1 : Int32))) _ h) my_X0_insert m_8_136 rfl cl_0 (ge_bW0_0 _) rfl (Nat.le_of_ble_eq_true rfl) (Nat.le_of_ble_eq_true rfl) (su_bW8_3_bW0 S6) rfl (st := []) (Nat.le_of_ble_eq_true rfl) (bf_dk dd_X8_fill 36 rfl) rfl (fun _ => rfl) (w2 := fun u8 => bW8 (b8s_now S6 (b2s_told (b8g_now S6) (b3s_members (b2g_told (b8g_now S6)) u8)))) (pt_bW8_3_bW0 S6) (fun r7 u8 h => ?_)
    refine bs_nameS bW8 (fun S9 eS9 => ?_)
    replace h := h S9 eS9
    refine bs_iconst C (bf_dk dd_X8_fill 37 rfl) (-1 : Int32) (by decide) ?_
    refine bs_icmp_eq C (bf_dk dd_X8_fill 38 rfl) (tgt := 78) rfl (fun c => ?_) (fun c => ?_)
    · replace h := h.1 c
      exact bs_weak (bf_s1 (bf_s1 (bf_s1 (bf_s1 (bf_s1 (bf_sn (bf_sn (bf_sn bf_s0)))))))) (t_X8_fill_78 C hR S9 (x1) (x2) (x3) (x4) Q B25 hB25 h)
    · replace h := h.2 c
      refine bs_iinc C (bf_dk dd_X8_fill 39 rfl) (x3 + (1 : Int32)) rfl rfl (Nat.le_of_ble_eq_true rfl) (Nat.le_of_ble_eq_true rfl) (lv2 := [some (.ref 0), some (.int x1), some (.int x2), some (.int (x3 + (1 : Int32))), some (.int x4), some (.int (r1 + (1 : Int32))), some (.long r4), none]) rfl ?_
      exact bs_weak (bf_s1 (bf_s1 (bf_s1 (bf_s1 (bf_s1 (bf_sn (bf_sn (bf_sn bf_s0)))))))) (t_X8_fill_78 C hR S9 (x1) (x2) ((x3 + (1 : Int32))) (x4) Q B25 hB25 h)
def wp_X8_fill_25 (S : bT8) (x1 : Int32) (x2 : Int32) (x3 : Int32) (x4 : Int32) (Q : Int32 → (bT8) → Prop) : Prop := ∃ I : Nat → Int32 → Int32 → Int32 → Int32 → (bT8) → Prop, (∃ n : Nat, I n x1 x2 x3 x4 S) ∧ ∀ (n : Nat) (x1 : Int32) (x2 : Int32) (x3 : Int32) (x4 : Int32) (S : bT8), I n x1 x2 x3 x4 S → wp_X8_fill_25b S x1 x2 x3 x4 Q (fun x1 x2 x3 x4 S => ∃ n2 : Nat, n2 < n ∧ I n2 x1 x2 x3 x4 S)
theorem t_X8_fill_25 {X : bf_X} (C : bf_C X RX8 cX8_fill 8 (some .int)) (hR : bf_Rm X 4 100) (S : bT8) (x1 : Int32) (x2 : Int32) (x3 : Int32) (x4 : Int32) (Q : Int32 → (bT8) → Prop) (h : wp_X8_fill_25 S x1 x2 x3 x4 Q) : bf_A X (bf_Zi X bW8 Q) 8 25 [some (.ref 0), some (.int x1), some (.int x2), some (.int x3), some (.int x4), none, none, none] [] (bW8 S) := by
  obtain ⟨I, ⟨n0, h0⟩, hI⟩ := h
  have key : ∀ (n : Nat) (x1 : Int32) (x2 : Int32) (x3 : Int32) (x4 : Int32) (S : bT8), I n x1 x2 x3 x4 S → bf_A X (bf_Zi X bW8 Q) 8 25 [some (.ref 0), some (.int x1), some (.int x2), some (.int x3), some (.int x4), none, none, none] [] (bW8 S) := by
    intro n
    induction n using Nat.strongRecOn with
    | _ n ih =>
      intro x1 x2 x3 x4 S hi
      exact t_X8_fill_25b C hR S x1 x2 x3 x4 Q _ (fun x1 x2 x3 x4 S hb => by obtain ⟨n2, hn, hi2⟩ := hb; exact ih n2 hn x1 x2 x3 x4 S hi2) (hI n x1 x2 x3 x4 S hi)
  exact key n0 x1 x2 x3 x4 S h0
def wp_X8_fill (S : bT8) (a1 : Int32) (a2 : Int32) (Q : Int32 → (bT8) → Prop) : Prop := ((a1 < (1 : Int32) → (Q (-1 : Int32) S)) ∧ (¬ a1 < (1 : Int32) → (((64 : Int32) < a1 → (Q (-1 : Int32) S)) ∧ (¬ (64 : Int32) < a1 → (wp_X8_isLength (a2) (fun r10 => ((¬ r10 = 0 → (wp_X8_fill_25 S (a1) (a2) ((0 : Int32)) ((0 : Int32)) Q)) ∧ (r10 = 0 → (Q (-1 : Int32) S)))))))))
set_option maxRecDepth 20000 in
theorem t_X8_fill {X : bf_X} (C : bf_C X RX8 cX8_fill 8 (some .int)) (hR : bf_Rm X 4 100) (S : bT8) (a1 : Int32) (a2 : Int32) (Q : Int32 → (bT8) → Prop) (h : wp_X8_fill S a1 a2 Q) : bf_A X (bf_Zi X bW8 Q) 8 0 [some (.ref 0), some (.int a1), some (.int a2), none, none, none, none, none] [] (bW8 S) := by
  unfold wp_X8_fill at h
  refine bs_iload_n C (bf_dk dd_X8_fill 0 rfl) rfl ?_
  refine bs_iconst C (bf_dk dd_X8_fill 1 rfl) (1 : Int32) (by decide) ?_
  refine bs_icmp_lt C (bf_dk dd_X8_fill 2 rfl) (tgt := 18) rfl (fun c => ?_) (fun c => ?_)
  · replace h := h.1 c
    refine bs_iconst C (bf_dk dd_X8_fill 9 rfl) (-1 : Int32) (by decide) ?_
    exact bs_iret (u := S) C (bf_dk dd_X8_fill 10 rfl) rfl h
  · replace h := h.2 c
    refine bs_iload_n C (bf_dk dd_X8_fill 3 rfl) rfl ?_
    refine bs_bipush C (bf_dk dd_X8_fill 4 rfl) (64 : Int32) (by decide) ?_
    refine bs_icmp_gt C (bf_dk dd_X8_fill 5 rfl) (tgt := 18) rfl (fun c => ?_) (fun c => ?_)
    · replace h := h.1 c
      refine bs_iconst C (bf_dk dd_X8_fill 9 rfl) (-1 : Int32) (by decide) ?_
      exact bs_iret (u := S) C (bf_dk dd_X8_fill 10 rfl) rfl h
    · replace h := h.2 c
      refine bs_iload_n C (bf_dk dd_X8_fill 6 rfl) rfl ?_
      refine bs_pureS_i (ps := []) (w := (bW8 S)) C hR (c_X8_isLength _ _ _ _ _ (a2) _ h) my_X8_isLength m_8_128 rfl (Nat.le_of_ble_eq_true rfl) (Nat.le_of_ble_eq_true rfl) rfl rfl (st := []) (Nat.le_of_ble_eq_true rfl) (bf_dk dd_X8_fill 7 rfl) rfl (fun _ => rfl) (fun r10 h => ?_)
      refine bs_if_ne C (bf_dk dd_X8_fill 8 rfl) (tgt := 20) rfl (fun c => ?_) (fun c => ?_)
      · replace h := h.1 c
        refine bs_iconst C (bf_dk dd_X8_fill 11 rfl) (0 : Int32) (by decide) ?_
        refine bs_istore_n C (bf_dk dd_X8_fill 12 rfl) rfl (Nat.le_of_ble_eq_true rfl) (Nat.le_of_ble_eq_true rfl) (lv2 := [some (.ref 0), some (.int a1), some (.int a2), some (.int (0 : Int32)), none, none, none, none]) rfl ?_
        refine bs_iconst C (bf_dk dd_X8_fill 13 rfl) (0 : Int32) (by decide) ?_
        refine bs_istore C (bf_dk dd_X8_fill 14 rfl) (Nat.le_of_ble_eq_true rfl) (Nat.le_of_ble_eq_true rfl) (lv2 := [some (.ref 0), some (.int a1), some (.int a2), some (.int (0 : Int32)), some (.int (0 : Int32)), none, none, none]) rfl ?_
        exact bs_weak (bf_s1 (bf_s1 (bf_s1 (bf_s1 (bf_s1 (bf_sn (bf_sn (bf_sn bf_s0)))))))) (t_X8_fill_25 C hR S (a1) (a2) ((0 : Int32)) ((0 : Int32)) Q h)
      · replace h := h.2 c
        refine bs_iconst C (bf_dk dd_X8_fill 9 rfl) (-1 : Int32) (by decide) ?_
        exact bs_iret (u := S) C (bf_dk dd_X8_fill 10 rfl) rfl h
theorem c_X8_fill (l : Launch) (dC : Nat → ClassId) (dI : Nat → Nat → Nat) (ac : Nat → ClassId) (al : Nat → Nat) (S : bT8) (a1 : Int32) (a2 : Int32) (Q : Int32 → (bT8) → Prop) (h : wp_X8_fill S a1 a2 Q) : bf_M l yX8_fill cX8_fill 8 (some .int) 4 100 dC dI ac al [.ref 0, .int a1, .int a2] (bW8 S) (bf_Ki dC dI ac al bW8 Q) := by
  refine bf_start [some (.ref 0), some (.int a1), some (.int a2), none, none, none, none, none] (by decide) (Nat.le_of_ble_eq_true rfl) (bf_s1 (bf_s1 (bf_s1 (bf_en 5)))) ?_
  intro X hl C hR e1 e2 e3 e4
  subst e1; subst e2; subst e3; subst e4
  exact t_X8_fill C hR S a1 a2 Q h
def wp_X8_build (S : bT8) (Q : Int32 → (bT8) → Prop) : Prop := (wp_X3_copyFrom ((b2g_built (b8g_now S)), (b2g_told (b8g_now S))) (fun u2 => (∀ S3 : bT8, S3 = (b8s_now (b8s_now S (b2s_built (b8g_now S) u2.1)) (b2s_told (b8g_now (b8s_now S (b2s_built (b8g_now S) u2.1))) u2.2)) → (wp_X8_rebuild S3 (fun u5 => (wp_X1_count (b8g_leaves u5) (fun r6 => (Q r6 u5))))))))
set_option maxRecDepth 20000 in
theorem t_X8_build {X : bf_X} (C : bf_C X RX8 cX8_build 1 (some .int)) (hR : bf_Rm X 6 136) (S : bT8) (Q : Int32 → (bT8) → Prop) (h : wp_X8_build S Q) : bf_A X (bf_Zi X bW8 Q) 1 0 [some (.ref 0)] [] (bW8 S) := by
  unfold wp_X8_build at h
  refine bs_aload_n C (bf_dk dd_X8_build 0 rfl) rfl ?_
  refine bs_get C (bf_dk dd_X8_build 1 rfl) cl_8 in_8 0 (Nat.le_of_ble_eq_true rfl) rfl f_8_12 (ge_bW8_0 S) rfl ?_
  refine bs_get C (bf_dk dd_X8_build 2 rfl) cl_2 in_2 1 (Nat.le_of_ble_eq_true rfl) rfl f_8_154 (ge_bW8_1 S) rfl ?_
  refine bs_aload_n C (bf_dk dd_X8_build 3 rfl) rfl ?_
  refine bs_get C (bf_dk dd_X8_build 4 rfl) cl_8 in_8 0 (Nat.le_of_ble_eq_true rfl) rfl f_8_12 (ge_bW8_0 S) rfl ?_
  refine bs_get C (bf_dk dd_X8_build 5 rfl) cl_2 in_2 0 (Nat.le_of_ble_eq_true rfl) rfl f_8_87 (ge_bW8_1 S) rfl ?_
  refine bs_callV_v (ps := [7, 8, 9, 10, 11, 2, 3, 4, 5, 6]) (w := (bW8 S)) C hR (c_X3_copyFrom _ _ _ _ _ ((b2g_built (b8g_now S)), (b2g_told (b8g_now S))) _ h) my_X3_copyFrom m_8_157 rfl cl_3 (ge_bW3_3_0 _) rfl (Nat.le_of_ble_eq_true rfl) (Nat.le_of_ble_eq_true rfl) (su_bW8_7_2_bW3_3 S) bnd_7t11_2t6 (st := []) (Nat.le_of_ble_eq_true rfl) (bf_dk dd_X8_build 6 rfl) rfl (fun _ => rfl) (w2 := fun u2 => bW8 (b8s_now (b8s_now S (b2s_built (b8g_now S) u2.1)) (b2s_told (b8g_now (b8s_now S (b2s_built (b8g_now S) u2.1))) u2.2))) (pt_bW8_7_2_bW3_3 S) (fun u2 h => ?_)
  refine bs_nameS bW8 (fun S3 eS3 => ?_)
  replace h := h S3 eS3
  refine bs_aload_n C (bf_dk dd_X8_build 7 rfl) rfl ?_
  refine bs_selfV_v C hR (c_X8_rebuild _ _ _ _ _ S3 _ h) my_X8_rebuild m_8_69 rfl cl_8 (ge_bW8_0 _) rfl (Nat.le_of_ble_eq_true rfl) (Nat.le_of_ble_eq_true rfl) (st := []) (Nat.le_of_ble_eq_true rfl) (bf_dk dd_X8_build 8 rfl) rfl (len := 68) (fun _ => rfl) (fun u5 h => ?_)
  refine bs_aload_n C (bf_dk dd_X8_build 9 rfl) rfl ?_
  refine bs_get C (bf_dk dd_X8_build 10 rfl) cl_8 in_8 3 (Nat.le_of_ble_eq_true rfl) rfl f_8_26 (ge_bW8_0 u5) rfl ?_
  refine bs_pureV_i (ps := [31, 32, 33, 34, 35, 36, 37, 38, 39, 40, 41, 42, 43, 44]) (w := (bW8 u5)) C hR (c_X1_count _ _ _ _ _ (b8g_leaves u5) _ h) my_X1_count m_8_160 rfl cl_1 (ge_bW1_0 _) rfl (Nat.le_of_ble_eq_true rfl) (Nat.le_of_ble_eq_true rfl) (su_bW8_31_bW1 u5) bnd_31t44 (st := []) (Nat.le_of_ble_eq_true rfl) (bf_dk dd_X8_build 11 rfl) rfl (fun _ => rfl) (fun r6 h => ?_)
  exact bs_iret (u := u5) C (bf_dk dd_X8_build 12 rfl) rfl h
theorem c_X8_build (l : Launch) (dC : Nat → ClassId) (dI : Nat → Nat → Nat) (ac : Nat → ClassId) (al : Nat → Nat) (S : bT8) (Q : Int32 → (bT8) → Prop) (h : wp_X8_build S Q) : bf_M l yX8_build cX8_build 1 (some .int) 6 136 dC dI ac al [.ref 0] (bW8 S) (bf_Ki dC dI ac al bW8 Q) := by
  refine bf_start [some (.ref 0)] (by decide) (Nat.le_of_ble_eq_true rfl) (bf_s1 bf_s0) ?_
  intro X hl C hR e1 e2 e3 e4
  subst e1; subst e2; subst e3; subst e4
  exact t_X8_build C hR S Q h
def wp_X8_has (S : bT8) (a1 : Int32) (a2 : Int32) (a3 : Int32) (a4 : Int32) (Q : Int32 → Prop) : Prop := (wp_X8_isLength (a3) (fun r1 => ((¬ r1 = 0 → (wp_X8_keyOf (a1) (a2) (a3) (fun r3 => ((¬ a4 = 0 → ((¬ a4 = (1 : Int32) → (Q (-1 : Int32))) ∧ (a4 = (1 : Int32) → (wp_X0_numberOf (b1g_owners (b8g_leaves S)) (r3) (a3) (fun r5 => (Q r5)))))) ∧ (a4 = 0 → (wp_X0_numberOf (b3g_members (b2g_told (b8g_now S))) (r3) (a3) (fun r7 => (Q r7)))))))) ∧ (r1 = 0 → (Q (-1 : Int32))))))
set_option maxRecDepth 20000 in
theorem t_X8_has {X : bf_X} (C : bf_C X RX8 cX8_has 7 (some .int)) (hR : bf_Rm X 4 99) (S : bT8) (a1 : Int32) (a2 : Int32) (a3 : Int32) (a4 : Int32) (Q : Int32 → Prop) (h : wp_X8_has S a1 a2 a3 a4 Q) : bf_A X (bf_Zi X bW8 (fun r u => u = S ∧ Q r)) 7 0 [some (.ref 0), some (.int a1), some (.int a2), some (.int a3), some (.int a4), none, none] [] (bW8 S) := by
  unfold wp_X8_has at h
  refine bs_iload_n C (bf_dk dd_X8_has 0 rfl) rfl ?_
  refine bs_pureS_i (ps := []) (w := (bW8 S)) C hR (c_X8_isLength _ _ _ _ _ (a3) _ h) my_X8_isLength m_8_128 rfl (Nat.le_of_ble_eq_true rfl) (Nat.le_of_ble_eq_true rfl) rfl rfl (st := []) (Nat.le_of_ble_eq_true rfl) (bf_dk dd_X8_has 1 rfl) rfl (fun _ => rfl) (fun r1 h => ?_)
  refine bs_if_ne C (bf_dk dd_X8_has 2 rfl) (tgt := 9) rfl (fun c => ?_) (fun c => ?_)
  · replace h := h.1 c
    refine bs_iload_n C (bf_dk dd_X8_has 5 rfl) rfl ?_
    refine bs_iload_n C (bf_dk dd_X8_has 6 rfl) rfl ?_
    refine bs_iload_n C (bf_dk dd_X8_has 7 rfl) rfl ?_
    refine bs_pureS_l (ps := []) (w := (bW8 S)) C hR (c_X8_keyOf _ _ _ _ _ (a1) (a2) (a3) _ h) my_X8_keyOf m_8_132 rfl (Nat.le_of_ble_eq_true rfl) (Nat.le_of_ble_eq_true rfl) rfl rfl (st := []) (Nat.le_of_ble_eq_true rfl) (bf_dk dd_X8_has 8 rfl) rfl (fun _ => rfl) (fun r3 h => ?_)
    refine bs_lstore C (bf_dk dd_X8_has 9 rfl) (Nat.le_of_ble_eq_true rfl) (Nat.le_of_ble_eq_true rfl) (lv2 := [some (.ref 0), some (.int a1), some (.int a2), some (.int a3), some (.int a4), some (.long r3), none]) rfl ?_
    refine bs_iload C (bf_dk dd_X8_has 10 rfl) rfl ?_
    refine bs_if_ne C (bf_dk dd_X8_has 11 rfl) (tgt := 39) rfl (fun c => ?_) (fun c => ?_)
    · replace h := h.1 c
      refine bs_iload C (bf_dk dd_X8_has 20 rfl) rfl ?_
      refine bs_iconst C (bf_dk dd_X8_has 21 rfl) (1 : Int32) (by decide) ?_
      refine bs_icmp_ne C (bf_dk dd_X8_has 22 rfl) (tgt := 61) rfl (fun c => ?_) (fun c => ?_)
      · replace h := h.1 c
        refine bs_iconst C (bf_dk dd_X8_has 30 rfl) (-1 : Int32) (by decide) ?_
        exact bs_iret (u := S) C (bf_dk dd_X8_has 31 rfl) rfl ⟨rfl, h⟩
      · replace h := h.2 c
        refine bs_aload_n C (bf_dk dd_X8_has 23 rfl) rfl ?_
        refine bs_get C (bf_dk dd_X8_has 24 rfl) cl_8 in_8 3 (Nat.le_of_ble_eq_true rfl) rfl f_8_26 (ge_bW8_0 S) rfl ?_
        refine bs_get C (bf_dk dd_X8_has 25 rfl) cl_1 in_1 0 (Nat.le_of_ble_eq_true rfl) rfl f_8_163 (ge_bW8_31 S) rfl ?_
        refine bs_lload C (bf_dk dd_X8_has 26 rfl) rfl ?_
        refine bs_iload_n C (bf_dk dd_X8_has 27 rfl) rfl ?_
        refine bs_pureV_i (ps := [32, 33, 34]) (w := (bW8 S)) C hR (c_X0_numberOf _ _ _ _ _ (b1g_owners (b8g_leaves S)) (r3) (a3) _ h) my_X0_numberOf m_8_140 rfl cl_0 (ge_bW0_0 _) rfl (Nat.le_of_ble_eq_true rfl) (Nat.le_of_ble_eq_true rfl) (su_bW8_32_bW0 S) rfl (st := []) (Nat.le_of_ble_eq_true rfl) (bf_dk dd_X8_has 28 rfl) rfl (fun _ => rfl) (fun r5 h => ?_)
        refine bs_goto C (bf_dk dd_X8_has 29 rfl) (tgt := 62) rfl ?_
        exact bs_iret (u := S) C (bf_dk dd_X8_has 31 rfl) rfl ⟨rfl, h⟩
    · replace h := h.2 c
      refine bs_aload_n C (bf_dk dd_X8_has 12 rfl) rfl ?_
      refine bs_get C (bf_dk dd_X8_has 13 rfl) cl_8 in_8 0 (Nat.le_of_ble_eq_true rfl) rfl f_8_12 (ge_bW8_0 S) rfl ?_
      refine bs_get C (bf_dk dd_X8_has 14 rfl) cl_2 in_2 0 (Nat.le_of_ble_eq_true rfl) rfl f_8_87 (ge_bW8_1 S) rfl ?_
      refine bs_get C (bf_dk dd_X8_has 15 rfl) cl_3 in_3 0 (Nat.le_of_ble_eq_true rfl) rfl f_8_99 (ge_bW8_2 S) rfl ?_
      refine bs_lload C (bf_dk dd_X8_has 16 rfl) rfl ?_
      refine bs_iload_n C (bf_dk dd_X8_has 17 rfl) rfl ?_
      refine bs_pureV_i (ps := [3, 4, 5]) (w := (bW8 S)) C hR (c_X0_numberOf _ _ _ _ _ (b3g_members (b2g_told (b8g_now S))) (r3) (a3) _ h) my_X0_numberOf m_8_140 rfl cl_0 (ge_bW0_0 _) rfl (Nat.le_of_ble_eq_true rfl) (Nat.le_of_ble_eq_true rfl) (su_bW8_3_bW0 S) rfl (st := []) (Nat.le_of_ble_eq_true rfl) (bf_dk dd_X8_has 18 rfl) rfl (fun _ => rfl) (fun r7 h => ?_)
      exact bs_iret (u := S) C (bf_dk dd_X8_has 19 rfl) rfl ⟨rfl, h⟩
  · replace h := h.2 c
    refine bs_iconst C (bf_dk dd_X8_has 3 rfl) (-1 : Int32) (by decide) ?_
    exact bs_iret (u := S) C (bf_dk dd_X8_has 4 rfl) rfl ⟨rfl, h⟩
theorem c_X8_has (l : Launch) (dC : Nat → ClassId) (dI : Nat → Nat → Nat) (ac : Nat → ClassId) (al : Nat → Nat) (S : bT8) (a1 : Int32) (a2 : Int32) (a3 : Int32) (a4 : Int32) (Q : Int32 → Prop) (h : wp_X8_has S a1 a2 a3 a4 Q) : bf_M l yX8_has cX8_has 7 (some .int) 4 99 dC dI ac al [.ref 0, .int a1, .int a2, .int a3, .int a4] (bW8 S) (bf_Ki dC dI ac al bW8 (fun r u => u = S ∧ Q r)) := by
  refine bf_start [some (.ref 0), some (.int a1), some (.int a2), some (.int a3), some (.int a4), none, none] (by decide) (Nat.le_of_ble_eq_true rfl) (bf_s1 (bf_s1 (bf_s1 (bf_s1 (bf_s1 (bf_en 2)))))) ?_
  intro X hl C hR e1 e2 e3 e4
  subst e1; subst e2; subst e3; subst e4
  exact t_X8_has C hR S a1 a2 a3 a4 Q h
def wp_X8_askKey (S : bT8) (a1 : Int64) (a3 : Int32) (Q : Int32 → (bT8) → Prop) : Prop := (wp_X1_verdictOf (b8g_leaves S) (a1) (a3) (fun r1 => (wp_X2_note (b8g_now S) ((0 : Int32)) (r1) (fun u4 => (∀ S5 : bT8, S5 = (b8s_now S u4) → (Q r1 S5))))))
set_option maxRecDepth 20000 in
theorem t_X8_askKey {X : bf_X} (C : bf_C X RX8 cX8_askKey 5 (some .int)) (hR : bf_Rm X 5 124) (S : bT8) (a1 : Int64) (a3 : Int32) (Q : Int32 → (bT8) → Prop) (h : wp_X8_askKey S a1 a3 Q) : bf_A X (bf_Zi X bW8 Q) 5 0 [some (.ref 0), some (.long a1), none, some (.int a3), none] [] (bW8 S) := by
  unfold wp_X8_askKey at h
  refine bs_aload_n C (bf_dk dd_X8_askKey 0 rfl) rfl ?_
  refine bs_get C (bf_dk dd_X8_askKey 1 rfl) cl_8 in_8 3 (Nat.le_of_ble_eq_true rfl) rfl f_8_26 (ge_bW8_0 S) rfl ?_
  refine bs_lload_n C (bf_dk dd_X8_askKey 2 rfl) rfl ?_
  refine bs_iload_n C (bf_dk dd_X8_askKey 3 rfl) rfl ?_
  refine bs_pureV_i (ps := [31, 32, 33, 34, 35, 36, 37, 38, 39, 40, 41, 42, 43, 44]) (w := (bW8 S)) C hR (c_X1_verdictOf _ _ _ _ _ (b8g_leaves S) (a1) (a3) _ h) my_X1_verdictOf m_8_330 rfl cl_1 (ge_bW1_0 _) rfl (Nat.le_of_ble_eq_true rfl) (Nat.le_of_ble_eq_true rfl) (su_bW8_31_bW1 S) bnd_31t44 (st := []) (Nat.le_of_ble_eq_true rfl) (bf_dk dd_X8_askKey 4 rfl) rfl (fun _ => rfl) (fun r1 h => ?_)
  refine bs_istore C (bf_dk dd_X8_askKey 5 rfl) (Nat.le_of_ble_eq_true rfl) (Nat.le_of_ble_eq_true rfl) (lv2 := [some (.ref 0), some (.long a1), none, some (.int a3), some (.int r1)]) rfl ?_
  refine bs_aload_n C (bf_dk dd_X8_askKey 6 rfl) rfl ?_
  refine bs_get C (bf_dk dd_X8_askKey 7 rfl) cl_8 in_8 0 (Nat.le_of_ble_eq_true rfl) rfl f_8_12 (ge_bW8_0 S) rfl ?_
  refine bs_iconst C (bf_dk dd_X8_askKey 8 rfl) (0 : Int32) (by decide) ?_
  refine bs_iload C (bf_dk dd_X8_askKey 9 rfl) rfl ?_
  refine bs_callV_v (ps := [1, 2, 3, 4, 5, 6, 7, 8, 9, 10, 11, 12, 13, 14, 15]) (w := (bW8 S)) C hR (c_X2_note _ _ _ _ _ (b8g_now S) ((0 : Int32)) (r1) _ h) my_X2_note m_8_399 rfl cl_2 (ge_bW2_0 _) rfl (Nat.le_of_ble_eq_true rfl) (Nat.le_of_ble_eq_true rfl) (su_bW8_1_bW2 S) bnd_1t15 (st := []) (Nat.le_of_ble_eq_true rfl) (bf_dk dd_X8_askKey 10 rfl) rfl (fun _ => rfl) (w2 := fun u4 => bW8 (b8s_now S u4)) (pt_bW8_1_bW2 S) (fun u4 h => ?_)
  refine bs_nameS bW8 (fun S5 eS5 => ?_)
  replace h := h S5 eS5
  refine bs_iload C (bf_dk dd_X8_askKey 11 rfl) rfl ?_
  exact bs_iret (u := S5) C (bf_dk dd_X8_askKey 12 rfl) rfl h
theorem c_X8_askKey (l : Launch) (dC : Nat → ClassId) (dI : Nat → Nat → Nat) (ac : Nat → ClassId) (al : Nat → Nat) (S : bT8) (a1 : Int64) (a3 : Int32) (Q : Int32 → (bT8) → Prop) (h : wp_X8_askKey S a1 a3 Q) : bf_M l yX8_askKey cX8_askKey 5 (some .int) 5 124 dC dI ac al [.ref 0, .long a1, .int a3] (bW8 S) (bf_Ki dC dI ac al bW8 Q) := by
  refine bf_start [some (.ref 0), some (.long a1), none, some (.int a3), none] (by decide) (Nat.le_of_ble_eq_true rfl) (bf_s1 (bf_s1 (bf_sn (bf_s1 (bf_en 1))))) ?_
  intro X hl C hR e1 e2 e3 e4
  subst e1; subst e2; subst e3; subst e4
  exact t_X8_askKey C hR S a1 a3 Q h
def wp_X8_may (S : bT8) (a1 : Int32) (a2 : Int32) (a3 : Int32) (Q : Int32 → (bT8) → Prop) : Prop := (wp_X8_isLength (a3) (fun r1 => ((¬ r1 = 0 → (wp_X8_keyOf (a1) (a2) (a3) (fun r3 => (wp_X8_askKey S (r3) (a3) (fun r5 u6 => ((¬ r5 = 0 → (Q (1 : Int32) u6)) ∧ (r5 = 0 → (Q (0 : Int32) u6)))))))) ∧ (r1 = 0 → (Q (-1 : Int32) S)))))
set_option maxRecDepth 20000 in
theorem t_X8_may {X : bf_X} (C : bf_C X RX8 cX8_may 4 (some .int)) (hR : bf_Rm X 6 148) (S : bT8) (a1 : Int32) (a2 : Int32) (a3 : Int32) (Q : Int32 → (bT8) → Prop) (h : wp_X8_may S a1 a2 a3 Q) : bf_A X (bf_Zi X bW8 Q) 4 0 [some (.ref 0), some (.int a1), some (.int a2), some (.int a3)] [] (bW8 S) := by
  unfold wp_X8_may at h
  refine bs_iload_n C (bf_dk dd_X8_may 0 rfl) rfl ?_
  refine bs_pureS_i (ps := []) (w := (bW8 S)) C hR (c_X8_isLength _ _ _ _ _ (a3) _ h) my_X8_isLength m_8_128 rfl (Nat.le_of_ble_eq_true rfl) (Nat.le_of_ble_eq_true rfl) rfl rfl (st := []) (Nat.le_of_ble_eq_true rfl) (bf_dk dd_X8_may 1 rfl) rfl (fun _ => rfl) (fun r1 h => ?_)
  refine bs_if_ne C (bf_dk dd_X8_may 2 rfl) (tgt := 9) rfl (fun c => ?_) (fun c => ?_)
  · replace h := h.1 c
    refine bs_aload_n C (bf_dk dd_X8_may 5 rfl) rfl ?_
    refine bs_iload_n C (bf_dk dd_X8_may 6 rfl) rfl ?_
    refine bs_iload_n C (bf_dk dd_X8_may 7 rfl) rfl ?_
    refine bs_iload_n C (bf_dk dd_X8_may 8 rfl) rfl ?_
    refine bs_pureS_l (ps := []) (w := (bW8 S)) C hR (c_X8_keyOf _ _ _ _ _ (a1) (a2) (a3) _ h) my_X8_keyOf m_8_132 rfl (Nat.le_of_ble_eq_true rfl) (Nat.le_of_ble_eq_true rfl) rfl rfl (st := [.ref 0]) (Nat.le_of_ble_eq_true rfl) (bf_dk dd_X8_may 9 rfl) rfl (fun _ => rfl) (fun r3 h => ?_)
    refine bs_iload_n C (bf_dk dd_X8_may 10 rfl) rfl ?_
    refine bs_selfV_i C hR (c_X8_askKey _ _ _ _ _ S (r3) (a3) _ h) my_X8_askKey m_8_166 rfl cl_8 (ge_bW8_0 _) rfl (Nat.le_of_ble_eq_true rfl) (Nat.le_of_ble_eq_true rfl) (st := []) (Nat.le_of_ble_eq_true rfl) (bf_dk dd_X8_may 11 rfl) rfl (len := 68) (fun _ => rfl) (fun r5 u6 h => ?_)
    refine bs_if_ne C (bf_dk dd_X8_may 12 rfl) (tgt := 27) rfl (fun c => ?_) (fun c => ?_)
    · replace h := h.1 c
      refine bs_iconst C (bf_dk dd_X8_may 15 rfl) (1 : Int32) (by decide) ?_
      exact bs_iret (u := u6) C (bf_dk dd_X8_may 16 rfl) rfl h
    · replace h := h.2 c
      refine bs_iconst C (bf_dk dd_X8_may 13 rfl) (0 : Int32) (by decide) ?_
      refine bs_goto C (bf_dk dd_X8_may 14 rfl) (tgt := 28) rfl ?_
      exact bs_iret (u := u6) C (bf_dk dd_X8_may 16 rfl) rfl h
  · replace h := h.2 c
    refine bs_iconst C (bf_dk dd_X8_may 3 rfl) (-1 : Int32) (by decide) ?_
    exact bs_iret (u := S) C (bf_dk dd_X8_may 4 rfl) rfl h
theorem c_X8_may (l : Launch) (dC : Nat → ClassId) (dI : Nat → Nat → Nat) (ac : Nat → ClassId) (al : Nat → Nat) (S : bT8) (a1 : Int32) (a2 : Int32) (a3 : Int32) (Q : Int32 → (bT8) → Prop) (h : wp_X8_may S a1 a2 a3 Q) : bf_M l yX8_may cX8_may 4 (some .int) 6 148 dC dI ac al [.ref 0, .int a1, .int a2, .int a3] (bW8 S) (bf_Ki dC dI ac al bW8 Q) := by
  refine bf_start [some (.ref 0), some (.int a1), some (.int a2), some (.int a3)] (by decide) (Nat.le_of_ble_eq_true rfl) (bf_s1 (bf_s1 (bf_s1 (bf_s1 bf_s0)))) ?_
  intro X hl C hR e1 e2 e3 e4
  subst e1; subst e2; subst e3; subst e4
  exact t_X8_may C hR S a1 a2 a3 Q h
def wp_X8_leafOf (S : bT8) (a1 : Int32) (a2 : Int32) (a3 : Int32) (Q : Int32 → Prop) : Prop := (wp_X8_isLength (a3) (fun r1 => ((r1 = 0 → (Q (-1 : Int32))) ∧ (¬ r1 = 0 → (wp_X8_keyOf (a1) (a2) (a3) (fun r3 => (wp_X1_possibleAt (b8g_leaves S) (r3) (a3) (fun r5 => (Q r5)))))))))
set_option maxRecDepth 20000 in
theorem t_X8_leafOf {X : bf_X} (C : bf_C X RX8 cX8_leafOf 4 (some .int)) (hR : bf_Rm X 4 100) (S : bT8) (a1 : Int32) (a2 : Int32) (a3 : Int32) (Q : Int32 → Prop) (h : wp_X8_leafOf S a1 a2 a3 Q) : bf_A X (bf_Zi X bW8 (fun r u => u = S ∧ Q r)) 4 0 [some (.ref 0), some (.int a1), some (.int a2), some (.int a3)] [] (bW8 S) := by
  unfold wp_X8_leafOf at h
  refine bs_iload_n C (bf_dk dd_X8_leafOf 0 rfl) rfl ?_
  refine bs_pureS_i (ps := []) (w := (bW8 S)) C hR (c_X8_isLength _ _ _ _ _ (a3) _ h) my_X8_isLength m_8_128 rfl (Nat.le_of_ble_eq_true rfl) (Nat.le_of_ble_eq_true rfl) rfl rfl (st := []) (Nat.le_of_ble_eq_true rfl) (bf_dk dd_X8_leafOf 1 rfl) rfl (fun _ => rfl) (fun r1 h => ?_)
  refine bs_if_eq C (bf_dk dd_X8_leafOf 2 rfl) (tgt := 24) rfl (fun c => ?_) (fun c => ?_)
  · replace h := h.1 c
    refine bs_iconst C (bf_dk dd_X8_leafOf 12 rfl) (-1 : Int32) (by decide) ?_
    exact bs_iret (u := S) C (bf_dk dd_X8_leafOf 13 rfl) rfl ⟨rfl, h⟩
  · replace h := h.2 c
    refine bs_aload_n C (bf_dk dd_X8_leafOf 3 rfl) rfl ?_
    refine bs_get C (bf_dk dd_X8_leafOf 4 rfl) cl_8 in_8 3 (Nat.le_of_ble_eq_true rfl) rfl f_8_26 (ge_bW8_0 S) rfl ?_
    refine bs_iload_n C (bf_dk dd_X8_leafOf 5 rfl) rfl ?_
    refine bs_iload_n C (bf_dk dd_X8_leafOf 6 rfl) rfl ?_
    refine bs_iload_n C (bf_dk dd_X8_leafOf 7 rfl) rfl ?_
    refine bs_pureS_l (ps := []) (w := (bW8 S)) C hR (c_X8_keyOf _ _ _ _ _ (a1) (a2) (a3) _ h) my_X8_keyOf m_8_132 rfl (Nat.le_of_ble_eq_true rfl) (Nat.le_of_ble_eq_true rfl) rfl rfl (st := [.ref 31]) (Nat.le_of_ble_eq_true rfl) (bf_dk dd_X8_leafOf 8 rfl) rfl (fun _ => rfl) (fun r3 h => ?_)
    refine bs_iload_n C (bf_dk dd_X8_leafOf 9 rfl) rfl ?_
    refine bs_pureV_i (ps := [31, 32, 33, 34, 35, 36, 37, 38, 39, 40, 41, 42, 43, 44]) (w := (bW8 S)) C hR (c_X1_possibleAt _ _ _ _ _ (b8g_leaves S) (r3) (a3) _ h) my_X1_possibleAt m_8_169 rfl cl_1 (ge_bW1_0 _) rfl (Nat.le_of_ble_eq_true rfl) (Nat.le_of_ble_eq_true rfl) (su_bW8_31_bW1 S) bnd_31t44 (st := []) (Nat.le_of_ble_eq_true rfl) (bf_dk dd_X8_leafOf 10 rfl) rfl (fun _ => rfl) (fun r5 h => ?_)
    refine bs_goto C (bf_dk dd_X8_leafOf 11 rfl) (tgt := 25) rfl ?_
    exact bs_iret (u := S) C (bf_dk dd_X8_leafOf 13 rfl) rfl ⟨rfl, h⟩
theorem c_X8_leafOf (l : Launch) (dC : Nat → ClassId) (dI : Nat → Nat → Nat) (ac : Nat → ClassId) (al : Nat → Nat) (S : bT8) (a1 : Int32) (a2 : Int32) (a3 : Int32) (Q : Int32 → Prop) (h : wp_X8_leafOf S a1 a2 a3 Q) : bf_M l yX8_leafOf cX8_leafOf 4 (some .int) 4 100 dC dI ac al [.ref 0, .int a1, .int a2, .int a3] (bW8 S) (bf_Ki dC dI ac al bW8 (fun r u => u = S ∧ Q r)) := by
  refine bf_start [some (.ref 0), some (.int a1), some (.int a2), some (.int a3)] (by decide) (Nat.le_of_ble_eq_true rfl) (bf_s1 (bf_s1 (bf_s1 (bf_s1 bf_s0)))) ?_
  intro X hl C hR e1 e2 e3 e4
  subst e1; subst e2; subst e3; subst e4
  exact t_X8_leafOf C hR S a1 a2 a3 Q h
def wp_X8_askRange_67 (S : bT8) (x7 : Int32) (Q : Int32 → (bT8) → Prop) : Prop := (wp_X2_note (b8g_now S) ((3 : Int32)) (x7) (fun u2 => (∀ S3 : bT8, S3 = (b8s_now S u2) → (Q x7 S3))))
set_option maxRecDepth 20000 in
theorem t_X8_askRange_67 {X : bf_X} (C : bf_C X RX8 cX8_askRange 9 (some .int)) (hR : bf_Rm X 4 101) (S : bT8) (x7 : Int32) (Q : Int32 → (bT8) → Prop) (h : wp_X8_askRange_67 S x7 Q) : bf_A X (bf_Zi X bW8 Q) 9 67 [some (.ref 0), none, none, none, none, none, none, some (.int x7), none] [] (bW8 S) := by
  unfold wp_X8_askRange_67 at h
  refine bs_aload_n C (bf_dk dd_X8_askRange 33 rfl) rfl ?_
  refine bs_get C (bf_dk dd_X8_askRange 34 rfl) cl_8 in_8 0 (Nat.le_of_ble_eq_true rfl) rfl f_8_12 (ge_bW8_0 S) rfl ?_
  refine bs_iconst C (bf_dk dd_X8_askRange 35 rfl) (3 : Int32) (by decide) ?_
  refine bs_iload C (bf_dk dd_X8_askRange 36 rfl) rfl ?_
  refine bs_callV_v (ps := [1, 2, 3, 4, 5, 6, 7, 8, 9, 10, 11, 12, 13, 14, 15]) (w := (bW8 S)) C hR (c_X2_note _ _ _ _ _ (b8g_now S) ((3 : Int32)) (x7) _ h) my_X2_note m_8_399 rfl cl_2 (ge_bW2_0 _) rfl (Nat.le_of_ble_eq_true rfl) (Nat.le_of_ble_eq_true rfl) (su_bW8_1_bW2 S) bnd_1t15 (st := []) (Nat.le_of_ble_eq_true rfl) (bf_dk dd_X8_askRange 37 rfl) rfl (fun _ => rfl) (w2 := fun u2 => bW8 (b8s_now S u2)) (pt_bW8_1_bW2 S) (fun u2 h => ?_)
  refine bs_nameS bW8 (fun S3 eS3 => ?_)
  replace h := h S3 eS3
  refine bs_iload C (bf_dk dd_X8_askRange 38 rfl) rfl ?_
  exact bs_iret (u := S3) C (bf_dk dd_X8_askRange 39 rfl) rfl h
def wp_X8_askRange_65 (S : bT8) (t0 : Int32) (Q : Int32 → (bT8) → Prop) : Prop := (wp_X8_askRange_67 S (t0) Q)
set_option maxRecDepth 20000 in
theorem t_X8_askRange_65 {X : bf_X} (C : bf_C X RX8 cX8_askRange 9 (some .int)) (hR : bf_Rm X 4 101) (S : bT8) (t0 : Int32) (Q : Int32 → (bT8) → Prop) (h : wp_X8_askRange_65 S t0 Q) : bf_A X (bf_Zi X bW8 Q) 9 65 [some (.ref 0), none, none, none, none, none, none, none, none] [.int t0] (bW8 S) := by
  unfold wp_X8_askRange_65 at h
  refine bs_istore C (bf_dk dd_X8_askRange 32 rfl) (Nat.le_of_ble_eq_true rfl) (Nat.le_of_ble_eq_true rfl) (lv2 := [some (.ref 0), none, none, none, none, none, none, some (.int t0), none]) rfl ?_
  exact bs_weak (bf_s1 (bf_sn (bf_sn (bf_sn (bf_sn (bf_sn (bf_sn (bf_s1 (bf_sn bf_s0))))))))) (t_X8_askRange_67 C hR S (t0) Q h)
def wp_X8_askRange_53 (S : bT8) (t0 : Int32) (Q : Int32 → (bT8) → Prop) : Prop := ((t0 = 0 → (wp_X8_askRange_65 S ((2 : Int32)) Q)) ∧ (¬ t0 = 0 → (wp_X8_askRange_65 S ((1 : Int32)) Q)))
set_option maxRecDepth 20000 in
theorem t_X8_askRange_53 {X : bf_X} (C : bf_C X RX8 cX8_askRange 9 (some .int)) (hR : bf_Rm X 4 101) (S : bT8) (t0 : Int32) (Q : Int32 → (bT8) → Prop) (h : wp_X8_askRange_53 S t0 Q) : bf_A X (bf_Zi X bW8 Q) 9 53 [some (.ref 0), none, none, none, none, none, none, none, none] [.int t0] (bW8 S) := by
  unfold wp_X8_askRange_53 at h
  refine bs_istore C (bf_dk dd_X8_askRange 26 rfl) (Nat.le_of_ble_eq_true rfl) (Nat.le_of_ble_eq_true rfl) (lv2 := [some (.ref 0), none, none, none, none, none, none, none, some (.int t0)]) rfl ?_
  refine bs_iload C (bf_dk dd_X8_askRange 27 rfl) rfl ?_
  refine bs_if_eq C (bf_dk dd_X8_askRange 28 rfl) (tgt := 64) rfl (fun c => ?_) (fun c => ?_)
  · replace h := h.1 c
    refine bs_iconst C (bf_dk dd_X8_askRange 31 rfl) (2 : Int32) (by decide) ?_
    exact bs_weak (bf_s1 (bf_sn (bf_sn (bf_sn (bf_sn (bf_sn (bf_sn (bf_sn (bf_sn bf_s0))))))))) (t_X8_askRange_65 C hR S ((2 : Int32)) Q h)
  · replace h := h.2 c
    refine bs_iconst C (bf_dk dd_X8_askRange 29 rfl) (1 : Int32) (by decide) ?_
    refine bs_goto C (bf_dk dd_X8_askRange 30 rfl) (tgt := 65) rfl ?_
    exact bs_weak (bf_s1 (bf_sn (bf_sn (bf_sn (bf_sn (bf_sn (bf_sn (bf_sn (bf_sn bf_s0))))))))) (t_X8_askRange_65 C hR S ((1 : Int32)) Q h)
def wp_X8_askRange (S : bT8) (a1 : Int64) (a3 : Int32) (a4 : Int64) (a6 : Int32) (Q : Int32 → (bT8) → Prop) : Prop := (wp_X1_met (b8g_leaves S) (a1) (a3) (a4) (a6) (fun r4 => ((r4 ≤ 0 → (wp_X8_askRange_67 S ((0 : Int32)) Q)) ∧ (¬ r4 ≤ 0 → (wp_X0_upTo (b1g_owners (b8g_leaves S)) (a4) (a6) (fun r6 => (wp_X0_ahead (b1g_owners (b8g_leaves S)) (a1) (a3) (fun r8 => ((r6 ≤ r8 → (wp_X8_askRange_53 S ((0 : Int32)) Q)) ∧ (¬ r6 ≤ r8 → (wp_X8_askRange_53 S ((1 : Int32)) Q)))))))))))
set_option maxRecDepth 20000 in
theorem t_X8_askRange {X : bf_X} (C : bf_C X RX8 cX8_askRange 9 (some .int)) (hR : bf_Rm X 4 101) (S : bT8) (a1 : Int64) (a3 : Int32) (a4 : Int64) (a6 : Int32) (Q : Int32 → (bT8) → Prop) (h : wp_X8_askRange S a1 a3 a4 a6 Q) : bf_A X (bf_Zi X bW8 Q) 9 0 [some (.ref 0), some (.long a1), none, some (.int a3), some (.long a4), none, some (.int a6), none, none] [] (bW8 S) := by
  unfold wp_X8_askRange at h
  refine bs_iconst C (bf_dk dd_X8_askRange 0 rfl) (0 : Int32) (by decide) ?_
  refine bs_istore C (bf_dk dd_X8_askRange 1 rfl) (Nat.le_of_ble_eq_true rfl) (Nat.le_of_ble_eq_true rfl) (lv2 := [some (.ref 0), some (.long a1), none, some (.int a3), some (.long a4), none, some (.int a6), some (.int (0 : Int32)), none]) rfl ?_
  refine bs_aload_n C (bf_dk dd_X8_askRange 2 rfl) rfl ?_
  refine bs_get C (bf_dk dd_X8_askRange 3 rfl) cl_8 in_8 3 (Nat.le_of_ble_eq_true rfl) rfl f_8_26 (ge_bW8_0 S) rfl ?_
  refine bs_lload_n C (bf_dk dd_X8_askRange 4 rfl) rfl ?_
  refine bs_iload_n C (bf_dk dd_X8_askRange 5 rfl) rfl ?_
  refine bs_lload C (bf_dk dd_X8_askRange 6 rfl) rfl ?_
  refine bs_iload C (bf_dk dd_X8_askRange 7 rfl) rfl ?_
  refine bs_pureV_i (ps := [31, 32, 33, 34, 35, 36, 37, 38, 39, 40, 41, 42, 43, 44]) (w := (bW8 S)) C hR (c_X1_met _ _ _ _ _ (b8g_leaves S) (a1) (a3) (a4) (a6) _ h) my_X1_met m_8_180 rfl cl_1 (ge_bW1_0 _) rfl (Nat.le_of_ble_eq_true rfl) (Nat.le_of_ble_eq_true rfl) (su_bW8_31_bW1 S) bnd_31t44 (st := []) (Nat.le_of_ble_eq_true rfl) (bf_dk dd_X8_askRange 8 rfl) rfl (fun _ => rfl) (fun r4 h => ?_)
  refine bs_if_le C (bf_dk dd_X8_askRange 9 rfl) (tgt := 67) rfl (fun c => ?_) (fun c => ?_)
  · replace h := h.1 c
    exact bs_weak (bf_s1 (bf_sn (bf_sn (bf_sn (bf_sn (bf_sn (bf_sn (bf_s1 (bf_sn bf_s0))))))))) (t_X8_askRange_67 C hR S ((0 : Int32)) Q h)
  · replace h := h.2 c
    refine bs_aload_n C (bf_dk dd_X8_askRange 10 rfl) rfl ?_
    refine bs_get C (bf_dk dd_X8_askRange 11 rfl) cl_8 in_8 3 (Nat.le_of_ble_eq_true rfl) rfl f_8_26 (ge_bW8_0 S) rfl ?_
    refine bs_get C (bf_dk dd_X8_askRange 12 rfl) cl_1 in_1 0 (Nat.le_of_ble_eq_true rfl) rfl f_8_163 (ge_bW8_31 S) rfl ?_
    refine bs_lload C (bf_dk dd_X8_askRange 13 rfl) rfl ?_
    refine bs_iload C (bf_dk dd_X8_askRange 14 rfl) rfl ?_
    refine bs_pureV_i (ps := [32, 33, 34]) (w := (bW8 S)) C hR (c_X0_upTo _ _ _ _ _ (b1g_owners (b8g_leaves S)) (a4) (a6) _ h) my_X0_upTo m_8_195 rfl cl_0 (ge_bW0_0 _) rfl (Nat.le_of_ble_eq_true rfl) (Nat.le_of_ble_eq_true rfl) (su_bW8_32_bW0 S) rfl (st := []) (Nat.le_of_ble_eq_true rfl) (bf_dk dd_X8_askRange 15 rfl) rfl (fun _ => rfl) (fun r6 h => ?_)
    refine bs_aload_n C (bf_dk dd_X8_askRange 16 rfl) rfl ?_
    refine bs_get C (bf_dk dd_X8_askRange 17 rfl) cl_8 in_8 3 (Nat.le_of_ble_eq_true rfl) rfl f_8_26 (ge_bW8_0 S) rfl ?_
    refine bs_get C (bf_dk dd_X8_askRange 18 rfl) cl_1 in_1 0 (Nat.le_of_ble_eq_true rfl) rfl f_8_163 (ge_bW8_31 S) rfl ?_
    refine bs_lload_n C (bf_dk dd_X8_askRange 19 rfl) rfl ?_
    refine bs_iload_n C (bf_dk dd_X8_askRange 20 rfl) rfl ?_
    refine bs_pureV_i (ps := [32, 33, 34]) (w := (bW8 S)) C hR (c_X0_ahead _ _ _ _ _ (b1g_owners (b8g_leaves S)) (a1) (a3) _ h) my_X0_ahead m_8_189 rfl cl_0 (ge_bW0_0 _) rfl (Nat.le_of_ble_eq_true rfl) (Nat.le_of_ble_eq_true rfl) (su_bW8_32_bW0 S) rfl (st := [.int r6]) (Nat.le_of_ble_eq_true rfl) (bf_dk dd_X8_askRange 21 rfl) rfl (fun _ => rfl) (fun r8 h => ?_)
    refine bs_icmp_le C (bf_dk dd_X8_askRange 22 rfl) (tgt := 52) rfl (fun c => ?_) (fun c => ?_)
    · replace h := h.1 c
      refine bs_iconst C (bf_dk dd_X8_askRange 25 rfl) (0 : Int32) (by decide) ?_
      exact bs_weak (bf_s1 (bf_sn (bf_sn (bf_sn (bf_sn (bf_sn (bf_sn (bf_sn (bf_sn bf_s0))))))))) (t_X8_askRange_53 C hR S ((0 : Int32)) Q h)
    · replace h := h.2 c
      refine bs_iconst C (bf_dk dd_X8_askRange 23 rfl) (1 : Int32) (by decide) ?_
      refine bs_goto C (bf_dk dd_X8_askRange 24 rfl) (tgt := 53) rfl ?_
      exact bs_weak (bf_s1 (bf_sn (bf_sn (bf_sn (bf_sn (bf_sn (bf_sn (bf_sn (bf_sn bf_s0))))))))) (t_X8_askRange_53 C hR S ((1 : Int32)) Q h)
theorem c_X8_askRange (l : Launch) (dC : Nat → ClassId) (dI : Nat → Nat → Nat) (ac : Nat → ClassId) (al : Nat → Nat) (S : bT8) (a1 : Int64) (a3 : Int32) (a4 : Int64) (a6 : Int32) (Q : Int32 → (bT8) → Prop) (h : wp_X8_askRange S a1 a3 a4 a6 Q) : bf_M l yX8_askRange cX8_askRange 9 (some .int) 4 101 dC dI ac al [.ref 0, .long a1, .int a3, .long a4, .int a6] (bW8 S) (bf_Ki dC dI ac al bW8 Q) := by
  refine bf_start [some (.ref 0), some (.long a1), none, some (.int a3), some (.long a4), none, some (.int a6), none, none] (by decide) (Nat.le_of_ble_eq_true rfl) (bf_s1 (bf_s1 (bf_sn (bf_s1 (bf_s1 (bf_sn (bf_s1 (bf_en 2)))))))) ?_
  intro X hl C hR e1 e2 e3 e4
  subst e1; subst e2; subst e3; subst e4
  exact t_X8_askRange C hR S a1 a3 a4 a6 Q h
def wp_X8_isRange (a0 : Int32) (a1 : Int32) (a2 : Int32) (a3 : Int32) (a4 : Int32) (a5 : Int32) (Q : Int32 → Prop) : Prop := (wp_X8_isLength (a2) (fun r1 => ((r1 = 0 → (bf_bool (0 : Int32) ∧ Q (0 : Int32))) ∧ (¬ r1 = 0 → (wp_X8_isLength (a5) (fun r3 => ((r3 = 0 → (bf_bool (0 : Int32) ∧ Q (0 : Int32))) ∧ (¬ r3 = 0 → (wp_X8_keyOf (a0) (a1) (a2) (fun r5 => (wp_X8_keyOf (a3) (a4) (a5) (fun r7 => (wp_X8_order (r5) (a2) (r7) (a5) (fun r9 => ((0 < r9 → (bf_bool (0 : Int32) ∧ Q (0 : Int32))) ∧ (¬ 0 < r9 → (bf_bool (1 : Int32) ∧ Q (1 : Int32))))))))))))))))))
set_option maxRecDepth 20000 in
theorem t_X8_isRange {X : bf_X} (C : bf_C X RX8 cX8_isRange 6 (some .boolean)) (hR : bf_Rm X 2 42) (a0 : Int32) (a1 : Int32) (a2 : Int32) (a3 : Int32) (a4 : Int32) (a5 : Int32) (Q : Int32 → Prop) (h : wp_X8_isRange a0 a1 a2 a3 a4 a5 Q) : bf_A X (bf_Zi X bWu (fun r u => u = () ∧ Q r)) 6 0 [some (.int a0), some (.int a1), some (.int a2), some (.int a3), some (.int a4), some (.int a5)] [] (bWu ()) := by
  unfold wp_X8_isRange at h
  refine bs_iload_n C (bf_dk dd_X8_isRange 0 rfl) rfl ?_
  refine bs_pureS_i (ps := []) (w := (bWu ())) C hR (c_X8_isLength _ _ _ _ _ (a2) _ h) my_X8_isLength m_8_128 rfl (Nat.le_of_ble_eq_true rfl) (Nat.le_of_ble_eq_true rfl) rfl rfl (st := []) (Nat.le_of_ble_eq_true rfl) (bf_dk dd_X8_isRange 1 rfl) rfl (fun _ => rfl) (fun r1 h => ?_)
  refine bs_if_eq C (bf_dk dd_X8_isRange 2 rfl) (tgt := 42) rfl (fun c => ?_) (fun c => ?_)
  · replace h := h.1 c
    refine bs_iconst C (bf_dk dd_X8_isRange 20 rfl) (0 : Int32) (by decide) ?_
    obtain ⟨hi, h⟩ := h
    exact bs_zret (u := ()) C (bf_dk dd_X8_isRange 21 rfl) hi rfl ⟨rfl, h⟩
  · replace h := h.2 c
    refine bs_iload C (bf_dk dd_X8_isRange 3 rfl) rfl ?_
    refine bs_pureS_i (ps := []) (w := (bWu ())) C hR (c_X8_isLength _ _ _ _ _ (a5) _ h) my_X8_isLength m_8_128 rfl (Nat.le_of_ble_eq_true rfl) (Nat.le_of_ble_eq_true rfl) rfl rfl (st := []) (Nat.le_of_ble_eq_true rfl) (bf_dk dd_X8_isRange 4 rfl) rfl (fun _ => rfl) (fun r3 h => ?_)
    refine bs_if_eq C (bf_dk dd_X8_isRange 5 rfl) (tgt := 42) rfl (fun c => ?_) (fun c => ?_)
    · replace h := h.1 c
      refine bs_iconst C (bf_dk dd_X8_isRange 20 rfl) (0 : Int32) (by decide) ?_
      obtain ⟨hi, h⟩ := h
      exact bs_zret (u := ()) C (bf_dk dd_X8_isRange 21 rfl) hi rfl ⟨rfl, h⟩
    · replace h := h.2 c
      refine bs_iload_n C (bf_dk dd_X8_isRange 6 rfl) rfl ?_
      refine bs_iload_n C (bf_dk dd_X8_isRange 7 rfl) rfl ?_
      refine bs_iload_n C (bf_dk dd_X8_isRange 8 rfl) rfl ?_
      refine bs_pureS_l (ps := []) (w := (bWu ())) C hR (c_X8_keyOf _ _ _ _ _ (a0) (a1) (a2) _ h) my_X8_keyOf m_8_132 rfl (Nat.le_of_ble_eq_true rfl) (Nat.le_of_ble_eq_true rfl) rfl rfl (st := []) (Nat.le_of_ble_eq_true rfl) (bf_dk dd_X8_isRange 9 rfl) rfl (fun _ => rfl) (fun r5 h => ?_)
      refine bs_iload_n C (bf_dk dd_X8_isRange 10 rfl) rfl ?_
      refine bs_iload_n C (bf_dk dd_X8_isRange 11 rfl) rfl ?_
      refine bs_iload C (bf_dk dd_X8_isRange 12 rfl) rfl ?_
      refine bs_iload C (bf_dk dd_X8_isRange 13 rfl) rfl ?_
      refine bs_pureS_l (ps := []) (w := (bWu ())) C hR (c_X8_keyOf _ _ _ _ _ (a3) (a4) (a5) _ h) my_X8_keyOf m_8_132 rfl (Nat.le_of_ble_eq_true rfl) (Nat.le_of_ble_eq_true rfl) rfl rfl (st := [.int a2, .long r5]) (Nat.le_of_ble_eq_true rfl) (bf_dk dd_X8_isRange 14 rfl) rfl (fun _ => rfl) (fun r7 h => ?_)
      refine bs_iload C (bf_dk dd_X8_isRange 15 rfl) rfl ?_
      refine bs_pureS_i (ps := []) (w := (bWu ())) C hR (c_X8_order _ _ _ _ _ (r5) (a2) (r7) (a5) _ h) my_X8_order m_8_433 rfl (Nat.le_of_ble_eq_true rfl) (Nat.le_of_ble_eq_true rfl) rfl rfl (st := []) (Nat.le_of_ble_eq_true rfl) (bf_dk dd_X8_isRange 16 rfl) rfl (fun _ => rfl) (fun r9 h => ?_)
      refine bs_if_gt C (bf_dk dd_X8_isRange 17 rfl) (tgt := 42) rfl (fun c => ?_) (fun c => ?_)
      · replace h := h.1 c
        refine bs_iconst C (bf_dk dd_X8_isRange 20 rfl) (0 : Int32) (by decide) ?_
        obtain ⟨hi, h⟩ := h
        exact bs_zret (u := ()) C (bf_dk dd_X8_isRange 21 rfl) hi rfl ⟨rfl, h⟩
      · replace h := h.2 c
        refine bs_iconst C (bf_dk dd_X8_isRange 18 rfl) (1 : Int32) (by decide) ?_
        refine bs_goto C (bf_dk dd_X8_isRange 19 rfl) (tgt := 43) rfl ?_
        obtain ⟨hi, h⟩ := h
        exact bs_zret (u := ()) C (bf_dk dd_X8_isRange 21 rfl) hi rfl ⟨rfl, h⟩
theorem c_X8_isRange (l : Launch) (dC : Nat → ClassId) (dI : Nat → Nat → Nat) (ac : Nat → ClassId) (al : Nat → Nat) (a0 : Int32) (a1 : Int32) (a2 : Int32) (a3 : Int32) (a4 : Int32) (a5 : Int32) (Q : Int32 → Prop) (h : wp_X8_isRange a0 a1 a2 a3 a4 a5 Q) : bf_M l yX8_isRange cX8_isRange 6 (some .boolean) 2 42 dC dI ac al [.int a0, .int a1, .int a2, .int a3, .int a4, .int a5] (bWu ()) (bf_Ki dC dI ac al bWu (fun r u => u = () ∧ Q r)) := by
  refine bf_start [some (.int a0), some (.int a1), some (.int a2), some (.int a3), some (.int a4), some (.int a5)] (by decide) (Nat.le_of_ble_eq_true rfl) (bf_s1 (bf_s1 (bf_s1 (bf_s1 (bf_s1 (bf_s1 bf_s0)))))) ?_
  intro X hl C hR e1 e2 e3 e4
  subst e1; subst e2; subst e3; subst e4
  exact t_X8_isRange C hR a0 a1 a2 a3 a4 a5 Q h
def wp_X8_range (S : bT8) (a1 : Int32) (a2 : Int32) (a3 : Int32) (a4 : Int32) (a5 : Int32) (a6 : Int32) (Q : Int32 → (bT8) → Prop) : Prop := (wp_X8_isRange (a1) (a2) (a3) (a4) (a5) (a6) (fun r1 => ((¬ r1 = 0 → (wp_X8_keyOf (a1) (a2) (a3) (fun r3 => (wp_X8_keyOf (a4) (a5) (a6) (fun r5 => (wp_X8_askRange S (r3) (a3) (r5) (a6) (fun r7 u8 => ((¬ r7 = 0 → (Q (1 : Int32) u8)) ∧ (r7 = 0 → (Q (0 : Int32) u8)))))))))) ∧ (r1 = 0 → (Q (-1 : Int32) S)))))
set_option maxRecDepth 20000 in
theorem t_X8_range {X : bf_X} (C : bf_C X RX8 cX8_range 7 (some .int)) (hR : bf_Rm X 5 129) (S : bT8) (a1 : Int32) (a2 : Int32) (a3 : Int32) (a4 : Int32) (a5 : Int32) (a6 : Int32) (Q : Int32 → (bT8) → Prop) (h : wp_X8_range S a1 a2 a3 a4 a5 a6 Q) : bf_A X (bf_Zi X bW8 Q) 7 0 [some (.ref 0), some (.int a1), some (.int a2), some (.int a3), some (.int a4), some (.int a5), some (.int a6)] [] (bW8 S) := by
  unfold wp_X8_range at h
  refine bs_iload_n C (bf_dk dd_X8_range 0 rfl) rfl ?_
  refine bs_iload_n C (bf_dk dd_X8_range 1 rfl) rfl ?_
  refine bs_iload_n C (bf_dk dd_X8_range 2 rfl) rfl ?_
  refine bs_iload C (bf_dk dd_X8_range 3 rfl) rfl ?_
  refine bs_iload C (bf_dk dd_X8_range 4 rfl) rfl ?_
  refine bs_iload C (bf_dk dd_X8_range 5 rfl) rfl ?_
  refine bs_pureS_i (ps := []) (w := (bW8 S)) C hR (c_X8_isRange _ _ _ _ _ (a1) (a2) (a3) (a4) (a5) (a6) _ h) my_X8_isRange m_8_172 rfl (Nat.le_of_ble_eq_true rfl) (Nat.le_of_ble_eq_true rfl) rfl rfl (st := []) (Nat.le_of_ble_eq_true rfl) (bf_dk dd_X8_range 6 rfl) rfl (fun _ => rfl) (fun r1 h => ?_)
  refine bs_if_ne C (bf_dk dd_X8_range 7 rfl) (tgt := 17) rfl (fun c => ?_) (fun c => ?_)
  · replace h := h.1 c
    refine bs_aload_n C (bf_dk dd_X8_range 10 rfl) rfl ?_
    refine bs_iload_n C (bf_dk dd_X8_range 11 rfl) rfl ?_
    refine bs_iload_n C (bf_dk dd_X8_range 12 rfl) rfl ?_
    refine bs_iload_n C (bf_dk dd_X8_range 13 rfl) rfl ?_
    refine bs_pureS_l (ps := []) (w := (bW8 S)) C hR (c_X8_keyOf _ _ _ _ _ (a1) (a2) (a3) _ h) my_X8_keyOf m_8_132 rfl (Nat.le_of_ble_eq_true rfl) (Nat.le_of_ble_eq_true rfl) rfl rfl (st := [.ref 0]) (Nat.le_of_ble_eq_true rfl) (bf_dk dd_X8_range 14 rfl) rfl (fun _ => rfl) (fun r3 h => ?_)
    refine bs_iload_n C (bf_dk dd_X8_range 15 rfl) rfl ?_
    refine bs_iload C (bf_dk dd_X8_range 16 rfl) rfl ?_
    refine bs_iload C (bf_dk dd_X8_range 17 rfl) rfl ?_
    refine bs_iload C (bf_dk dd_X8_range 18 rfl) rfl ?_
    refine bs_pureS_l (ps := []) (w := (bW8 S)) C hR (c_X8_keyOf _ _ _ _ _ (a4) (a5) (a6) _ h) my_X8_keyOf m_8_132 rfl (Nat.le_of_ble_eq_true rfl) (Nat.le_of_ble_eq_true rfl) rfl rfl (st := [.int a3, .long r3, .ref 0]) (Nat.le_of_ble_eq_true rfl) (bf_dk dd_X8_range 19 rfl) rfl (fun _ => rfl) (fun r5 h => ?_)
    refine bs_iload C (bf_dk dd_X8_range 20 rfl) rfl ?_
    refine bs_selfV_i C hR (c_X8_askRange _ _ _ _ _ S (r3) (a3) (r5) (a6) _ h) my_X8_askRange m_8_176 rfl cl_8 (ge_bW8_0 _) rfl (Nat.le_of_ble_eq_true rfl) (Nat.le_of_ble_eq_true rfl) (st := []) (Nat.le_of_ble_eq_true rfl) (bf_dk dd_X8_range 21 rfl) rfl (len := 68) (fun _ => rfl) (fun r7 u8 h => ?_)
    refine bs_if_ne C (bf_dk dd_X8_range 22 rfl) (tgt := 46) rfl (fun c => ?_) (fun c => ?_)
    · replace h := h.1 c
      refine bs_iconst C (bf_dk dd_X8_range 25 rfl) (1 : Int32) (by decide) ?_
      exact bs_iret (u := u8) C (bf_dk dd_X8_range 26 rfl) rfl h
    · replace h := h.2 c
      refine bs_iconst C (bf_dk dd_X8_range 23 rfl) (0 : Int32) (by decide) ?_
      refine bs_goto C (bf_dk dd_X8_range 24 rfl) (tgt := 47) rfl ?_
      exact bs_iret (u := u8) C (bf_dk dd_X8_range 26 rfl) rfl h
  · replace h := h.2 c
    refine bs_iconst C (bf_dk dd_X8_range 8 rfl) (-1 : Int32) (by decide) ?_
    exact bs_iret (u := S) C (bf_dk dd_X8_range 9 rfl) rfl h
theorem c_X8_range (l : Launch) (dC : Nat → ClassId) (dI : Nat → Nat → Nat) (ac : Nat → ClassId) (al : Nat → Nat) (S : bT8) (a1 : Int32) (a2 : Int32) (a3 : Int32) (a4 : Int32) (a5 : Int32) (a6 : Int32) (Q : Int32 → (bT8) → Prop) (h : wp_X8_range S a1 a2 a3 a4 a5 a6 Q) : bf_M l yX8_range cX8_range 7 (some .int) 5 129 dC dI ac al [.ref 0, .int a1, .int a2, .int a3, .int a4, .int a5, .int a6] (bW8 S) (bf_Ki dC dI ac al bW8 Q) := by
  refine bf_start [some (.ref 0), some (.int a1), some (.int a2), some (.int a3), some (.int a4), some (.int a5), some (.int a6)] (by decide) (Nat.le_of_ble_eq_true rfl) (bf_s1 (bf_s1 (bf_s1 (bf_s1 (bf_s1 (bf_s1 (bf_s1 bf_s0))))))) ?_
  intro X hl C hR e1 e2 e3 e4
  subst e1; subst e2; subst e3; subst e4
  exact t_X8_range C hR S a1 a2 a3 a4 a5 a6 Q h
def wp_X8_meets (S : bT8) (a1 : Int32) (a2 : Int32) (a3 : Int32) (a4 : Int32) (a5 : Int32) (a6 : Int32) (Q : Int32 → Prop) : Prop := (wp_X8_isRange (a1) (a2) (a3) (a4) (a5) (a6) (fun r1 => ((¬ r1 = 0 → (wp_X8_keyOf (a1) (a2) (a3) (fun r3 => (wp_X8_keyOf (a4) (a5) (a6) (fun r5 => (wp_X1_met (b8g_leaves S) (r3) (a3) (r5) (a6) (fun r7 => (Q r7)))))))) ∧ (r1 = 0 → (Q (-1 : Int32))))))
set_option maxRecDepth 20000 in
theorem t_X8_meets {X : bf_X} (C : bf_C X RX8 cX8_meets 7 (some .int)) (hR : bf_Rm X 4 101) (S : bT8) (a1 : Int32) (a2 : Int32) (a3 : Int32) (a4 : Int32) (a5 : Int32) (a6 : Int32) (Q : Int32 → Prop) (h : wp_X8_meets S a1 a2 a3 a4 a5 a6 Q) : bf_A X (bf_Zi X bW8 (fun r u => u = S ∧ Q r)) 7 0 [some (.ref 0), some (.int a1), some (.int a2), some (.int a3), some (.int a4), some (.int a5), some (.int a6)] [] (bW8 S) := by
  unfold wp_X8_meets at h
  refine bs_iload_n C (bf_dk dd_X8_meets 0 rfl) rfl ?_
  refine bs_iload_n C (bf_dk dd_X8_meets 1 rfl) rfl ?_
  refine bs_iload_n C (bf_dk dd_X8_meets 2 rfl) rfl ?_
  refine bs_iload C (bf_dk dd_X8_meets 3 rfl) rfl ?_
  refine bs_iload C (bf_dk dd_X8_meets 4 rfl) rfl ?_
  refine bs_iload C (bf_dk dd_X8_meets 5 rfl) rfl ?_
  refine bs_pureS_i (ps := []) (w := (bW8 S)) C hR (c_X8_isRange _ _ _ _ _ (a1) (a2) (a3) (a4) (a5) (a6) _ h) my_X8_isRange m_8_172 rfl (Nat.le_of_ble_eq_true rfl) (Nat.le_of_ble_eq_true rfl) rfl rfl (st := []) (Nat.le_of_ble_eq_true rfl) (bf_dk dd_X8_meets 6 rfl) rfl (fun _ => rfl) (fun r1 h => ?_)
  refine bs_if_ne C (bf_dk dd_X8_meets 7 rfl) (tgt := 17) rfl (fun c => ?_) (fun c => ?_)
  · replace h := h.1 c
    refine bs_aload_n C (bf_dk dd_X8_meets 10 rfl) rfl ?_
    refine bs_get C (bf_dk dd_X8_meets 11 rfl) cl_8 in_8 3 (Nat.le_of_ble_eq_true rfl) rfl f_8_26 (ge_bW8_0 S) rfl ?_
    refine bs_iload_n C (bf_dk dd_X8_meets 12 rfl) rfl ?_
    refine bs_iload_n C (bf_dk dd_X8_meets 13 rfl) rfl ?_
    refine bs_iload_n C (bf_dk dd_X8_meets 14 rfl) rfl ?_
    refine bs_pureS_l (ps := []) (w := (bW8 S)) C hR (c_X8_keyOf _ _ _ _ _ (a1) (a2) (a3) _ h) my_X8_keyOf m_8_132 rfl (Nat.le_of_ble_eq_true rfl) (Nat.le_of_ble_eq_true rfl) rfl rfl (st := [.ref 31]) (Nat.le_of_ble_eq_true rfl) (bf_dk dd_X8_meets 15 rfl) rfl (fun _ => rfl) (fun r3 h => ?_)
    refine bs_iload_n C (bf_dk dd_X8_meets 16 rfl) rfl ?_
    refine bs_iload C (bf_dk dd_X8_meets 17 rfl) rfl ?_
    refine bs_iload C (bf_dk dd_X8_meets 18 rfl) rfl ?_
    refine bs_iload C (bf_dk dd_X8_meets 19 rfl) rfl ?_
    refine bs_pureS_l (ps := []) (w := (bW8 S)) C hR (c_X8_keyOf _ _ _ _ _ (a4) (a5) (a6) _ h) my_X8_keyOf m_8_132 rfl (Nat.le_of_ble_eq_true rfl) (Nat.le_of_ble_eq_true rfl) rfl rfl (st := [.int a3, .long r3, .ref 31]) (Nat.le_of_ble_eq_true rfl) (bf_dk dd_X8_meets 20 rfl) rfl (fun _ => rfl) (fun r5 h => ?_)
    refine bs_iload C (bf_dk dd_X8_meets 21 rfl) rfl ?_
    refine bs_pureV_i (ps := [31, 32, 33, 34, 35, 36, 37, 38, 39, 40, 41, 42, 43, 44]) (w := (bW8 S)) C hR (c_X1_met _ _ _ _ _ (b8g_leaves S) (r3) (a3) (r5) (a6) _ h) my_X1_met m_8_180 rfl cl_1 (ge_bW1_0 _) rfl (Nat.le_of_ble_eq_true rfl) (Nat.le_of_ble_eq_true rfl) (su_bW8_31_bW1 S) bnd_31t44 (st := []) (Nat.le_of_ble_eq_true rfl) (bf_dk dd_X8_meets 22 rfl) rfl (fun _ => rfl) (fun r7 h => ?_)
    exact bs_iret (u := S) C (bf_dk dd_X8_meets 23 rfl) rfl ⟨rfl, h⟩
  · replace h := h.2 c
    refine bs_iconst C (bf_dk dd_X8_meets 8 rfl) (-1 : Int32) (by decide) ?_
    exact bs_iret (u := S) C (bf_dk dd_X8_meets 9 rfl) rfl ⟨rfl, h⟩
theorem c_X8_meets (l : Launch) (dC : Nat → ClassId) (dI : Nat → Nat → Nat) (ac : Nat → ClassId) (al : Nat → Nat) (S : bT8) (a1 : Int32) (a2 : Int32) (a3 : Int32) (a4 : Int32) (a5 : Int32) (a6 : Int32) (Q : Int32 → Prop) (h : wp_X8_meets S a1 a2 a3 a4 a5 a6 Q) : bf_M l yX8_meets cX8_meets 7 (some .int) 4 101 dC dI ac al [.ref 0, .int a1, .int a2, .int a3, .int a4, .int a5, .int a6] (bW8 S) (bf_Ki dC dI ac al bW8 (fun r u => u = S ∧ Q r)) := by
  refine bf_start [some (.ref 0), some (.int a1), some (.int a2), some (.int a3), some (.int a4), some (.int a5), some (.int a6)] (by decide) (Nat.le_of_ble_eq_true rfl) (bf_s1 (bf_s1 (bf_s1 (bf_s1 (bf_s1 (bf_s1 (bf_s1 bf_s0))))))) ?_
  intro X hl C hR e1 e2 e3 e4
  subst e1; subst e2; subst e3; subst e4
  exact t_X8_meets C hR S a1 a2 a3 a4 a5 a6 Q h
def wp_X8_holds (S : bT8) (a1 : Int32) (a2 : Int32) (a3 : Int32) (a4 : Int32) (a5 : Int32) (a6 : Int32) (Q : Int32 → Prop) : Prop := (wp_X8_isRange (a1) (a2) (a3) (a4) (a5) (a6) (fun r1 => ((¬ r1 = 0 → (wp_X8_keyOf (a1) (a2) (a3) (fun r3 => (wp_X8_keyOf (a4) (a5) (a6) (fun r5 => (wp_X1_held (b8g_leaves S) (r3) (a3) (r5) (a6) (fun r7 => (Q r7)))))))) ∧ (r1 = 0 → (Q (-1 : Int32))))))
set_option maxRecDepth 20000 in
theorem t_X8_holds {X : bf_X} (C : bf_C X RX8 cX8_holds 7 (some .int)) (hR : bf_Rm X 4 101) (S : bT8) (a1 : Int32) (a2 : Int32) (a3 : Int32) (a4 : Int32) (a5 : Int32) (a6 : Int32) (Q : Int32 → Prop) (h : wp_X8_holds S a1 a2 a3 a4 a5 a6 Q) : bf_A X (bf_Zi X bW8 (fun r u => u = S ∧ Q r)) 7 0 [some (.ref 0), some (.int a1), some (.int a2), some (.int a3), some (.int a4), some (.int a5), some (.int a6)] [] (bW8 S) := by
  unfold wp_X8_holds at h
  refine bs_iload_n C (bf_dk dd_X8_holds 0 rfl) rfl ?_
  refine bs_iload_n C (bf_dk dd_X8_holds 1 rfl) rfl ?_
  refine bs_iload_n C (bf_dk dd_X8_holds 2 rfl) rfl ?_
  refine bs_iload C (bf_dk dd_X8_holds 3 rfl) rfl ?_
  refine bs_iload C (bf_dk dd_X8_holds 4 rfl) rfl ?_
  refine bs_iload C (bf_dk dd_X8_holds 5 rfl) rfl ?_
  refine bs_pureS_i (ps := []) (w := (bW8 S)) C hR (c_X8_isRange _ _ _ _ _ (a1) (a2) (a3) (a4) (a5) (a6) _ h) my_X8_isRange m_8_172 rfl (Nat.le_of_ble_eq_true rfl) (Nat.le_of_ble_eq_true rfl) rfl rfl (st := []) (Nat.le_of_ble_eq_true rfl) (bf_dk dd_X8_holds 6 rfl) rfl (fun _ => rfl) (fun r1 h => ?_)
  refine bs_if_ne C (bf_dk dd_X8_holds 7 rfl) (tgt := 17) rfl (fun c => ?_) (fun c => ?_)
  · replace h := h.1 c
    refine bs_aload_n C (bf_dk dd_X8_holds 10 rfl) rfl ?_
    refine bs_get C (bf_dk dd_X8_holds 11 rfl) cl_8 in_8 3 (Nat.le_of_ble_eq_true rfl) rfl f_8_26 (ge_bW8_0 S) rfl ?_
    refine bs_iload_n C (bf_dk dd_X8_holds 12 rfl) rfl ?_
    refine bs_iload_n C (bf_dk dd_X8_holds 13 rfl) rfl ?_
    refine bs_iload_n C (bf_dk dd_X8_holds 14 rfl) rfl ?_
    refine bs_pureS_l (ps := []) (w := (bW8 S)) C hR (c_X8_keyOf _ _ _ _ _ (a1) (a2) (a3) _ h) my_X8_keyOf m_8_132 rfl (Nat.le_of_ble_eq_true rfl) (Nat.le_of_ble_eq_true rfl) rfl rfl (st := [.ref 31]) (Nat.le_of_ble_eq_true rfl) (bf_dk dd_X8_holds 15 rfl) rfl (fun _ => rfl) (fun r3 h => ?_)
    refine bs_iload_n C (bf_dk dd_X8_holds 16 rfl) rfl ?_
    refine bs_iload C (bf_dk dd_X8_holds 17 rfl) rfl ?_
    refine bs_iload C (bf_dk dd_X8_holds 18 rfl) rfl ?_
    refine bs_iload C (bf_dk dd_X8_holds 19 rfl) rfl ?_
    refine bs_pureS_l (ps := []) (w := (bW8 S)) C hR (c_X8_keyOf _ _ _ _ _ (a4) (a5) (a6) _ h) my_X8_keyOf m_8_132 rfl (Nat.le_of_ble_eq_true rfl) (Nat.le_of_ble_eq_true rfl) rfl rfl (st := [.int a3, .long r3, .ref 31]) (Nat.le_of_ble_eq_true rfl) (bf_dk dd_X8_holds 20 rfl) rfl (fun _ => rfl) (fun r5 h => ?_)
    refine bs_iload C (bf_dk dd_X8_holds 21 rfl) rfl ?_
    refine bs_pureV_i (ps := [31, 32, 33, 34, 35, 36, 37, 38, 39, 40, 41, 42, 43, 44]) (w := (bW8 S)) C hR (c_X1_held _ _ _ _ _ (b8g_leaves S) (r3) (a3) (r5) (a6) _ h) my_X1_held m_8_183 rfl cl_1 (ge_bW1_0 _) rfl (Nat.le_of_ble_eq_true rfl) (Nat.le_of_ble_eq_true rfl) (su_bW8_31_bW1 S) bnd_31t44 (st := []) (Nat.le_of_ble_eq_true rfl) (bf_dk dd_X8_holds 22 rfl) rfl (fun _ => rfl) (fun r7 h => ?_)
    exact bs_iret (u := S) C (bf_dk dd_X8_holds 23 rfl) rfl ⟨rfl, h⟩
  · replace h := h.2 c
    refine bs_iconst C (bf_dk dd_X8_holds 8 rfl) (-1 : Int32) (by decide) ?_
    exact bs_iret (u := S) C (bf_dk dd_X8_holds 9 rfl) rfl ⟨rfl, h⟩
theorem c_X8_holds (l : Launch) (dC : Nat → ClassId) (dI : Nat → Nat → Nat) (ac : Nat → ClassId) (al : Nat → Nat) (S : bT8) (a1 : Int32) (a2 : Int32) (a3 : Int32) (a4 : Int32) (a5 : Int32) (a6 : Int32) (Q : Int32 → Prop) (h : wp_X8_holds S a1 a2 a3 a4 a5 a6 Q) : bf_M l yX8_holds cX8_holds 7 (some .int) 4 101 dC dI ac al [.ref 0, .int a1, .int a2, .int a3, .int a4, .int a5, .int a6] (bW8 S) (bf_Ki dC dI ac al bW8 (fun r u => u = S ∧ Q r)) := by
  refine bf_start [some (.ref 0), some (.int a1), some (.int a2), some (.int a3), some (.int a4), some (.int a5), some (.int a6)] (by decide) (Nat.le_of_ble_eq_true rfl) (bf_s1 (bf_s1 (bf_s1 (bf_s1 (bf_s1 (bf_s1 (bf_s1 bf_s0))))))) ?_
  intro X hl C hR e1 e2 e3 e4
  subst e1; subst e2; subst e3; subst e4
  exact t_X8_holds C hR S a1 a2 a3 a4 a5 a6 Q h
def wp_X8_seek (S : bT8) (a1 : Int32) (a2 : Int32) (a3 : Int32) (Q : Int32 → Prop) : Prop := (wp_X8_isLength (a3) (fun r1 => ((¬ r1 = 0 → (wp_X8_keyOf (a1) (a2) (a3) (fun r3 => (wp_X0_ahead (b1g_highs (b8g_leaves S)) (r3) (a3) (fun r5 => (wp_X1_count (b8g_leaves S) (fun r7 => ((r7 ≤ r5 → (Q (-1 : Int32))) ∧ (¬ r7 ≤ r5 → (Q r5)))))))))) ∧ (r1 = 0 → (Q (-1 : Int32))))))
set_option maxRecDepth 20000 in
theorem t_X8_seek {X : bf_X} (C : bf_C X RX8 cX8_seek 5 (some .int)) (hR : bf_Rm X 3 75) (S : bT8) (a1 : Int32) (a2 : Int32) (a3 : Int32) (Q : Int32 → Prop) (h : wp_X8_seek S a1 a2 a3 Q) : bf_A X (bf_Zi X bW8 (fun r u => u = S ∧ Q r)) 5 0 [some (.ref 0), some (.int a1), some (.int a2), some (.int a3), none] [] (bW8 S) := by
  unfold wp_X8_seek at h
  refine bs_iload_n C (bf_dk dd_X8_seek 0 rfl) rfl ?_
  refine bs_pureS_i (ps := []) (w := (bW8 S)) C hR (c_X8_isLength _ _ _ _ _ (a3) _ h) my_X8_isLength m_8_128 rfl (Nat.le_of_ble_eq_true rfl) (Nat.le_of_ble_eq_true rfl) rfl rfl (st := []) (Nat.le_of_ble_eq_true rfl) (bf_dk dd_X8_seek 1 rfl) rfl (fun _ => rfl) (fun r1 h => ?_)
  refine bs_if_ne C (bf_dk dd_X8_seek 2 rfl) (tgt := 9) rfl (fun c => ?_) (fun c => ?_)
  · replace h := h.1 c
    refine bs_aload_n C (bf_dk dd_X8_seek 5 rfl) rfl ?_
    refine bs_get C (bf_dk dd_X8_seek 6 rfl) cl_8 in_8 3 (Nat.le_of_ble_eq_true rfl) rfl f_8_26 (ge_bW8_0 S) rfl ?_
    refine bs_get C (bf_dk dd_X8_seek 7 rfl) cl_1 in_1 2 (Nat.le_of_ble_eq_true rfl) rfl f_8_186 (ge_bW8_31 S) rfl ?_
    refine bs_iload_n C (bf_dk dd_X8_seek 8 rfl) rfl ?_
    refine bs_iload_n C (bf_dk dd_X8_seek 9 rfl) rfl ?_
    refine bs_iload_n C (bf_dk dd_X8_seek 10 rfl) rfl ?_
    refine bs_pureS_l (ps := []) (w := (bW8 S)) C hR (c_X8_keyOf _ _ _ _ _ (a1) (a2) (a3) _ h) my_X8_keyOf m_8_132 rfl (Nat.le_of_ble_eq_true rfl) (Nat.le_of_ble_eq_true rfl) rfl rfl (st := [.ref 38]) (Nat.le_of_ble_eq_true rfl) (bf_dk dd_X8_seek 11 rfl) rfl (fun _ => rfl) (fun r3 h => ?_)
    refine bs_iload_n C (bf_dk dd_X8_seek 12 rfl) rfl ?_
    refine bs_pureV_i (ps := [38, 39, 40]) (w := (bW8 S)) C hR (c_X0_ahead _ _ _ _ _ (b1g_highs (b8g_leaves S)) (r3) (a3) _ h) my_X0_ahead m_8_189 rfl cl_0 (ge_bW0_0 _) rfl (Nat.le_of_ble_eq_true rfl) (Nat.le_of_ble_eq_true rfl) (su_bW8_38_bW0 S) rfl (st := []) (Nat.le_of_ble_eq_true rfl) (bf_dk dd_X8_seek 13 rfl) rfl (fun _ => rfl) (fun r5 h => ?_)
    refine bs_istore C (bf_dk dd_X8_seek 14 rfl) (Nat.le_of_ble_eq_true rfl) (Nat.le_of_ble_eq_true rfl) (lv2 := [some (.ref 0), some (.int a1), some (.int a2), some (.int a3), some (.int r5)]) rfl ?_
    refine bs_iload C (bf_dk dd_X8_seek 15 rfl) rfl ?_
    refine bs_aload_n C (bf_dk dd_X8_seek 16 rfl) rfl ?_
    refine bs_get C (bf_dk dd_X8_seek 17 rfl) cl_8 in_8 3 (Nat.le_of_ble_eq_true rfl) rfl f_8_26 (ge_bW8_0 S) rfl ?_
    refine bs_pureV_i (ps := [31, 32, 33, 34, 35, 36, 37, 38, 39, 40, 41, 42, 43, 44]) (w := (bW8 S)) C hR (c_X1_count _ _ _ _ _ (b8g_leaves S) _ h) my_X1_count m_8_160 rfl cl_1 (ge_bW1_0 _) rfl (Nat.le_of_ble_eq_true rfl) (Nat.le_of_ble_eq_true rfl) (su_bW8_31_bW1 S) bnd_31t44 (st := [.int r5]) (Nat.le_of_ble_eq_true rfl) (bf_dk dd_X8_seek 18 rfl) rfl (fun _ => rfl) (fun r7 h => ?_)
    refine bs_icmp_ge C (bf_dk dd_X8_seek 19 rfl) (tgt := 45) rfl (fun c => ?_) (fun c => ?_)
    · replace h := h.1 c
      refine bs_iconst C (bf_dk dd_X8_seek 22 rfl) (-1 : Int32) (by decide) ?_
      exact bs_iret (u := S) C (bf_dk dd_X8_seek 23 rfl) rfl ⟨rfl, h⟩
    · replace h := h.2 c
      refine bs_iload C (bf_dk dd_X8_seek 20 rfl) rfl ?_
      refine bs_goto C (bf_dk dd_X8_seek 21 rfl) (tgt := 46) rfl ?_
      exact bs_iret (u := S) C (bf_dk dd_X8_seek 23 rfl) rfl ⟨rfl, h⟩
  · replace h := h.2 c
    refine bs_iconst C (bf_dk dd_X8_seek 3 rfl) (-1 : Int32) (by decide) ?_
    exact bs_iret (u := S) C (bf_dk dd_X8_seek 4 rfl) rfl ⟨rfl, h⟩
theorem c_X8_seek (l : Launch) (dC : Nat → ClassId) (dI : Nat → Nat → Nat) (ac : Nat → ClassId) (al : Nat → Nat) (S : bT8) (a1 : Int32) (a2 : Int32) (a3 : Int32) (Q : Int32 → Prop) (h : wp_X8_seek S a1 a2 a3 Q) : bf_M l yX8_seek cX8_seek 5 (some .int) 3 75 dC dI ac al [.ref 0, .int a1, .int a2, .int a3] (bW8 S) (bf_Ki dC dI ac al bW8 (fun r u => u = S ∧ Q r)) := by
  refine bf_start [some (.ref 0), some (.int a1), some (.int a2), some (.int a3), none] (by decide) (Nat.le_of_ble_eq_true rfl) (bf_s1 (bf_s1 (bf_s1 (bf_s1 (bf_en 1))))) ?_
  intro X hl C hR e1 e2 e3 e4
  subst e1; subst e2; subst e3; subst e4
  exact t_X8_seek C hR S a1 a2 a3 Q h
def wp_X8_seekBack (S : bT8) (a1 : Int32) (a2 : Int32) (a3 : Int32) (Q : Int32 → Prop) : Prop := (wp_X8_isLength (a3) (fun r1 => ((r1 = 0 → (Q (-1 : Int32))) ∧ (¬ r1 = 0 → (wp_X8_keyOf (a1) (a2) (a3) (fun r3 => (wp_X0_upTo (b1g_lows (b8g_leaves S)) (r3) (a3) (fun r5 => (Q (r5 - (1 : Int32)))))))))))
set_option maxRecDepth 20000 in
theorem t_X8_seekBack {X : bf_X} (C : bf_C X RX8 cX8_seekBack 4 (some .int)) (hR : bf_Rm X 3 75) (S : bT8) (a1 : Int32) (a2 : Int32) (a3 : Int32) (Q : Int32 → Prop) (h : wp_X8_seekBack S a1 a2 a3 Q) : bf_A X (bf_Zi X bW8 (fun r u => u = S ∧ Q r)) 4 0 [some (.ref 0), some (.int a1), some (.int a2), some (.int a3)] [] (bW8 S) := by
  unfold wp_X8_seekBack at h
  refine bs_iload_n C (bf_dk dd_X8_seekBack 0 rfl) rfl ?_
  refine bs_pureS_i (ps := []) (w := (bW8 S)) C hR (c_X8_isLength _ _ _ _ _ (a3) _ h) my_X8_isLength m_8_128 rfl (Nat.le_of_ble_eq_true rfl) (Nat.le_of_ble_eq_true rfl) rfl rfl (st := []) (Nat.le_of_ble_eq_true rfl) (bf_dk dd_X8_seekBack 1 rfl) rfl (fun _ => rfl) (fun r1 h => ?_)
  refine bs_if_eq C (bf_dk dd_X8_seekBack 2 rfl) (tgt := 29) rfl (fun c => ?_) (fun c => ?_)
  · replace h := h.1 c
    refine bs_iconst C (bf_dk dd_X8_seekBack 15 rfl) (-1 : Int32) (by decide) ?_
    exact bs_iret (u := S) C (bf_dk dd_X8_seekBack 16 rfl) rfl ⟨rfl, h⟩
  · replace h := h.2 c
    refine bs_aload_n C (bf_dk dd_X8_seekBack 3 rfl) rfl ?_
    refine bs_get C (bf_dk dd_X8_seekBack 4 rfl) cl_8 in_8 3 (Nat.le_of_ble_eq_true rfl) rfl f_8_26 (ge_bW8_0 S) rfl ?_
    refine bs_get C (bf_dk dd_X8_seekBack 5 rfl) cl_1 in_1 1 (Nat.le_of_ble_eq_true rfl) rfl f_8_192 (ge_bW8_31 S) rfl ?_
    refine bs_iload_n C (bf_dk dd_X8_seekBack 6 rfl) rfl ?_
    refine bs_iload_n C (bf_dk dd_X8_seekBack 7 rfl) rfl ?_
    refine bs_iload_n C (bf_dk dd_X8_seekBack 8 rfl) rfl ?_
    refine bs_pureS_l (ps := []) (w := (bW8 S)) C hR (c_X8_keyOf _ _ _ _ _ (a1) (a2) (a3) _ h) my_X8_keyOf m_8_132 rfl (Nat.le_of_ble_eq_true rfl) (Nat.le_of_ble_eq_true rfl) rfl rfl (st := [.ref 35]) (Nat.le_of_ble_eq_true rfl) (bf_dk dd_X8_seekBack 9 rfl) rfl (fun _ => rfl) (fun r3 h => ?_)
    refine bs_iload_n C (bf_dk dd_X8_seekBack 10 rfl) rfl ?_
    refine bs_pureV_i (ps := [35, 36, 37]) (w := (bW8 S)) C hR (c_X0_upTo _ _ _ _ _ (b1g_lows (b8g_leaves S)) (r3) (a3) _ h) my_X0_upTo m_8_195 rfl cl_0 (ge_bW0_0 _) rfl (Nat.le_of_ble_eq_true rfl) (Nat.le_of_ble_eq_true rfl) (su_bW8_35_bW0 S) rfl (st := []) (Nat.le_of_ble_eq_true rfl) (bf_dk dd_X8_seekBack 11 rfl) rfl (fun _ => rfl) (fun r5 h => ?_)
    refine bs_iconst C (bf_dk dd_X8_seekBack 12 rfl) (1 : Int32) (by decide) ?_
    refine bs_isub C (bf_dk dd_X8_seekBack 13 rfl) ?_
    refine bs_goto C (bf_dk dd_X8_seekBack 14 rfl) (tgt := 30) rfl ?_
    exact bs_iret (u := S) C (bf_dk dd_X8_seekBack 16 rfl) rfl ⟨rfl, h⟩
theorem c_X8_seekBack (l : Launch) (dC : Nat → ClassId) (dI : Nat → Nat → Nat) (ac : Nat → ClassId) (al : Nat → Nat) (S : bT8) (a1 : Int32) (a2 : Int32) (a3 : Int32) (Q : Int32 → Prop) (h : wp_X8_seekBack S a1 a2 a3 Q) : bf_M l yX8_seekBack cX8_seekBack 4 (some .int) 3 75 dC dI ac al [.ref 0, .int a1, .int a2, .int a3] (bW8 S) (bf_Ki dC dI ac al bW8 (fun r u => u = S ∧ Q r)) := by
  refine bf_start [some (.ref 0), some (.int a1), some (.int a2), some (.int a3)] (by decide) (Nat.le_of_ble_eq_true rfl) (bf_s1 (bf_s1 (bf_s1 (bf_s1 bf_s0)))) ?_
  intro X hl C hR e1 e2 e3 e4
  subst e1; subst e2; subst e3; subst e4
  exact t_X8_seekBack C hR S a1 a2 a3 Q h
def wp_X8_leaf (S : bT8) (a1 : Int32) (a2 : Int32) (Q : Int32 → Prop) : Prop := ((a1 < 0 → (Q (-1 : Int32))) ∧ (¬ a1 < 0 → (wp_X1_count (b8g_leaves S) (fun r1 => ((a1 < r1 → ((((a2).toInt < 0 ∨ 6 < (a2).toInt) → ((a2 < (10 : Int32) → (Q (-1 : Int32))) ∧ (¬ a2 < (10 : Int32) → (wp_X1_lengthAt (b8g_leaves S) (a1) (fun r3 => (((a2 - (10 : Int32)) < r3 → (wp_X0_bytesAt (b1g_owners (b8g_leaves S)) (a1) (fun r5 => (wp_X8_octetAt (r5) ((a2 - (10 : Int32))) (fun r7 => (Q r7)))))) ∧ (¬ (a2 - (10 : Int32)) < r3 → (Q (-1 : Int32))))))))) ∧ (a2 = (0 : Int32) → (wp_X1_lengthAt (b8g_leaves S) (a1) (fun r9 => (Q r9)))) ∧ (a2 = (1 : Int32) → (wp_X1_isEnded (b8g_leaves S) (a1) (fun r11 => ((r11 = 0 → (Q (0 : Int32))) ∧ (¬ r11 = 0 → (Q (1 : Int32))))))) ∧ (a2 = (2 : Int32) → (wp_X1_hashAt (b8g_leaves S) (a1) (fun r13 => (Q r13)))) ∧ (a2 = (3 : Int32) → (wp_X1_nextAt (b8g_leaves S) (a1) (fun r15 => (Q r15)))) ∧ (a2 = (4 : Int32) → (wp_X8_at 64 (b6g_places (b8g_tree S)) (a1) (fun r17 => (Q r17)))) ∧ (a2 = (5 : Int32) → (wp_X8_at 64 (b6g_leafNodes (b8g_tree S)) (a1) (fun r19 => (Q r19)))) ∧ (a2 = (6 : Int32) → (wp_X8_at 64 (b1g_commons (b8g_leaves S)) (a1) (fun r21 => (Q r21)))))) ∧ (¬ a1 < r1 → (Q (-1 : Int32))))))))
set_option maxRecDepth 20000 in
theorem t_X8_leaf {X : bf_X} (C : bf_C X RX8 cX8_leaf 4 (some .int)) (hR : bf_Rm X 2 42) (S : bT8) (a1 : Int32) (a2 : Int32) (Q : Int32 → Prop) (h : wp_X8_leaf S a1 a2 Q) : bf_A X (bf_Zi X bW8 (fun r u => u = S ∧ Q r)) 4 0 [some (.ref 0), some (.int a1), some (.int a2), none] [] (bW8 S) := by
  unfold wp_X8_leaf at h
  refine bs_iload_n C (bf_dk dd_X8_leaf 0 rfl) rfl ?_
  refine bs_if_lt C (bf_dk dd_X8_leaf 1 rfl) (tgt := 15) rfl (fun c => ?_) (fun c => ?_)
  · replace h := h.1 c
    refine bs_iconst C (bf_dk dd_X8_leaf 7 rfl) (-1 : Int32) (by decide) ?_
    exact bs_iret (u := S) C (bf_dk dd_X8_leaf 8 rfl) rfl ⟨rfl, h⟩
  · replace h := h.2 c
    refine bs_iload_n C (bf_dk dd_X8_leaf 2 rfl) rfl ?_
    refine bs_aload_n C (bf_dk dd_X8_leaf 3 rfl) rfl ?_
    refine bs_get C (bf_dk dd_X8_leaf 4 rfl) cl_8 in_8 3 (Nat.le_of_ble_eq_true rfl) rfl f_8_26 (ge_bW8_0 S) rfl ?_
    refine bs_pureV_i (ps := [31, 32, 33, 34, 35, 36, 37, 38, 39, 40, 41, 42, 43, 44]) (w := (bW8 S)) C hR (c_X1_count _ _ _ _ _ (b8g_leaves S) _ h) my_X1_count m_8_160 rfl cl_1 (ge_bW1_0 _) rfl (Nat.le_of_ble_eq_true rfl) (Nat.le_of_ble_eq_true rfl) (su_bW8_31_bW1 S) bnd_31t44 (st := [.int a1]) (Nat.le_of_ble_eq_true rfl) (bf_dk dd_X8_leaf 5 rfl) rfl (fun _ => rfl) (fun r1 h => ?_)
    refine bs_icmp_lt C (bf_dk dd_X8_leaf 6 rfl) (tgt := 17) rfl (fun c => ?_) (fun c => ?_)
    · replace h := h.1 c
      refine bs_iload_n C (bf_dk dd_X8_leaf 9 rfl) rfl ?_
      refine bs_table C (tdef := 140) (fun k => List.getD [60, 69, 86, 95, 104, 116, 128] k 0) 7 (bf_dk dd_X8_leaf 10 rfl) rfl rfl (fun k hk => by rcases (show k = 0 ∨ k = 1 ∨ k = 2 ∨ k = 3 ∨ k = 4 ∨ k = 5 ∨ k = 6 by omega) with rfl | rfl | rfl | rfl | rfl | rfl | rfl <;> exact ⟨_, rfl, rfl⟩) (fun c => ?_) (fun k hk c => ?_)
      · replace h := h.1 c
        refine bs_iload_n C (bf_dk dd_X8_leaf 53 rfl) rfl ?_
        refine bs_bipush C (bf_dk dd_X8_leaf 54 rfl) (10 : Int32) (by decide) ?_
        refine bs_isub C (bf_dk dd_X8_leaf 55 rfl) ?_
        refine bs_istore_n C (bf_dk dd_X8_leaf 56 rfl) rfl (Nat.le_of_ble_eq_true rfl) (Nat.le_of_ble_eq_true rfl) (lv2 := [some (.ref 0), some (.int a1), some (.int a2), some (.int (a2 - (10 : Int32)))]) rfl ?_
        refine bs_iload_n C (bf_dk dd_X8_leaf 57 rfl) rfl ?_
        refine bs_bipush C (bf_dk dd_X8_leaf 58 rfl) (10 : Int32) (by decide) ?_
        refine bs_icmp_lt C (bf_dk dd_X8_leaf 59 rfl) (tgt := 163) rfl (fun c => ?_) (fun c => ?_)
        · replace h := h.1 c
          refine bs_iconst C (bf_dk dd_X8_leaf 66 rfl) (-1 : Int32) (by decide) ?_
          exact bs_iret (u := S) C (bf_dk dd_X8_leaf 67 rfl) rfl ⟨rfl, h⟩
        · replace h := h.2 c
          refine bs_iload_n C (bf_dk dd_X8_leaf 60 rfl) rfl ?_
          refine bs_aload_n C (bf_dk dd_X8_leaf 61 rfl) rfl ?_
          refine bs_get C (bf_dk dd_X8_leaf 62 rfl) cl_8 in_8 3 (Nat.le_of_ble_eq_true rfl) rfl f_8_26 (ge_bW8_0 S) rfl ?_
          refine bs_iload_n C (bf_dk dd_X8_leaf 63 rfl) rfl ?_
          refine bs_pureV_i (ps := [31, 32, 33, 34, 35, 36, 37, 38, 39, 40, 41, 42, 43, 44]) (w := (bW8 S)) C hR (c_X1_lengthAt _ _ _ _ _ (b8g_leaves S) (a1) _ h) my_X1_lengthAt m_8_198 rfl cl_1 (ge_bW1_0 _) rfl (Nat.le_of_ble_eq_true rfl) (Nat.le_of_ble_eq_true rfl) (su_bW8_31_bW1 S) bnd_31t44 (st := [.int (a2 - (10 : Int32))]) (Nat.le_of_ble_eq_true rfl) (bf_dk dd_X8_leaf 64 rfl) rfl (fun _ => rfl) (fun r3 h => ?_)
          refine bs_icmp_lt C (bf_dk dd_X8_leaf 65 rfl) (tgt := 165) rfl (fun c => ?_) (fun c => ?_)
          · replace h := h.1 c
            refine bs_aload_n C (bf_dk dd_X8_leaf 68 rfl) rfl ?_
            refine bs_get C (bf_dk dd_X8_leaf 69 rfl) cl_8 in_8 3 (Nat.le_of_ble_eq_true rfl) rfl f_8_26 (ge_bW8_0 S) rfl ?_
            refine bs_get C (bf_dk dd_X8_leaf 70 rfl) cl_1 in_1 0 (Nat.le_of_ble_eq_true rfl) rfl f_8_163 (ge_bW8_31 S) rfl ?_
            refine bs_iload_n C (bf_dk dd_X8_leaf 71 rfl) rfl ?_
            refine bs_pureV_l (ps := [32, 33, 34]) (w := (bW8 S)) C hR (c_X0_bytesAt _ _ _ _ _ (b1g_owners (b8g_leaves S)) (a1) _ h) my_X0_bytesAt m_8_219 rfl cl_0 (ge_bW0_0 _) rfl (Nat.le_of_ble_eq_true rfl) (Nat.le_of_ble_eq_true rfl) (su_bW8_32_bW0 S) rfl (st := []) (Nat.le_of_ble_eq_true rfl) (bf_dk dd_X8_leaf 72 rfl) rfl (fun _ => rfl) (fun r5 h => ?_)
            refine bs_iload_n C (bf_dk dd_X8_leaf 73 rfl) rfl ?_
            refine bs_pureS_i (ps := []) (w := (bW8 S)) C hR (c_X8_octetAt _ _ _ _ _ (r5) ((a2 - (10 : Int32))) _ h) my_X8_octetAt m_8_222 rfl (Nat.le_of_ble_eq_true rfl) (Nat.le_of_ble_eq_true rfl) rfl rfl (st := []) (Nat.le_of_ble_eq_true rfl) (bf_dk dd_X8_leaf 74 rfl) rfl (fun _ => rfl) (fun r7 h => ?_)
            exact bs_iret (u := S) C (bf_dk dd_X8_leaf 75 rfl) rfl ⟨rfl, h⟩
          · replace h := h.2 c
            refine bs_iconst C (bf_dk dd_X8_leaf 66 rfl) (-1 : Int32) (by decide) ?_
            exact bs_iret (u := S) C (bf_dk dd_X8_leaf 67 rfl) rfl ⟨rfl, h⟩
      · rcases (show k = 0 ∨ k = 1 ∨ k = 2 ∨ k = 3 ∨ k = 4 ∨ k = 5 ∨ k = 6 by omega) with rfl | rfl | rfl | rfl | rfl | rfl | rfl
        · replace h := h.2.1 (bf_i32 c (by decide))
          refine bs_aload_n C (bf_dk dd_X8_leaf 11 rfl) rfl ?_
          refine bs_get C (bf_dk dd_X8_leaf 12 rfl) cl_8 in_8 3 (Nat.le_of_ble_eq_true rfl) rfl f_8_26 (ge_bW8_0 S) rfl ?_
          refine bs_iload_n C (bf_dk dd_X8_leaf 13 rfl) rfl ?_
          refine bs_pureV_i (ps := [31, 32, 33, 34, 35, 36, 37, 38, 39, 40, 41, 42, 43, 44]) (w := (bW8 S)) C hR (c_X1_lengthAt _ _ _ _ _ (b8g_leaves S) (a1) _ h) my_X1_lengthAt m_8_198 rfl cl_1 (ge_bW1_0 _) rfl (Nat.le_of_ble_eq_true rfl) (Nat.le_of_ble_eq_true rfl) (su_bW8_31_bW1 S) bnd_31t44 (st := []) (Nat.le_of_ble_eq_true rfl) (bf_dk dd_X8_leaf 14 rfl) rfl (fun _ => rfl) (fun r9 h => ?_)
          exact bs_iret (u := S) C (bf_dk dd_X8_leaf 15 rfl) rfl ⟨rfl, h⟩
        · replace h := h.2.2.1 (bf_i32 c (by decide))
          refine bs_aload_n C (bf_dk dd_X8_leaf 16 rfl) rfl ?_
          refine bs_get C (bf_dk dd_X8_leaf 17 rfl) cl_8 in_8 3 (Nat.le_of_ble_eq_true rfl) rfl f_8_26 (ge_bW8_0 S) rfl ?_
          refine bs_iload_n C (bf_dk dd_X8_leaf 18 rfl) rfl ?_
          refine bs_pureV_i (ps := [31, 32, 33, 34, 35, 36, 37, 38, 39, 40, 41, 42, 43, 44]) (w := (bW8 S)) C hR (c_X1_isEnded _ _ _ _ _ (b8g_leaves S) (a1) _ h) my_X1_isEnded m_8_201 rfl cl_1 (ge_bW1_0 _) rfl (Nat.le_of_ble_eq_true rfl) (Nat.le_of_ble_eq_true rfl) (su_bW8_31_bW1 S) bnd_31t44 (st := []) (Nat.le_of_ble_eq_true rfl) (bf_dk dd_X8_leaf 19 rfl) rfl (fun _ => rfl) (fun r11 h => ?_)
          refine bs_if_eq C (bf_dk dd_X8_leaf 20 rfl) (tgt := 84) rfl (fun c => ?_) (fun c => ?_)
          · replace h := h.1 c
            refine bs_iconst C (bf_dk dd_X8_leaf 23 rfl) (0 : Int32) (by decide) ?_
            exact bs_iret (u := S) C (bf_dk dd_X8_leaf 24 rfl) rfl ⟨rfl, h⟩
          · replace h := h.2 c
            refine bs_iconst C (bf_dk dd_X8_leaf 21 rfl) (1 : Int32) (by decide) ?_
            refine bs_goto C (bf_dk dd_X8_leaf 22 rfl) (tgt := 85) rfl ?_
            exact bs_iret (u := S) C (bf_dk dd_X8_leaf 24 rfl) rfl ⟨rfl, h⟩
        · replace h := h.2.2.2.1 (bf_i32 c (by decide))
          refine bs_aload_n C (bf_dk dd_X8_leaf 25 rfl) rfl ?_
          refine bs_get C (bf_dk dd_X8_leaf 26 rfl) cl_8 in_8 3 (Nat.le_of_ble_eq_true rfl) rfl f_8_26 (ge_bW8_0 S) rfl ?_
          refine bs_iload_n C (bf_dk dd_X8_leaf 27 rfl) rfl ?_
          refine bs_pureV_i (ps := [31, 32, 33, 34, 35, 36, 37, 38, 39, 40, 41, 42, 43, 44]) (w := (bW8 S)) C hR (c_X1_hashAt _ _ _ _ _ (b8g_leaves S) (a1) _ h) my_X1_hashAt m_8_204 rfl cl_1 (ge_bW1_0 _) rfl (Nat.le_of_ble_eq_true rfl) (Nat.le_of_ble_eq_true rfl) (su_bW8_31_bW1 S) bnd_31t44 (st := []) (Nat.le_of_ble_eq_true rfl) (bf_dk dd_X8_leaf 28 rfl) rfl (fun _ => rfl) (fun r13 h => ?_)
          exact bs_iret (u := S) C (bf_dk dd_X8_leaf 29 rfl) rfl ⟨rfl, h⟩
        · replace h := h.2.2.2.2.1 (bf_i32 c (by decide))
          refine bs_aload_n C (bf_dk dd_X8_leaf 30 rfl) rfl ?_
          refine bs_get C (bf_dk dd_X8_leaf 31 rfl) cl_8 in_8 3 (Nat.le_of_ble_eq_true rfl) rfl f_8_26 (ge_bW8_0 S) rfl ?_
          refine bs_iload_n C (bf_dk dd_X8_leaf 32 rfl) rfl ?_
          refine bs_pureV_i (ps := [31, 32, 33, 34, 35, 36, 37, 38, 39, 40, 41, 42, 43, 44]) (w := (bW8 S)) C hR (c_X1_nextAt _ _ _ _ _ (b8g_leaves S) (a1) _ h) my_X1_nextAt m_8_207 rfl cl_1 (ge_bW1_0 _) rfl (Nat.le_of_ble_eq_true rfl) (Nat.le_of_ble_eq_true rfl) (su_bW8_31_bW1 S) bnd_31t44 (st := []) (Nat.le_of_ble_eq_true rfl) (bf_dk dd_X8_leaf 33 rfl) rfl (fun _ => rfl) (fun r15 h => ?_)
          exact bs_iret (u := S) C (bf_dk dd_X8_leaf 34 rfl) rfl ⟨rfl, h⟩
        · replace h := h.2.2.2.2.2.1 (bf_i32 c (by decide))
          refine bs_aload_n C (bf_dk dd_X8_leaf 35 rfl) rfl ?_
          refine bs_get C (bf_dk dd_X8_leaf 36 rfl) cl_8 in_8 4 (Nat.le_of_ble_eq_true rfl) rfl f_8_33 (ge_bW8_0 S) rfl ?_
          refine bs_get C (bf_dk dd_X8_leaf 37 rfl) cl_6 in_6 9 (Nat.le_of_ble_eq_true rfl) rfl f_8_210 (ge_bW8_45 S) rfl ?_
          refine bs_iload_n C (bf_dk dd_X8_leaf 38 rfl) rfl ?_
          refine bs_pureS_i (ps := [55]) (w := (bW8 S)) C hR (c_X8_at _ _ _ _ _ 64 (b6g_places (b8g_tree S)) (a1) _ h) my_X8_at m_8_115 rfl (Nat.le_of_ble_eq_true rfl) (Nat.le_of_ble_eq_true rfl) (su_bW8_55_bWan64 S) rfl (st := []) (Nat.le_of_ble_eq_true rfl) (bf_dk dd_X8_leaf 39 rfl) rfl (fun _ => rfl) (fun r17 h => ?_)
          exact bs_iret (u := S) C (bf_dk dd_X8_leaf 40 rfl) rfl ⟨rfl, h⟩
        · replace h := h.2.2.2.2.2.2.1 (bf_i32 c (by decide))
          refine bs_aload_n C (bf_dk dd_X8_leaf 41 rfl) rfl ?_
          refine bs_get C (bf_dk dd_X8_leaf 42 rfl) cl_8 in_8 4 (Nat.le_of_ble_eq_true rfl) rfl f_8_33 (ge_bW8_0 S) rfl ?_
          refine bs_get C (bf_dk dd_X8_leaf 43 rfl) cl_6 in_6 11 (Nat.le_of_ble_eq_true rfl) rfl f_8_213 (ge_bW8_45 S) rfl ?_
          refine bs_iload_n C (bf_dk dd_X8_leaf 44 rfl) rfl ?_
          refine bs_pureS_i (ps := [57]) (w := (bW8 S)) C hR (c_X8_at _ _ _ _ _ 64 (b6g_leafNodes (b8g_tree S)) (a1) _ h) my_X8_at m_8_115 rfl (Nat.le_of_ble_eq_true rfl) (Nat.le_of_ble_eq_true rfl) (su_bW8_57_bWan64 S) rfl (st := []) (Nat.le_of_ble_eq_true rfl) (bf_dk dd_X8_leaf 45 rfl) rfl (fun _ => rfl) (fun r19 h => ?_)
          exact bs_iret (u := S) C (bf_dk dd_X8_leaf 46 rfl) rfl ⟨rfl, h⟩
        · replace h := h.2.2.2.2.2.2.2 (bf_i32 c (by decide))
          refine bs_aload_n C (bf_dk dd_X8_leaf 47 rfl) rfl ?_
          refine bs_get C (bf_dk dd_X8_leaf 48 rfl) cl_8 in_8 3 (Nat.le_of_ble_eq_true rfl) rfl f_8_26 (ge_bW8_0 S) rfl ?_
          refine bs_get C (bf_dk dd_X8_leaf 49 rfl) cl_1 in_1 3 (Nat.le_of_ble_eq_true rfl) rfl f_8_216 (ge_bW8_31 S) rfl ?_
          refine bs_iload_n C (bf_dk dd_X8_leaf 50 rfl) rfl ?_
          refine bs_pureS_i (ps := [41]) (w := (bW8 S)) C hR (c_X8_at _ _ _ _ _ 64 (b1g_commons (b8g_leaves S)) (a1) _ h) my_X8_at m_8_115 rfl (Nat.le_of_ble_eq_true rfl) (Nat.le_of_ble_eq_true rfl) (su_bW8_41_bWan64 S) rfl (st := []) (Nat.le_of_ble_eq_true rfl) (bf_dk dd_X8_leaf 51 rfl) rfl (fun _ => rfl) (fun r21 h => ?_)
          exact bs_iret (u := S) C (bf_dk dd_X8_leaf 52 rfl) rfl ⟨rfl, h⟩
    · replace h := h.2 c
      refine bs_iconst C (bf_dk dd_X8_leaf 7 rfl) (-1 : Int32) (by decide) ?_
      exact bs_iret (u := S) C (bf_dk dd_X8_leaf 8 rfl) rfl ⟨rfl, h⟩
theorem c_X8_leaf (l : Launch) (dC : Nat → ClassId) (dI : Nat → Nat → Nat) (ac : Nat → ClassId) (al : Nat → Nat) (S : bT8) (a1 : Int32) (a2 : Int32) (Q : Int32 → Prop) (h : wp_X8_leaf S a1 a2 Q) : bf_M l yX8_leaf cX8_leaf 4 (some .int) 2 42 dC dI ac al [.ref 0, .int a1, .int a2] (bW8 S) (bf_Ki dC dI ac al bW8 (fun r u => u = S ∧ Q r)) := by
  refine bf_start [some (.ref 0), some (.int a1), some (.int a2), none] (by decide) (Nat.le_of_ble_eq_true rfl) (bf_s1 (bf_s1 (bf_s1 (bf_en 1)))) ?_
  intro X hl C hR e1 e2 e3 e4
  subst e1; subst e2; subst e3; subst e4
  exact t_X8_leaf C hR S a1 a2 Q h
def wp_X8_leafAt (S : bT8) (a1 : Int32) (Q : Int32 → Prop) : Prop := ((a1 < 0 → (Q (-1 : Int32))) ∧ (¬ a1 < 0 → (wp_X1_count (b8g_leaves S) (fun r1 => ((r1 ≤ a1 → (Q (-1 : Int32))) ∧ (¬ r1 ≤ a1 → (wp_X8_at 64 (b6g_leavesByPlace (b8g_tree S)) (a1) (fun r3 => (Q r3)))))))))
set_option maxRecDepth 20000 in
theorem t_X8_leafAt {X : bf_X} (C : bf_C X RX8 cX8_leafAt 2 (some .int)) (hR : bf_Rm X 1 21) (S : bT8) (a1 : Int32) (Q : Int32 → Prop) (h : wp_X8_leafAt S a1 Q) : bf_A X (bf_Zi X bW8 (fun r u => u = S ∧ Q r)) 2 0 [some (.ref 0), some (.int a1)] [] (bW8 S) := by
  unfold wp_X8_leafAt at h
  refine bs_iload_n C (bf_dk dd_X8_leafAt 0 rfl) rfl ?_
  refine bs_if_lt C (bf_dk dd_X8_leafAt 1 rfl) (tgt := 29) rfl (fun c => ?_) (fun c => ?_)
  · replace h := h.1 c
    refine bs_iconst C (bf_dk dd_X8_leafAt 13 rfl) (-1 : Int32) (by decide) ?_
    exact bs_iret (u := S) C (bf_dk dd_X8_leafAt 14 rfl) rfl ⟨rfl, h⟩
  · replace h := h.2 c
    refine bs_iload_n C (bf_dk dd_X8_leafAt 2 rfl) rfl ?_
    refine bs_aload_n C (bf_dk dd_X8_leafAt 3 rfl) rfl ?_
    refine bs_get C (bf_dk dd_X8_leafAt 4 rfl) cl_8 in_8 3 (Nat.le_of_ble_eq_true rfl) rfl f_8_26 (ge_bW8_0 S) rfl ?_
    refine bs_pureV_i (ps := [31, 32, 33, 34, 35, 36, 37, 38, 39, 40, 41, 42, 43, 44]) (w := (bW8 S)) C hR (c_X1_count _ _ _ _ _ (b8g_leaves S) _ h) my_X1_count m_8_160 rfl cl_1 (ge_bW1_0 _) rfl (Nat.le_of_ble_eq_true rfl) (Nat.le_of_ble_eq_true rfl) (su_bW8_31_bW1 S) bnd_31t44 (st := [.int a1]) (Nat.le_of_ble_eq_true rfl) (bf_dk dd_X8_leafAt 5 rfl) rfl (fun _ => rfl) (fun r1 h => ?_)
    refine bs_icmp_ge C (bf_dk dd_X8_leafAt 6 rfl) (tgt := 29) rfl (fun c => ?_) (fun c => ?_)
    · replace h := h.1 c
      refine bs_iconst C (bf_dk dd_X8_leafAt 13 rfl) (-1 : Int32) (by decide) ?_
      exact bs_iret (u := S) C (bf_dk dd_X8_leafAt 14 rfl) rfl ⟨rfl, h⟩
    · replace h := h.2 c
      refine bs_aload_n C (bf_dk dd_X8_leafAt 7 rfl) rfl ?_
      refine bs_get C (bf_dk dd_X8_leafAt 8 rfl) cl_8 in_8 4 (Nat.le_of_ble_eq_true rfl) rfl f_8_33 (ge_bW8_0 S) rfl ?_
      refine bs_get C (bf_dk dd_X8_leafAt 9 rfl) cl_6 in_6 10 (Nat.le_of_ble_eq_true rfl) rfl f_8_225 (ge_bW8_45 S) rfl ?_
      refine bs_iload_n C (bf_dk dd_X8_leafAt 10 rfl) rfl ?_
      refine bs_pureS_i (ps := [56]) (w := (bW8 S)) C hR (c_X8_at _ _ _ _ _ 64 (b6g_leavesByPlace (b8g_tree S)) (a1) _ h) my_X8_at m_8_115 rfl (Nat.le_of_ble_eq_true rfl) (Nat.le_of_ble_eq_true rfl) (su_bW8_56_bWan64 S) rfl (st := []) (Nat.le_of_ble_eq_true rfl) (bf_dk dd_X8_leafAt 11 rfl) rfl (fun _ => rfl) (fun r3 h => ?_)
      refine bs_goto C (bf_dk dd_X8_leafAt 12 rfl) (tgt := 30) rfl ?_
      exact bs_iret (u := S) C (bf_dk dd_X8_leafAt 14 rfl) rfl ⟨rfl, h⟩
theorem c_X8_leafAt (l : Launch) (dC : Nat → ClassId) (dI : Nat → Nat → Nat) (ac : Nat → ClassId) (al : Nat → Nat) (S : bT8) (a1 : Int32) (Q : Int32 → Prop) (h : wp_X8_leafAt S a1 Q) : bf_M l yX8_leafAt cX8_leafAt 2 (some .int) 1 21 dC dI ac al [.ref 0, .int a1] (bW8 S) (bf_Ki dC dI ac al bW8 (fun r u => u = S ∧ Q r)) := by
  refine bf_start [some (.ref 0), some (.int a1)] (by decide) (Nat.le_of_ble_eq_true rfl) (bf_s1 (bf_s1 bf_s0)) ?_
  intro X hl C hR e1 e2 e3 e4
  subst e1; subst e2; subst e3; subst e4
  exact t_X8_leafAt C hR S a1 Q h
def wp_X8_node (S : bT8) (a1 : Int32) (a2 : Int32) (Q : Int32 → Prop) : Prop := ((a1 < 0 → (Q (-1 : Int32))) ∧ (¬ a1 < 0 → ((a1 < (b6g_nodes (b8g_tree S)) → ((((a2).toInt < 0 ∨ 6 < (a2).toInt) → (Q (-1 : Int32))) ∧ (a2 = (0 : Int32) → (wp_X8_at 232 (b6g_nodeLevels (b8g_tree S)) (a1) (fun r1 => (Q r1)))) ∧ (a2 = (1 : Int32) → (wp_X6_branches (b8g_tree S) (a1) ((a1 + (1 : Int32))) (fun r3 => (Q r3)))) ∧ (a2 = (2 : Int32) → (wp_X6_childrenOf (b8g_tree S) (a1) (fun r5 => (Q r5)))) ∧ (a2 = (3 : Int32) → (wp_X6_endsAmong (b8g_tree S) (a1) ((a1 + (1 : Int32))) (fun r7 => (Q r7)))) ∧ (a2 = (4 : Int32) → (((b6g_upperNodes (b8g_tree S)) ≤ a1 → (Q (0 : Int32))) ∧ (¬ (b6g_upperNodes (b8g_tree S)) ≤ a1 → (Q (1 : Int32))))) ∧ (a2 = (5 : Int32) → (wp_X8_at 232 (b6g_firstLeaves (b8g_tree S)) (a1) (fun r9 => (Q r9)))) ∧ (a2 = (6 : Int32) → (wp_X8_at 232 (b6g_leafCounts (b8g_tree S)) (a1) (fun r11 => (Q r11)))))) ∧ (¬ a1 < (b6g_nodes (b8g_tree S)) → (Q (-1 : Int32))))))
set_option maxRecDepth 20000 in
theorem t_X8_node {X : bf_X} (C : bf_C X RX8 cX8_node 3 (some .int)) (hR : bf_Rm X 4 88) (S : bT8) (a1 : Int32) (a2 : Int32) (Q : Int32 → Prop) (h : wp_X8_node S a1 a2 Q) : bf_A X (bf_Zi X bW8 (fun r u => u = S ∧ Q r)) 3 0 [some (.ref 0), some (.int a1), some (.int a2)] [] (bW8 S) := by
  unfold wp_X8_node at h
  refine bs_iload_n C (bf_dk dd_X8_node 0 rfl) rfl ?_
  refine bs_if_lt C (bf_dk dd_X8_node 1 rfl) (tgt := 15) rfl (fun c => ?_) (fun c => ?_)
  · replace h := h.1 c
    refine bs_iconst C (bf_dk dd_X8_node 7 rfl) (-1 : Int32) (by decide) ?_
    exact bs_iret (u := S) C (bf_dk dd_X8_node 8 rfl) rfl ⟨rfl, h⟩
  · replace h := h.2 c
    refine bs_iload_n C (bf_dk dd_X8_node 2 rfl) rfl ?_
    refine bs_aload_n C (bf_dk dd_X8_node 3 rfl) rfl ?_
    refine bs_get C (bf_dk dd_X8_node 4 rfl) cl_8 in_8 4 (Nat.le_of_ble_eq_true rfl) rfl f_8_33 (ge_bW8_0 S) rfl ?_
    refine bs_get C (bf_dk dd_X8_node 5 rfl) cl_6 in_6 12 (Nat.le_of_ble_eq_true rfl) rfl f_8_228 (ge_bW8_45 S) rfl ?_
    refine bs_icmp_lt C (bf_dk dd_X8_node 6 rfl) (tgt := 17) rfl (fun c => ?_) (fun c => ?_)
    · replace h := h.1 c
      refine bs_iload_n C (bf_dk dd_X8_node 9 rfl) rfl ?_
      refine bs_table C (tdef := 146) (fun k => List.getD [60, 72, 84, 93, 105, 122, 134] k 0) 7 (bf_dk dd_X8_node 10 rfl) rfl rfl (fun k hk => by rcases (show k = 0 ∨ k = 1 ∨ k = 2 ∨ k = 3 ∨ k = 4 ∨ k = 5 ∨ k = 6 by omega) with rfl | rfl | rfl | rfl | rfl | rfl | rfl <;> exact ⟨_, rfl, rfl⟩) (fun c => ?_) (fun k hk c => ?_)
      · replace h := h.1 c
        refine bs_iconst C (bf_dk dd_X8_node 59 rfl) (-1 : Int32) (by decide) ?_
        exact bs_iret (u := S) C (bf_dk dd_X8_node 60 rfl) rfl ⟨rfl, h⟩
      · rcases (show k = 0 ∨ k = 1 ∨ k = 2 ∨ k = 3 ∨ k = 4 ∨ k = 5 ∨ k = 6 by omega) with rfl | rfl | rfl | rfl | rfl | rfl | rfl
        · replace h := h.2.1 (bf_i32 c (by decide))
          refine bs_aload_n C (bf_dk dd_X8_node 11 rfl) rfl ?_
          refine bs_get C (bf_dk dd_X8_node 12 rfl) cl_8 in_8 4 (Nat.le_of_ble_eq_true rfl) rfl f_8_33 (ge_bW8_0 S) rfl ?_
          refine bs_get C (bf_dk dd_X8_node 13 rfl) cl_6 in_6 0 (Nat.le_of_ble_eq_true rfl) rfl f_8_231 (ge_bW8_45 S) rfl ?_
          refine bs_iload_n C (bf_dk dd_X8_node 14 rfl) rfl ?_
          refine bs_pureS_i (ps := [46]) (w := (bW8 S)) C hR (c_X8_at _ _ _ _ _ 232 (b6g_nodeLevels (b8g_tree S)) (a1) _ h) my_X8_at m_8_115 rfl (Nat.le_of_ble_eq_true rfl) (Nat.le_of_ble_eq_true rfl) (su_bW8_46_bWan232 S) rfl (st := []) (Nat.le_of_ble_eq_true rfl) (bf_dk dd_X8_node 15 rfl) rfl (fun _ => rfl) (fun r1 h => ?_)
          exact bs_iret (u := S) C (bf_dk dd_X8_node 16 rfl) rfl ⟨rfl, h⟩
        · replace h := h.2.2.1 (bf_i32 c (by decide))
          refine bs_aload_n C (bf_dk dd_X8_node 17 rfl) rfl ?_
          refine bs_get C (bf_dk dd_X8_node 18 rfl) cl_8 in_8 4 (Nat.le_of_ble_eq_true rfl) rfl f_8_33 (ge_bW8_0 S) rfl ?_
          refine bs_iload_n C (bf_dk dd_X8_node 19 rfl) rfl ?_
          refine bs_iload_n C (bf_dk dd_X8_node 20 rfl) rfl ?_
          refine bs_iconst C (bf_dk dd_X8_node 21 rfl) (1 : Int32) (by decide) ?_
          refine bs_iadd C (bf_dk dd_X8_node 22 rfl) ?_
          refine bs_pureV_i (ps := [45, 46, 47, 48, 49, 50, 51, 52, 53, 54, 55, 56, 57]) (w := (bW8 S)) C hR (c_X6_branches _ _ _ _ _ (b8g_tree S) (a1) ((a1 + (1 : Int32))) _ h) my_X6_branches m_8_234 rfl cl_6 (ge_bW6_0 _) rfl (Nat.le_of_ble_eq_true rfl) (Nat.le_of_ble_eq_true rfl) (su_bW8_45_bW6 S) bnd_45t57 (st := []) (Nat.le_of_ble_eq_true rfl) (bf_dk dd_X8_node 23 rfl) rfl (fun _ => rfl) (fun r3 h => ?_)
          exact bs_iret (u := S) C (bf_dk dd_X8_node 24 rfl) rfl ⟨rfl, h⟩
        · replace h := h.2.2.2.1 (bf_i32 c (by decide))
          refine bs_aload_n C (bf_dk dd_X8_node 25 rfl) rfl ?_
          refine bs_get C (bf_dk dd_X8_node 26 rfl) cl_8 in_8 4 (Nat.le_of_ble_eq_true rfl) rfl f_8_33 (ge_bW8_0 S) rfl ?_
          refine bs_iload_n C (bf_dk dd_X8_node 27 rfl) rfl ?_
          refine bs_pureV_i (ps := [45, 46, 47, 48, 49, 50, 51, 52, 53, 54, 55, 56, 57]) (w := (bW8 S)) C hR (c_X6_childrenOf _ _ _ _ _ (b8g_tree S) (a1) _ h) my_X6_childrenOf m_8_238 rfl cl_6 (ge_bW6_0 _) rfl (Nat.le_of_ble_eq_true rfl) (Nat.le_of_ble_eq_true rfl) (su_bW8_45_bW6 S) bnd_45t57 (st := []) (Nat.le_of_ble_eq_true rfl) (bf_dk dd_X8_node 28 rfl) rfl (fun _ => rfl) (fun r5 h => ?_)
          exact bs_iret (u := S) C (bf_dk dd_X8_node 29 rfl) rfl ⟨rfl, h⟩
        · replace h := h.2.2.2.2.1 (bf_i32 c (by decide))
          refine bs_aload_n C (bf_dk dd_X8_node 30 rfl) rfl ?_
          refine bs_get C (bf_dk dd_X8_node 31 rfl) cl_8 in_8 4 (Nat.le_of_ble_eq_true rfl) rfl f_8_33 (ge_bW8_0 S) rfl ?_
          refine bs_iload_n C (bf_dk dd_X8_node 32 rfl) rfl ?_
          refine bs_iload_n C (bf_dk dd_X8_node 33 rfl) rfl ?_
          refine bs_iconst C (bf_dk dd_X8_node 34 rfl) (1 : Int32) (by decide) ?_
          refine bs_iadd C (bf_dk dd_X8_node 35 rfl) ?_
          refine bs_pureV_i (ps := [45, 46, 47, 48, 49, 50, 51, 52, 53, 54, 55, 56, 57]) (w := (bW8 S)) C hR (c_X6_endsAmong _ _ _ _ _ (b8g_tree S) (a1) ((a1 + (1 : Int32))) _ h) my_X6_endsAmong m_8_241 rfl cl_6 (ge_bW6_0 _) rfl (Nat.le_of_ble_eq_true rfl) (Nat.le_of_ble_eq_true rfl) (su_bW8_45_bW6 S) bnd_45t57 (st := []) (Nat.le_of_ble_eq_true rfl) (bf_dk dd_X8_node 36 rfl) rfl (fun _ => rfl) (fun r7 h => ?_)
          exact bs_iret (u := S) C (bf_dk dd_X8_node 37 rfl) rfl ⟨rfl, h⟩
        · replace h := h.2.2.2.2.2.1 (bf_i32 c (by decide))
          refine bs_iload_n C (bf_dk dd_X8_node 38 rfl) rfl ?_
          refine bs_aload_n C (bf_dk dd_X8_node 39 rfl) rfl ?_
          refine bs_get C (bf_dk dd_X8_node 40 rfl) cl_8 in_8 4 (Nat.le_of_ble_eq_true rfl) rfl f_8_33 (ge_bW8_0 S) rfl ?_
          refine bs_get C (bf_dk dd_X8_node 41 rfl) cl_6 in_6 17 (Nat.le_of_ble_eq_true rfl) rfl f_8_244 (ge_bW8_45 S) rfl ?_
          refine bs_icmp_ge C (bf_dk dd_X8_node 42 rfl) (tgt := 120) rfl (fun c => ?_) (fun c => ?_)
          · replace h := h.1 c
            refine bs_iconst C (bf_dk dd_X8_node 45 rfl) (0 : Int32) (by decide) ?_
            exact bs_iret (u := S) C (bf_dk dd_X8_node 46 rfl) rfl ⟨rfl, h⟩
          · replace h := h.2 c
            refine bs_iconst C (bf_dk dd_X8_node 43 rfl) (1 : Int32) (by decide) ?_
            refine bs_goto C (bf_dk dd_X8_node 44 rfl) (tgt := 121) rfl ?_
            exact bs_iret (u := S) C (bf_dk dd_X8_node 46 rfl) rfl ⟨rfl, h⟩
        · replace h := h.2.2.2.2.2.2.1 (bf_i32 c (by decide))
          refine bs_aload_n C (bf_dk dd_X8_node 47 rfl) rfl ?_
          refine bs_get C (bf_dk dd_X8_node 48 rfl) cl_8 in_8 4 (Nat.le_of_ble_eq_true rfl) rfl f_8_33 (ge_bW8_0 S) rfl ?_
          refine bs_get C (bf_dk dd_X8_node 49 rfl) cl_6 in_6 1 (Nat.le_of_ble_eq_true rfl) rfl f_8_247 (ge_bW8_45 S) rfl ?_
          refine bs_iload_n C (bf_dk dd_X8_node 50 rfl) rfl ?_
          refine bs_pureS_i (ps := [47]) (w := (bW8 S)) C hR (c_X8_at _ _ _ _ _ 232 (b6g_firstLeaves (b8g_tree S)) (a1) _ h) my_X8_at m_8_115 rfl (Nat.le_of_ble_eq_true rfl) (Nat.le_of_ble_eq_true rfl) (su_bW8_47_bWan232 S) rfl (st := []) (Nat.le_of_ble_eq_true rfl) (bf_dk dd_X8_node 51 rfl) rfl (fun _ => rfl) (fun r9 h => ?_)
          exact bs_iret (u := S) C (bf_dk dd_X8_node 52 rfl) rfl ⟨rfl, h⟩
        · replace h := h.2.2.2.2.2.2.2 (bf_i32 c (by decide))
          refine bs_aload_n C (bf_dk dd_X8_node 53 rfl) rfl ?_
          refine bs_get C (bf_dk dd_X8_node 54 rfl) cl_8 in_8 4 (Nat.le_of_ble_eq_true rfl) rfl f_8_33 (ge_bW8_0 S) rfl ?_
          refine bs_get C (bf_dk dd_X8_node 55 rfl) cl_6 in_6 2 (Nat.le_of_ble_eq_true rfl) rfl f_8_250 (ge_bW8_45 S) rfl ?_
          refine bs_iload_n C (bf_dk dd_X8_node 56 rfl) rfl ?_
          refine bs_pureS_i (ps := [48]) (w := (bW8 S)) C hR (c_X8_at _ _ _ _ _ 232 (b6g_leafCounts (b8g_tree S)) (a1) _ h) my_X8_at m_8_115 rfl (Nat.le_of_ble_eq_true rfl) (Nat.le_of_ble_eq_true rfl) (su_bW8_48_bWan232 S) rfl (st := []) (Nat.le_of_ble_eq_true rfl) (bf_dk dd_X8_node 57 rfl) rfl (fun _ => rfl) (fun r11 h => ?_)
          exact bs_iret (u := S) C (bf_dk dd_X8_node 58 rfl) rfl ⟨rfl, h⟩
    · replace h := h.2 c
      refine bs_iconst C (bf_dk dd_X8_node 7 rfl) (-1 : Int32) (by decide) ?_
      exact bs_iret (u := S) C (bf_dk dd_X8_node 8 rfl) rfl ⟨rfl, h⟩
theorem c_X8_node (l : Launch) (dC : Nat → ClassId) (dI : Nat → Nat → Nat) (ac : Nat → ClassId) (al : Nat → Nat) (S : bT8) (a1 : Int32) (a2 : Int32) (Q : Int32 → Prop) (h : wp_X8_node S a1 a2 Q) : bf_M l yX8_node cX8_node 3 (some .int) 4 88 dC dI ac al [.ref 0, .int a1, .int a2] (bW8 S) (bf_Ki dC dI ac al bW8 (fun r u => u = S ∧ Q r)) := by
  refine bf_start [some (.ref 0), some (.int a1), some (.int a2)] (by decide) (Nat.le_of_ble_eq_true rfl) (bf_s1 (bf_s1 (bf_s1 bf_s0))) ?_
  intro X hl C hR e1 e2 e3 e4
  subst e1; subst e2; subst e3; subst e4
  exact t_X8_node C hR S a1 a2 Q h
