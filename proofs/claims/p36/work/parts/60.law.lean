theorem m_L_101 : Cond.methodLink R_law 101 yX9_leaf ∈ lw_good := bf_f bf_c6 221 rfl gw_methodLink
theorem m_L_102 : Cond.methodLink R_law 102 yX8_leafAt ∈ lw_good := bf_f bf_c4 11 rfl gw_methodLink
theorem m_L_105 : Cond.methodLink R_law 105 yX9_leafAt ∈ lw_good := bf_f bf_c7 65 rfl gw_methodLink
theorem m_L_106 : Cond.methodLink R_law 106 yX8_node ∈ lw_good := bf_f bf_c4 15 rfl gw_methodLink
theorem m_L_109 : Cond.methodLink R_law 109 yX9_node ∈ lw_good := bf_f bf_c7 69 rfl gw_methodLink
theorem m_L_110 : Cond.methodLink R_law 110 yX8_child ∈ lw_good := bf_f bf_c4 40 rfl gw_methodLink
theorem m_L_113 : Cond.methodLink R_law 113 yX9_child ∈ lw_good := bf_f bf_c7 85 rfl gw_methodLink
theorem m_L_114 : Cond.methodLink R_law 114 yX8_level ∈ lw_good := bf_f bf_c4 48 rfl gw_methodLink
theorem m_L_117 : Cond.methodLink R_law 117 yX9_level ∈ lw_good := bf_f bf_c7 89 rfl gw_methodLink
theorem m_L_118 : Cond.methodLink R_law 118 yX8_item ∈ lw_good := bf_f bf_c4 57 rfl gw_methodLink
theorem m_L_12 : Cond.methodLink R_law 12 yX9_init ∈ lw_good := bf_f bf_c5 56 rfl gw_methodLink
theorem m_L_121 : Cond.methodLink R_law 121 yX9_item ∈ lw_good := bf_f bf_c7 101 rfl gw_methodLink
theorem m_L_122 : Cond.methodLink R_law 122 yX8_bit ∈ lw_good := bf_f bf_c4 67 rfl gw_methodLink
theorem m_L_125 : Cond.methodLink R_law 125 yX9_bit ∈ lw_good := bf_f bf_c7 105 rfl gw_methodLink
theorem m_L_126 : Cond.methodLink R_law 126 yX8_rank ∈ lw_good := bf_f bf_c4 95 rfl gw_methodLink
theorem m_L_129 : Cond.methodLink R_law 129 yX9_rank ∈ lw_good := bf_f bf_c7 129 rfl gw_methodLink
theorem m_L_13 : Cond.methodLink R_law 13 yX8_feed ∈ lw_good := bf_f bf_c2 214 rfl gw_methodLink
theorem m_L_130 : Cond.methodLink R_law 130 yX8_select ∈ lw_good := bf_f bf_c4 99 rfl gw_methodLink
theorem m_L_133 : Cond.methodLink R_law 133 yX9_select ∈ lw_good := bf_f bf_c7 133 rfl gw_methodLink
theorem m_L_134 : Cond.methodLink R_law 134 yX8_bits ∈ lw_good := bf_f bf_c4 107 rfl gw_methodLink
theorem m_L_137 : Cond.methodLink R_law 137 yX9_bits ∈ lw_good := bf_f bf_c7 137 rfl gw_methodLink
theorem m_L_138 : Cond.methodLink R_law 138 yX8_least ∈ lw_good := bf_f bf_c4 120 rfl gw_methodLink
theorem m_L_141 : Cond.methodLink R_law 141 yX9_least ∈ lw_good := bf_f bf_c7 149 rfl gw_methodLink
theorem m_L_142 : Cond.methodLink R_law 142 yX8_cover ∈ lw_good := bf_f bf_c4 124 rfl gw_methodLink
theorem m_L_146 : Cond.methodLink R_law 146 yX9_cover ∈ lw_good := bf_f bf_c7 153 rfl gw_methodLink
theorem m_L_147 : Cond.methodLink R_law 147 yX8_loose ∈ lw_good := bf_f bf_c4 141 rfl gw_methodLink
theorem m_L_150 : Cond.methodLink R_law 150 yX9_loose ∈ lw_good := bf_f bf_c7 169 rfl gw_methodLink
theorem m_L_151 : Cond.methodLink R_law 151 yX8_free ∈ lw_good := bf_f bf_c4 149 rfl gw_methodLink
theorem m_L_155 : Cond.methodLink R_law 155 yX9_free ∈ lw_good := bf_f bf_c7 173 rfl gw_methodLink
theorem m_L_156 : Cond.methodLink R_law 156 yX8_spread ∈ lw_good := bf_f bf_c4 156 rfl gw_methodLink
theorem m_L_159 : Cond.methodLink R_law 159 yX9_spread ∈ lw_good := bf_f bf_c7 181 rfl gw_methodLink
theorem m_L_160 : Cond.methodLink R_law 160 yX8_question ∈ lw_good := bf_f bf_c4 161 rfl gw_methodLink
theorem m_L_163 : Cond.methodLink R_law 163 yX9_question ∈ lw_good := bf_f bf_c7 185 rfl gw_methodLink
theorem m_L_164 : Cond.methodLink R_law 164 yX8_forget ∈ lw_good := bf_f bf_c4 166 rfl gw_methodLink
theorem m_L_167 : Cond.methodLink R_law 167 yX9_forget ∈ lw_good := bf_f bf_c7 189 rfl gw_methodLink
theorem m_L_168 : Cond.methodLink R_law 168 yX8_tuned ∈ lw_good := bf_f bf_c4 170 rfl gw_methodLink
theorem m_L_17 : Cond.methodLink R_law 17 yX9_feed ∈ lw_good := bf_f bf_c6 43 rfl gw_methodLink
theorem m_L_171 : Cond.methodLink R_law 171 yX9_tuned ∈ lw_good := bf_f bf_c7 193 rfl gw_methodLink
theorem m_L_172 : Cond.methodLink R_law 172 yX8_storm ∈ lw_good := bf_f bf_c4 207 rfl gw_methodLink
theorem m_L_175 : Cond.methodLink R_law 175 yX9_storm ∈ lw_good := bf_f bf_c7 201 rfl gw_methodLink
theorem m_L_176 : Cond.methodLink R_law 176 yX8_stormRange ∈ lw_good := bf_f bf_c4 211 rfl gw_methodLink
theorem m_L_179 : Cond.methodLink R_law 179 yX9_stormRange ∈ lw_good := bf_f bf_c7 205 rfl gw_methodLink
theorem m_L_18 : Cond.methodLink R_law 18 yX8_end ∈ lw_good := bf_f bf_c2 222 rfl gw_methodLink
theorem m_L_180 : Cond.methodLink R_law 180 yX8_account ∈ lw_good := bf_f bf_c4 215 rfl gw_methodLink
theorem m_L_183 : Cond.methodLink R_law 183 yX9_account ∈ lw_good := bf_f bf_c7 209 rfl gw_methodLink
theorem m_L_184 : Cond.methodLink R_law 184 yX8_since ∈ lw_good := bf_f bf_c4 219 rfl gw_methodLink
theorem m_L_187 : Cond.methodLink R_law 187 yX9_since ∈ lw_good := bf_f bf_c7 213 rfl gw_methodLink
theorem m_L_188 : Cond.methodLink R_law 188 yX8_report ∈ lw_good := bf_f bf_c4 232 rfl gw_methodLink
theorem m_L_191 : Cond.methodLink R_law 191 yX9_report ∈ lw_good := bf_f bf_c7 221 rfl gw_methodLink
theorem m_L_192 : Cond.methodLink R_law 192 yX8_sign ∈ lw_good := bf_f bf_c5 22 rfl gw_methodLink
theorem m_L_195 : Cond.methodLink R_law 195 yX9_sign ∈ lw_good := bf_f bf_c8 5 rfl gw_methodLink
theorem m_L_196 : Cond.methodLink R_law 196 yX8_image ∈ lw_good := bf_f bf_c5 30 rfl gw_methodLink
theorem m_L_200 : Cond.methodLink R_law 200 yX9_image ∈ lw_good := bf_f bf_c8 9 rfl gw_methodLink
theorem m_L_201 : Cond.methodLink R_law 201 yX8_look ∈ lw_good := bf_f bf_c5 41 rfl gw_methodLink
theorem m_L_204 : Cond.methodLink R_law 204 yX9_look ∈ lw_good := bf_f bf_c8 13 rfl gw_methodLink
theorem m_L_22 : Cond.methodLink R_law 22 yX9_end ∈ lw_good := bf_f bf_c6 51 rfl gw_methodLink
theorem m_L_23 : Cond.methodLink R_law 23 yX8_mode ∈ lw_good := bf_f bf_c2 226 rfl gw_methodLink
theorem m_L_27 : Cond.methodLink R_law 27 yX9_mode ∈ lw_good := bf_f bf_c6 55 rfl gw_methodLink
theorem m_L_28 : Cond.methodLink R_law 28 yX8_row ∈ lw_good := bf_f bf_c3 51 rfl gw_methodLink
theorem m_L_31 : Cond.methodLink R_law 31 yX9_row ∈ lw_good := bf_f bf_c6 63 rfl gw_methodLink
theorem m_L_32 : Cond.methodLink R_law 32 yX8_keys ∈ lw_good := bf_f bf_c3 64 rfl gw_methodLink
theorem m_L_35 : Cond.methodLink R_law 35 yX9_keys ∈ lw_good := bf_f bf_c6 67 rfl gw_methodLink
theorem m_L_36 : Cond.methodLink R_law 36 yX8_set ∈ lw_good := bf_f bf_c3 103 rfl gw_methodLink
theorem m_L_40 : Cond.methodLink R_law 40 yX9_set ∈ lw_good := bf_f bf_c5 199 rfl gw_methodLink
theorem m_L_41 : Cond.methodLink R_law 41 yX8_state ∈ lw_good := bf_f bf_c3 111 rfl gw_methodLink
theorem m_L_45 : Cond.methodLink R_law 45 yX9_state ∈ lw_good := bf_f bf_c5 215 rfl gw_methodLink
theorem m_L_46 : Cond.methodLink R_law 46 yX8_add ∈ lw_good := bf_f bf_c3 115 rfl gw_methodLink
theorem m_L_50 : Cond.methodLink R_law 50 yX9_add ∈ lw_good := bf_f bf_c5 219 rfl gw_methodLink
theorem m_L_51 : Cond.methodLink R_law 51 yX8_remove ∈ lw_good := bf_f bf_c3 126 rfl gw_methodLink
theorem m_L_54 : Cond.methodLink R_law 54 yX9_remove ∈ lw_good := bf_f bf_c6 17 rfl gw_methodLink
theorem m_L_55 : Cond.methodLink R_law 55 yX8_fill ∈ lw_good := bf_f bf_c3 135 rfl gw_methodLink
theorem m_L_59 : Cond.methodLink R_law 59 yX9_fill ∈ lw_good := bf_f bf_c6 25 rfl gw_methodLink
theorem m_L_60 : Cond.methodLink R_law 60 yX8_build ∈ lw_good := bf_f bf_c3 152 rfl gw_methodLink
theorem m_L_63 : Cond.methodLink R_law 63 yX9_build ∈ lw_good := bf_f bf_c6 87 rfl gw_methodLink
theorem m_L_64 : Cond.methodLink R_law 64 yX8_has ∈ lw_good := bf_f bf_c3 162 rfl gw_methodLink
theorem m_L_68 : Cond.methodLink R_law 68 yX9_has ∈ lw_good := bf_f bf_c6 21 rfl gw_methodLink
theorem m_L_69 : Cond.methodLink R_law 69 yX8_may ∈ lw_good := bf_f bf_c3 166 rfl gw_methodLink
theorem m_L_72 : Cond.methodLink R_law 72 yX9_may ∈ lw_good := bf_f bf_c6 91 rfl gw_methodLink
theorem m_L_73 : Cond.methodLink R_law 73 yX8_leafOf ∈ lw_good := bf_f bf_c3 198 rfl gw_methodLink
theorem m_L_76 : Cond.methodLink R_law 76 yX9_leafOf ∈ lw_good := bf_f bf_c6 177 rfl gw_methodLink
theorem m_L_77 : Cond.methodLink R_law 77 yX8_range ∈ lw_good := bf_f bf_c3 203 rfl gw_methodLink
theorem m_L_81 : Cond.methodLink R_law 81 yX9_range ∈ lw_good := bf_f bf_c6 181 rfl gw_methodLink
theorem m_L_82 : Cond.methodLink R_law 82 yX8_meets ∈ lw_good := bf_f bf_c3 222 rfl gw_methodLink
theorem m_L_85 : Cond.methodLink R_law 85 yX9_meets ∈ lw_good := bf_f bf_c6 205 rfl gw_methodLink
theorem m_L_86 : Cond.methodLink R_law 86 yX8_holds ∈ lw_good := bf_f bf_c3 226 rfl gw_methodLink
theorem m_L_89 : Cond.methodLink R_law 89 yX9_holds ∈ lw_good := bf_f bf_c6 209 rfl gw_methodLink
theorem m_L_9 : Cond.methodLink R_law 9 yX8_init ∈ lw_good := bf_f bf_c1 19 rfl gw_methodLink
theorem m_L_90 : Cond.methodLink R_law 90 yX8_seek ∈ lw_good := bf_f bf_c3 234 rfl gw_methodLink
theorem m_L_93 : Cond.methodLink R_law 93 yX9_seek ∈ lw_good := bf_f bf_c6 213 rfl gw_methodLink
theorem m_L_94 : Cond.methodLink R_law 94 yX8_seekBack ∈ lw_good := bf_f bf_c3 238 rfl gw_methodLink
theorem m_L_97 : Cond.methodLink R_law 97 yX9_seekBack ∈ lw_good := bf_f bf_c6 217 rfl gw_methodLink
theorem m_L_98 : Cond.methodLink R_law 98 yX8_leaf ∈ lw_good := bf_f bf_c4 2 rfl gw_methodLink
def wp_L_law_1745 (L : Nat) (scr : Nat → Int32) (S : bT8 × bT9) (x3 : Int32) (Q : Unit) (B18 : Int32 → (bT8 × bT9) → Prop) : Prop := (B18 ((x3 + (7 : Int32))) S)
set_option maxRecDepth 20000 in
theorem t_L_law_1745 {X : bf_X} (C : bf_C X R_law code 4 ret) (hR : bf_Rm X 13 494) (hG : bf_G (xA X) (xs X) (xs X).heap) {b : Nat} {L : Nat} {scr : Nat → Int32} (hX : va_X b L scr (xs X) (xs X).heap) (hW : bf_law X b) (S : bT8 × bT9) (x3 : Int32) (Q : Unit) (B18 : Int32 → (bT8 × bT9) → Prop) (hB18 : ∀ (x3 : Int32) (S : bT8 × bT9), B18 x3 S → bf_A X (lw_Z (xb X) (xa X) (xs X)) 4 18 [some (.ref 1000), some (.ref 0), some (.ref 68), some (.int x3)] [] (bW8_9 S)) (h : wp_L_law_1745 L scr S x3 Q B18) : bf_A X (lw_Z (xb X) (xa X) (xs X)) 4 1745 [some (.ref 1000), some (.ref 0), some (.ref 68), some (.int x3)] [] (bW8_9 S) := by
  unfold wp_L_law_1745 at h
  refine bs_iinc C (bf_dk dd_L_law_25 5 rfl) (x3 + (7 : Int32)) rfl rfl (Nat.le_of_ble_eq_true rfl) (Nat.le_of_ble_eq_true rfl) (lv2 := [some (.ref 1000), some (.ref 0), some (.ref 68), some (.int (x3 + (7 : Int32)))]) rfl ?_
  refine bs_goto C (bf_dk dd_L_law_25 6 rfl) (tgt := 18) rfl ?_
  exact bs_weak (bf_s1 (bf_s1 (bf_s1 (bf_s1 bf_s0)))) (hB18 ((x3 + (7 : Int32))) S h)
def wp_L_law_1715 (L : Nat) (scr : Nat → Int32) (S : bT8 × bT9) (x3 : Int32) (t1 : Int32) (Q : Unit) (B18 : Int32 → (bT8 × bT9) → Prop) : Prop := (wp_X9_image S.2 (t1) (fun r1 u2 => (∀ S3 : bT8 × bT9, S3 = (S.1, u2) → (wp_L_law_1745 L scr S3 (x3) Q B18))))
set_option maxRecDepth 20000 in
theorem t_L_law_1715 {X : bf_X} (C : bf_C X R_law code 4 ret) (hR : bf_Rm X 13 494) (hG : bf_G (xA X) (xs X) (xs X).heap) {b : Nat} {L : Nat} {scr : Nat → Int32} (hX : va_X b L scr (xs X) (xs X).heap) (hW : bf_law X b) (S : bT8 × bT9) (x3 : Int32) (t1 : Int32) (Q : Unit) (B18 : Int32 → (bT8 × bT9) → Prop) (hB18 : ∀ (x3 : Int32) (S : bT8 × bT9), B18 x3 S → bf_A X (lw_Z (xb X) (xa X) (xs X)) 4 18 [some (.ref 1000), some (.ref 0), some (.ref 68), some (.int x3)] [] (bW8_9 S)) (h : wp_L_law_1715 L scr S x3 t1 Q B18) : bf_A X (lw_Z (xb X) (xa X) (xs X)) 4 1715 [some (.ref 1000), some (.ref 0), some (.ref 68), some (.int x3)] [.int t1, .ref 68] (bW8_9 S) := by
  unfold wp_L_law_1715 at h
  refine bs_callV_i (ps := [68, 69, 70, 71, 72, 73, 74, 75, 76, 77, 78, 79, 80, 81, 82, 83, 84, 85, 86, 87, 88]) (w := (bW8_9 S)) C hR (c_X9_image _ _ _ _ _ S.2 (t1) _ h) my_X9_image m_L_200 rfl cl_9 (ge_bW9_0 _) rfl (Nat.le_of_ble_eq_true rfl) (Nat.le_of_ble_eq_true rfl) (su_bW8_9_68_bW9 S) bnd_68t88 (st := []) (Nat.le_of_ble_eq_true rfl) (bf_dk dd_L_law_24 35 rfl) rfl (fun _ => rfl) (w2 := fun u2 => bW8_9 (S.1, u2)) (pt_bW8_9_68_bW9 S) (fun r1 u2 h => ?_)
  refine bs_nameS bW8_9 (fun S3 eS3 => ?_)
  replace h := h S3 eS3
  refine bs_pop C (bf_dk dd_L_law_24 36 rfl) rfl ?_
  refine bs_goto C (bf_dk dd_L_law_24 37 rfl) (tgt := 1745) rfl ?_
  exact bs_weak (bf_s1 (bf_s1 (bf_s1 (bf_s1 bf_s0)))) (t_L_law_1745 C hR hG hX hW S3 (x3) Q B18 hB18 h)
def wp_L_law_1697 (L : Nat) (scr : Nat → Int32) (S : bT8 × bT9) (x3 : Int32) (t1 : Int32) (Q : Unit) (B18 : Int32 → (bT8 × bT9) → Prop) : Prop := (wp_X8_image S.1 (t1) (fun r4 u5 => (∀ S6 : bT8 × bT9, S6 = (u5, S.2) → (vp_in (x3 + (1 : Int32)) L ∧ (((scr ((x3 + (1 : Int32))).toNatClampNeg) = 0 → (wp_L_law_1715 L scr S6 (x3) ((0 : Int32)) Q B18)) ∧ (¬ (scr ((x3 + (1 : Int32))).toNatClampNeg) = 0 → (wp_L_law_1715 L scr S6 (x3) ((1 : Int32)) Q B18)))))))
set_option maxRecDepth 20000 in
theorem t_L_law_1697 {X : bf_X} (C : bf_C X R_law code 4 ret) (hR : bf_Rm X 13 494) (hG : bf_G (xA X) (xs X) (xs X).heap) {b : Nat} {L : Nat} {scr : Nat → Int32} (hX : va_X b L scr (xs X) (xs X).heap) (hW : bf_law X b) (S : bT8 × bT9) (x3 : Int32) (t1 : Int32) (Q : Unit) (B18 : Int32 → (bT8 × bT9) → Prop) (hB18 : ∀ (x3 : Int32) (S : bT8 × bT9), B18 x3 S → bf_A X (lw_Z (xb X) (xa X) (xs X)) 4 18 [some (.ref 1000), some (.ref 0), some (.ref 68), some (.int x3)] [] (bW8_9 S)) (h : wp_L_law_1697 L scr S x3 t1 Q B18) : bf_A X (lw_Z (xb X) (xa X) (xs X)) 4 1697 [some (.ref 1000), some (.ref 0), some (.ref 68), some (.int x3)] [.int t1, .ref 0] (bW8_9 S) := by
  unfold wp_L_law_1697 at h
  refine bs_callV_i (ps := [0, 1, 2, 3, 4, 5, 6, 7, 8, 9, 10, 11, 12, 13, 14, 15, 16, 17, 18, 19, 20, 21, 22, 23, 24, 25, 26, 27, 28, 29, 30, 31, 32, 33, 34, 35, 36, 37, 38, 39, 40, 41, 42, 43, 44, 45, 46, 47, 48, 49, 50, 51, 52, 53, 54, 55, 56, 57, 58, 59, 60, 61, 62, 63, 64, 65, 66, 67]) (w := (bW8_9 S)) C hR (c_X8_image _ _ _ _ _ S.1 (t1) _ h) my_X8_image m_L_196 rfl cl_8 (ge_bW8_0 _) rfl (Nat.le_of_ble_eq_true rfl) (Nat.le_of_ble_eq_true rfl) (su_bW8_9_0_bW8 S) bnd_0t67 (st := []) (Nat.le_of_ble_eq_true rfl) (bf_dk dd_L_law_24 23 rfl) rfl (fun _ => rfl) (w2 := fun u5 => bW8_9 (u5, S.2)) (pt_bW8_9_0_bW8 S) (fun r4 u5 h => ?_)
  refine bs_nameS bW8_9 (fun S6 eS6 => ?_)
  replace h := h S6 eS6
  refine bs_pop C (bf_dk dd_L_law_24 24 rfl) rfl ?_
  refine bs_aload_n C (bf_dk dd_L_law_24 25 rfl) rfl ?_
  refine bs_aload_n C (bf_dk dd_L_law_24 26 rfl) rfl ?_
  refine bs_iload_n C (bf_dk dd_L_law_24 27 rfl) rfl ?_
  refine bs_iconst C (bf_dk dd_L_law_24 28 rfl) (1 : Int32) (by decide) ?_
  refine bs_iadd C (bf_dk dd_L_law_24 29 rfl) ?_
  obtain ⟨hi, h⟩ := h
  refine bs_sld C hX hW (bf_dk dd_L_law_24 30 rfl) hi ?_
  refine bs_if_eq C (bf_dk dd_L_law_24 31 rfl) (tgt := 1714) rfl (fun c => ?_) (fun c => ?_)
  · replace h := h.1 c
    refine bs_iconst C (bf_dk dd_L_law_24 34 rfl) (0 : Int32) (by decide) ?_
    exact bs_weak (bf_s1 (bf_s1 (bf_s1 (bf_s1 bf_s0)))) (t_L_law_1715 C hR hG hX hW S6 (x3) ((0 : Int32)) Q B18 hB18 h)
  · replace h := h.2 c
    refine bs_iconst C (bf_dk dd_L_law_24 32 rfl) (1 : Int32) (by decide) ?_
    refine bs_goto C (bf_dk dd_L_law_24 33 rfl) (tgt := 1715) rfl ?_
    exact bs_weak (bf_s1 (bf_s1 (bf_s1 (bf_s1 bf_s0)))) (t_L_law_1715 C hR hG hX hW S6 (x3) ((1 : Int32)) Q B18 hB18 h)
def wp_L_law_18b (L : Nat) (scr : Nat → Int32) (S : bT8 × bT9) (x3 : Int32) (Q : Unit) (B18 : Int32 → (bT8 × bT9) → Prop) : Prop := ((((Int32.ofNat L) - (7 : Int32)) < x3 → ((1 : Int32) = (1 : Int32))) ∧ (¬ ((Int32.ofNat L) - (7 : Int32)) < x3 → (vp_in x3 L ∧ ((((((scr (x3).toNatClampNeg) &&& (63 : Int32))).toInt < 0 ∨ 44 < (((scr (x3).toNatClampNeg) &&& (63 : Int32))).toInt) → (wp_L_law_1745 L scr S (x3) Q B18)) ∧ (((scr (x3).toNatClampNeg) &&& (63 : Int32)) = (0 : Int32) → (vp_in (x3 + (1 : Int32)) L ∧ (vp_in (x3 + (2 : Int32)) L ∧ (vp_in (x3 + (3 : Int32)) L ∧ (vp_in (x3 + (4 : Int32)) L ∧ (vp_in (x3 + (5 : Int32)) L ∧ (wp_X8_feed S.1 ((scr ((x3 + (1 : Int32))).toNatClampNeg)) ((scr ((x3 + (2 : Int32))).toNatClampNeg)) ((scr ((x3 + (3 : Int32))).toNatClampNeg)) ((scr ((x3 + (4 : Int32))).toNatClampNeg)) ((scr ((x3 + (5 : Int32))).toNatClampNeg)) (fun r7 u8 => (∀ S9 : bT8 × bT9, S9 = (u8, S.2) → (vp_in (x3 + (1 : Int32)) L ∧ (vp_in (x3 + (2 : Int32)) L ∧ (vp_in (x3 + (3 : Int32)) L ∧ (vp_in (x3 + (4 : Int32)) L ∧ (vp_in (x3 + (5 : Int32)) L ∧ (wp_X9_feed S9.2 ((scr ((x3 + (1 : Int32))).toNatClampNeg)) ((scr ((x3 + (2 : Int32))).toNatClampNeg)) ((scr ((x3 + (3 : Int32))).toNatClampNeg)) ((scr ((x3 + (4 : Int32))).toNatClampNeg)) ((scr ((x3 + (5 : Int32))).toNatClampNeg)) (fun r10 u11 => (∀ S12 : bT8 × bT9, S12 = (S9.1, u11) → (wp_L_law_1745 L scr S12 (x3) Q B18)))))))))))))))))) ∧ (((scr (x3).toNatClampNeg) &&& (63 : Int32)) = (1 : Int32) → (vp_in (x3 + (1 : Int32)) L ∧ (wp_X8_end S.1 ((scr ((x3 + (1 : Int32))).toNatClampNeg)) (fun r13 u14 => (∀ S15 : bT8 × bT9, S15 = (u14, S.2) → (vp_in (x3 + (1 : Int32)) L ∧ (wp_X9_end S15.2 ((scr ((x3 + (1 : Int32))).toNatClampNeg)) (fun r16 u17 => (∀ S18 : bT8 × bT9, S18 = (S15.1, u17) → (wp_L_law_1745 L scr S18 (x3) Q B18)))))))))) ∧ (((scr (x3).toNatClampNeg) &&& (63 : Int32)) = (2 : Int32) → (wp_X8_mode S.1 (fun r19 u20 => (∀ S21 : bT8 × bT9, S21 = (u20, S.2) → (wp_X9_mode S21.2 (fun r22 u23 => (∀ S24 : bT8 × bT9, S24 = (S21.1, u23) → (wp_L_law_1745 L scr S24 (x3) Q B18)))))))) ∧ (((scr (x3).toNatClampNeg) &&& (63 : Int32)) = (3 : Int32) → (wp_X8_row S.1 (fun r25 u26 => (∀ S27 : bT8 × bT9, S27 = (u26, S.2) → (wp_X9_row S27.2 (fun r28 u29 => (∀ S30 : bT8 × bT9, S30 = (S27.1, u29) → (wp_L_law_1745 L scr S30 (x3) Q B18)))))))) ∧ (((scr (x3).toNatClampNeg) &&& (63 : Int32)) = (4 : Int32) → (wp_X8_keys S.1 (fun r31 u32 => (∀ S33 : bT8 × bT9, S33 = (u32, S.2) → (wp_X9_keys S33.2 (fun r34 u35 => (∀ S36 : bT8 × bT9, S36 = (S33.1, u35) → (wp_L_law_1745 L scr S36 (x3) Q B18)))))))) ∧ (((scr (x3).toNatClampNeg) &&& (63 : Int32)) = (5 : Int32) → (vp_in (x3 + (1 : Int32)) L ∧ (vp_in (x3 + (2 : Int32)) L ∧ (wp_X8_set S.1 ((scr ((x3 + (1 : Int32))).toNatClampNeg)) ((scr ((x3 + (2 : Int32))).toNatClampNeg)) (fun r37 u38 => (∀ S39 : bT8 × bT9, S39 = (u38, S.2) → (vp_in (x3 + (1 : Int32)) L ∧ (vp_in (x3 + (2 : Int32)) L ∧ (wp_X9_set S39.2 ((scr ((x3 + (1 : Int32))).toNatClampNeg)) ((scr ((x3 + (2 : Int32))).toNatClampNeg)) (fun r40 u41 => (∀ S42 : bT8 × bT9, S42 = (S39.1, u41) → (wp_L_law_1745 L scr S42 (x3) Q B18)))))))))))) ∧ (((scr (x3).toNatClampNeg) &&& (63 : Int32)) = (6 : Int32) → (vp_in (x3 + (1 : Int32)) L ∧ (wp_X8_state S.1 ((scr ((x3 + (1 : Int32))).toNatClampNeg)) (fun r43 u44 => (∀ S45 : bT8 × bT9, S45 = (u44, S.2) → (vp_in (x3 + (1 : Int32)) L ∧ (wp_X9_state S45.2 ((scr ((x3 + (1 : Int32))).toNatClampNeg)) (fun r46 u47 => (∀ S48 : bT8 × bT9, S48 = (S45.1, u47) → (wp_L_law_1745 L scr S48 (x3) Q B18)))))))))) ∧ (((scr (x3).toNatClampNeg) &&& (63 : Int32)) = (7 : Int32) → (vp_in (x3 + (1 : Int32)) L ∧ (vp_in (x3 + (2 : Int32)) L ∧ (vp_in (x3 + (3 : Int32)) L ∧ (wp_X8_add S.1 ((scr ((x3 + (1 : Int32))).toNatClampNeg)) ((scr ((x3 + (2 : Int32))).toNatClampNeg)) ((scr ((x3 + (3 : Int32))).toNatClampNeg)) (fun r49 u50 => (∀ S51 : bT8 × bT9, S51 = (u50, S.2) → (vp_in (x3 + (1 : Int32)) L ∧ (vp_in (x3 + (2 : Int32)) L ∧ (vp_in (x3 + (3 : Int32)) L ∧ (wp_X9_add S51.2 ((scr ((x3 + (1 : Int32))).toNatClampNeg)) ((scr ((x3 + (2 : Int32))).toNatClampNeg)) ((scr ((x3 + (3 : Int32))).toNatClampNeg)) (fun r52 u53 => (∀ S54 : bT8 × bT9, S54 = (S51.1, u53) → (wp_L_law_1745 L scr S54 (x3) Q B18)))))))))))))) ∧ (((scr (x3).toNatClampNeg) &&& (63 : Int32)) = (8 : Int32) → (vp_in (x3 + (1 : Int32)) L ∧ (vp_in (x3 + (2 : Int32)) L ∧ (vp_in (x3 + (3 : Int32)) L ∧ (wp_X8_remove S.1 ((scr ((x3 + (1 : Int32))).toNatClampNeg)) ((scr ((x3 + (2 : Int32))).toNatClampNeg)) ((scr ((x3 + (3 : Int32))).toNatClampNeg)) (fun r55 u56 => (∀ S57 : bT8 × bT9, S57 = (u56, S.2) → (vp_in (x3 + (1 : Int32)) L ∧ (vp_in (x3 + (2 : Int32)) L ∧ (vp_in (x3 + (3 : Int32)) L ∧ (wp_X9_remove S57.2 ((scr ((x3 + (1 : Int32))).toNatClampNeg)) ((scr ((x3 + (2 : Int32))).toNatClampNeg)) ((scr ((x3 + (3 : Int32))).toNatClampNeg)) (fun r58 u59 => (∀ S60 : bT8 × bT9, S60 = (S57.1, u59) → (wp_L_law_1745 L scr S60 (x3) Q B18)))))))))))))) ∧ (((scr (x3).toNatClampNeg) &&& (63 : Int32)) = (9 : Int32) → (vp_in (x3 + (1 : Int32)) L ∧ (vp_in (x3 + (2 : Int32)) L ∧ (wp_X8_fill S.1 ((scr ((x3 + (1 : Int32))).toNatClampNeg)) ((scr ((x3 + (2 : Int32))).toNatClampNeg)) (fun r61 u62 => (∀ S63 : bT8 × bT9, S63 = (u62, S.2) → (vp_in (x3 + (1 : Int32)) L ∧ (vp_in (x3 + (2 : Int32)) L ∧ (wp_X9_fill S63.2 ((scr ((x3 + (1 : Int32))).toNatClampNeg)) ((scr ((x3 + (2 : Int32))).toNatClampNeg)) (fun r64 u65 => (∀ S66 : bT8 × bT9, S66 = (S63.1, u65) → (wp_L_law_1745 L scr S66 (x3) Q B18)))))))))))) ∧ (((scr (x3).toNatClampNeg) &&& (63 : Int32)) = (10 : Int32) → (wp_X8_build S.1 (fun r67 u68 => (∀ S69 : bT8 × bT9, S69 = (u68, S.2) → (wp_X9_build S69.2 (fun r70 u71 => (∀ S72 : bT8 × bT9, S72 = (S69.1, u71) → (wp_L_law_1745 L scr S72 (x3) Q B18)))))))) ∧ (((scr (x3).toNatClampNeg) &&& (63 : Int32)) = (11 : Int32) → (vp_in (x3 + (1 : Int32)) L ∧ (vp_in (x3 + (2 : Int32)) L ∧ (vp_in (x3 + (3 : Int32)) L ∧ (vp_in (x3 + (4 : Int32)) L ∧ (wp_X8_has S.1 ((scr ((x3 + (1 : Int32))).toNatClampNeg)) ((scr ((x3 + (2 : Int32))).toNatClampNeg)) ((scr ((x3 + (3 : Int32))).toNatClampNeg)) ((scr ((x3 + (4 : Int32))).toNatClampNeg)) (fun r73 => (vp_in (x3 + (1 : Int32)) L ∧ (vp_in (x3 + (2 : Int32)) L ∧ (vp_in (x3 + (3 : Int32)) L ∧ (vp_in (x3 + (4 : Int32)) L ∧ (wp_X9_has S.2 ((scr ((x3 + (1 : Int32))).toNatClampNeg)) ((scr ((x3 + (2 : Int32))).toNatClampNeg)) ((scr ((x3 + (3 : Int32))).toNatClampNeg)) ((scr ((x3 + (4 : Int32))).toNatClampNeg)) (fun r75 u76 => (∀ S77 : bT8 × bT9, S77 = (S.1, u76) → (wp_L_law_1745 L scr S77 (x3) Q B18))))))))))))))) ∧ (((scr (x3).toNatClampNeg) &&& (63 : Int32)) = (12 : Int32) → (vp_in (x3 + (1 : Int32)) L ∧ (vp_in (x3 + (2 : Int32)) L ∧ (vp_in (x3 + (3 : Int32)) L ∧ (wp_X8_may S.1 ((scr ((x3 + (1 : Int32))).toNatClampNeg)) ((scr ((x3 + (2 : Int32))).toNatClampNeg)) ((scr ((x3 + (3 : Int32))).toNatClampNeg)) (fun r78 u79 => (∀ S80 : bT8 × bT9, S80 = (u79, S.2) → (vp_in (x3 + (1 : Int32)) L ∧ (vp_in (x3 + (2 : Int32)) L ∧ (vp_in (x3 + (3 : Int32)) L ∧ (wp_X9_may S80.2 ((scr ((x3 + (1 : Int32))).toNatClampNeg)) ((scr ((x3 + (2 : Int32))).toNatClampNeg)) ((scr ((x3 + (3 : Int32))).toNatClampNeg)) (fun r81 u82 => (∀ S83 : bT8 × bT9, S83 = (S80.1, u82) → (wp_L_law_1745 L scr S83 (x3) Q B18)))))))))))))) ∧ (((scr (x3).toNatClampNeg) &&& (63 : Int32)) = (13 : Int32) → (vp_in (x3 + (1 : Int32)) L ∧ (vp_in (x3 + (2 : Int32)) L ∧ (vp_in (x3 + (3 : Int32)) L ∧ (wp_X8_leafOf S.1 ((scr ((x3 + (1 : Int32))).toNatClampNeg)) ((scr ((x3 + (2 : Int32))).toNatClampNeg)) ((scr ((x3 + (3 : Int32))).toNatClampNeg)) (fun r84 => (vp_in (x3 + (1 : Int32)) L ∧ (vp_in (x3 + (2 : Int32)) L ∧ (vp_in (x3 + (3 : Int32)) L ∧ (wp_X9_leafOf S.2 ((scr ((x3 + (1 : Int32))).toNatClampNeg)) ((scr ((x3 + (2 : Int32))).toNatClampNeg)) ((scr ((x3 + (3 : Int32))).toNatClampNeg)) (fun r86 u87 => (∀ S88 : bT8 × bT9, S88 = (S.1, u87) → (wp_L_law_1745 L scr S88 (x3) Q B18))))))))))))) ∧ (((scr (x3).toNatClampNeg) &&& (63 : Int32)) = (14 : Int32) → (vp_in (x3 + (1 : Int32)) L ∧ (vp_in (x3 + (2 : Int32)) L ∧ (vp_in (x3 + (3 : Int32)) L ∧ (vp_in (x3 + (4 : Int32)) L ∧ (vp_in (x3 + (5 : Int32)) L ∧ (vp_in (x3 + (6 : Int32)) L ∧ (wp_X8_range S.1 ((scr ((x3 + (1 : Int32))).toNatClampNeg)) ((scr ((x3 + (2 : Int32))).toNatClampNeg)) ((scr ((x3 + (3 : Int32))).toNatClampNeg)) ((scr ((x3 + (4 : Int32))).toNatClampNeg)) ((scr ((x3 + (5 : Int32))).toNatClampNeg)) ((scr ((x3 + (6 : Int32))).toNatClampNeg)) (fun r89 u90 => (∀ S91 : bT8 × bT9, S91 = (u90, S.2) → (vp_in (x3 + (1 : Int32)) L ∧ (vp_in (x3 + (2 : Int32)) L ∧ (vp_in (x3 + (3 : Int32)) L ∧ (vp_in (x3 + (4 : Int32)) L ∧ (vp_in (x3 + (5 : Int32)) L ∧ (vp_in (x3 + (6 : Int32)) L ∧ (wp_X9_range S91.2 ((scr ((x3 + (1 : Int32))).toNatClampNeg)) ((scr ((x3 + (2 : Int32))).toNatClampNeg)) ((scr ((x3 + (3 : Int32))).toNatClampNeg)) ((scr ((x3 + (4 : Int32))).toNatClampNeg)) ((scr ((x3 + (5 : Int32))).toNatClampNeg)) ((scr ((x3 + (6 : Int32))).toNatClampNeg)) (fun r92 u93 => (∀ S94 : bT8 × bT9, S94 = (S91.1, u93) → (wp_L_law_1745 L scr S94 (x3) Q B18)))))))))))))))))))) ∧ (((scr (x3).toNatClampNeg) &&& (63 : Int32)) = (15 : Int32) → (vp_in (x3 + (1 : Int32)) L ∧ (vp_in (x3 + (2 : Int32)) L ∧ (vp_in (x3 + (3 : Int32)) L ∧ (vp_in (x3 + (4 : Int32)) L ∧ (vp_in (x3 + (5 : Int32)) L ∧ (vp_in (x3 + (6 : Int32)) L ∧ (wp_X8_meets S.1 ((scr ((x3 + (1 : Int32))).toNatClampNeg)) ((scr ((x3 + (2 : Int32))).toNatClampNeg)) ((scr ((x3 + (3 : Int32))).toNatClampNeg)) ((scr ((x3 + (4 : Int32))).toNatClampNeg)) ((scr ((x3 + (5 : Int32))).toNatClampNeg)) ((scr ((x3 + (6 : Int32))).toNatClampNeg)) (fun r95 => (vp_in (x3 + (1 : Int32)) L ∧ (vp_in (x3 + (2 : Int32)) L ∧ (vp_in (x3 + (3 : Int32)) L ∧ (vp_in (x3 + (4 : Int32)) L ∧ (vp_in (x3 + (5 : Int32)) L ∧ (vp_in (x3 + (6 : Int32)) L ∧ (wp_X9_meets S.2 ((scr ((x3 + (1 : Int32))).toNatClampNeg)) ((scr ((x3 + (2 : Int32))).toNatClampNeg)) ((scr ((x3 + (3 : Int32))).toNatClampNeg)) ((scr ((x3 + (4 : Int32))).toNatClampNeg)) ((scr ((x3 + (5 : Int32))).toNatClampNeg)) ((scr ((x3 + (6 : Int32))).toNatClampNeg)) (fun r97 u98 => (∀ S99 : bT8 × bT9, S99 = (S.1, u98) → (wp_L_law_1745 L scr S99 (x3) Q B18))))))))))))))))))) ∧ (((scr (x3).toNatClampNeg) &&& (63 : Int32)) = (16 : Int32) → (vp_in (x3 + (1 : Int32)) L ∧ (vp_in (x3 + (2 : Int32)) L ∧ (vp_in (x3 + (3 : Int32)) L ∧ (vp_in (x3 + (4 : Int32)) L ∧ (vp_in (x3 + (5 : Int32)) L ∧ (vp_in (x3 + (6 : Int32)) L ∧ (wp_X8_holds S.1 ((scr ((x3 + (1 : Int32))).toNatClampNeg)) ((scr ((x3 + (2 : Int32))).toNatClampNeg)) ((scr ((x3 + (3 : Int32))).toNatClampNeg)) ((scr ((x3 + (4 : Int32))).toNatClampNeg)) ((scr ((x3 + (5 : Int32))).toNatClampNeg)) ((scr ((x3 + (6 : Int32))).toNatClampNeg)) (fun r100 => (vp_in (x3 + (1 : Int32)) L ∧ (vp_in (x3 + (2 : Int32)) L ∧ (vp_in (x3 + (3 : Int32)) L ∧ (vp_in (x3 + (4 : Int32)) L ∧ (vp_in (x3 + (5 : Int32)) L ∧ (vp_in (x3 + (6 : Int32)) L ∧ (wp_X9_holds S.2 ((scr ((x3 + (1 : Int32))).toNatClampNeg)) ((scr ((x3 + (2 : Int32))).toNatClampNeg)) ((scr ((x3 + (3 : Int32))).toNatClampNeg)) ((scr ((x3 + (4 : Int32))).toNatClampNeg)) ((scr ((x3 + (5 : Int32))).toNatClampNeg)) ((scr ((x3 + (6 : Int32))).toNatClampNeg)) (fun r102 u103 => (∀ S104 : bT8 × bT9, S104 = (S.1, u103) → (wp_L_law_1745 L scr S104 (x3) Q B18))))))))))))))))))) ∧ (((scr (x3).toNatClampNeg) &&& (63 : Int32)) = (17 : Int32) → (vp_in (x3 + (1 : Int32)) L ∧ (vp_in (x3 + (2 : Int32)) L ∧ (vp_in (x3 + (3 : Int32)) L ∧ (wp_X8_seek S.1 ((scr ((x3 + (1 : Int32))).toNatClampNeg)) ((scr ((x3 + (2 : Int32))).toNatClampNeg)) ((scr ((x3 + (3 : Int32))).toNatClampNeg)) (fun r105 => (vp_in (x3 + (1 : Int32)) L ∧ (vp_in (x3 + (2 : Int32)) L ∧ (vp_in (x3 + (3 : Int32)) L ∧ (wp_X9_seek S.2 ((scr ((x3 + (1 : Int32))).toNatClampNeg)) ((scr ((x3 + (2 : Int32))).toNatClampNeg)) ((scr ((x3 + (3 : Int32))).toNatClampNeg)) (fun r107 u108 => (∀ S109 : bT8 × bT9, S109 = (S.1, u108) → (wp_L_law_1745 L scr S109 (x3) Q B18))))))))))))) ∧ (((scr (x3).toNatClampNeg) &&& (63 : Int32)) = (18 : Int32) → (vp_in (x3 + (1 : Int32)) L ∧ (vp_in (x3 + (2 : Int32)) L ∧ (vp_in (x3 + (3 : Int32)) L ∧ (wp_X8_seekBack S.1 ((scr ((x3 + (1 : Int32))).toNatClampNeg)) ((scr ((x3 + (2 : Int32))).toNatClampNeg)) ((scr ((x3 + (3 : Int32))).toNatClampNeg)) (fun r110 => (vp_in (x3 + (1 : Int32)) L ∧ (vp_in (x3 + (2 : Int32)) L ∧ (vp_in (x3 + (3 : Int32)) L ∧ (wp_X9_seekBack S.2 ((scr ((x3 + (1 : Int32))).toNatClampNeg)) ((scr ((x3 + (2 : Int32))).toNatClampNeg)) ((scr ((x3 + (3 : Int32))).toNatClampNeg)) (fun r112 u113 => (∀ S114 : bT8 × bT9, S114 = (S.1, u113) → (wp_L_law_1745 L scr S114 (x3) Q B18))))))))))))) ∧ (((scr (x3).toNatClampNeg) &&& (63 : Int32)) = (19 : Int32) → (vp_in (x3 + (1 : Int32)) L ∧ (vp_in (x3 + (2 : Int32)) L ∧ (wp_X8_leaf S.1 ((scr ((x3 + (1 : Int32))).toNatClampNeg)) ((scr ((x3 + (2 : Int32))).toNatClampNeg)) (fun r115 => (vp_in (x3 + (1 : Int32)) L ∧ (vp_in (x3 + (2 : Int32)) L ∧ (wp_X9_leaf S.2 ((scr ((x3 + (1 : Int32))).toNatClampNeg)) ((scr ((x3 + (2 : Int32))).toNatClampNeg)) (fun r117 u118 => (∀ S119 : bT8 × bT9, S119 = (S.1, u118) → (wp_L_law_1745 L scr S119 (x3) Q B18))))))))))) ∧ (((scr (x3).toNatClampNeg) &&& (63 : Int32)) = (20 : Int32) → (vp_in (x3 + (1 : Int32)) L ∧ (wp_X8_leafAt S.1 ((scr ((x3 + (1 : Int32))).toNatClampNeg)) (fun r120 => (vp_in (x3 + (1 : Int32)) L ∧ (wp_X9_leafAt S.2 ((scr ((x3 + (1 : Int32))).toNatClampNeg)) (fun r122 u123 => (∀ S124 : bT8 × bT9, S124 = (S.1, u123) → (wp_L_law_1745 L scr S124 (x3) Q B18))))))))) ∧ (((scr (x3).toNatClampNeg) &&& (63 : Int32)) = (21 : Int32) → (vp_in (x3 + (1 : Int32)) L ∧ (vp_in (x3 + (2 : Int32)) L ∧ (wp_X8_node S.1 ((scr ((x3 + (1 : Int32))).toNatClampNeg)) ((scr ((x3 + (2 : Int32))).toNatClampNeg)) (fun r125 => (vp_in (x3 + (1 : Int32)) L ∧ (vp_in (x3 + (2 : Int32)) L ∧ (wp_X9_node S.2 ((scr ((x3 + (1 : Int32))).toNatClampNeg)) ((scr ((x3 + (2 : Int32))).toNatClampNeg)) (fun r127 u128 => (∀ S129 : bT8 × bT9, S129 = (S.1, u128) → (wp_L_law_1745 L scr S129 (x3) Q B18))))))))))) ∧ (((scr (x3).toNatClampNeg) &&& (63 : Int32)) = (22 : Int32) → (vp_in (x3 + (1 : Int32)) L ∧ (vp_in (x3 + (2 : Int32)) L ∧ (wp_X8_child S.1 ((scr ((x3 + (1 : Int32))).toNatClampNeg)) ((scr ((x3 + (2 : Int32))).toNatClampNeg)) (fun r130 => (vp_in (x3 + (1 : Int32)) L ∧ (vp_in (x3 + (2 : Int32)) L ∧ (wp_X9_child S.2 ((scr ((x3 + (1 : Int32))).toNatClampNeg)) ((scr ((x3 + (2 : Int32))).toNatClampNeg)) (fun r132 u133 => (∀ S134 : bT8 × bT9, S134 = (S.1, u133) → (wp_L_law_1745 L scr S134 (x3) Q B18))))))))))) ∧ (((scr (x3).toNatClampNeg) &&& (63 : Int32)) = (23 : Int32) → (vp_in (x3 + (1 : Int32)) L ∧ (vp_in (x3 + (2 : Int32)) L ∧ (wp_X8_level S.1 ((scr ((x3 + (1 : Int32))).toNatClampNeg)) ((scr ((x3 + (2 : Int32))).toNatClampNeg)) (fun r135 => (vp_in (x3 + (1 : Int32)) L ∧ (vp_in (x3 + (2 : Int32)) L ∧ (wp_X9_level S.2 ((scr ((x3 + (1 : Int32))).toNatClampNeg)) ((scr ((x3 + (2 : Int32))).toNatClampNeg)) (fun r137 u138 => (∀ S139 : bT8 × bT9, S139 = (S.1, u138) → (wp_L_law_1745 L scr S139 (x3) Q B18))))))))))) ∧ (((scr (x3).toNatClampNeg) &&& (63 : Int32)) = (24 : Int32) → (vp_in (x3 + (1 : Int32)) L ∧ (vp_in (x3 + (2 : Int32)) L ∧ (wp_X8_item S.1 ((scr ((x3 + (1 : Int32))).toNatClampNeg)) ((scr ((x3 + (2 : Int32))).toNatClampNeg)) (fun r140 => (vp_in (x3 + (1 : Int32)) L ∧ (vp_in (x3 + (2 : Int32)) L ∧ (wp_X9_item S.2 ((scr ((x3 + (1 : Int32))).toNatClampNeg)) ((scr ((x3 + (2 : Int32))).toNatClampNeg)) (fun r142 u143 => (∀ S144 : bT8 × bT9, S144 = (S.1, u143) → (wp_L_law_1745 L scr S144 (x3) Q B18))))))))))) ∧ (((scr (x3).toNatClampNeg) &&& (63 : Int32)) = (25 : Int32) → (vp_in (x3 + (1 : Int32)) L ∧ (wp_X8_bit S.1 ((scr ((x3 + (1 : Int32))).toNatClampNeg)) (fun r145 => (vp_in (x3 + (1 : Int32)) L ∧ (wp_X9_bit S.2 ((scr ((x3 + (1 : Int32))).toNatClampNeg)) (fun r147 u148 => (∀ S149 : bT8 × bT9, S149 = (S.1, u148) → (wp_L_law_1745 L scr S149 (x3) Q B18))))))))) ∧ (((scr (x3).toNatClampNeg) &&& (63 : Int32)) = (26 : Int32) → (vp_in (x3 + (1 : Int32)) L ∧ (wp_X8_rank S.1 ((scr ((x3 + (1 : Int32))).toNatClampNeg)) (fun r150 => (vp_in (x3 + (1 : Int32)) L ∧ (wp_X9_rank S.2 ((scr ((x3 + (1 : Int32))).toNatClampNeg)) (fun r152 u153 => (∀ S154 : bT8 × bT9, S154 = (S.1, u153) → (wp_L_law_1745 L scr S154 (x3) Q B18))))))))) ∧ (((scr (x3).toNatClampNeg) &&& (63 : Int32)) = (27 : Int32) → (vp_in (x3 + (1 : Int32)) L ∧ (wp_X8_select S.1 ((scr ((x3 + (1 : Int32))).toNatClampNeg)) (fun r155 => (vp_in (x3 + (1 : Int32)) L ∧ (wp_X9_select S.2 ((scr ((x3 + (1 : Int32))).toNatClampNeg)) (fun r157 u158 => (∀ S159 : bT8 × bT9, S159 = (S.1, u158) → (wp_L_law_1745 L scr S159 (x3) Q B18))))))))) ∧ (((scr (x3).toNatClampNeg) &&& (63 : Int32)) = (28 : Int32) → (vp_in (x3 + (1 : Int32)) L ∧ (wp_X8_bits S.1 ((scr ((x3 + (1 : Int32))).toNatClampNeg)) (fun r160 => (vp_in (x3 + (1 : Int32)) L ∧ (wp_X9_bits S.2 ((scr ((x3 + (1 : Int32))).toNatClampNeg)) (fun r162 u163 => (∀ S164 : bT8 × bT9, S164 = (S.1, u163) → (wp_L_law_1745 L scr S164 (x3) Q B18))))))))) ∧ (((scr (x3).toNatClampNeg) &&& (63 : Int32)) = (29 : Int32) → (vp_in (x3 + (1 : Int32)) L ∧ (wp_X8_least S.1 ((scr ((x3 + (1 : Int32))).toNatClampNeg)) (fun r165 => (vp_in (x3 + (1 : Int32)) L ∧ (wp_X9_least S.2 ((scr ((x3 + (1 : Int32))).toNatClampNeg)) (fun r167 u168 => (∀ S169 : bT8 × bT9, S169 = (S.1, u168) → (wp_L_law_1745 L scr S169 (x3) Q B18))))))))) ∧ (((scr (x3).toNatClampNeg) &&& (63 : Int32)) = (30 : Int32) → (vp_in (x3 + (1 : Int32)) L ∧ (wp_X8_cover S.1 ((scr ((x3 + (1 : Int32))).toNatClampNeg)) (fun r170 => (vp_in (x3 + (1 : Int32)) L ∧ (wp_X9_cover S.2 ((scr ((x3 + (1 : Int32))).toNatClampNeg)) (fun r172 u173 => (∀ S174 : bT8 × bT9, S174 = (S.1, u173) → (wp_L_law_1745 L scr S174 (x3) Q B18))))))))) ∧ (((scr (x3).toNatClampNeg) &&& (63 : Int32)) = (31 : Int32) → (vp_in (x3 + (1 : Int32)) L ∧ (wp_X8_loose S.1 ((scr ((x3 + (1 : Int32))).toNatClampNeg)) (fun r175 => (vp_in (x3 + (1 : Int32)) L ∧ (wp_X9_loose S.2 ((scr ((x3 + (1 : Int32))).toNatClampNeg)) (fun r177 u178 => (∀ S179 : bT8 × bT9, S179 = (S.1, u178) → (wp_L_law_1745 L scr S179 (x3) Q B18))))))))) ∧ (((scr (x3).toNatClampNeg) &&& (63 : Int32)) = (32 : Int32) → (vp_in (x3 + (1 : Int32)) L ∧ (vp_in (x3 + (2 : Int32)) L ∧ (wp_X8_free S.1 ((scr ((x3 + (1 : Int32))).toNatClampNeg)) ((scr ((x3 + (2 : Int32))).toNatClampNeg)) (fun r180 => (vp_in (x3 + (1 : Int32)) L ∧ (vp_in (x3 + (2 : Int32)) L ∧ (wp_X9_free S.2 ((scr ((x3 + (1 : Int32))).toNatClampNeg)) ((scr ((x3 + (2 : Int32))).toNatClampNeg)) (fun r182 u183 => (∀ S184 : bT8 × bT9, S184 = (S.1, u183) → (wp_L_law_1745 L scr S184 (x3) Q B18))))))))))) ∧ (((scr (x3).toNatClampNeg) &&& (63 : Int32)) = (33 : Int32) → (vp_in (x3 + (1 : Int32)) L ∧ (vp_in (x3 + (2 : Int32)) L ∧ (vp_in (x3 + (3 : Int32)) L ∧ (vp_in (x3 + (4 : Int32)) L ∧ (wp_X8_spread S.1 ((scr ((x3 + (1 : Int32))).toNatClampNeg)) ((scr ((x3 + (2 : Int32))).toNatClampNeg)) ((scr ((x3 + (3 : Int32))).toNatClampNeg)) ((scr ((x3 + (4 : Int32))).toNatClampNeg)) (fun r185 => (vp_in (x3 + (1 : Int32)) L ∧ (vp_in (x3 + (2 : Int32)) L ∧ (vp_in (x3 + (3 : Int32)) L ∧ (vp_in (x3 + (4 : Int32)) L ∧ (wp_X9_spread S.2 ((scr ((x3 + (1 : Int32))).toNatClampNeg)) ((scr ((x3 + (2 : Int32))).toNatClampNeg)) ((scr ((x3 + (3 : Int32))).toNatClampNeg)) ((scr ((x3 + (4 : Int32))).toNatClampNeg)) (fun r187 u188 => (∀ S189 : bT8 × bT9, S189 = (S.1, u188) → (wp_L_law_1745 L scr S189 (x3) Q B18))))))))))))))) ∧ (((scr (x3).toNatClampNeg) &&& (63 : Int32)) = (34 : Int32) → (vp_in (x3 + (1 : Int32)) L ∧ (vp_in (x3 + (2 : Int32)) L ∧ (vp_in (x3 + (3 : Int32)) L ∧ (wp_X8_question S.1 ((scr ((x3 + (1 : Int32))).toNatClampNeg)) ((scr ((x3 + (2 : Int32))).toNatClampNeg)) ((scr ((x3 + (3 : Int32))).toNatClampNeg)) (fun r190 u191 => (∀ S192 : bT8 × bT9, S192 = (u191, S.2) → (vp_in (x3 + (1 : Int32)) L ∧ (vp_in (x3 + (2 : Int32)) L ∧ (vp_in (x3 + (3 : Int32)) L ∧ (wp_X9_question S192.2 ((scr ((x3 + (1 : Int32))).toNatClampNeg)) ((scr ((x3 + (2 : Int32))).toNatClampNeg)) ((scr ((x3 + (3 : Int32))).toNatClampNeg)) (fun r193 u194 => (∀ S195 : bT8 × bT9, S195 = (S192.1, u194) → ((r190 = r193 → (wp_L_law_1745 L scr S195 (x3) Q B18)) ∧ (¬ r190 = r193 → ((0 : Int32) = (1 : Int32))))))))))))))))) ∧ (((scr (x3).toNatClampNeg) &&& (63 : Int32)) = (35 : Int32) → (wp_X8_forget S.1 (fun r196 u197 => (∀ S198 : bT8 × bT9, S198 = (u197, S.2) → (wp_X9_forget S198.2 (fun r199 u200 => (∀ S201 : bT8 × bT9, S201 = (S198.1, u200) → (wp_L_law_1745 L scr S201 (x3) Q B18)))))))) ∧ (((scr (x3).toNatClampNeg) &&& (63 : Int32)) = (36 : Int32) → (vp_in (x3 + (1 : Int32)) L ∧ (vp_in (x3 + (2 : Int32)) L ∧ (wp_X8_tuned S.1 ((scr ((x3 + (1 : Int32))).toNatClampNeg)) ((scr ((x3 + (2 : Int32))).toNatClampNeg)) (fun r202 u203 => (∀ S204 : bT8 × bT9, S204 = (u203, S.2) → (vp_in (x3 + (1 : Int32)) L ∧ (vp_in (x3 + (2 : Int32)) L ∧ (wp_X9_tuned S204.2 ((scr ((x3 + (1 : Int32))).toNatClampNeg)) ((scr ((x3 + (2 : Int32))).toNatClampNeg)) (fun r205 u206 => (∀ S207 : bT8 × bT9, S207 = (S204.1, u206) → (wp_L_law_1745 L scr S207 (x3) Q B18)))))))))))) ∧ (((scr (x3).toNatClampNeg) &&& (63 : Int32)) = (37 : Int32) → (vp_in (x3 + (1 : Int32)) L ∧ (vp_in (x3 + (2 : Int32)) L ∧ (wp_X8_storm S.1 ((scr ((x3 + (1 : Int32))).toNatClampNeg)) ((scr ((x3 + (2 : Int32))).toNatClampNeg)) (fun r208 u209 => (∀ S210 : bT8 × bT9, S210 = (u209, S.2) → (vp_in (x3 + (1 : Int32)) L ∧ (vp_in (x3 + (2 : Int32)) L ∧ (wp_X9_storm S210.2 ((scr ((x3 + (1 : Int32))).toNatClampNeg)) ((scr ((x3 + (2 : Int32))).toNatClampNeg)) (fun r211 u212 => (∀ S213 : bT8 × bT9, S213 = (S210.1, u212) → (wp_L_law_1745 L scr S213 (x3) Q B18)))))))))))) ∧ (((scr (x3).toNatClampNeg) &&& (63 : Int32)) = (38 : Int32) → (vp_in (x3 + (1 : Int32)) L ∧ (vp_in (x3 + (2 : Int32)) L ∧ (vp_in (x3 + (3 : Int32)) L ∧ (wp_X8_stormRange S.1 ((scr ((x3 + (1 : Int32))).toNatClampNeg)) ((scr ((x3 + (2 : Int32))).toNatClampNeg)) ((scr ((x3 + (3 : Int32))).toNatClampNeg)) (fun r214 u215 => (∀ S216 : bT8 × bT9, S216 = (u215, S.2) → (vp_in (x3 + (1 : Int32)) L ∧ (vp_in (x3 + (2 : Int32)) L ∧ (vp_in (x3 + (3 : Int32)) L ∧ (wp_X9_stormRange S216.2 ((scr ((x3 + (1 : Int32))).toNatClampNeg)) ((scr ((x3 + (2 : Int32))).toNatClampNeg)) ((scr ((x3 + (3 : Int32))).toNatClampNeg)) (fun r217 u218 => (∀ S219 : bT8 × bT9, S219 = (S216.1, u218) → (wp_L_law_1745 L scr S219 (x3) Q B18)))))))))))))) ∧ (((scr (x3).toNatClampNeg) &&& (63 : Int32)) = (39 : Int32) → (vp_in (x3 + (1 : Int32)) L ∧ (wp_X8_account S.1 ((scr ((x3 + (1 : Int32))).toNatClampNeg)) (fun r220 => (vp_in (x3 + (1 : Int32)) L ∧ (wp_X9_account S.2 ((scr ((x3 + (1 : Int32))).toNatClampNeg)) (fun r222 u223 => (∀ S224 : bT8 × bT9, S224 = (S.1, u223) → (wp_L_law_1745 L scr S224 (x3) Q B18))))))))) ∧ (((scr (x3).toNatClampNeg) &&& (63 : Int32)) = (40 : Int32) → (vp_in (x3 + (1 : Int32)) L ∧ (wp_X8_since S.1 ((scr ((x3 + (1 : Int32))).toNatClampNeg)) (fun r225 => (vp_in (x3 + (1 : Int32)) L ∧ (wp_X9_since S.2 ((scr ((x3 + (1 : Int32))).toNatClampNeg)) (fun r227 u228 => (∀ S229 : bT8 × bT9, S229 = (S.1, u228) → (wp_L_law_1745 L scr S229 (x3) Q B18))))))))) ∧ (((scr (x3).toNatClampNeg) &&& (63 : Int32)) = (41 : Int32) → (vp_in (x3 + (1 : Int32)) L ∧ (wp_X8_report S.1 ((scr ((x3 + (1 : Int32))).toNatClampNeg)) (fun r230 u231 => (∀ S232 : bT8 × bT9, S232 = (u231, S.2) → (vp_in (x3 + (1 : Int32)) L ∧ (wp_X9_report S232.2 ((scr ((x3 + (1 : Int32))).toNatClampNeg)) (fun r233 u234 => (∀ S235 : bT8 × bT9, S235 = (S232.1, u234) → (wp_L_law_1745 L scr S235 (x3) Q B18)))))))))) ∧ (((scr (x3).toNatClampNeg) &&& (63 : Int32)) = (42 : Int32) → (vp_in (x3 + (1 : Int32)) L ∧ (wp_X8_sign S.1 ((scr ((x3 + (1 : Int32))).toNatClampNeg)) (fun r236 => (vp_in (x3 + (1 : Int32)) L ∧ (wp_X9_sign S.2 ((scr ((x3 + (1 : Int32))).toNatClampNeg)) (fun r238 u239 => (∀ S240 : bT8 × bT9, S240 = (S.1, u239) → (wp_L_law_1745 L scr S240 (x3) Q B18))))))))) ∧ (((scr (x3).toNatClampNeg) &&& (63 : Int32)) = (43 : Int32) → (vp_in (x3 + (1 : Int32)) L ∧ (((scr ((x3 + (1 : Int32))).toNatClampNeg) = 0 → (wp_L_law_1697 L scr S (x3) ((0 : Int32)) Q B18)) ∧ (¬ (scr ((x3 + (1 : Int32))).toNatClampNeg) = 0 → (wp_L_law_1697 L scr S (x3) ((1 : Int32)) Q B18))))) ∧ (((scr (x3).toNatClampNeg) &&& (63 : Int32)) = (44 : Int32) → (vp_in (x3 + (1 : Int32)) L ∧ (wp_X8_look S.1 ((scr ((x3 + (1 : Int32))).toNatClampNeg)) (fun r241 => (vp_in (x3 + (1 : Int32)) L ∧ (wp_X9_look S.2 ((scr ((x3 + (1 : Int32))).toNatClampNeg)) (fun r243 u244 => (∀ S245 : bT8 × bT9, S245 = (S.1, u244) → (wp_L_law_1745 L scr S245 (x3) Q B18)))))))))))))
set_option maxRecDepth 20000 in
theorem t_L_law_18b {X : bf_X} (C : bf_C X R_law code 4 ret) (hR : bf_Rm X 13 494) (hG : bf_G (xA X) (xs X) (xs X).heap) {b : Nat} {L : Nat} {scr : Nat → Int32} (hX : va_X b L scr (xs X) (xs X).heap) (hW : bf_law X b) (S : bT8 × bT9) (x3 : Int32) (Q : Unit) (B18 : Int32 → (bT8 × bT9) → Prop) (hB18 : ∀ (x3 : Int32) (S : bT8 × bT9), B18 x3 S → bf_A X (lw_Z (xb X) (xa X) (xs X)) 4 18 [some (.ref 1000), some (.ref 0), some (.ref 68), some (.int x3)] [] (bW8_9 S)) (h : wp_L_law_18b L scr S x3 Q B18) : bf_A X (lw_Z (xb X) (xa X) (xs X)) 4 18 [some (.ref 1000), some (.ref 0), some (.ref 68), some (.int x3)] [] (bW8_9 S) := by
  unfold wp_L_law_18b at h
  refine bs_iload_n C (bf_dk dd_L_law_0 10 rfl) rfl ?_
  refine bs_aload_n C (bf_dk dd_L_law_0 11 rfl) rfl ?_
  refine bs_slen C hX hW (bf_dk dd_L_law_0 12 rfl) ?_
  refine bs_bipush C (bf_dk dd_L_law_0 13 rfl) (7 : Int32) (by decide) ?_
  refine bs_isub C (bf_dk dd_L_law_0 14 rfl) ?_
  refine bs_icmp_gt C (bf_dk dd_L_law_0 15 rfl) (tgt := 1751) rfl (fun c => ?_) (fun c => ?_)
  · replace h := h.1 c
    refine bs_iconst C (bf_dk dd_L_law_25 7 rfl) (1 : Int32) (by decide) ?_
    exact bs_lawret C hW (bf_dk dd_L_law_25 8 rfl)
  · replace h := h.2 c
    refine bs_aload_n C (bf_dk dd_L_law_0 16 rfl) rfl ?_
    refine bs_iload_n C (bf_dk dd_L_law_0 17 rfl) rfl ?_
    obtain ⟨hi, h⟩ := h
    refine bs_sld C hX hW (bf_dk dd_L_law_0 18 rfl) hi ?_
    refine bs_bipush C (bf_dk dd_L_law_0 19 rfl) (63 : Int32) (by decide) ?_
    refine bs_iand C (bf_dk dd_L_law_0 20 rfl) ?_
    refine bs_table C (tdef := 1745) (fun k => List.getD [228, 291, 314, 327, 340, 353, 386, 409, 452, 495, 528, 541, 594, 637, 680, 755, 830, 905, 948, 991, 1024, 1047, 1080, 1113, 1146, 1179, 1202, 1225, 1248, 1271, 1294, 1317, 1340, 1373, 1426, 1469, 1482, 1515, 1548, 1591, 1614, 1637, 1660, 1683, 1722] k 0) 45 (bf_dk dd_L_law_0 21 rfl) rfl rfl (fun k hk => by rcases (show k = 0 ∨ k = 1 ∨ k = 2 ∨ k = 3 ∨ k = 4 ∨ k = 5 ∨ k = 6 ∨ k = 7 ∨ k = 8 ∨ k = 9 ∨ k = 10 ∨ k = 11 ∨ k = 12 ∨ k = 13 ∨ k = 14 ∨ k = 15 ∨ k = 16 ∨ k = 17 ∨ k = 18 ∨ k = 19 ∨ k = 20 ∨ k = 21 ∨ k = 22 ∨ k = 23 ∨ k = 24 ∨ k = 25 ∨ k = 26 ∨ k = 27 ∨ k = 28 ∨ k = 29 ∨ k = 30 ∨ k = 31 ∨ k = 32 ∨ k = 33 ∨ k = 34 ∨ k = 35 ∨ k = 36 ∨ k = 37 ∨ k = 38 ∨ k = 39 ∨ k = 40 ∨ k = 41 ∨ k = 42 ∨ k = 43 ∨ k = 44 by omega) with rfl | rfl | rfl | rfl | rfl | rfl | rfl | rfl | rfl | rfl | rfl | rfl | rfl | rfl | rfl | rfl | rfl | rfl | rfl | rfl | rfl | rfl | rfl | rfl | rfl | rfl | rfl | rfl | rfl | rfl | rfl | rfl | rfl | rfl | rfl | rfl | rfl | rfl | rfl | rfl | rfl | rfl | rfl | rfl | rfl <;> exact ⟨_, rfl, rfl⟩) (fun c => ?_) (fun k hk c => ?_)
    · replace h := h.1 c
      exact bs_weak (bf_s1 (bf_s1 (bf_s1 (bf_s1 bf_s0)))) (t_L_law_1745 C hR hG hX hW S (x3) Q B18 hB18 h)
    · rcases (show k = 0 ∨ k = 1 ∨ k = 2 ∨ k = 3 ∨ k = 4 ∨ k = 5 ∨ k = 6 ∨ k = 7 ∨ k = 8 ∨ k = 9 ∨ k = 10 ∨ k = 11 ∨ k = 12 ∨ k = 13 ∨ k = 14 ∨ k = 15 ∨ k = 16 ∨ k = 17 ∨ k = 18 ∨ k = 19 ∨ k = 20 ∨ k = 21 ∨ k = 22 ∨ k = 23 ∨ k = 24 ∨ k = 25 ∨ k = 26 ∨ k = 27 ∨ k = 28 ∨ k = 29 ∨ k = 30 ∨ k = 31 ∨ k = 32 ∨ k = 33 ∨ k = 34 ∨ k = 35 ∨ k = 36 ∨ k = 37 ∨ k = 38 ∨ k = 39 ∨ k = 40 ∨ k = 41 ∨ k = 42 ∨ k = 43 ∨ k = 44 by omega) with rfl | rfl | rfl | rfl | rfl | rfl | rfl | rfl | rfl | rfl | rfl | rfl | rfl | rfl | rfl | rfl | rfl | rfl | rfl | rfl | rfl | rfl | rfl | rfl | rfl | rfl | rfl | rfl | rfl | rfl | rfl | rfl | rfl | rfl | rfl | rfl | rfl | rfl | rfl | rfl | rfl | rfl | rfl | rfl | rfl
      · replace h := h.2.1 (bf_i32 c (by decide))
        refine bs_aload_n C (bf_dk dd_L_law_0 22 rfl) rfl ?_
        refine bs_aload_n C (bf_dk dd_L_law_0 23 rfl) rfl ?_
        refine bs_iload_n C (bf_dk dd_L_law_0 24 rfl) rfl ?_
        refine bs_iconst C (bf_dk dd_L_law_0 25 rfl) (1 : Int32) (by decide) ?_
        refine bs_iadd C (bf_dk dd_L_law_0 26 rfl) ?_
        obtain ⟨hi, h⟩ := h
        refine bs_sld C hX hW (bf_dk dd_L_law_0 27 rfl) hi ?_
        refine bs_aload_n C (bf_dk dd_L_law_0 28 rfl) rfl ?_
        refine bs_iload_n C (bf_dk dd_L_law_0 29 rfl) rfl ?_
        refine bs_iconst C (bf_dk dd_L_law_0 30 rfl) (2 : Int32) (by decide) ?_
        refine bs_iadd C (bf_dk dd_L_law_0 31 rfl) ?_
        obtain ⟨hi, h⟩ := h
        refine bs_sld C hX hW (bf_dk dd_L_law_0 32 rfl) hi ?_
        refine bs_aload_n C (bf_dk dd_L_law_0 33 rfl) rfl ?_
        refine bs_iload_n C (bf_dk dd_L_law_0 34 rfl) rfl ?_
        refine bs_iconst C (bf_dk dd_L_law_0 35 rfl) (3 : Int32) (by decide) ?_
        refine bs_iadd C (bf_dk dd_L_law_0 36 rfl) ?_
        obtain ⟨hi, h⟩ := h
        refine bs_sld C hX hW (bf_dk dd_L_law_0 37 rfl) hi ?_
        refine bs_aload_n C (bf_dk dd_L_law_0 38 rfl) rfl ?_
        refine bs_iload_n C (bf_dk dd_L_law_0 39 rfl) rfl ?_
        refine bs_iconst C (bf_dk dd_L_law_0 40 rfl) (4 : Int32) (by decide) ?_
        refine bs_iadd C (bf_dk dd_L_law_0 41 rfl) ?_
        obtain ⟨hi, h⟩ := h
        refine bs_sld C hX hW (bf_dk dd_L_law_0 42 rfl) hi ?_
        refine bs_aload_n C (bf_dk dd_L_law_0 43 rfl) rfl ?_
        refine bs_iload_n C (bf_dk dd_L_law_0 44 rfl) rfl ?_
        refine bs_iconst C (bf_dk dd_L_law_0 45 rfl) (5 : Int32) (by decide) ?_
        refine bs_iadd C (bf_dk dd_L_law_0 46 rfl) ?_
        obtain ⟨hi, h⟩ := h
        refine bs_sld C hX hW (bf_dk dd_L_law_0 47 rfl) hi ?_
        refine bs_callV_i (ps := [0, 1, 2, 3, 4, 5, 6, 7, 8, 9, 10, 11, 12, 13, 14, 15, 16, 17, 18, 19, 20, 21, 22, 23, 24, 25, 26, 27, 28, 29, 30, 31, 32, 33, 34, 35, 36, 37, 38, 39, 40, 41, 42, 43, 44, 45, 46, 47, 48, 49, 50, 51, 52, 53, 54, 55, 56, 57, 58, 59, 60, 61, 62, 63, 64, 65, 66, 67]) (w := (bW8_9 S)) C hR (c_X8_feed _ _ _ _ _ S.1 ((scr ((x3 + (1 : Int32))).toNatClampNeg)) ((scr ((x3 + (2 : Int32))).toNatClampNeg)) ((scr ((x3 + (3 : Int32))).toNatClampNeg)) ((scr ((x3 + (4 : Int32))).toNatClampNeg)) ((scr ((x3 + (5 : Int32))).toNatClampNeg)) _ h) my_X8_feed m_L_13 rfl cl_8 (ge_bW8_0 _) rfl (Nat.le_of_ble_eq_true rfl) (Nat.le_of_ble_eq_true rfl) (su_bW8_9_0_bW8 S) bnd_0t67 (st := []) (Nat.le_of_ble_eq_true rfl) (bf_dk dd_L_law_0 48 rfl) rfl (fun _ => rfl) (w2 := fun u8 => bW8_9 (u8, S.2)) (pt_bW8_9_0_bW8 S) (fun r7 u8 h => ?_)
        refine bs_nameS bW8_9 (fun S9 eS9 => ?_)
        replace h := h S9 eS9
        refine bs_pop C (bf_dk dd_L_law_0 49 rfl) rfl ?_
        refine bs_aload_n C (bf_dk dd_L_law_1 0 rfl) rfl ?_
        refine bs_aload_n C (bf_dk dd_L_law_1 1 rfl) rfl ?_
        refine bs_iload_n C (bf_dk dd_L_law_1 2 rfl) rfl ?_
        refine bs_iconst C (bf_dk dd_L_law_1 3 rfl) (1 : Int32) (by decide) ?_
        refine bs_iadd C (bf_dk dd_L_law_1 4 rfl) ?_
        obtain ⟨hi, h⟩ := h
        refine bs_sld C hX hW (bf_dk dd_L_law_1 5 rfl) hi ?_
        refine bs_aload_n C (bf_dk dd_L_law_1 6 rfl) rfl ?_
        refine bs_iload_n C (bf_dk dd_L_law_1 7 rfl) rfl ?_
        refine bs_iconst C (bf_dk dd_L_law_1 8 rfl) (2 : Int32) (by decide) ?_
        refine bs_iadd C (bf_dk dd_L_law_1 9 rfl) ?_
        obtain ⟨hi, h⟩ := h
        refine bs_sld C hX hW (bf_dk dd_L_law_1 10 rfl) hi ?_
        refine bs_aload_n C (bf_dk dd_L_law_1 11 rfl) rfl ?_
        refine bs_iload_n C (bf_dk dd_L_law_1 12 rfl) rfl ?_
        refine bs_iconst C (bf_dk dd_L_law_1 13 rfl) (3 : Int32) (by decide) ?_
        refine bs_iadd C (bf_dk dd_L_law_1 14 rfl) ?_
        obtain ⟨hi, h⟩ := h
        refine bs_sld C hX hW (bf_dk dd_L_law_1 15 rfl) hi ?_
        refine bs_aload_n C (bf_dk dd_L_law_1 16 rfl) rfl ?_
        refine bs_iload_n C (bf_dk dd_L_law_1 17 rfl) rfl ?_
        refine bs_iconst C (bf_dk dd_L_law_1 18 rfl) (4 : Int32) (by decide) ?_
        refine bs_iadd C (bf_dk dd_L_law_1 19 rfl) ?_
        obtain ⟨hi, h⟩ := h
        refine bs_sld C hX hW (bf_dk dd_L_law_1 20 rfl) hi ?_
        refine bs_aload_n C (bf_dk dd_L_law_1 21 rfl) rfl ?_
        refine bs_iload_n C (bf_dk dd_L_law_1 22 rfl) rfl ?_
        refine bs_iconst C (bf_dk dd_L_law_1 23 rfl) (5 : Int32) (by decide) ?_
        refine bs_iadd C (bf_dk dd_L_law_1 24 rfl) ?_
        obtain ⟨hi, h⟩ := h
        refine bs_sld C hX hW (bf_dk dd_L_law_1 25 rfl) hi ?_
        refine bs_callV_i (ps := [68, 69, 70, 71, 72, 73, 74, 75, 76, 77, 78, 79, 80, 81, 82, 83, 84, 85, 86, 87, 88]) (w := (bW8_9 S9)) C hR (c_X9_feed _ _ _ _ _ S9.2 ((scr ((x3 + (1 : Int32))).toNatClampNeg)) ((scr ((x3 + (2 : Int32))).toNatClampNeg)) ((scr ((x3 + (3 : Int32))).toNatClampNeg)) ((scr ((x3 + (4 : Int32))).toNatClampNeg)) ((scr ((x3 + (5 : Int32))).toNatClampNeg)) _ h) my_X9_feed m_L_17 rfl cl_9 (ge_bW9_0 _) rfl (Nat.le_of_ble_eq_true rfl) (Nat.le_of_ble_eq_true rfl) (su_bW8_9_68_bW9 S9) bnd_68t88 (st := []) (Nat.le_of_ble_eq_true rfl) (bf_dk dd_L_law_1 26 rfl) rfl (fun _ => rfl) (w2 := fun u11 => bW8_9 (S9.1, u11)) (pt_bW8_9_68_bW9 S9) (fun r10 u11 h => ?_)
        refine bs_nameS bW8_9 (fun S12 eS12 => ?_)
        replace h := h S12 eS12
        refine bs_pop C (bf_dk dd_L_law_1 27 rfl) rfl ?_
        refine bs_goto C (bf_dk dd_L_law_1 28 rfl) (tgt := 1745) rfl ?_
        exact bs_weak (bf_s1 (bf_s1 (bf_s1 (bf_s1 bf_s0)))) (t_L_law_1745 C hR hG hX hW S12 (x3) Q B18 hB18 h)
      · replace h := h.2.2.1 (bf_i32 c (by decide))
        refine bs_aload_n C (bf_dk dd_L_law_1 29 rfl) rfl ?_
        refine bs_aload_n C (bf_dk dd_L_law_1 30 rfl) rfl ?_
        refine bs_iload_n C (bf_dk dd_L_law_1 31 rfl) rfl ?_
        refine bs_iconst C (bf_dk dd_L_law_1 32 rfl) (1 : Int32) (by decide) ?_
        refine bs_iadd C (bf_dk dd_L_law_1 33 rfl) ?_
        obtain ⟨hi, h⟩ := h
        refine bs_sld C hX hW (bf_dk dd_L_law_1 34 rfl) hi ?_
        refine bs_callV_i (ps := [0, 1, 2, 3, 4, 5, 6, 7, 8, 9, 10, 11, 12, 13, 14, 15, 16, 17, 18, 19, 20, 21, 22, 23, 24, 25, 26, 27, 28, 29, 30, 31, 32, 33, 34, 35, 36, 37, 38, 39, 40, 41, 42, 43, 44, 45, 46, 47, 48, 49, 50, 51, 52, 53, 54, 55, 56, 57, 58, 59, 60, 61, 62, 63, 64, 65, 66, 67]) (w := (bW8_9 S)) C hR (c_X8_end _ _ _ _ _ S.1 ((scr ((x3 + (1 : Int32))).toNatClampNeg)) _ h) my_X8_end m_L_18 rfl cl_8 (ge_bW8_0 _) rfl (Nat.le_of_ble_eq_true rfl) (Nat.le_of_ble_eq_true rfl) (su_bW8_9_0_bW8 S) bnd_0t67 (st := []) (Nat.le_of_ble_eq_true rfl) (bf_dk dd_L_law_1 35 rfl) rfl (fun _ => rfl) (w2 := fun u14 => bW8_9 (u14, S.2)) (pt_bW8_9_0_bW8 S) (fun r13 u14 h => ?_)
        refine bs_nameS bW8_9 (fun S15 eS15 => ?_)
        replace h := h S15 eS15
        refine bs_pop C (bf_dk dd_L_law_1 36 rfl) rfl ?_
        refine bs_aload_n C (bf_dk dd_L_law_1 37 rfl) rfl ?_
        refine bs_aload_n C (bf_dk dd_L_law_1 38 rfl) rfl ?_
        refine bs_iload_n C (bf_dk dd_L_law_1 39 rfl) rfl ?_
        refine bs_iconst C (bf_dk dd_L_law_1 40 rfl) (1 : Int32) (by decide) ?_
        refine bs_iadd C (bf_dk dd_L_law_1 41 rfl) ?_
        obtain ⟨hi, h⟩ := h
        refine bs_sld C hX hW (bf_dk dd_L_law_1 42 rfl) hi ?_
        refine bs_callV_i (ps := [68, 69, 70, 71, 72, 73, 74, 75, 76, 77, 78, 79, 80, 81, 82, 83, 84, 85, 86, 87, 88]) (w := (bW8_9 S15)) C hR (c_X9_end _ _ _ _ _ S15.2 ((scr ((x3 + (1 : Int32))).toNatClampNeg)) _ h) my_X9_end m_L_22 rfl cl_9 (ge_bW9_0 _) rfl (Nat.le_of_ble_eq_true rfl) (Nat.le_of_ble_eq_true rfl) (su_bW8_9_68_bW9 S15) bnd_68t88 (st := []) (Nat.le_of_ble_eq_true rfl) (bf_dk dd_L_law_1 43 rfl) rfl (fun _ => rfl) (w2 := fun u17 => bW8_9 (S15.1, u17)) (pt_bW8_9_68_bW9 S15) (fun r16 u17 h => ?_)
        refine bs_nameS bW8_9 (fun S18 eS18 => ?_)
        replace h := h S18 eS18
        refine bs_pop C (bf_dk dd_L_law_1 44 rfl) rfl ?_
        refine bs_goto C (bf_dk dd_L_law_1 45 rfl) (tgt := 1745) rfl ?_
        exact bs_weak (bf_s1 (bf_s1 (bf_s1 (bf_s1 bf_s0)))) (t_L_law_1745 C hR hG hX hW S18 (x3) Q B18 hB18 h)
      · replace h := h.2.2.2.1 (bf_i32 c (by decide))
        refine bs_aload_n C (bf_dk dd_L_law_1 46 rfl) rfl ?_
        refine bs_callGV_i (ps := [0, 1, 2, 3, 4, 5, 6, 7, 8, 9, 10, 11, 12, 13, 14, 15, 16, 17, 18, 19, 20, 21, 22, 23, 24, 25, 26, 27, 28, 29, 30, 31, 32, 33, 34, 35, 36, 37, 38, 39, 40, 41, 42, 43, 44, 45, 46, 47, 48, 49, 50, 51, 52, 53, 54, 55, 56, 57, 58, 59, 60, 61, 62, 63, 64, 65, 66, 67]) (w := (bW8_9 S)) C hR hG (c_X8_mode _ _ _ _ _ S.1 _ h) my_X8_mode m_L_23 rfl cl_8 (ge_bW8_0 _) rfl (Nat.le_of_ble_eq_true rfl) (Nat.le_of_ble_eq_true rfl) (su_bW8_9_0_bW8 S) bnd_0t67 (st := []) (Nat.le_of_ble_eq_true rfl) (bf_dk dd_L_law_1 47 rfl) rfl (fun _ => rfl) (w2 := fun u20 => bW8_9 (u20, S.2)) (pt_bW8_9_0_bW8 S) (fun r19 u20 h => ?_)
        refine bs_nameS bW8_9 (fun S21 eS21 => ?_)
        replace h := h S21 eS21
        refine bs_pop C (bf_dk dd_L_law_1 48 rfl) rfl ?_
        refine bs_aload_n C (bf_dk dd_L_law_1 49 rfl) rfl ?_
        refine bs_callV_i (ps := [68, 69, 70, 71, 72, 73, 74, 75, 76, 77, 78, 79, 80, 81, 82, 83, 84, 85, 86, 87, 88]) (w := (bW8_9 S21)) C hR (c_X9_mode _ _ _ _ _ S21.2 _ h) my_X9_mode m_L_27 rfl cl_9 (ge_bW9_0 _) rfl (Nat.le_of_ble_eq_true rfl) (Nat.le_of_ble_eq_true rfl) (su_bW8_9_68_bW9 S21) bnd_68t88 (st := []) (Nat.le_of_ble_eq_true rfl) (bf_dk dd_L_law_2 0 rfl) rfl (fun _ => rfl) (w2 := fun u23 => bW8_9 (S21.1, u23)) (pt_bW8_9_68_bW9 S21) (fun r22 u23 h => ?_)
        refine bs_nameS bW8_9 (fun S24 eS24 => ?_)
        replace h := h S24 eS24
        refine bs_pop C (bf_dk dd_L_law_2 1 rfl) rfl ?_
        refine bs_goto C (bf_dk dd_L_law_2 2 rfl) (tgt := 1745) rfl ?_
        exact bs_weak (bf_s1 (bf_s1 (bf_s1 (bf_s1 bf_s0)))) (t_L_law_1745 C hR hG hX hW S24 (x3) Q B18 hB18 h)
      · replace h := h.2.2.2.2.1 (bf_i32 c (by decide))
        refine bs_aload_n C (bf_dk dd_L_law_2 3 rfl) rfl ?_
        refine bs_callGV_i (ps := [0, 1, 2, 3, 4, 5, 6, 7, 8, 9, 10, 11, 12, 13, 14, 15, 16, 17, 18, 19, 20, 21, 22, 23, 24, 25, 26, 27, 28, 29, 30, 31, 32, 33, 34, 35, 36, 37, 38, 39, 40, 41, 42, 43, 44, 45, 46, 47, 48, 49, 50, 51, 52, 53, 54, 55, 56, 57, 58, 59, 60, 61, 62, 63, 64, 65, 66, 67]) (w := (bW8_9 S)) C hR hG (c_X8_row _ _ _ _ _ S.1 _ h) my_X8_row m_L_28 rfl cl_8 (ge_bW8_0 _) rfl (Nat.le_of_ble_eq_true rfl) (Nat.le_of_ble_eq_true rfl) (su_bW8_9_0_bW8 S) bnd_0t67 (st := []) (Nat.le_of_ble_eq_true rfl) (bf_dk dd_L_law_2 4 rfl) rfl (fun _ => rfl) (w2 := fun u26 => bW8_9 (u26, S.2)) (pt_bW8_9_0_bW8 S) (fun r25 u26 h => ?_)
        refine bs_nameS bW8_9 (fun S27 eS27 => ?_)
        replace h := h S27 eS27
        refine bs_pop C (bf_dk dd_L_law_2 5 rfl) rfl ?_
        refine bs_aload_n C (bf_dk dd_L_law_2 6 rfl) rfl ?_
        refine bs_callV_i (ps := [68, 69, 70, 71, 72, 73, 74, 75, 76, 77, 78, 79, 80, 81, 82, 83, 84, 85, 86, 87, 88]) (w := (bW8_9 S27)) C hR (c_X9_row _ _ _ _ _ S27.2 _ h) my_X9_row m_L_31 rfl cl_9 (ge_bW9_0 _) rfl (Nat.le_of_ble_eq_true rfl) (Nat.le_of_ble_eq_true rfl) (su_bW8_9_68_bW9 S27) bnd_68t88 (st := []) (Nat.le_of_ble_eq_true rfl) (bf_dk dd_L_law_2 7 rfl) rfl (fun _ => rfl) (w2 := fun u29 => bW8_9 (S27.1, u29)) (pt_bW8_9_68_bW9 S27) (fun r28 u29 h => ?_)
        refine bs_nameS bW8_9 (fun S30 eS30 => ?_)
        replace h := h S30 eS30
        refine bs_pop C (bf_dk dd_L_law_2 8 rfl) rfl ?_
        refine bs_goto C (bf_dk dd_L_law_2 9 rfl) (tgt := 1745) rfl ?_
        exact bs_weak (bf_s1 (bf_s1 (bf_s1 (bf_s1 bf_s0)))) (t_L_law_1745 C hR hG hX hW S30 (x3) Q B18 hB18 h)
      · replace h := h.2.2.2.2.2.1 (bf_i32 c (by decide))
        refine bs_aload_n C (bf_dk dd_L_law_2 10 rfl) rfl ?_
        refine bs_callV_i (ps := [0, 1, 2, 3, 4, 5, 6, 7, 8, 9, 10, 11, 12, 13, 14, 15, 16, 17, 18, 19, 20, 21, 22, 23, 24, 25, 26, 27, 28, 29, 30, 31, 32, 33, 34, 35, 36, 37, 38, 39, 40, 41, 42, 43, 44, 45, 46, 47, 48, 49, 50, 51, 52, 53, 54, 55, 56, 57, 58, 59, 60, 61, 62, 63, 64, 65, 66, 67]) (w := (bW8_9 S)) C hR (c_X8_keys _ _ _ _ _ S.1 _ h) my_X8_keys m_L_32 rfl cl_8 (ge_bW8_0 _) rfl (Nat.le_of_ble_eq_true rfl) (Nat.le_of_ble_eq_true rfl) (su_bW8_9_0_bW8 S) bnd_0t67 (st := []) (Nat.le_of_ble_eq_true rfl) (bf_dk dd_L_law_2 11 rfl) rfl (fun _ => rfl) (w2 := fun u32 => bW8_9 (u32, S.2)) (pt_bW8_9_0_bW8 S) (fun r31 u32 h => ?_)
        refine bs_nameS bW8_9 (fun S33 eS33 => ?_)
        replace h := h S33 eS33
        refine bs_pop C (bf_dk dd_L_law_2 12 rfl) rfl ?_
        refine bs_aload_n C (bf_dk dd_L_law_2 13 rfl) rfl ?_
        refine bs_callV_i (ps := [68, 69, 70, 71, 72, 73, 74, 75, 76, 77, 78, 79, 80, 81, 82, 83, 84, 85, 86, 87, 88]) (w := (bW8_9 S33)) C hR (c_X9_keys _ _ _ _ _ S33.2 _ h) my_X9_keys m_L_35 rfl cl_9 (ge_bW9_0 _) rfl (Nat.le_of_ble_eq_true rfl) (Nat.le_of_ble_eq_true rfl) (su_bW8_9_68_bW9 S33) bnd_68t88 (st := []) (Nat.le_of_ble_eq_true rfl) (bf_dk dd_L_law_2 14 rfl) rfl (fun _ => rfl) (w2 := fun u35 => bW8_9 (S33.1, u35)) (pt_bW8_9_68_bW9 S33) (fun r34 u35 h => ?_)
        refine bs_nameS bW8_9 (fun S36 eS36 => ?_)
        replace h := h S36 eS36
        refine bs_pop C (bf_dk dd_L_law_2 15 rfl) rfl ?_
        refine bs_goto C (bf_dk dd_L_law_2 16 rfl) (tgt := 1745) rfl ?_
        exact bs_weak (bf_s1 (bf_s1 (bf_s1 (bf_s1 bf_s0)))) (t_L_law_1745 C hR hG hX hW S36 (x3) Q B18 hB18 h)
      · replace h := h.2.2.2.2.2.2.1 (bf_i32 c (by decide))
        refine bs_aload_n C (bf_dk dd_L_law_2 17 rfl) rfl ?_
        refine bs_aload_n C (bf_dk dd_L_law_2 18 rfl) rfl ?_
        refine bs_iload_n C (bf_dk dd_L_law_2 19 rfl) rfl ?_
        refine bs_iconst C (bf_dk dd_L_law_2 20 rfl) (1 : Int32) (by decide) ?_
        refine bs_iadd C (bf_dk dd_L_law_2 21 rfl) ?_
        obtain ⟨hi, h⟩ := h
        refine bs_sld C hX hW (bf_dk dd_L_law_2 22 rfl) hi ?_
        refine bs_aload_n C (bf_dk dd_L_law_2 23 rfl) rfl ?_
        refine bs_iload_n C (bf_dk dd_L_law_2 24 rfl) rfl ?_
        refine bs_iconst C (bf_dk dd_L_law_2 25 rfl) (2 : Int32) (by decide) ?_
        refine bs_iadd C (bf_dk dd_L_law_2 26 rfl) ?_
        obtain ⟨hi, h⟩ := h
        refine bs_sld C hX hW (bf_dk dd_L_law_2 27 rfl) hi ?_
        refine bs_callGV_i (ps := [0, 1, 2, 3, 4, 5, 6, 7, 8, 9, 10, 11, 12, 13, 14, 15, 16, 17, 18, 19, 20, 21, 22, 23, 24, 25, 26, 27, 28, 29, 30, 31, 32, 33, 34, 35, 36, 37, 38, 39, 40, 41, 42, 43, 44, 45, 46, 47, 48, 49, 50, 51, 52, 53, 54, 55, 56, 57, 58, 59, 60, 61, 62, 63, 64, 65, 66, 67]) (w := (bW8_9 S)) C hR hG (c_X8_set _ _ _ _ _ S.1 ((scr ((x3 + (1 : Int32))).toNatClampNeg)) ((scr ((x3 + (2 : Int32))).toNatClampNeg)) _ h) my_X8_set m_L_36 rfl cl_8 (ge_bW8_0 _) rfl (Nat.le_of_ble_eq_true rfl) (Nat.le_of_ble_eq_true rfl) (su_bW8_9_0_bW8 S) bnd_0t67 (st := []) (Nat.le_of_ble_eq_true rfl) (bf_dk dd_L_law_2 28 rfl) rfl (fun _ => rfl) (w2 := fun u38 => bW8_9 (u38, S.2)) (pt_bW8_9_0_bW8 S) (fun r37 u38 h => ?_)
        refine bs_nameS bW8_9 (fun S39 eS39 => ?_)
        replace h := h S39 eS39
        refine bs_pop C (bf_dk dd_L_law_2 29 rfl) rfl ?_
        refine bs_aload_n C (bf_dk dd_L_law_2 30 rfl) rfl ?_
        refine bs_aload_n C (bf_dk dd_L_law_2 31 rfl) rfl ?_
        refine bs_iload_n C (bf_dk dd_L_law_2 32 rfl) rfl ?_
        refine bs_iconst C (bf_dk dd_L_law_2 33 rfl) (1 : Int32) (by decide) ?_
        refine bs_iadd C (bf_dk dd_L_law_2 34 rfl) ?_
        obtain ⟨hi, h⟩ := h
        refine bs_sld C hX hW (bf_dk dd_L_law_2 35 rfl) hi ?_
        refine bs_aload_n C (bf_dk dd_L_law_2 36 rfl) rfl ?_
        refine bs_iload_n C (bf_dk dd_L_law_2 37 rfl) rfl ?_
        refine bs_iconst C (bf_dk dd_L_law_2 38 rfl) (2 : Int32) (by decide) ?_
        refine bs_iadd C (bf_dk dd_L_law_2 39 rfl) ?_
        obtain ⟨hi, h⟩ := h
        refine bs_sld C hX hW (bf_dk dd_L_law_2 40 rfl) hi ?_
        refine bs_callV_i (ps := [68, 69, 70, 71, 72, 73, 74, 75, 76, 77, 78, 79, 80, 81, 82, 83, 84, 85, 86, 87, 88]) (w := (bW8_9 S39)) C hR (c_X9_set _ _ _ _ _ S39.2 ((scr ((x3 + (1 : Int32))).toNatClampNeg)) ((scr ((x3 + (2 : Int32))).toNatClampNeg)) _ h) my_X9_set m_L_40 rfl cl_9 (ge_bW9_0 _) rfl (Nat.le_of_ble_eq_true rfl) (Nat.le_of_ble_eq_true rfl) (su_bW8_9_68_bW9 S39) bnd_68t88 (st := []) (Nat.le_of_ble_eq_true rfl) (bf_dk dd_L_law_2 41 rfl) rfl (fun _ => rfl) (w2 := fun u41 => bW8_9 (S39.1, u41)) (pt_bW8_9_68_bW9 S39) (fun r40 u41 h => ?_)
        refine bs_nameS bW8_9 (fun S42 eS42 => ?_)
        replace h := h S42 eS42
        refine bs_pop C (bf_dk dd_L_law_2 42 rfl) rfl ?_
        refine bs_goto C (bf_dk dd_L_law_2 43 rfl) (tgt := 1745) rfl ?_
        exact bs_weak (bf_s1 (bf_s1 (bf_s1 (bf_s1 bf_s0)))) (t_L_law_1745 C hR hG hX hW S42 (x3) Q B18 hB18 h)
      · replace h := h.2.2.2.2.2.2.2.1 (bf_i32 c (by decide))
        refine bs_aload_n C (bf_dk dd_L_law_2 44 rfl) rfl ?_
        refine bs_aload_n C (bf_dk dd_L_law_2 45 rfl) rfl ?_
        refine bs_iload_n C (bf_dk dd_L_law_2 46 rfl) rfl ?_
        refine bs_iconst C (bf_dk dd_L_law_2 47 rfl) (1 : Int32) (by decide) ?_
        refine bs_iadd C (bf_dk dd_L_law_2 48 rfl) ?_
        obtain ⟨hi, h⟩ := h
        refine bs_sld C hX hW (bf_dk dd_L_law_2 49 rfl) hi ?_
        refine bs_callV_i (ps := [0, 1, 2, 3, 4, 5, 6, 7, 8, 9, 10, 11, 12, 13, 14, 15, 16, 17, 18, 19, 20, 21, 22, 23, 24, 25, 26, 27, 28, 29, 30, 31, 32, 33, 34, 35, 36, 37, 38, 39, 40, 41, 42, 43, 44, 45, 46, 47, 48, 49, 50, 51, 52, 53, 54, 55, 56, 57, 58, 59, 60, 61, 62, 63, 64, 65, 66, 67]) (w := (bW8_9 S)) C hR (c_X8_state _ _ _ _ _ S.1 ((scr ((x3 + (1 : Int32))).toNatClampNeg)) _ h) my_X8_state m_L_41 rfl cl_8 (ge_bW8_0 _) rfl (Nat.le_of_ble_eq_true rfl) (Nat.le_of_ble_eq_true rfl) (su_bW8_9_0_bW8 S) bnd_0t67 (st := []) (Nat.le_of_ble_eq_true rfl) (bf_dk dd_L_law_3 0 rfl) rfl (fun _ => rfl) (w2 := fun u44 => bW8_9 (u44, S.2)) (pt_bW8_9_0_bW8 S) (fun r43 u44 h => ?_)
        refine bs_nameS bW8_9 (fun S45 eS45 => ?_)
        replace h := h S45 eS45
        refine bs_pop C (bf_dk dd_L_law_3 1 rfl) rfl ?_
        refine bs_aload_n C (bf_dk dd_L_law_3 2 rfl) rfl ?_
        refine bs_aload_n C (bf_dk dd_L_law_3 3 rfl) rfl ?_
        refine bs_iload_n C (bf_dk dd_L_law_3 4 rfl) rfl ?_
        refine bs_iconst C (bf_dk dd_L_law_3 5 rfl) (1 : Int32) (by decide) ?_
        refine bs_iadd C (bf_dk dd_L_law_3 6 rfl) ?_
        obtain ⟨hi, h⟩ := h
        refine bs_sld C hX hW (bf_dk dd_L_law_3 7 rfl) hi ?_
        refine bs_callV_i (ps := [68, 69, 70, 71, 72, 73, 74, 75, 76, 77, 78, 79, 80, 81, 82, 83, 84, 85, 86, 87, 88]) (w := (bW8_9 S45)) C hR (c_X9_state _ _ _ _ _ S45.2 ((scr ((x3 + (1 : Int32))).toNatClampNeg)) _ h) my_X9_state m_L_45 rfl cl_9 (ge_bW9_0 _) rfl (Nat.le_of_ble_eq_true rfl) (Nat.le_of_ble_eq_true rfl) (su_bW8_9_68_bW9 S45) bnd_68t88 (st := []) (Nat.le_of_ble_eq_true rfl) (bf_dk dd_L_law_3 8 rfl) rfl (fun _ => rfl) (w2 := fun u47 => bW8_9 (S45.1, u47)) (pt_bW8_9_68_bW9 S45) (fun r46 u47 h => ?_)
        refine bs_nameS bW8_9 (fun S48 eS48 => ?_)
        replace h := h S48 eS48
        refine bs_pop C (bf_dk dd_L_law_3 9 rfl) rfl ?_
        refine bs_goto C (bf_dk dd_L_law_3 10 rfl) (tgt := 1745) rfl ?_
        exact bs_weak (bf_s1 (bf_s1 (bf_s1 (bf_s1 bf_s0)))) (t_L_law_1745 C hR hG hX hW S48 (x3) Q B18 hB18 h)
      · replace h := h.2.2.2.2.2.2.2.2.1 (bf_i32 c (by decide))
        refine bs_aload_n C (bf_dk dd_L_law_3 11 rfl) rfl ?_
        refine bs_aload_n C (bf_dk dd_L_law_3 12 rfl) rfl ?_
        refine bs_iload_n C (bf_dk dd_L_law_3 13 rfl) rfl ?_
        refine bs_iconst C (bf_dk dd_L_law_3 14 rfl) (1 : Int32) (by decide) ?_
        refine bs_iadd C (bf_dk dd_L_law_3 15 rfl) ?_
        obtain ⟨hi, h⟩ := h
        refine bs_sld C hX hW (bf_dk dd_L_law_3 16 rfl) hi ?_
        refine bs_aload_n C (bf_dk dd_L_law_3 17 rfl) rfl ?_
        refine bs_iload_n C (bf_dk dd_L_law_3 18 rfl) rfl ?_
        refine bs_iconst C (bf_dk dd_L_law_3 19 rfl) (2 : Int32) (by decide) ?_
        refine bs_iadd C (bf_dk dd_L_law_3 20 rfl) ?_
        obtain ⟨hi, h⟩ := h
        refine bs_sld C hX hW (bf_dk dd_L_law_3 21 rfl) hi ?_
        refine bs_aload_n C (bf_dk dd_L_law_3 22 rfl) rfl ?_
        refine bs_iload_n C (bf_dk dd_L_law_3 23 rfl) rfl ?_
        refine bs_iconst C (bf_dk dd_L_law_3 24 rfl) (3 : Int32) (by decide) ?_
        refine bs_iadd C (bf_dk dd_L_law_3 25 rfl) ?_
        obtain ⟨hi, h⟩ := h
        refine bs_sld C hX hW (bf_dk dd_L_law_3 26 rfl) hi ?_
        refine bs_callV_i (ps := [0, 1, 2, 3, 4, 5, 6, 7, 8, 9, 10, 11, 12, 13, 14, 15, 16, 17, 18, 19, 20, 21, 22, 23, 24, 25, 26, 27, 28, 29, 30, 31, 32, 33, 34, 35, 36, 37, 38, 39, 40, 41, 42, 43, 44, 45, 46, 47, 48, 49, 50, 51, 52, 53, 54, 55, 56, 57, 58, 59, 60, 61, 62, 63, 64, 65, 66, 67]) (w := (bW8_9 S)) C hR (c_X8_add _ _ _ _ _ S.1 ((scr ((x3 + (1 : Int32))).toNatClampNeg)) ((scr ((x3 + (2 : Int32))).toNatClampNeg)) ((scr ((x3 + (3 : Int32))).toNatClampNeg)) _ h) my_X8_add m_L_46 rfl cl_8 (ge_bW8_0 _) rfl (Nat.le_of_ble_eq_true rfl) (Nat.le_of_ble_eq_true rfl) (su_bW8_9_0_bW8 S) bnd_0t67 (st := []) (Nat.le_of_ble_eq_true rfl) (bf_dk dd_L_law_3 27 rfl) rfl (fun _ => rfl) (w2 := fun u50 => bW8_9 (u50, S.2)) (pt_bW8_9_0_bW8 S) (fun r49 u50 h => ?_)
        refine bs_nameS bW8_9 (fun S51 eS51 => ?_)
        replace h := h S51 eS51
        refine bs_pop C (bf_dk dd_L_law_3 28 rfl) rfl ?_
        refine bs_aload_n C (bf_dk dd_L_law_3 29 rfl) rfl ?_
        refine bs_aload_n C (bf_dk dd_L_law_3 30 rfl) rfl ?_
        refine bs_iload_n C (bf_dk dd_L_law_3 31 rfl) rfl ?_
        refine bs_iconst C (bf_dk dd_L_law_3 32 rfl) (1 : Int32) (by decide) ?_
        refine bs_iadd C (bf_dk dd_L_law_3 33 rfl) ?_
        obtain ⟨hi, h⟩ := h
        refine bs_sld C hX hW (bf_dk dd_L_law_3 34 rfl) hi ?_
        refine bs_aload_n C (bf_dk dd_L_law_3 35 rfl) rfl ?_
        refine bs_iload_n C (bf_dk dd_L_law_3 36 rfl) rfl ?_
        refine bs_iconst C (bf_dk dd_L_law_3 37 rfl) (2 : Int32) (by decide) ?_
        refine bs_iadd C (bf_dk dd_L_law_3 38 rfl) ?_
        obtain ⟨hi, h⟩ := h
        refine bs_sld C hX hW (bf_dk dd_L_law_3 39 rfl) hi ?_
        refine bs_aload_n C (bf_dk dd_L_law_3 40 rfl) rfl ?_
        refine bs_iload_n C (bf_dk dd_L_law_3 41 rfl) rfl ?_
        refine bs_iconst C (bf_dk dd_L_law_3 42 rfl) (3 : Int32) (by decide) ?_
        refine bs_iadd C (bf_dk dd_L_law_3 43 rfl) ?_
        obtain ⟨hi, h⟩ := h
        refine bs_sld C hX hW (bf_dk dd_L_law_3 44 rfl) hi ?_
        refine bs_callV_i (ps := [68, 69, 70, 71, 72, 73, 74, 75, 76, 77, 78, 79, 80, 81, 82, 83, 84, 85, 86, 87, 88]) (w := (bW8_9 S51)) C hR (c_X9_add _ _ _ _ _ S51.2 ((scr ((x3 + (1 : Int32))).toNatClampNeg)) ((scr ((x3 + (2 : Int32))).toNatClampNeg)) ((scr ((x3 + (3 : Int32))).toNatClampNeg)) _ h) my_X9_add m_L_50 rfl cl_9 (ge_bW9_0 _) rfl (Nat.le_of_ble_eq_true rfl) (Nat.le_of_ble_eq_true rfl) (su_bW8_9_68_bW9 S51) bnd_68t88 (st := []) (Nat.le_of_ble_eq_true rfl) (bf_dk dd_L_law_3 45 rfl) rfl (fun _ => rfl) (w2 := fun u53 => bW8_9 (S51.1, u53)) (pt_bW8_9_68_bW9 S51) (fun r52 u53 h => ?_)
        refine bs_nameS bW8_9 (fun S54 eS54 => ?_)
        replace h := h S54 eS54
        refine bs_pop C (bf_dk dd_L_law_3 46 rfl) rfl ?_
        refine bs_goto C (bf_dk dd_L_law_3 47 rfl) (tgt := 1745) rfl ?_
        exact bs_weak (bf_s1 (bf_s1 (bf_s1 (bf_s1 bf_s0)))) (t_L_law_1745 C hR hG hX hW S54 (x3) Q B18 hB18 h)
      · replace h := h.2.2.2.2.2.2.2.2.2.1 (bf_i32 c (by decide))
        refine bs_aload_n C (bf_dk dd_L_law_3 48 rfl) rfl ?_
        refine bs_aload_n C (bf_dk dd_L_law_3 49 rfl) rfl ?_
        refine bs_iload_n C (bf_dk dd_L_law_4 0 rfl) rfl ?_
        refine bs_iconst C (bf_dk dd_L_law_4 1 rfl) (1 : Int32) (by decide) ?_
        refine bs_iadd C (bf_dk dd_L_law_4 2 rfl) ?_
        obtain ⟨hi, h⟩ := h
        refine bs_sld C hX hW (bf_dk dd_L_law_4 3 rfl) hi ?_
        refine bs_aload_n C (bf_dk dd_L_law_4 4 rfl) rfl ?_
        refine bs_iload_n C (bf_dk dd_L_law_4 5 rfl) rfl ?_
        refine bs_iconst C (bf_dk dd_L_law_4 6 rfl) (2 : Int32) (by decide) ?_
        refine bs_iadd C (bf_dk dd_L_law_4 7 rfl) ?_
        obtain ⟨hi, h⟩ := h
        refine bs_sld C hX hW (bf_dk dd_L_law_4 8 rfl) hi ?_
        refine bs_aload_n C (bf_dk dd_L_law_4 9 rfl) rfl ?_
        refine bs_iload_n C (bf_dk dd_L_law_4 10 rfl) rfl ?_
        refine bs_iconst C (bf_dk dd_L_law_4 11 rfl) (3 : Int32) (by decide) ?_
        refine bs_iadd C (bf_dk dd_L_law_4 12 rfl) ?_
        obtain ⟨hi, h⟩ := h
        refine bs_sld C hX hW (bf_dk dd_L_law_4 13 rfl) hi ?_
        refine bs_callV_i (ps := [0, 1, 2, 3, 4, 5, 6, 7, 8, 9, 10, 11, 12, 13, 14, 15, 16, 17, 18, 19, 20, 21, 22, 23, 24, 25, 26, 27, 28, 29, 30, 31, 32, 33, 34, 35, 36, 37, 38, 39, 40, 41, 42, 43, 44, 45, 46, 47, 48, 49, 50, 51, 52, 53, 54, 55, 56, 57, 58, 59, 60, 61, 62, 63, 64, 65, 66, 67]) (w := (bW8_9 S)) C hR (c_X8_remove _ _ _ _ _ S.1 ((scr ((x3 + (1 : Int32))).toNatClampNeg)) ((scr ((x3 + (2 : Int32))).toNatClampNeg)) ((scr ((x3 + (3 : Int32))).toNatClampNeg)) _ h) my_X8_remove m_L_51 rfl cl_8 (ge_bW8_0 _) rfl (Nat.le_of_ble_eq_true rfl) (Nat.le_of_ble_eq_true rfl) (su_bW8_9_0_bW8 S) bnd_0t67 (st := []) (Nat.le_of_ble_eq_true rfl) (bf_dk dd_L_law_4 14 rfl) rfl (fun _ => rfl) (w2 := fun u56 => bW8_9 (u56, S.2)) (pt_bW8_9_0_bW8 S) (fun r55 u56 h => ?_)
        refine bs_nameS bW8_9 (fun S57 eS57 => ?_)
        replace h := h S57 eS57
        refine bs_pop C (bf_dk dd_L_law_4 15 rfl) rfl ?_
        refine bs_aload_n C (bf_dk dd_L_law_4 16 rfl) rfl ?_
        refine bs_aload_n C (bf_dk dd_L_law_4 17 rfl) rfl ?_
        refine bs_iload_n C (bf_dk dd_L_law_4 18 rfl) rfl ?_
        refine bs_iconst C (bf_dk dd_L_law_4 19 rfl) (1 : Int32) (by decide) ?_
        refine bs_iadd C (bf_dk dd_L_law_4 20 rfl) ?_
        obtain ⟨hi, h⟩ := h
        refine bs_sld C hX hW (bf_dk dd_L_law_4 21 rfl) hi ?_
        refine bs_aload_n C (bf_dk dd_L_law_4 22 rfl) rfl ?_
        refine bs_iload_n C (bf_dk dd_L_law_4 23 rfl) rfl ?_
        refine bs_iconst C (bf_dk dd_L_law_4 24 rfl) (2 : Int32) (by decide) ?_
        refine bs_iadd C (bf_dk dd_L_law_4 25 rfl) ?_
        obtain ⟨hi, h⟩ := h
        refine bs_sld C hX hW (bf_dk dd_L_law_4 26 rfl) hi ?_
        refine bs_aload_n C (bf_dk dd_L_law_4 27 rfl) rfl ?_
        refine bs_iload_n C (bf_dk dd_L_law_4 28 rfl) rfl ?_
        refine bs_iconst C (bf_dk dd_L_law_4 29 rfl) (3 : Int32) (by decide) ?_
        refine bs_iadd C (bf_dk dd_L_law_4 30 rfl) ?_
        obtain ⟨hi, h⟩ := h
        refine bs_sld C hX hW (bf_dk dd_L_law_4 31 rfl) hi ?_
        refine bs_callV_i (ps := [68, 69, 70, 71, 72, 73, 74, 75, 76, 77, 78, 79, 80, 81, 82, 83, 84, 85, 86, 87, 88]) (w := (bW8_9 S57)) C hR (c_X9_remove _ _ _ _ _ S57.2 ((scr ((x3 + (1 : Int32))).toNatClampNeg)) ((scr ((x3 + (2 : Int32))).toNatClampNeg)) ((scr ((x3 + (3 : Int32))).toNatClampNeg)) _ h) my_X9_remove m_L_54 rfl cl_9 (ge_bW9_0 _) rfl (Nat.le_of_ble_eq_true rfl) (Nat.le_of_ble_eq_true rfl) (su_bW8_9_68_bW9 S57) bnd_68t88 (st := []) (Nat.le_of_ble_eq_true rfl) (bf_dk dd_L_law_4 32 rfl) rfl (fun _ => rfl) (w2 := fun u59 => bW8_9 (S57.1, u59)) (pt_bW8_9_68_bW9 S57) (fun r58 u59 h => ?_)
        refine bs_nameS bW8_9 (fun S60 eS60 => ?_)
        replace h := h S60 eS60
        refine bs_pop C (bf_dk dd_L_law_4 33 rfl) rfl ?_
        refine bs_goto C (bf_dk dd_L_law_4 34 rfl) (tgt := 1745) rfl ?_
        exact bs_weak (bf_s1 (bf_s1 (bf_s1 (bf_s1 bf_s0)))) (t_L_law_1745 C hR hG hX hW S60 (x3) Q B18 hB18 h)
      · replace h := h.2.2.2.2.2.2.2.2.2.2.1 (bf_i32 c (by decide))
        refine bs_aload_n C (bf_dk dd_L_law_4 35 rfl) rfl ?_
        refine bs_aload_n C (bf_dk dd_L_law_4 36 rfl) rfl ?_
        refine bs_iload_n C (bf_dk dd_L_law_4 37 rfl) rfl ?_
        refine bs_iconst C (bf_dk dd_L_law_4 38 rfl) (1 : Int32) (by decide) ?_
        refine bs_iadd C (bf_dk dd_L_law_4 39 rfl) ?_
        obtain ⟨hi, h⟩ := h
        refine bs_sld C hX hW (bf_dk dd_L_law_4 40 rfl) hi ?_
        refine bs_aload_n C (bf_dk dd_L_law_4 41 rfl) rfl ?_
        refine bs_iload_n C (bf_dk dd_L_law_4 42 rfl) rfl ?_
        refine bs_iconst C (bf_dk dd_L_law_4 43 rfl) (2 : Int32) (by decide) ?_
        refine bs_iadd C (bf_dk dd_L_law_4 44 rfl) ?_
        obtain ⟨hi, h⟩ := h
        refine bs_sld C hX hW (bf_dk dd_L_law_4 45 rfl) hi ?_
        refine bs_callV_i (ps := [0, 1, 2, 3, 4, 5, 6, 7, 8, 9, 10, 11, 12, 13, 14, 15, 16, 17, 18, 19, 20, 21, 22, 23, 24, 25, 26, 27, 28, 29, 30, 31, 32, 33, 34, 35, 36, 37, 38, 39, 40, 41, 42, 43, 44, 45, 46, 47, 48, 49, 50, 51, 52, 53, 54, 55, 56, 57, 58, 59, 60, 61, 62, 63, 64, 65, 66, 67]) (w := (bW8_9 S)) C hR (c_X8_fill _ _ _ _ _ S.1 ((scr ((x3 + (1 : Int32))).toNatClampNeg)) ((scr ((x3 + (2 : Int32))).toNatClampNeg)) _ h) my_X8_fill m_L_55 rfl cl_8 (ge_bW8_0 _) rfl (Nat.le_of_ble_eq_true rfl) (Nat.le_of_ble_eq_true rfl) (su_bW8_9_0_bW8 S) bnd_0t67 (st := []) (Nat.le_of_ble_eq_true rfl) (bf_dk dd_L_law_4 46 rfl) rfl (fun _ => rfl) (w2 := fun u62 => bW8_9 (u62, S.2)) (pt_bW8_9_0_bW8 S) (fun r61 u62 h => ?_)
        refine bs_nameS bW8_9 (fun S63 eS63 => ?_)
        replace h := h S63 eS63
        refine bs_pop C (bf_dk dd_L_law_4 47 rfl) rfl ?_
        refine bs_aload_n C (bf_dk dd_L_law_4 48 rfl) rfl ?_
        refine bs_aload_n C (bf_dk dd_L_law_4 49 rfl) rfl ?_
        refine bs_iload_n C (bf_dk dd_L_law_5 0 rfl) rfl ?_
        refine bs_iconst C (bf_dk dd_L_law_5 1 rfl) (1 : Int32) (by decide) ?_
        refine bs_iadd C (bf_dk dd_L_law_5 2 rfl) ?_
        obtain ⟨hi, h⟩ := h
        refine bs_sld C hX hW (bf_dk dd_L_law_5 3 rfl) hi ?_
        refine bs_aload_n C (bf_dk dd_L_law_5 4 rfl) rfl ?_
        refine bs_iload_n C (bf_dk dd_L_law_5 5 rfl) rfl ?_
        refine bs_iconst C (bf_dk dd_L_law_5 6 rfl) (2 : Int32) (by decide) ?_
        refine bs_iadd C (bf_dk dd_L_law_5 7 rfl) ?_
        obtain ⟨hi, h⟩ := h
        refine bs_sld C hX hW (bf_dk dd_L_law_5 8 rfl) hi ?_
        refine bs_callV_i (ps := [68, 69, 70, 71, 72, 73, 74, 75, 76, 77, 78, 79, 80, 81, 82, 83, 84, 85, 86, 87, 88]) (w := (bW8_9 S63)) C hR (c_X9_fill _ _ _ _ _ S63.2 ((scr ((x3 + (1 : Int32))).toNatClampNeg)) ((scr ((x3 + (2 : Int32))).toNatClampNeg)) _ h) my_X9_fill m_L_59 rfl cl_9 (ge_bW9_0 _) rfl (Nat.le_of_ble_eq_true rfl) (Nat.le_of_ble_eq_true rfl) (su_bW8_9_68_bW9 S63) bnd_68t88 (st := []) (Nat.le_of_ble_eq_true rfl) (bf_dk dd_L_law_5 9 rfl) rfl (fun _ => rfl) (w2 := fun u65 => bW8_9 (S63.1, u65)) (pt_bW8_9_68_bW9 S63) (fun r64 u65 h => ?_)
        refine bs_nameS bW8_9 (fun S66 eS66 => ?_)
        replace h := h S66 eS66
        refine bs_pop C (bf_dk dd_L_law_5 10 rfl) rfl ?_
        refine bs_goto C (bf_dk dd_L_law_5 11 rfl) (tgt := 1745) rfl ?_
        exact bs_weak (bf_s1 (bf_s1 (bf_s1 (bf_s1 bf_s0)))) (t_L_law_1745 C hR hG hX hW S66 (x3) Q B18 hB18 h)
      · replace h := h.2.2.2.2.2.2.2.2.2.2.2.1 (bf_i32 c (by decide))
        refine bs_aload_n C (bf_dk dd_L_law_5 12 rfl) rfl ?_
        refine bs_callV_i (ps := [0, 1, 2, 3, 4, 5, 6, 7, 8, 9, 10, 11, 12, 13, 14, 15, 16, 17, 18, 19, 20, 21, 22, 23, 24, 25, 26, 27, 28, 29, 30, 31, 32, 33, 34, 35, 36, 37, 38, 39, 40, 41, 42, 43, 44, 45, 46, 47, 48, 49, 50, 51, 52, 53, 54, 55, 56, 57, 58, 59, 60, 61, 62, 63, 64, 65, 66, 67]) (w := (bW8_9 S)) C hR (c_X8_build _ _ _ _ _ S.1 _ h) my_X8_build m_L_60 rfl cl_8 (ge_bW8_0 _) rfl (Nat.le_of_ble_eq_true rfl) (Nat.le_of_ble_eq_true rfl) (su_bW8_9_0_bW8 S) bnd_0t67 (st := []) (Nat.le_of_ble_eq_true rfl) (bf_dk dd_L_law_5 13 rfl) rfl (fun _ => rfl) (w2 := fun u68 => bW8_9 (u68, S.2)) (pt_bW8_9_0_bW8 S) (fun r67 u68 h => ?_)
        refine bs_nameS bW8_9 (fun S69 eS69 => ?_)
        replace h := h S69 eS69
        refine bs_pop C (bf_dk dd_L_law_5 14 rfl) rfl ?_
        refine bs_aload_n C (bf_dk dd_L_law_5 15 rfl) rfl ?_
        refine bs_callV_i (ps := [68, 69, 70, 71, 72, 73, 74, 75, 76, 77, 78, 79, 80, 81, 82, 83, 84, 85, 86, 87, 88]) (w := (bW8_9 S69)) C hR (c_X9_build _ _ _ _ _ S69.2 _ h) my_X9_build m_L_63 rfl cl_9 (ge_bW9_0 _) rfl (Nat.le_of_ble_eq_true rfl) (Nat.le_of_ble_eq_true rfl) (su_bW8_9_68_bW9 S69) bnd_68t88 (st := []) (Nat.le_of_ble_eq_true rfl) (bf_dk dd_L_law_5 16 rfl) rfl (fun _ => rfl) (w2 := fun u71 => bW8_9 (S69.1, u71)) (pt_bW8_9_68_bW9 S69) (fun r70 u71 h => ?_)
        refine bs_nameS bW8_9 (fun S72 eS72 => ?_)
        replace h := h S72 eS72
        refine bs_pop C (bf_dk dd_L_law_5 17 rfl) rfl ?_
        refine bs_goto C (bf_dk dd_L_law_5 18 rfl) (tgt := 1745) rfl ?_
        exact bs_weak (bf_s1 (bf_s1 (bf_s1 (bf_s1 bf_s0)))) (t_L_law_1745 C hR hG hX hW S72 (x3) Q B18 hB18 h)
      · replace h := h.2.2.2.2.2.2.2.2.2.2.2.2.1 (bf_i32 c (by decide))
        refine bs_aload_n C (bf_dk dd_L_law_5 19 rfl) rfl ?_
        refine bs_aload_n C (bf_dk dd_L_law_5 20 rfl) rfl ?_
        refine bs_iload_n C (bf_dk dd_L_law_5 21 rfl) rfl ?_
        refine bs_iconst C (bf_dk dd_L_law_5 22 rfl) (1 : Int32) (by decide) ?_
        refine bs_iadd C (bf_dk dd_L_law_5 23 rfl) ?_
        obtain ⟨hi, h⟩ := h
        refine bs_sld C hX hW (bf_dk dd_L_law_5 24 rfl) hi ?_
        refine bs_aload_n C (bf_dk dd_L_law_5 25 rfl) rfl ?_
        refine bs_iload_n C (bf_dk dd_L_law_5 26 rfl) rfl ?_
        refine bs_iconst C (bf_dk dd_L_law_5 27 rfl) (2 : Int32) (by decide) ?_
        refine bs_iadd C (bf_dk dd_L_law_5 28 rfl) ?_
        obtain ⟨hi, h⟩ := h
        refine bs_sld C hX hW (bf_dk dd_L_law_5 29 rfl) hi ?_
        refine bs_aload_n C (bf_dk dd_L_law_5 30 rfl) rfl ?_
        refine bs_iload_n C (bf_dk dd_L_law_5 31 rfl) rfl ?_
        refine bs_iconst C (bf_dk dd_L_law_5 32 rfl) (3 : Int32) (by decide) ?_
        refine bs_iadd C (bf_dk dd_L_law_5 33 rfl) ?_
        obtain ⟨hi, h⟩ := h
        refine bs_sld C hX hW (bf_dk dd_L_law_5 34 rfl) hi ?_
        refine bs_aload_n C (bf_dk dd_L_law_5 35 rfl) rfl ?_
        refine bs_iload_n C (bf_dk dd_L_law_5 36 rfl) rfl ?_
        refine bs_iconst C (bf_dk dd_L_law_5 37 rfl) (4 : Int32) (by decide) ?_
        refine bs_iadd C (bf_dk dd_L_law_5 38 rfl) ?_
        obtain ⟨hi, h⟩ := h
        refine bs_sld C hX hW (bf_dk dd_L_law_5 39 rfl) hi ?_
        refine bs_pureV_i (ps := [0, 1, 2, 3, 4, 5, 6, 7, 8, 9, 10, 11, 12, 13, 14, 15, 16, 17, 18, 19, 20, 21, 22, 23, 24, 25, 26, 27, 28, 29, 30, 31, 32, 33, 34, 35, 36, 37, 38, 39, 40, 41, 42, 43, 44, 45, 46, 47, 48, 49, 50, 51, 52, 53, 54, 55, 56, 57, 58, 59, 60, 61, 62, 63, 64, 65, 66, 67]) (w := (bW8_9 S)) C hR (c_X8_has _ _ _ _ _ S.1 ((scr ((x3 + (1 : Int32))).toNatClampNeg)) ((scr ((x3 + (2 : Int32))).toNatClampNeg)) ((scr ((x3 + (3 : Int32))).toNatClampNeg)) ((scr ((x3 + (4 : Int32))).toNatClampNeg)) _ h) my_X8_has m_L_64 rfl cl_8 (ge_bW8_0 _) rfl (Nat.le_of_ble_eq_true rfl) (Nat.le_of_ble_eq_true rfl) (su_bW8_9_0_bW8 S) bnd_0t67 (st := []) (Nat.le_of_ble_eq_true rfl) (bf_dk dd_L_law_5 40 rfl) rfl (fun _ => rfl) (fun r73 h => ?_)
        refine bs_pop C (bf_dk dd_L_law_5 41 rfl) rfl ?_
        refine bs_aload_n C (bf_dk dd_L_law_5 42 rfl) rfl ?_
        refine bs_aload_n C (bf_dk dd_L_law_5 43 rfl) rfl ?_
        refine bs_iload_n C (bf_dk dd_L_law_5 44 rfl) rfl ?_
        refine bs_iconst C (bf_dk dd_L_law_5 45 rfl) (1 : Int32) (by decide) ?_
        refine bs_iadd C (bf_dk dd_L_law_5 46 rfl) ?_
        obtain ⟨hi, h⟩ := h
        refine bs_sld C hX hW (bf_dk dd_L_law_5 47 rfl) hi ?_
        refine bs_aload_n C (bf_dk dd_L_law_5 48 rfl) rfl ?_
        refine bs_iload_n C (bf_dk dd_L_law_5 49 rfl) rfl ?_
        refine bs_iconst C (bf_dk dd_L_law_6 0 rfl) (2 : Int32) (by decide) ?_
        refine bs_iadd C (bf_dk dd_L_law_6 1 rfl) ?_
        obtain ⟨hi, h⟩ := h
        refine bs_sld C hX hW (bf_dk dd_L_law_6 2 rfl) hi ?_
        refine bs_aload_n C (bf_dk dd_L_law_6 3 rfl) rfl ?_
        refine bs_iload_n C (bf_dk dd_L_law_6 4 rfl) rfl ?_
        refine bs_iconst C (bf_dk dd_L_law_6 5 rfl) (3 : Int32) (by decide) ?_
        refine bs_iadd C (bf_dk dd_L_law_6 6 rfl) ?_
        obtain ⟨hi, h⟩ := h
        refine bs_sld C hX hW (bf_dk dd_L_law_6 7 rfl) hi ?_
        refine bs_aload_n C (bf_dk dd_L_law_6 8 rfl) rfl ?_
        refine bs_iload_n C (bf_dk dd_L_law_6 9 rfl) rfl ?_
        refine bs_iconst C (bf_dk dd_L_law_6 10 rfl) (4 : Int32) (by decide) ?_
        refine bs_iadd C (bf_dk dd_L_law_6 11 rfl) ?_
        obtain ⟨hi, h⟩ := h
        refine bs_sld C hX hW (bf_dk dd_L_law_6 12 rfl) hi ?_
        refine bs_callV_i (ps := [68, 69, 70, 71, 72, 73, 74, 75, 76, 77, 78, 79, 80, 81, 82, 83, 84, 85, 86, 87, 88]) (w := (bW8_9 S)) C hR (c_X9_has _ _ _ _ _ S.2 ((scr ((x3 + (1 : Int32))).toNatClampNeg)) ((scr ((x3 + (2 : Int32))).toNatClampNeg)) ((scr ((x3 + (3 : Int32))).toNatClampNeg)) ((scr ((x3 + (4 : Int32))).toNatClampNeg)) _ h) my_X9_has m_L_68 rfl cl_9 (ge_bW9_0 _) rfl (Nat.le_of_ble_eq_true rfl) (Nat.le_of_ble_eq_true rfl) (su_bW8_9_68_bW9 S) bnd_68t88 (st := []) (Nat.le_of_ble_eq_true rfl) (bf_dk dd_L_law_6 13 rfl) rfl (fun _ => rfl) (w2 := fun u76 => bW8_9 (S.1, u76)) (pt_bW8_9_68_bW9 S) (fun r75 u76 h => ?_)
        refine bs_nameS bW8_9 (fun S77 eS77 => ?_)
        replace h := h S77 eS77
        refine bs_pop C (bf_dk dd_L_law_6 14 rfl) rfl ?_
        refine bs_goto C (bf_dk dd_L_law_6 15 rfl) (tgt := 1745) rfl ?_
        exact bs_weak (bf_s1 (bf_s1 (bf_s1 (bf_s1 bf_s0)))) (t_L_law_1745 C hR hG hX hW S77 (x3) Q B18 hB18 h)
      · replace h := h.2.2.2.2.2.2.2.2.2.2.2.2.2.1 (bf_i32 c (by decide))
        refine bs_aload_n C (bf_dk dd_L_law_6 16 rfl) rfl ?_
        refine bs_aload_n C (bf_dk dd_L_law_6 17 rfl) rfl ?_
        refine bs_iload_n C (bf_dk dd_L_law_6 18 rfl) rfl ?_
        refine bs_iconst C (bf_dk dd_L_law_6 19 rfl) (1 : Int32) (by decide) ?_
        refine bs_iadd C (bf_dk dd_L_law_6 20 rfl) ?_
        obtain ⟨hi, h⟩ := h
        refine bs_sld C hX hW (bf_dk dd_L_law_6 21 rfl) hi ?_
        refine bs_aload_n C (bf_dk dd_L_law_6 22 rfl) rfl ?_
        refine bs_iload_n C (bf_dk dd_L_law_6 23 rfl) rfl ?_
        refine bs_iconst C (bf_dk dd_L_law_6 24 rfl) (2 : Int32) (by decide) ?_
        refine bs_iadd C (bf_dk dd_L_law_6 25 rfl) ?_
        obtain ⟨hi, h⟩ := h
        refine bs_sld C hX hW (bf_dk dd_L_law_6 26 rfl) hi ?_
        refine bs_aload_n C (bf_dk dd_L_law_6 27 rfl) rfl ?_
        refine bs_iload_n C (bf_dk dd_L_law_6 28 rfl) rfl ?_
        refine bs_iconst C (bf_dk dd_L_law_6 29 rfl) (3 : Int32) (by decide) ?_
        refine bs_iadd C (bf_dk dd_L_law_6 30 rfl) ?_
        obtain ⟨hi, h⟩ := h
        refine bs_sld C hX hW (bf_dk dd_L_law_6 31 rfl) hi ?_
        refine bs_callV_i (ps := [0, 1, 2, 3, 4, 5, 6, 7, 8, 9, 10, 11, 12, 13, 14, 15, 16, 17, 18, 19, 20, 21, 22, 23, 24, 25, 26, 27, 28, 29, 30, 31, 32, 33, 34, 35, 36, 37, 38, 39, 40, 41, 42, 43, 44, 45, 46, 47, 48, 49, 50, 51, 52, 53, 54, 55, 56, 57, 58, 59, 60, 61, 62, 63, 64, 65, 66, 67]) (w := (bW8_9 S)) C hR (c_X8_may _ _ _ _ _ S.1 ((scr ((x3 + (1 : Int32))).toNatClampNeg)) ((scr ((x3 + (2 : Int32))).toNatClampNeg)) ((scr ((x3 + (3 : Int32))).toNatClampNeg)) _ h) my_X8_may m_L_69 rfl cl_8 (ge_bW8_0 _) rfl (Nat.le_of_ble_eq_true rfl) (Nat.le_of_ble_eq_true rfl) (su_bW8_9_0_bW8 S) bnd_0t67 (st := []) (Nat.le_of_ble_eq_true rfl) (bf_dk dd_L_law_6 32 rfl) rfl (fun _ => rfl) (w2 := fun u79 => bW8_9 (u79, S.2)) (pt_bW8_9_0_bW8 S) (fun r78 u79 h => ?_)
        refine bs_nameS bW8_9 (fun S80 eS80 => ?_)
        replace h := h S80 eS80
        refine bs_pop C (bf_dk dd_L_law_6 33 rfl) rfl ?_
        refine bs_aload_n C (bf_dk dd_L_law_6 34 rfl) rfl ?_
        refine bs_aload_n C (bf_dk dd_L_law_6 35 rfl) rfl ?_
        refine bs_iload_n C (bf_dk dd_L_law_6 36 rfl) rfl ?_
        refine bs_iconst C (bf_dk dd_L_law_6 37 rfl) (1 : Int32) (by decide) ?_
        refine bs_iadd C (bf_dk dd_L_law_6 38 rfl) ?_
        obtain ⟨hi, h⟩ := h
        refine bs_sld C hX hW (bf_dk dd_L_law_6 39 rfl) hi ?_
        refine bs_aload_n C (bf_dk dd_L_law_6 40 rfl) rfl ?_
        refine bs_iload_n C (bf_dk dd_L_law_6 41 rfl) rfl ?_
        refine bs_iconst C (bf_dk dd_L_law_6 42 rfl) (2 : Int32) (by decide) ?_
        refine bs_iadd C (bf_dk dd_L_law_6 43 rfl) ?_
        obtain ⟨hi, h⟩ := h
        refine bs_sld C hX hW (bf_dk dd_L_law_6 44 rfl) hi ?_
        refine bs_aload_n C (bf_dk dd_L_law_6 45 rfl) rfl ?_
        refine bs_iload_n C (bf_dk dd_L_law_6 46 rfl) rfl ?_
        refine bs_iconst C (bf_dk dd_L_law_6 47 rfl) (3 : Int32) (by decide) ?_
        refine bs_iadd C (bf_dk dd_L_law_6 48 rfl) ?_
        obtain ⟨hi, h⟩ := h
        refine bs_sld C hX hW (bf_dk dd_L_law_6 49 rfl) hi ?_
        refine bs_callV_i (ps := [68, 69, 70, 71, 72, 73, 74, 75, 76, 77, 78, 79, 80, 81, 82, 83, 84, 85, 86, 87, 88]) (w := (bW8_9 S80)) C hR (c_X9_may _ _ _ _ _ S80.2 ((scr ((x3 + (1 : Int32))).toNatClampNeg)) ((scr ((x3 + (2 : Int32))).toNatClampNeg)) ((scr ((x3 + (3 : Int32))).toNatClampNeg)) _ h) my_X9_may m_L_72 rfl cl_9 (ge_bW9_0 _) rfl (Nat.le_of_ble_eq_true rfl) (Nat.le_of_ble_eq_true rfl) (su_bW8_9_68_bW9 S80) bnd_68t88 (st := []) (Nat.le_of_ble_eq_true rfl) (bf_dk dd_L_law_7 0 rfl) rfl (fun _ => rfl) (w2 := fun u82 => bW8_9 (S80.1, u82)) (pt_bW8_9_68_bW9 S80) (fun r81 u82 h => ?_)
        refine bs_nameS bW8_9 (fun S83 eS83 => ?_)
        replace h := h S83 eS83
        refine bs_pop C (bf_dk dd_L_law_7 1 rfl) rfl ?_
        refine bs_goto C (bf_dk dd_L_law_7 2 rfl) (tgt := 1745) rfl ?_
        exact bs_weak (bf_s1 (bf_s1 (bf_s1 (bf_s1 bf_s0)))) (t_L_law_1745 C hR hG hX hW S83 (x3) Q B18 hB18 h)
      · replace h := h.2.2.2.2.2.2.2.2.2.2.2.2.2.2.1 (bf_i32 c (by decide))
        refine bs_aload_n C (bf_dk dd_L_law_7 3 rfl) rfl ?_
        refine bs_aload_n C (bf_dk dd_L_law_7 4 rfl) rfl ?_
        refine bs_iload_n C (bf_dk dd_L_law_7 5 rfl) rfl ?_
        refine bs_iconst C (bf_dk dd_L_law_7 6 rfl) (1 : Int32) (by decide) ?_
        refine bs_iadd C (bf_dk dd_L_law_7 7 rfl) ?_
        obtain ⟨hi, h⟩ := h
        refine bs_sld C hX hW (bf_dk dd_L_law_7 8 rfl) hi ?_
        refine bs_aload_n C (bf_dk dd_L_law_7 9 rfl) rfl ?_
        refine bs_iload_n C (bf_dk dd_L_law_7 10 rfl) rfl ?_
        refine bs_iconst C (bf_dk dd_L_law_7 11 rfl) (2 : Int32) (by decide) ?_
        refine bs_iadd C (bf_dk dd_L_law_7 12 rfl) ?_
        obtain ⟨hi, h⟩ := h
        refine bs_sld C hX hW (bf_dk dd_L_law_7 13 rfl) hi ?_
        refine bs_aload_n C (bf_dk dd_L_law_7 14 rfl) rfl ?_
        refine bs_iload_n C (bf_dk dd_L_law_7 15 rfl) rfl ?_
        refine bs_iconst C (bf_dk dd_L_law_7 16 rfl) (3 : Int32) (by decide) ?_
        refine bs_iadd C (bf_dk dd_L_law_7 17 rfl) ?_
        obtain ⟨hi, h⟩ := h
        refine bs_sld C hX hW (bf_dk dd_L_law_7 18 rfl) hi ?_
        refine bs_pureV_i (ps := [0, 1, 2, 3, 4, 5, 6, 7, 8, 9, 10, 11, 12, 13, 14, 15, 16, 17, 18, 19, 20, 21, 22, 23, 24, 25, 26, 27, 28, 29, 30, 31, 32, 33, 34, 35, 36, 37, 38, 39, 40, 41, 42, 43, 44, 45, 46, 47, 48, 49, 50, 51, 52, 53, 54, 55, 56, 57, 58, 59, 60, 61, 62, 63, 64, 65, 66, 67]) (w := (bW8_9 S)) C hR (c_X8_leafOf _ _ _ _ _ S.1 ((scr ((x3 + (1 : Int32))).toNatClampNeg)) ((scr ((x3 + (2 : Int32))).toNatClampNeg)) ((scr ((x3 + (3 : Int32))).toNatClampNeg)) _ h) my_X8_leafOf m_L_73 rfl cl_8 (ge_bW8_0 _) rfl (Nat.le_of_ble_eq_true rfl) (Nat.le_of_ble_eq_true rfl) (su_bW8_9_0_bW8 S) bnd_0t67 (st := []) (Nat.le_of_ble_eq_true rfl) (bf_dk dd_L_law_7 19 rfl) rfl (fun _ => rfl) (fun r84 h => ?_)
        refine bs_pop C (bf_dk dd_L_law_7 20 rfl) rfl ?_
        refine bs_aload_n C (bf_dk dd_L_law_7 21 rfl) rfl ?_
        refine bs_aload_n C (bf_dk dd_L_law_7 22 rfl) rfl ?_
        refine bs_iload_n C (bf_dk dd_L_law_7 23 rfl) rfl ?_
        refine bs_iconst C (bf_dk dd_L_law_7 24 rfl) (1 : Int32) (by decide) ?_
        refine bs_iadd C (bf_dk dd_L_law_7 25 rfl) ?_
        obtain ⟨hi, h⟩ := h
        refine bs_sld C hX hW (bf_dk dd_L_law_7 26 rfl) hi ?_
        refine bs_aload_n C (bf_dk dd_L_law_7 27 rfl) rfl ?_
        refine bs_iload_n C (bf_dk dd_L_law_7 28 rfl) rfl ?_
        refine bs_iconst C (bf_dk dd_L_law_7 29 rfl) (2 : Int32) (by decide) ?_
        refine bs_iadd C (bf_dk dd_L_law_7 30 rfl) ?_
        obtain ⟨hi, h⟩ := h
        refine bs_sld C hX hW (bf_dk dd_L_law_7 31 rfl) hi ?_
        refine bs_aload_n C (bf_dk dd_L_law_7 32 rfl) rfl ?_
        refine bs_iload_n C (bf_dk dd_L_law_7 33 rfl) rfl ?_
        refine bs_iconst C (bf_dk dd_L_law_7 34 rfl) (3 : Int32) (by decide) ?_
        refine bs_iadd C (bf_dk dd_L_law_7 35 rfl) ?_
        obtain ⟨hi, h⟩ := h
        refine bs_sld C hX hW (bf_dk dd_L_law_7 36 rfl) hi ?_
        refine bs_callV_i (ps := [68, 69, 70, 71, 72, 73, 74, 75, 76, 77, 78, 79, 80, 81, 82, 83, 84, 85, 86, 87, 88]) (w := (bW8_9 S)) C hR (c_X9_leafOf _ _ _ _ _ S.2 ((scr ((x3 + (1 : Int32))).toNatClampNeg)) ((scr ((x3 + (2 : Int32))).toNatClampNeg)) ((scr ((x3 + (3 : Int32))).toNatClampNeg)) _ h) my_X9_leafOf m_L_76 rfl cl_9 (ge_bW9_0 _) rfl (Nat.le_of_ble_eq_true rfl) (Nat.le_of_ble_eq_true rfl) (su_bW8_9_68_bW9 S) bnd_68t88 (st := []) (Nat.le_of_ble_eq_true rfl) (bf_dk dd_L_law_7 37 rfl) rfl (fun _ => rfl) (w2 := fun u87 => bW8_9 (S.1, u87)) (pt_bW8_9_68_bW9 S) (fun r86 u87 h => ?_)
        refine bs_nameS bW8_9 (fun S88 eS88 => ?_)
        replace h := h S88 eS88
        refine bs_pop C (bf_dk dd_L_law_7 38 rfl) rfl ?_
        refine bs_goto C (bf_dk dd_L_law_7 39 rfl) (tgt := 1745) rfl ?_
        exact bs_weak (bf_s1 (bf_s1 (bf_s1 (bf_s1 bf_s0)))) (t_L_law_1745 C hR hG hX hW S88 (x3) Q B18 hB18 h)
      · replace h := h.2.2.2.2.2.2.2.2.2.2.2.2.2.2.2.1 (bf_i32 c (by decide))
        refine bs_aload_n C (bf_dk dd_L_law_7 40 rfl) rfl ?_
        refine bs_aload_n C (bf_dk dd_L_law_7 41 rfl) rfl ?_
        refine bs_iload_n C (bf_dk dd_L_law_7 42 rfl) rfl ?_
        refine bs_iconst C (bf_dk dd_L_law_7 43 rfl) (1 : Int32) (by decide) ?_
        refine bs_iadd C (bf_dk dd_L_law_7 44 rfl) ?_
        obtain ⟨hi, h⟩ := h
        refine bs_sld C hX hW (bf_dk dd_L_law_7 45 rfl) hi ?_
        refine bs_aload_n C (bf_dk dd_L_law_7 46 rfl) rfl ?_
        refine bs_iload_n C (bf_dk dd_L_law_7 47 rfl) rfl ?_
        refine bs_iconst C (bf_dk dd_L_law_7 48 rfl) (2 : Int32) (by decide) ?_
        refine bs_iadd C (bf_dk dd_L_law_7 49 rfl) ?_
        obtain ⟨hi, h⟩ := h
        refine bs_sld C hX hW (bf_dk dd_L_law_8 0 rfl) hi ?_
        refine bs_aload_n C (bf_dk dd_L_law_8 1 rfl) rfl ?_
        refine bs_iload_n C (bf_dk dd_L_law_8 2 rfl) rfl ?_
        refine bs_iconst C (bf_dk dd_L_law_8 3 rfl) (3 : Int32) (by decide) ?_
        refine bs_iadd C (bf_dk dd_L_law_8 4 rfl) ?_
        obtain ⟨hi, h⟩ := h
        refine bs_sld C hX hW (bf_dk dd_L_law_8 5 rfl) hi ?_
        refine bs_aload_n C (bf_dk dd_L_law_8 6 rfl) rfl ?_
        refine bs_iload_n C (bf_dk dd_L_law_8 7 rfl) rfl ?_
        refine bs_iconst C (bf_dk dd_L_law_8 8 rfl) (4 : Int32) (by decide) ?_
        refine bs_iadd C (bf_dk dd_L_law_8 9 rfl) ?_
        obtain ⟨hi, h⟩ := h
        refine bs_sld C hX hW (bf_dk dd_L_law_8 10 rfl) hi ?_
        refine bs_aload_n C (bf_dk dd_L_law_8 11 rfl) rfl ?_
        refine bs_iload_n C (bf_dk dd_L_law_8 12 rfl) rfl ?_
        refine bs_iconst C (bf_dk dd_L_law_8 13 rfl) (5 : Int32) (by decide) ?_
        refine bs_iadd C (bf_dk dd_L_law_8 14 rfl) ?_
        obtain ⟨hi, h⟩ := h
        refine bs_sld C hX hW (bf_dk dd_L_law_8 15 rfl) hi ?_
        refine bs_aload_n C (bf_dk dd_L_law_8 16 rfl) rfl ?_
        refine bs_iload_n C (bf_dk dd_L_law_8 17 rfl) rfl ?_
        refine bs_bipush C (bf_dk dd_L_law_8 18 rfl) (6 : Int32) (by decide) ?_
        refine bs_iadd C (bf_dk dd_L_law_8 19 rfl) ?_
        obtain ⟨hi, h⟩ := h
        refine bs_sld C hX hW (bf_dk dd_L_law_8 20 rfl) hi ?_
        refine bs_callV_i (ps := [0, 1, 2, 3, 4, 5, 6, 7, 8, 9, 10, 11, 12, 13, 14, 15, 16, 17, 18, 19, 20, 21, 22, 23, 24, 25, 26, 27, 28, 29, 30, 31, 32, 33, 34, 35, 36, 37, 38, 39, 40, 41, 42, 43, 44, 45, 46, 47, 48, 49, 50, 51, 52, 53, 54, 55, 56, 57, 58, 59, 60, 61, 62, 63, 64, 65, 66, 67]) (w := (bW8_9 S)) C hR (c_X8_range _ _ _ _ _ S.1 ((scr ((x3 + (1 : Int32))).toNatClampNeg)) ((scr ((x3 + (2 : Int32))).toNatClampNeg)) ((scr ((x3 + (3 : Int32))).toNatClampNeg)) ((scr ((x3 + (4 : Int32))).toNatClampNeg)) ((scr ((x3 + (5 : Int32))).toNatClampNeg)) ((scr ((x3 + (6 : Int32))).toNatClampNeg)) _ h) my_X8_range m_L_77 rfl cl_8 (ge_bW8_0 _) rfl (Nat.le_of_ble_eq_true rfl) (Nat.le_of_ble_eq_true rfl) (su_bW8_9_0_bW8 S) bnd_0t67 (st := []) (Nat.le_of_ble_eq_true rfl) (bf_dk dd_L_law_8 21 rfl) rfl (fun _ => rfl) (w2 := fun u90 => bW8_9 (u90, S.2)) (pt_bW8_9_0_bW8 S) (fun r89 u90 h => ?_)
        refine bs_nameS bW8_9 (fun S91 eS91 => ?_)
        replace h := h S91 eS91
        refine bs_pop C (bf_dk dd_L_law_8 22 rfl) rfl ?_
        refine bs_aload_n C (bf_dk dd_L_law_8 23 rfl) rfl ?_
        refine bs_aload_n C (bf_dk dd_L_law_8 24 rfl) rfl ?_
        refine bs_iload_n C (bf_dk dd_L_law_8 25 rfl) rfl ?_
        refine bs_iconst C (bf_dk dd_L_law_8 26 rfl) (1 : Int32) (by decide) ?_
        refine bs_iadd C (bf_dk dd_L_law_8 27 rfl) ?_
        obtain ⟨hi, h⟩ := h
        refine bs_sld C hX hW (bf_dk dd_L_law_8 28 rfl) hi ?_
        refine bs_aload_n C (bf_dk dd_L_law_8 29 rfl) rfl ?_
        refine bs_iload_n C (bf_dk dd_L_law_8 30 rfl) rfl ?_
        refine bs_iconst C (bf_dk dd_L_law_8 31 rfl) (2 : Int32) (by decide) ?_
        refine bs_iadd C (bf_dk dd_L_law_8 32 rfl) ?_
        obtain ⟨hi, h⟩ := h
        refine bs_sld C hX hW (bf_dk dd_L_law_8 33 rfl) hi ?_
        refine bs_aload_n C (bf_dk dd_L_law_8 34 rfl) rfl ?_
        refine bs_iload_n C (bf_dk dd_L_law_8 35 rfl) rfl ?_
        refine bs_iconst C (bf_dk dd_L_law_8 36 rfl) (3 : Int32) (by decide) ?_
        refine bs_iadd C (bf_dk dd_L_law_8 37 rfl) ?_
        obtain ⟨hi, h⟩ := h
        refine bs_sld C hX hW (bf_dk dd_L_law_8 38 rfl) hi ?_
        refine bs_aload_n C (bf_dk dd_L_law_8 39 rfl) rfl ?_
        refine bs_iload_n C (bf_dk dd_L_law_8 40 rfl) rfl ?_
        refine bs_iconst C (bf_dk dd_L_law_8 41 rfl) (4 : Int32) (by decide) ?_
        refine bs_iadd C (bf_dk dd_L_law_8 42 rfl) ?_
        obtain ⟨hi, h⟩ := h
        refine bs_sld C hX hW (bf_dk dd_L_law_8 43 rfl) hi ?_
        refine bs_aload_n C (bf_dk dd_L_law_8 44 rfl) rfl ?_
        refine bs_iload_n C (bf_dk dd_L_law_8 45 rfl) rfl ?_
        refine bs_iconst C (bf_dk dd_L_law_8 46 rfl) (5 : Int32) (by decide) ?_
        refine bs_iadd C (bf_dk dd_L_law_8 47 rfl) ?_
        obtain ⟨hi, h⟩ := h
        refine bs_sld C hX hW (bf_dk dd_L_law_8 48 rfl) hi ?_
        refine bs_aload_n C (bf_dk dd_L_law_8 49 rfl) rfl ?_
        refine bs_iload_n C (bf_dk dd_L_law_9 0 rfl) rfl ?_
        refine bs_bipush C (bf_dk dd_L_law_9 1 rfl) (6 : Int32) (by decide) ?_
        refine bs_iadd C (bf_dk dd_L_law_9 2 rfl) ?_
        obtain ⟨hi, h⟩ := h
        refine bs_sld C hX hW (bf_dk dd_L_law_9 3 rfl) hi ?_
        refine bs_callV_i (ps := [68, 69, 70, 71, 72, 73, 74, 75, 76, 77, 78, 79, 80, 81, 82, 83, 84, 85, 86, 87, 88]) (w := (bW8_9 S91)) C hR (c_X9_range _ _ _ _ _ S91.2 ((scr ((x3 + (1 : Int32))).toNatClampNeg)) ((scr ((x3 + (2 : Int32))).toNatClampNeg)) ((scr ((x3 + (3 : Int32))).toNatClampNeg)) ((scr ((x3 + (4 : Int32))).toNatClampNeg)) ((scr ((x3 + (5 : Int32))).toNatClampNeg)) ((scr ((x3 + (6 : Int32))).toNatClampNeg)) _ h) my_X9_range m_L_81 rfl cl_9 (ge_bW9_0 _) rfl (Nat.le_of_ble_eq_true rfl) (Nat.le_of_ble_eq_true rfl) (su_bW8_9_68_bW9 S91) bnd_68t88 (st := []) (Nat.le_of_ble_eq_true rfl) (bf_dk dd_L_law_9 4 rfl) rfl (fun _ => rfl) (w2 := fun u93 => bW8_9 (S91.1, u93)) (pt_bW8_9_68_bW9 S91) (fun r92 u93 h => ?_)
        refine bs_nameS bW8_9 (fun S94 eS94 => ?_)
        replace h := h S94 eS94
        refine bs_pop C (bf_dk dd_L_law_9 5 rfl) rfl ?_
        refine bs_goto C (bf_dk dd_L_law_9 6 rfl) (tgt := 1745) rfl ?_
        exact bs_weak (bf_s1 (bf_s1 (bf_s1 (bf_s1 bf_s0)))) (t_L_law_1745 C hR hG hX hW S94 (x3) Q B18 hB18 h)
      · replace h := h.2.2.2.2.2.2.2.2.2.2.2.2.2.2.2.2.1 (bf_i32 c (by decide))
        refine bs_aload_n C (bf_dk dd_L_law_9 7 rfl) rfl ?_
        refine bs_aload_n C (bf_dk dd_L_law_9 8 rfl) rfl ?_
        refine bs_iload_n C (bf_dk dd_L_law_9 9 rfl) rfl ?_
        refine bs_iconst C (bf_dk dd_L_law_9 10 rfl) (1 : Int32) (by decide) ?_
        refine bs_iadd C (bf_dk dd_L_law_9 11 rfl) ?_
        obtain ⟨hi, h⟩ := h
        refine bs_sld C hX hW (bf_dk dd_L_law_9 12 rfl) hi ?_
        refine bs_aload_n C (bf_dk dd_L_law_9 13 rfl) rfl ?_
        refine bs_iload_n C (bf_dk dd_L_law_9 14 rfl) rfl ?_
        refine bs_iconst C (bf_dk dd_L_law_9 15 rfl) (2 : Int32) (by decide) ?_
        refine bs_iadd C (bf_dk dd_L_law_9 16 rfl) ?_
        obtain ⟨hi, h⟩ := h
        refine bs_sld C hX hW (bf_dk dd_L_law_9 17 rfl) hi ?_
        refine bs_aload_n C (bf_dk dd_L_law_9 18 rfl) rfl ?_
        refine bs_iload_n C (bf_dk dd_L_law_9 19 rfl) rfl ?_
        refine bs_iconst C (bf_dk dd_L_law_9 20 rfl) (3 : Int32) (by decide) ?_
        refine bs_iadd C (bf_dk dd_L_law_9 21 rfl) ?_
        obtain ⟨hi, h⟩ := h
        refine bs_sld C hX hW (bf_dk dd_L_law_9 22 rfl) hi ?_
        refine bs_aload_n C (bf_dk dd_L_law_9 23 rfl) rfl ?_
        refine bs_iload_n C (bf_dk dd_L_law_9 24 rfl) rfl ?_
        refine bs_iconst C (bf_dk dd_L_law_9 25 rfl) (4 : Int32) (by decide) ?_
        refine bs_iadd C (bf_dk dd_L_law_9 26 rfl) ?_
        obtain ⟨hi, h⟩ := h
        refine bs_sld C hX hW (bf_dk dd_L_law_9 27 rfl) hi ?_
        refine bs_aload_n C (bf_dk dd_L_law_9 28 rfl) rfl ?_
        refine bs_iload_n C (bf_dk dd_L_law_9 29 rfl) rfl ?_
        refine bs_iconst C (bf_dk dd_L_law_9 30 rfl) (5 : Int32) (by decide) ?_
        refine bs_iadd C (bf_dk dd_L_law_9 31 rfl) ?_
        obtain ⟨hi, h⟩ := h
        refine bs_sld C hX hW (bf_dk dd_L_law_9 32 rfl) hi ?_
        refine bs_aload_n C (bf_dk dd_L_law_9 33 rfl) rfl ?_
        refine bs_iload_n C (bf_dk dd_L_law_9 34 rfl) rfl ?_
        refine bs_bipush C (bf_dk dd_L_law_9 35 rfl) (6 : Int32) (by decide) ?_
        refine bs_iadd C (bf_dk dd_L_law_9 36 rfl) ?_
        obtain ⟨hi, h⟩ := h
        refine bs_sld C hX hW (bf_dk dd_L_law_9 37 rfl) hi ?_
        refine bs_pureV_i (ps := [0, 1, 2, 3, 4, 5, 6, 7, 8, 9, 10, 11, 12, 13, 14, 15, 16, 17, 18, 19, 20, 21, 22, 23, 24, 25, 26, 27, 28, 29, 30, 31, 32, 33, 34, 35, 36, 37, 38, 39, 40, 41, 42, 43, 44, 45, 46, 47, 48, 49, 50, 51, 52, 53, 54, 55, 56, 57, 58, 59, 60, 61, 62, 63, 64, 65, 66, 67]) (w := (bW8_9 S)) C hR (c_X8_meets _ _ _ _ _ S.1 ((scr ((x3 + (1 : Int32))).toNatClampNeg)) ((scr ((x3 + (2 : Int32))).toNatClampNeg)) ((scr ((x3 + (3 : Int32))).toNatClampNeg)) ((scr ((x3 + (4 : Int32))).toNatClampNeg)) ((scr ((x3 + (5 : Int32))).toNatClampNeg)) ((scr ((x3 + (6 : Int32))).toNatClampNeg)) _ h) my_X8_meets m_L_82 rfl cl_8 (ge_bW8_0 _) rfl (Nat.le_of_ble_eq_true rfl) (Nat.le_of_ble_eq_true rfl) (su_bW8_9_0_bW8 S) bnd_0t67 (st := []) (Nat.le_of_ble_eq_true rfl) (bf_dk dd_L_law_9 38 rfl) rfl (fun _ => rfl) (fun r95 h => ?_)
        refine bs_pop C (bf_dk dd_L_law_9 39 rfl) rfl ?_
        refine bs_aload_n C (bf_dk dd_L_law_9 40 rfl) rfl ?_
        refine bs_aload_n C (bf_dk dd_L_law_9 41 rfl) rfl ?_
        refine bs_iload_n C (bf_dk dd_L_law_9 42 rfl) rfl ?_
        refine bs_iconst C (bf_dk dd_L_law_9 43 rfl) (1 : Int32) (by decide) ?_
        refine bs_iadd C (bf_dk dd_L_law_9 44 rfl) ?_
        obtain ⟨hi, h⟩ := h
        refine bs_sld C hX hW (bf_dk dd_L_law_9 45 rfl) hi ?_
        refine bs_aload_n C (bf_dk dd_L_law_9 46 rfl) rfl ?_
        refine bs_iload_n C (bf_dk dd_L_law_9 47 rfl) rfl ?_
        refine bs_iconst C (bf_dk dd_L_law_9 48 rfl) (2 : Int32) (by decide) ?_
        refine bs_iadd C (bf_dk dd_L_law_9 49 rfl) ?_
        obtain ⟨hi, h⟩ := h
        refine bs_sld C hX hW (bf_dk dd_L_law_10 0 rfl) hi ?_
        refine bs_aload_n C (bf_dk dd_L_law_10 1 rfl) rfl ?_
        refine bs_iload_n C (bf_dk dd_L_law_10 2 rfl) rfl ?_
        refine bs_iconst C (bf_dk dd_L_law_10 3 rfl) (3 : Int32) (by decide) ?_
        refine bs_iadd C (bf_dk dd_L_law_10 4 rfl) ?_
        obtain ⟨hi, h⟩ := h
        refine bs_sld C hX hW (bf_dk dd_L_law_10 5 rfl) hi ?_
        refine bs_aload_n C (bf_dk dd_L_law_10 6 rfl) rfl ?_
        refine bs_iload_n C (bf_dk dd_L_law_10 7 rfl) rfl ?_
        refine bs_iconst C (bf_dk dd_L_law_10 8 rfl) (4 : Int32) (by decide) ?_
        refine bs_iadd C (bf_dk dd_L_law_10 9 rfl) ?_
        obtain ⟨hi, h⟩ := h
        refine bs_sld C hX hW (bf_dk dd_L_law_10 10 rfl) hi ?_
        refine bs_aload_n C (bf_dk dd_L_law_10 11 rfl) rfl ?_
        refine bs_iload_n C (bf_dk dd_L_law_10 12 rfl) rfl ?_
        refine bs_iconst C (bf_dk dd_L_law_10 13 rfl) (5 : Int32) (by decide) ?_
        refine bs_iadd C (bf_dk dd_L_law_10 14 rfl) ?_
        obtain ⟨hi, h⟩ := h
        refine bs_sld C hX hW (bf_dk dd_L_law_10 15 rfl) hi ?_
        refine bs_aload_n C (bf_dk dd_L_law_10 16 rfl) rfl ?_
        refine bs_iload_n C (bf_dk dd_L_law_10 17 rfl) rfl ?_
        refine bs_bipush C (bf_dk dd_L_law_10 18 rfl) (6 : Int32) (by decide) ?_
        refine bs_iadd C (bf_dk dd_L_law_10 19 rfl) ?_
        obtain ⟨hi, h⟩ := h
        refine bs_sld C hX hW (bf_dk dd_L_law_10 20 rfl) hi ?_
        refine bs_callV_i (ps := [68, 69, 70, 71, 72, 73, 74, 75, 76, 77, 78, 79, 80, 81, 82, 83, 84, 85, 86, 87, 88]) (w := (bW8_9 S)) C hR (c_X9_meets _ _ _ _ _ S.2 ((scr ((x3 + (1 : Int32))).toNatClampNeg)) ((scr ((x3 + (2 : Int32))).toNatClampNeg)) ((scr ((x3 + (3 : Int32))).toNatClampNeg)) ((scr ((x3 + (4 : Int32))).toNatClampNeg)) ((scr ((x3 + (5 : Int32))).toNatClampNeg)) ((scr ((x3 + (6 : Int32))).toNatClampNeg)) _ h) my_X9_meets m_L_85 rfl cl_9 (ge_bW9_0 _) rfl (Nat.le_of_ble_eq_true rfl) (Nat.le_of_ble_eq_true rfl) (su_bW8_9_68_bW9 S) bnd_68t88 (st := []) (Nat.le_of_ble_eq_true rfl) (bf_dk dd_L_law_10 21 rfl) rfl (fun _ => rfl) (w2 := fun u98 => bW8_9 (S.1, u98)) (pt_bW8_9_68_bW9 S) (fun r97 u98 h => ?_)
        refine bs_nameS bW8_9 (fun S99 eS99 => ?_)
        replace h := h S99 eS99
        refine bs_pop C (bf_dk dd_L_law_10 22 rfl) rfl ?_
        refine bs_goto C (bf_dk dd_L_law_10 23 rfl) (tgt := 1745) rfl ?_
        exact bs_weak (bf_s1 (bf_s1 (bf_s1 (bf_s1 bf_s0)))) (t_L_law_1745 C hR hG hX hW S99 (x3) Q B18 hB18 h)
      · replace h := h.2.2.2.2.2.2.2.2.2.2.2.2.2.2.2.2.2.1 (bf_i32 c (by decide))
        refine bs_aload_n C (bf_dk dd_L_law_10 24 rfl) rfl ?_
        refine bs_aload_n C (bf_dk dd_L_law_10 25 rfl) rfl ?_
        refine bs_iload_n C (bf_dk dd_L_law_10 26 rfl) rfl ?_
        refine bs_iconst C (bf_dk dd_L_law_10 27 rfl) (1 : Int32) (by decide) ?_
        refine bs_iadd C (bf_dk dd_L_law_10 28 rfl) ?_
        obtain ⟨hi, h⟩ := h
        refine bs_sld C hX hW (bf_dk dd_L_law_10 29 rfl) hi ?_
        refine bs_aload_n C (bf_dk dd_L_law_10 30 rfl) rfl ?_
        refine bs_iload_n C (bf_dk dd_L_law_10 31 rfl) rfl ?_
        refine bs_iconst C (bf_dk dd_L_law_10 32 rfl) (2 : Int32) (by decide) ?_
        refine bs_iadd C (bf_dk dd_L_law_10 33 rfl) ?_
        obtain ⟨hi, h⟩ := h
        refine bs_sld C hX hW (bf_dk dd_L_law_10 34 rfl) hi ?_
        refine bs_aload_n C (bf_dk dd_L_law_10 35 rfl) rfl ?_
        refine bs_iload_n C (bf_dk dd_L_law_10 36 rfl) rfl ?_
        refine bs_iconst C (bf_dk dd_L_law_10 37 rfl) (3 : Int32) (by decide) ?_
        refine bs_iadd C (bf_dk dd_L_law_10 38 rfl) ?_
        obtain ⟨hi, h⟩ := h
        refine bs_sld C hX hW (bf_dk dd_L_law_10 39 rfl) hi ?_
        refine bs_aload_n C (bf_dk dd_L_law_10 40 rfl) rfl ?_
        refine bs_iload_n C (bf_dk dd_L_law_10 41 rfl) rfl ?_
        refine bs_iconst C (bf_dk dd_L_law_10 42 rfl) (4 : Int32) (by decide) ?_
        refine bs_iadd C (bf_dk dd_L_law_10 43 rfl) ?_
        obtain ⟨hi, h⟩ := h
        refine bs_sld C hX hW (bf_dk dd_L_law_10 44 rfl) hi ?_
        refine bs_aload_n C (bf_dk dd_L_law_10 45 rfl) rfl ?_
        refine bs_iload_n C (bf_dk dd_L_law_10 46 rfl) rfl ?_
        refine bs_iconst C (bf_dk dd_L_law_10 47 rfl) (5 : Int32) (by decide) ?_
        refine bs_iadd C (bf_dk dd_L_law_10 48 rfl) ?_
        obtain ⟨hi, h⟩ := h
        refine bs_sld C hX hW (bf_dk dd_L_law_10 49 rfl) hi ?_
        refine bs_aload_n C (bf_dk dd_L_law_11 0 rfl) rfl ?_
        refine bs_iload_n C (bf_dk dd_L_law_11 1 rfl) rfl ?_
        refine bs_bipush C (bf_dk dd_L_law_11 2 rfl) (6 : Int32) (by decide) ?_
        refine bs_iadd C (bf_dk dd_L_law_11 3 rfl) ?_
        obtain ⟨hi, h⟩ := h
        refine bs_sld C hX hW (bf_dk dd_L_law_11 4 rfl) hi ?_
        refine bs_pureV_i (ps := [0, 1, 2, 3, 4, 5, 6, 7, 8, 9, 10, 11, 12, 13, 14, 15, 16, 17, 18, 19, 20, 21, 22, 23, 24, 25, 26, 27, 28, 29, 30, 31, 32, 33, 34, 35, 36, 37, 38, 39, 40, 41, 42, 43, 44, 45, 46, 47, 48, 49, 50, 51, 52, 53, 54, 55, 56, 57, 58, 59, 60, 61, 62, 63, 64, 65, 66, 67]) (w := (bW8_9 S)) C hR (c_X8_holds _ _ _ _ _ S.1 ((scr ((x3 + (1 : Int32))).toNatClampNeg)) ((scr ((x3 + (2 : Int32))).toNatClampNeg)) ((scr ((x3 + (3 : Int32))).toNatClampNeg)) ((scr ((x3 + (4 : Int32))).toNatClampNeg)) ((scr ((x3 + (5 : Int32))).toNatClampNeg)) ((scr ((x3 + (6 : Int32))).toNatClampNeg)) _ h) my_X8_holds m_L_86 rfl cl_8 (ge_bW8_0 _) rfl (Nat.le_of_ble_eq_true rfl) (Nat.le_of_ble_eq_true rfl) (su_bW8_9_0_bW8 S) bnd_0t67 (st := []) (Nat.le_of_ble_eq_true rfl) (bf_dk dd_L_law_11 5 rfl) rfl (fun _ => rfl) (fun r100 h => ?_)
        refine bs_pop C (bf_dk dd_L_law_11 6 rfl) rfl ?_
        refine bs_aload_n C (bf_dk dd_L_law_11 7 rfl) rfl ?_
        refine bs_aload_n C (bf_dk dd_L_law_11 8 rfl) rfl ?_
        refine bs_iload_n C (bf_dk dd_L_law_11 9 rfl) rfl ?_
        refine bs_iconst C (bf_dk dd_L_law_11 10 rfl) (1 : Int32) (by decide) ?_
        refine bs_iadd C (bf_dk dd_L_law_11 11 rfl) ?_
        obtain ⟨hi, h⟩ := h
        refine bs_sld C hX hW (bf_dk dd_L_law_11 12 rfl) hi ?_
        refine bs_aload_n C (bf_dk dd_L_law_11 13 rfl) rfl ?_
        refine bs_iload_n C (bf_dk dd_L_law_11 14 rfl) rfl ?_
        refine bs_iconst C (bf_dk dd_L_law_11 15 rfl) (2 : Int32) (by decide) ?_
        refine bs_iadd C (bf_dk dd_L_law_11 16 rfl) ?_
        obtain ⟨hi, h⟩ := h
        refine bs_sld C hX hW (bf_dk dd_L_law_11 17 rfl) hi ?_
        refine bs_aload_n C (bf_dk dd_L_law_11 18 rfl) rfl ?_
        refine bs_iload_n C (bf_dk dd_L_law_11 19 rfl) rfl ?_
        refine bs_iconst C (bf_dk dd_L_law_11 20 rfl) (3 : Int32) (by decide) ?_
        refine bs_iadd C (bf_dk dd_L_law_11 21 rfl) ?_
        obtain ⟨hi, h⟩ := h
        refine bs_sld C hX hW (bf_dk dd_L_law_11 22 rfl) hi ?_
        refine bs_aload_n C (bf_dk dd_L_law_11 23 rfl) rfl ?_
        refine bs_iload_n C (bf_dk dd_L_law_11 24 rfl) rfl ?_
        refine bs_iconst C (bf_dk dd_L_law_11 25 rfl) (4 : Int32) (by decide) ?_
        refine bs_iadd C (bf_dk dd_L_law_11 26 rfl) ?_
        obtain ⟨hi, h⟩ := h
        refine bs_sld C hX hW (bf_dk dd_L_law_11 27 rfl) hi ?_
        refine bs_aload_n C (bf_dk dd_L_law_11 28 rfl) rfl ?_
        refine bs_iload_n C (bf_dk dd_L_law_11 29 rfl) rfl ?_
        refine bs_iconst C (bf_dk dd_L_law_11 30 rfl) (5 : Int32) (by decide) ?_
        refine bs_iadd C (bf_dk dd_L_law_11 31 rfl) ?_
        obtain ⟨hi, h⟩ := h
        refine bs_sld C hX hW (bf_dk dd_L_law_11 32 rfl) hi ?_
        refine bs_aload_n C (bf_dk dd_L_law_11 33 rfl) rfl ?_
        refine bs_iload_n C (bf_dk dd_L_law_11 34 rfl) rfl ?_
        refine bs_bipush C (bf_dk dd_L_law_11 35 rfl) (6 : Int32) (by decide) ?_
        refine bs_iadd C (bf_dk dd_L_law_11 36 rfl) ?_
        obtain ⟨hi, h⟩ := h
        refine bs_sld C hX hW (bf_dk dd_L_law_11 37 rfl) hi ?_
        refine bs_callV_i (ps := [68, 69, 70, 71, 72, 73, 74, 75, 76, 77, 78, 79, 80, 81, 82, 83, 84, 85, 86, 87, 88]) (w := (bW8_9 S)) C hR (c_X9_holds _ _ _ _ _ S.2 ((scr ((x3 + (1 : Int32))).toNatClampNeg)) ((scr ((x3 + (2 : Int32))).toNatClampNeg)) ((scr ((x3 + (3 : Int32))).toNatClampNeg)) ((scr ((x3 + (4 : Int32))).toNatClampNeg)) ((scr ((x3 + (5 : Int32))).toNatClampNeg)) ((scr ((x3 + (6 : Int32))).toNatClampNeg)) _ h) my_X9_holds m_L_89 rfl cl_9 (ge_bW9_0 _) rfl (Nat.le_of_ble_eq_true rfl) (Nat.le_of_ble_eq_true rfl) (su_bW8_9_68_bW9 S) bnd_68t88 (st := []) (Nat.le_of_ble_eq_true rfl) (bf_dk dd_L_law_11 38 rfl) rfl (fun _ => rfl) (w2 := fun u103 => bW8_9 (S.1, u103)) (pt_bW8_9_68_bW9 S) (fun r102 u103 h => ?_)
        refine bs_nameS bW8_9 (fun S104 eS104 => ?_)
        replace h := h S104 eS104
        refine bs_pop C (bf_dk dd_L_law_11 39 rfl) rfl ?_
        refine bs_goto C (bf_dk dd_L_law_11 40 rfl) (tgt := 1745) rfl ?_
        exact bs_weak (bf_s1 (bf_s1 (bf_s1 (bf_s1 bf_s0)))) (t_L_law_1745 C hR hG hX hW S104 (x3) Q B18 hB18 h)
      · replace h := h.2.2.2.2.2.2.2.2.2.2.2.2.2.2.2.2.2.2.1 (bf_i32 c (by decide))
        refine bs_aload_n C (bf_dk dd_L_law_11 41 rfl) rfl ?_
        refine bs_aload_n C (bf_dk dd_L_law_11 42 rfl) rfl ?_
        refine bs_iload_n C (bf_dk dd_L_law_11 43 rfl) rfl ?_
        refine bs_iconst C (bf_dk dd_L_law_11 44 rfl) (1 : Int32) (by decide) ?_
        refine bs_iadd C (bf_dk dd_L_law_11 45 rfl) ?_
        obtain ⟨hi, h⟩ := h
        refine bs_sld C hX hW (bf_dk dd_L_law_11 46 rfl) hi ?_
        refine bs_aload_n C (bf_dk dd_L_law_11 47 rfl) rfl ?_
        refine bs_iload_n C (bf_dk dd_L_law_11 48 rfl) rfl ?_
        refine bs_iconst C (bf_dk dd_L_law_11 49 rfl) (2 : Int32) (by decide) ?_
        refine bs_iadd C (bf_dk dd_L_law_12 0 rfl) ?_
        obtain ⟨hi, h⟩ := h
        refine bs_sld C hX hW (bf_dk dd_L_law_12 1 rfl) hi ?_
        refine bs_aload_n C (bf_dk dd_L_law_12 2 rfl) rfl ?_
        refine bs_iload_n C (bf_dk dd_L_law_12 3 rfl) rfl ?_
        refine bs_iconst C (bf_dk dd_L_law_12 4 rfl) (3 : Int32) (by decide) ?_
        refine bs_iadd C (bf_dk dd_L_law_12 5 rfl) ?_
        obtain ⟨hi, h⟩ := h
        refine bs_sld C hX hW (bf_dk dd_L_law_12 6 rfl) hi ?_
        refine bs_pureV_i (ps := [0, 1, 2, 3, 4, 5, 6, 7, 8, 9, 10, 11, 12, 13, 14, 15, 16, 17, 18, 19, 20, 21, 22, 23, 24, 25, 26, 27, 28, 29, 30, 31, 32, 33, 34, 35, 36, 37, 38, 39, 40, 41, 42, 43, 44, 45, 46, 47, 48, 49, 50, 51, 52, 53, 54, 55, 56, 57, 58, 59, 60, 61, 62, 63, 64, 65, 66, 67]) (w := (bW8_9 S)) C hR (c_X8_seek _ _ _ _ _ S.1 ((scr ((x3 + (1 : Int32))).toNatClampNeg)) ((scr ((x3 + (2 : Int32))).toNatClampNeg)) ((scr ((x3 + (3 : Int32))).toNatClampNeg)) _ h) my_X8_seek m_L_90 rfl cl_8 (ge_bW8_0 _) rfl (Nat.le_of_ble_eq_true rfl) (Nat.le_of_ble_eq_true rfl) (su_bW8_9_0_bW8 S) bnd_0t67 (st := []) (Nat.le_of_ble_eq_true rfl) (bf_dk dd_L_law_12 7 rfl) rfl (fun _ => rfl) (fun r105 h => ?_)
        refine bs_pop C (bf_dk dd_L_law_12 8 rfl) rfl ?_
        refine bs_aload_n C (bf_dk dd_L_law_12 9 rfl) rfl ?_
        refine bs_aload_n C (bf_dk dd_L_law_12 10 rfl) rfl ?_
        refine bs_iload_n C (bf_dk dd_L_law_12 11 rfl) rfl ?_
        refine bs_iconst C (bf_dk dd_L_law_12 12 rfl) (1 : Int32) (by decide) ?_
        refine bs_iadd C (bf_dk dd_L_law_12 13 rfl) ?_
        obtain ⟨hi, h⟩ := h
        refine bs_sld C hX hW (bf_dk dd_L_law_12 14 rfl) hi ?_
        refine bs_aload_n C (bf_dk dd_L_law_12 15 rfl) rfl ?_
        refine bs_iload_n C (bf_dk dd_L_law_12 16 rfl) rfl ?_
        refine bs_iconst C (bf_dk dd_L_law_12 17 rfl) (2 : Int32) (by decide) ?_
        refine bs_iadd C (bf_dk dd_L_law_12 18 rfl) ?_
        obtain ⟨hi, h⟩ := h
        refine bs_sld C hX hW (bf_dk dd_L_law_12 19 rfl) hi ?_
        refine bs_aload_n C (bf_dk dd_L_law_12 20 rfl) rfl ?_
        refine bs_iload_n C (bf_dk dd_L_law_12 21 rfl) rfl ?_
        refine bs_iconst C (bf_dk dd_L_law_12 22 rfl) (3 : Int32) (by decide) ?_
        refine bs_iadd C (bf_dk dd_L_law_12 23 rfl) ?_
        obtain ⟨hi, h⟩ := h
        refine bs_sld C hX hW (bf_dk dd_L_law_12 24 rfl) hi ?_
        refine bs_callV_i (ps := [68, 69, 70, 71, 72, 73, 74, 75, 76, 77, 78, 79, 80, 81, 82, 83, 84, 85, 86, 87, 88]) (w := (bW8_9 S)) C hR (c_X9_seek _ _ _ _ _ S.2 ((scr ((x3 + (1 : Int32))).toNatClampNeg)) ((scr ((x3 + (2 : Int32))).toNatClampNeg)) ((scr ((x3 + (3 : Int32))).toNatClampNeg)) _ h) my_X9_seek m_L_93 rfl cl_9 (ge_bW9_0 _) rfl (Nat.le_of_ble_eq_true rfl) (Nat.le_of_ble_eq_true rfl) (su_bW8_9_68_bW9 S) bnd_68t88 (st := []) (Nat.le_of_ble_eq_true rfl) (bf_dk dd_L_law_12 25 rfl) rfl (fun _ => rfl) (w2 := fun u108 => bW8_9 (S.1, u108)) (pt_bW8_9_68_bW9 S) (fun r107 u108 h => ?_)
        refine bs_nameS bW8_9 (fun S109 eS109 => ?_)
        replace h := h S109 eS109
        refine bs_pop C (bf_dk dd_L_law_12 26 rfl) rfl ?_
        refine bs_goto C (bf_dk dd_L_law_12 27 rfl) (tgt := 1745) rfl ?_
        exact bs_weak (bf_s1 (bf_s1 (bf_s1 (bf_s1 bf_s0)))) (t_L_law_1745 C hR hG hX hW S109 (x3) Q B18 hB18 h)
      · replace h := h.2.2.2.2.2.2.2.2.2.2.2.2.2.2.2.2.2.2.2.1 (bf_i32 c (by decide))
        refine bs_aload_n C (bf_dk dd_L_law_12 28 rfl) rfl ?_
        refine bs_aload_n C (bf_dk dd_L_law_12 29 rfl) rfl ?_
        refine bs_iload_n C (bf_dk dd_L_law_12 30 rfl) rfl ?_
        refine bs_iconst C (bf_dk dd_L_law_12 31 rfl) (1 : Int32) (by decide) ?_
        refine bs_iadd C (bf_dk dd_L_law_12 32 rfl) ?_
        obtain ⟨hi, h⟩ := h
        refine bs_sld C hX hW (bf_dk dd_L_law_12 33 rfl) hi ?_
        refine bs_aload_n C (bf_dk dd_L_law_12 34 rfl) rfl ?_
        refine bs_iload_n C (bf_dk dd_L_law_12 35 rfl) rfl ?_
        refine bs_iconst C (bf_dk dd_L_law_12 36 rfl) (2 : Int32) (by decide) ?_
        refine bs_iadd C (bf_dk dd_L_law_12 37 rfl) ?_
        obtain ⟨hi, h⟩ := h
        refine bs_sld C hX hW (bf_dk dd_L_law_12 38 rfl) hi ?_
        refine bs_aload_n C (bf_dk dd_L_law_12 39 rfl) rfl ?_
        refine bs_iload_n C (bf_dk dd_L_law_12 40 rfl) rfl ?_
        refine bs_iconst C (bf_dk dd_L_law_12 41 rfl) (3 : Int32) (by decide) ?_
        refine bs_iadd C (bf_dk dd_L_law_12 42 rfl) ?_
        obtain ⟨hi, h⟩ := h
        refine bs_sld C hX hW (bf_dk dd_L_law_12 43 rfl) hi ?_
        refine bs_pureV_i (ps := [0, 1, 2, 3, 4, 5, 6, 7, 8, 9, 10, 11, 12, 13, 14, 15, 16, 17, 18, 19, 20, 21, 22, 23, 24, 25, 26, 27, 28, 29, 30, 31, 32, 33, 34, 35, 36, 37, 38, 39, 40, 41, 42, 43, 44, 45, 46, 47, 48, 49, 50, 51, 52, 53, 54, 55, 56, 57, 58, 59, 60, 61, 62, 63, 64, 65, 66, 67]) (w := (bW8_9 S)) C hR (c_X8_seekBack _ _ _ _ _ S.1 ((scr ((x3 + (1 : Int32))).toNatClampNeg)) ((scr ((x3 + (2 : Int32))).toNatClampNeg)) ((scr ((x3 + (3 : Int32))).toNatClampNeg)) _ h) my_X8_seekBack m_L_94 rfl cl_8 (ge_bW8_0 _) rfl (Nat.le_of_ble_eq_true rfl) (Nat.le_of_ble_eq_true rfl) (su_bW8_9_0_bW8 S) bnd_0t67 (st := []) (Nat.le_of_ble_eq_true rfl) (bf_dk dd_L_law_12 44 rfl) rfl (fun _ => rfl) (fun r110 h => ?_)
        refine bs_pop C (bf_dk dd_L_law_12 45 rfl) rfl ?_
        refine bs_aload_n C (bf_dk dd_L_law_12 46 rfl) rfl ?_
        refine bs_aload_n C (bf_dk dd_L_law_12 47 rfl) rfl ?_
        refine bs_iload_n C (bf_dk dd_L_law_12 48 rfl) rfl ?_
        refine bs_iconst C (bf_dk dd_L_law_12 49 rfl) (1 : Int32) (by decide) ?_
        refine bs_iadd C (bf_dk dd_L_law_13 0 rfl) ?_
        obtain ⟨hi, h⟩ := h
        refine bs_sld C hX hW (bf_dk dd_L_law_13 1 rfl) hi ?_
        refine bs_aload_n C (bf_dk dd_L_law_13 2 rfl) rfl ?_
        refine bs_iload_n C (bf_dk dd_L_law_13 3 rfl) rfl ?_
        refine bs_iconst C (bf_dk dd_L_law_13 4 rfl) (2 : Int32) (by decide) ?_
        refine bs_iadd C (bf_dk dd_L_law_13 5 rfl) ?_
        obtain ⟨hi, h⟩ := h
        refine bs_sld C hX hW (bf_dk dd_L_law_13 6 rfl) hi ?_
        refine bs_aload_n C (bf_dk dd_L_law_13 7 rfl) rfl ?_
        refine bs_iload_n C (bf_dk dd_L_law_13 8 rfl) rfl ?_
        refine bs_iconst C (bf_dk dd_L_law_13 9 rfl) (3 : Int32) (by decide) ?_
        refine bs_iadd C (bf_dk dd_L_law_13 10 rfl) ?_
        obtain ⟨hi, h⟩ := h
        refine bs_sld C hX hW (bf_dk dd_L_law_13 11 rfl) hi ?_
        refine bs_callV_i (ps := [68, 69, 70, 71, 72, 73, 74, 75, 76, 77, 78, 79, 80, 81, 82, 83, 84, 85, 86, 87, 88]) (w := (bW8_9 S)) C hR (c_X9_seekBack _ _ _ _ _ S.2 ((scr ((x3 + (1 : Int32))).toNatClampNeg)) ((scr ((x3 + (2 : Int32))).toNatClampNeg)) ((scr ((x3 + (3 : Int32))).toNatClampNeg)) _ h) my_X9_seekBack m_L_97 rfl cl_9 (ge_bW9_0 _) rfl (Nat.le_of_ble_eq_true rfl) (Nat.le_of_ble_eq_true rfl) (su_bW8_9_68_bW9 S) bnd_68t88 (st := []) (Nat.le_of_ble_eq_true rfl) (bf_dk dd_L_law_13 12 rfl) rfl (fun _ => rfl) (w2 := fun u113 => bW8_9 (S.1, u113)) (pt_bW8_9_68_bW9 S) (fun r112 u113 h => ?_)
        refine bs_nameS bW8_9 (fun S114 eS114 => ?_)
        replace h := h S114 eS114
        refine bs_pop C (bf_dk dd_L_law_13 13 rfl) rfl ?_
        refine bs_goto C (bf_dk dd_L_law_13 14 rfl) (tgt := 1745) rfl ?_
        exact bs_weak (bf_s1 (bf_s1 (bf_s1 (bf_s1 bf_s0)))) (t_L_law_1745 C hR hG hX hW S114 (x3) Q B18 hB18 h)
      · replace h := h.2.2.2.2.2.2.2.2.2.2.2.2.2.2.2.2.2.2.2.2.1 (bf_i32 c (by decide))
        refine bs_aload_n C (bf_dk dd_L_law_13 15 rfl) rfl ?_
        refine bs_aload_n C (bf_dk dd_L_law_13 16 rfl) rfl ?_
        refine bs_iload_n C (bf_dk dd_L_law_13 17 rfl) rfl ?_
        refine bs_iconst C (bf_dk dd_L_law_13 18 rfl) (1 : Int32) (by decide) ?_
        refine bs_iadd C (bf_dk dd_L_law_13 19 rfl) ?_
        obtain ⟨hi, h⟩ := h
        refine bs_sld C hX hW (bf_dk dd_L_law_13 20 rfl) hi ?_
        refine bs_aload_n C (bf_dk dd_L_law_13 21 rfl) rfl ?_
        refine bs_iload_n C (bf_dk dd_L_law_13 22 rfl) rfl ?_
        refine bs_iconst C (bf_dk dd_L_law_13 23 rfl) (2 : Int32) (by decide) ?_
        refine bs_iadd C (bf_dk dd_L_law_13 24 rfl) ?_
        obtain ⟨hi, h⟩ := h
        refine bs_sld C hX hW (bf_dk dd_L_law_13 25 rfl) hi ?_
        refine bs_pureV_i (ps := [0, 1, 2, 3, 4, 5, 6, 7, 8, 9, 10, 11, 12, 13, 14, 15, 16, 17, 18, 19, 20, 21, 22, 23, 24, 25, 26, 27, 28, 29, 30, 31, 32, 33, 34, 35, 36, 37, 38, 39, 40, 41, 42, 43, 44, 45, 46, 47, 48, 49, 50, 51, 52, 53, 54, 55, 56, 57, 58, 59, 60, 61, 62, 63, 64, 65, 66, 67]) (w := (bW8_9 S)) C hR (c_X8_leaf _ _ _ _ _ S.1 ((scr ((x3 + (1 : Int32))).toNatClampNeg)) ((scr ((x3 + (2 : Int32))).toNatClampNeg)) _ h) my_X8_leaf m_L_98 rfl cl_8 (ge_bW8_0 _) rfl (Nat.le_of_ble_eq_true rfl) (Nat.le_of_ble_eq_true rfl) (su_bW8_9_0_bW8 S) bnd_0t67 (st := []) (Nat.le_of_ble_eq_true rfl) (bf_dk dd_L_law_13 26 rfl) rfl (fun _ => rfl) (fun r115 h => ?_)
        refine bs_pop C (bf_dk dd_L_law_13 27 rfl) rfl ?_
        refine bs_aload_n C (bf_dk dd_L_law_13 28 rfl) rfl ?_
        refine bs_aload_n C (bf_dk dd_L_law_13 29 rfl) rfl ?_
        refine bs_iload_n C (bf_dk dd_L_law_13 30 rfl) rfl ?_
        refine bs_iconst C (bf_dk dd_L_law_13 31 rfl) (1 : Int32) (by decide) ?_
        refine bs_iadd C (bf_dk dd_L_law_13 32 rfl) ?_
        obtain ⟨hi, h⟩ := h
        refine bs_sld C hX hW (bf_dk dd_L_law_13 33 rfl) hi ?_
        refine bs_aload_n C (bf_dk dd_L_law_13 34 rfl) rfl ?_
        refine bs_iload_n C (bf_dk dd_L_law_13 35 rfl) rfl ?_
        refine bs_iconst C (bf_dk dd_L_law_13 36 rfl) (2 : Int32) (by decide) ?_
        refine bs_iadd C (bf_dk dd_L_law_13 37 rfl) ?_
        obtain ⟨hi, h⟩ := h
        refine bs_sld C hX hW (bf_dk dd_L_law_13 38 rfl) hi ?_
        refine bs_callV_i (ps := [68, 69, 70, 71, 72, 73, 74, 75, 76, 77, 78, 79, 80, 81, 82, 83, 84, 85, 86, 87, 88]) (w := (bW8_9 S)) C hR (c_X9_leaf _ _ _ _ _ S.2 ((scr ((x3 + (1 : Int32))).toNatClampNeg)) ((scr ((x3 + (2 : Int32))).toNatClampNeg)) _ h) my_X9_leaf m_L_101 rfl cl_9 (ge_bW9_0 _) rfl (Nat.le_of_ble_eq_true rfl) (Nat.le_of_ble_eq_true rfl) (su_bW8_9_68_bW9 S) bnd_68t88 (st := []) (Nat.le_of_ble_eq_true rfl) (bf_dk dd_L_law_13 39 rfl) rfl (fun _ => rfl) (w2 := fun u118 => bW8_9 (S.1, u118)) (pt_bW8_9_68_bW9 S) (fun r117 u118 h => ?_)
        refine bs_nameS bW8_9 (fun S119 eS119 => ?_)
        replace h := h S119 eS119
        refine bs_pop C (bf_dk dd_L_law_13 40 rfl) rfl ?_
        refine bs_goto C (bf_dk dd_L_law_13 41 rfl) (tgt := 1745) rfl ?_
        exact bs_weak (bf_s1 (bf_s1 (bf_s1 (bf_s1 bf_s0)))) (t_L_law_1745 C hR hG hX hW S119 (x3) Q B18 hB18 h)
      · replace h := h.2.2.2.2.2.2.2.2.2.2.2.2.2.2.2.2.2.2.2.2.2.1 (bf_i32 c (by decide))
        refine bs_aload_n C (bf_dk dd_L_law_13 42 rfl) rfl ?_
        refine bs_aload_n C (bf_dk dd_L_law_13 43 rfl) rfl ?_
        refine bs_iload_n C (bf_dk dd_L_law_13 44 rfl) rfl ?_
        refine bs_iconst C (bf_dk dd_L_law_13 45 rfl) (1 : Int32) (by decide) ?_
        refine bs_iadd C (bf_dk dd_L_law_13 46 rfl) ?_
        obtain ⟨hi, h⟩ := h
        refine bs_sld C hX hW (bf_dk dd_L_law_13 47 rfl) hi ?_
        refine bs_pureV_i (ps := [0, 1, 2, 3, 4, 5, 6, 7, 8, 9, 10, 11, 12, 13, 14, 15, 16, 17, 18, 19, 20, 21, 22, 23, 24, 25, 26, 27, 28, 29, 30, 31, 32, 33, 34, 35, 36, 37, 38, 39, 40, 41, 42, 43, 44, 45, 46, 47, 48, 49, 50, 51, 52, 53, 54, 55, 56, 57, 58, 59, 60, 61, 62, 63, 64, 65, 66, 67]) (w := (bW8_9 S)) C hR (c_X8_leafAt _ _ _ _ _ S.1 ((scr ((x3 + (1 : Int32))).toNatClampNeg)) _ h) my_X8_leafAt m_L_102 rfl cl_8 (ge_bW8_0 _) rfl (Nat.le_of_ble_eq_true rfl) (Nat.le_of_ble_eq_true rfl) (su_bW8_9_0_bW8 S) bnd_0t67 (st := []) (Nat.le_of_ble_eq_true rfl) (bf_dk dd_L_law_13 48 rfl) rfl (fun _ => rfl) (fun r120 h => ?_)
        refine bs_pop C (bf_dk dd_L_law_13 49 rfl) rfl ?_
        refine bs_aload_n C (bf_dk dd_L_law_14 0 rfl) rfl ?_
        refine bs_aload_n C (bf_dk dd_L_law_14 1 rfl) rfl ?_
        refine bs_iload_n C (bf_dk dd_L_law_14 2 rfl) rfl ?_
        refine bs_iconst C (bf_dk dd_L_law_14 3 rfl) (1 : Int32) (by decide) ?_
        refine bs_iadd C (bf_dk dd_L_law_14 4 rfl) ?_
        obtain ⟨hi, h⟩ := h
        refine bs_sld C hX hW (bf_dk dd_L_law_14 5 rfl) hi ?_
        refine bs_callV_i (ps := [68, 69, 70, 71, 72, 73, 74, 75, 76, 77, 78, 79, 80, 81, 82, 83, 84, 85, 86, 87, 88]) (w := (bW8_9 S)) C hR (c_X9_leafAt _ _ _ _ _ S.2 ((scr ((x3 + (1 : Int32))).toNatClampNeg)) _ h) my_X9_leafAt m_L_105 rfl cl_9 (ge_bW9_0 _) rfl (Nat.le_of_ble_eq_true rfl) (Nat.le_of_ble_eq_true rfl) (su_bW8_9_68_bW9 S) bnd_68t88 (st := []) (Nat.le_of_ble_eq_true rfl) (bf_dk dd_L_law_14 6 rfl) rfl (fun _ => rfl) (w2 := fun u123 => bW8_9 (S.1, u123)) (pt_bW8_9_68_bW9 S) (fun r122 u123 h => ?_)
        refine bs_nameS bW8_9 (fun S124 eS124 => ?_)
        replace h := h S124 eS124
        refine bs_pop C (bf_dk dd_L_law_14 7 rfl) rfl ?_
        refine bs_goto C (bf_dk dd_L_law_14 8 rfl) (tgt := 1745) rfl ?_
        exact bs_weak (bf_s1 (bf_s1 (bf_s1 (bf_s1 bf_s0)))) (t_L_law_1745 C hR hG hX hW S124 (x3) Q B18 hB18 h)
      · replace h := h.2.2.2.2.2.2.2.2.2.2.2.2.2.2.2.2.2.2.2.2.2.2.1 (bf_i32 c (by decide))
        refine bs_aload_n C (bf_dk dd_L_law_14 9 rfl) rfl ?_
        refine bs_aload_n C (bf_dk dd_L_law_14 10 rfl) rfl ?_
        refine bs_iload_n C (bf_dk dd_L_law_14 11 rfl) rfl ?_
        refine bs_iconst C (bf_dk dd_L_law_14 12 rfl) (1 : Int32) (by decide) ?_
        refine bs_iadd C (bf_dk dd_L_law_14 13 rfl) ?_
        obtain ⟨hi, h⟩ := h
        refine bs_sld C hX hW (bf_dk dd_L_law_14 14 rfl) hi ?_
        refine bs_aload_n C (bf_dk dd_L_law_14 15 rfl) rfl ?_
        refine bs_iload_n C (bf_dk dd_L_law_14 16 rfl) rfl ?_
        refine bs_iconst C (bf_dk dd_L_law_14 17 rfl) (2 : Int32) (by decide) ?_
        refine bs_iadd C (bf_dk dd_L_law_14 18 rfl) ?_
        obtain ⟨hi, h⟩ := h
        refine bs_sld C hX hW (bf_dk dd_L_law_14 19 rfl) hi ?_
        refine bs_pureV_i (ps := [0, 1, 2, 3, 4, 5, 6, 7, 8, 9, 10, 11, 12, 13, 14, 15, 16, 17, 18, 19, 20, 21, 22, 23, 24, 25, 26, 27, 28, 29, 30, 31, 32, 33, 34, 35, 36, 37, 38, 39, 40, 41, 42, 43, 44, 45, 46, 47, 48, 49, 50, 51, 52, 53, 54, 55, 56, 57, 58, 59, 60, 61, 62, 63, 64, 65, 66, 67]) (w := (bW8_9 S)) C hR (c_X8_node _ _ _ _ _ S.1 ((scr ((x3 + (1 : Int32))).toNatClampNeg)) ((scr ((x3 + (2 : Int32))).toNatClampNeg)) _ h) my_X8_node m_L_106 rfl cl_8 (ge_bW8_0 _) rfl (Nat.le_of_ble_eq_true rfl) (Nat.le_of_ble_eq_true rfl) (su_bW8_9_0_bW8 S) bnd_0t67 (st := []) (Nat.le_of_ble_eq_true rfl) (bf_dk dd_L_law_14 20 rfl) rfl (fun _ => rfl) (fun r125 h => ?_)
        refine bs_pop C (bf_dk dd_L_law_14 21 rfl) rfl ?_
        refine bs_aload_n C (bf_dk dd_L_law_14 22 rfl) rfl ?_
        refine bs_aload_n C (bf_dk dd_L_law_14 23 rfl) rfl ?_
        refine bs_iload_n C (bf_dk dd_L_law_14 24 rfl) rfl ?_
        refine bs_iconst C (bf_dk dd_L_law_14 25 rfl) (1 : Int32) (by decide) ?_
        refine bs_iadd C (bf_dk dd_L_law_14 26 rfl) ?_
        obtain ⟨hi, h⟩ := h
        refine bs_sld C hX hW (bf_dk dd_L_law_14 27 rfl) hi ?_
        refine bs_aload_n C (bf_dk dd_L_law_14 28 rfl) rfl ?_
        refine bs_iload_n C (bf_dk dd_L_law_14 29 rfl) rfl ?_
        refine bs_iconst C (bf_dk dd_L_law_14 30 rfl) (2 : Int32) (by decide) ?_
        refine bs_iadd C (bf_dk dd_L_law_14 31 rfl) ?_
        obtain ⟨hi, h⟩ := h
        refine bs_sld C hX hW (bf_dk dd_L_law_14 32 rfl) hi ?_
        refine bs_callV_i (ps := [68, 69, 70, 71, 72, 73, 74, 75, 76, 77, 78, 79, 80, 81, 82, 83, 84, 85, 86, 87, 88]) (w := (bW8_9 S)) C hR (c_X9_node _ _ _ _ _ S.2 ((scr ((x3 + (1 : Int32))).toNatClampNeg)) ((scr ((x3 + (2 : Int32))).toNatClampNeg)) _ h) my_X9_node m_L_109 rfl cl_9 (ge_bW9_0 _) rfl (Nat.le_of_ble_eq_true rfl) (Nat.le_of_ble_eq_true rfl) (su_bW8_9_68_bW9 S) bnd_68t88 (st := []) (Nat.le_of_ble_eq_true rfl) (bf_dk dd_L_law_14 33 rfl) rfl (fun _ => rfl) (w2 := fun u128 => bW8_9 (S.1, u128)) (pt_bW8_9_68_bW9 S) (fun r127 u128 h => ?_)
        refine bs_nameS bW8_9 (fun S129 eS129 => ?_)
        replace h := h S129 eS129
        refine bs_pop C (bf_dk dd_L_law_14 34 rfl) rfl ?_
        refine bs_goto C (bf_dk dd_L_law_14 35 rfl) (tgt := 1745) rfl ?_
        exact bs_weak (bf_s1 (bf_s1 (bf_s1 (bf_s1 bf_s0)))) (t_L_law_1745 C hR hG hX hW S129 (x3) Q B18 hB18 h)
      · replace h := h.2.2.2.2.2.2.2.2.2.2.2.2.2.2.2.2.2.2.2.2.2.2.2.1 (bf_i32 c (by decide))
        refine bs_aload_n C (bf_dk dd_L_law_14 36 rfl) rfl ?_
        refine bs_aload_n C (bf_dk dd_L_law_14 37 rfl) rfl ?_
        refine bs_iload_n C (bf_dk dd_L_law_14 38 rfl) rfl ?_
        refine bs_iconst C (bf_dk dd_L_law_14 39 rfl) (1 : Int32) (by decide) ?_
        refine bs_iadd C (bf_dk dd_L_law_14 40 rfl) ?_
        obtain ⟨hi, h⟩ := h
        refine bs_sld C hX hW (bf_dk dd_L_law_14 41 rfl) hi ?_
        refine bs_aload_n C (bf_dk dd_L_law_14 42 rfl) rfl ?_
        refine bs_iload_n C (bf_dk dd_L_law_14 43 rfl) rfl ?_
        refine bs_iconst C (bf_dk dd_L_law_14 44 rfl) (2 : Int32) (by decide) ?_
        refine bs_iadd C (bf_dk dd_L_law_14 45 rfl) ?_
        obtain ⟨hi, h⟩ := h
        refine bs_sld C hX hW (bf_dk dd_L_law_14 46 rfl) hi ?_
        refine bs_pureV_i (ps := [0, 1, 2, 3, 4, 5, 6, 7, 8, 9, 10, 11, 12, 13, 14, 15, 16, 17, 18, 19, 20, 21, 22, 23, 24, 25, 26, 27, 28, 29, 30, 31, 32, 33, 34, 35, 36, 37, 38, 39, 40, 41, 42, 43, 44, 45, 46, 47, 48, 49, 50, 51, 52, 53, 54, 55, 56, 57, 58, 59, 60, 61, 62, 63, 64, 65, 66, 67]) (w := (bW8_9 S)) C hR (c_X8_child _ _ _ _ _ S.1 ((scr ((x3 + (1 : Int32))).toNatClampNeg)) ((scr ((x3 + (2 : Int32))).toNatClampNeg)) _ h) my_X8_child m_L_110 rfl cl_8 (ge_bW8_0 _) rfl (Nat.le_of_ble_eq_true rfl) (Nat.le_of_ble_eq_true rfl) (su_bW8_9_0_bW8 S) bnd_0t67 (st := []) (Nat.le_of_ble_eq_true rfl) (bf_dk dd_L_law_14 47 rfl) rfl (fun _ => rfl) (fun r130 h => ?_)
        refine bs_pop C (bf_dk dd_L_law_14 48 rfl) rfl ?_
        refine bs_aload_n C (bf_dk dd_L_law_14 49 rfl) rfl ?_
        refine bs_aload_n C (bf_dk dd_L_law_15 0 rfl) rfl ?_
        refine bs_iload_n C (bf_dk dd_L_law_15 1 rfl) rfl ?_
        refine bs_iconst C (bf_dk dd_L_law_15 2 rfl) (1 : Int32) (by decide) ?_
        refine bs_iadd C (bf_dk dd_L_law_15 3 rfl) ?_
        obtain ⟨hi, h⟩ := h
        refine bs_sld C hX hW (bf_dk dd_L_law_15 4 rfl) hi ?_
        refine bs_aload_n C (bf_dk dd_L_law_15 5 rfl) rfl ?_
        refine bs_iload_n C (bf_dk dd_L_law_15 6 rfl) rfl ?_
        refine bs_iconst C (bf_dk dd_L_law_15 7 rfl) (2 : Int32) (by decide) ?_
        refine bs_iadd C (bf_dk dd_L_law_15 8 rfl) ?_
        obtain ⟨hi, h⟩ := h
        refine bs_sld C hX hW (bf_dk dd_L_law_15 9 rfl) hi ?_
        refine bs_callV_i (ps := [68, 69, 70, 71, 72, 73, 74, 75, 76, 77, 78, 79, 80, 81, 82, 83, 84, 85, 86, 87, 88]) (w := (bW8_9 S)) C hR (c_X9_child _ _ _ _ _ S.2 ((scr ((x3 + (1 : Int32))).toNatClampNeg)) ((scr ((x3 + (2 : Int32))).toNatClampNeg)) _ h) my_X9_child m_L_113 rfl cl_9 (ge_bW9_0 _) rfl (Nat.le_of_ble_eq_true rfl) (Nat.le_of_ble_eq_true rfl) (su_bW8_9_68_bW9 S) bnd_68t88 (st := []) (Nat.le_of_ble_eq_true rfl) (bf_dk dd_L_law_15 10 rfl) rfl (fun _ => rfl) (w2 := fun u133 => bW8_9 (S.1, u133)) (pt_bW8_9_68_bW9 S) (fun r132 u133 h => ?_)
        refine bs_nameS bW8_9 (fun S134 eS134 => ?_)
        replace h := h S134 eS134
        refine bs_pop C (bf_dk dd_L_law_15 11 rfl) rfl ?_
        refine bs_goto C (bf_dk dd_L_law_15 12 rfl) (tgt := 1745) rfl ?_
        exact bs_weak (bf_s1 (bf_s1 (bf_s1 (bf_s1 bf_s0)))) (t_L_law_1745 C hR hG hX hW S134 (x3) Q B18 hB18 h)
      · replace h := h.2.2.2.2.2.2.2.2.2.2.2.2.2.2.2.2.2.2.2.2.2.2.2.2.1 (bf_i32 c (by decide))
        refine bs_aload_n C (bf_dk dd_L_law_15 13 rfl) rfl ?_
        refine bs_aload_n C (bf_dk dd_L_law_15 14 rfl) rfl ?_
        refine bs_iload_n C (bf_dk dd_L_law_15 15 rfl) rfl ?_
        refine bs_iconst C (bf_dk dd_L_law_15 16 rfl) (1 : Int32) (by decide) ?_
        refine bs_iadd C (bf_dk dd_L_law_15 17 rfl) ?_
        obtain ⟨hi, h⟩ := h
        refine bs_sld C hX hW (bf_dk dd_L_law_15 18 rfl) hi ?_
        refine bs_aload_n C (bf_dk dd_L_law_15 19 rfl) rfl ?_
        refine bs_iload_n C (bf_dk dd_L_law_15 20 rfl) rfl ?_
        refine bs_iconst C (bf_dk dd_L_law_15 21 rfl) (2 : Int32) (by decide) ?_
        refine bs_iadd C (bf_dk dd_L_law_15 22 rfl) ?_
        obtain ⟨hi, h⟩ := h
        refine bs_sld C hX hW (bf_dk dd_L_law_15 23 rfl) hi ?_
        refine bs_pureV_i (ps := [0, 1, 2, 3, 4, 5, 6, 7, 8, 9, 10, 11, 12, 13, 14, 15, 16, 17, 18, 19, 20, 21, 22, 23, 24, 25, 26, 27, 28, 29, 30, 31, 32, 33, 34, 35, 36, 37, 38, 39, 40, 41, 42, 43, 44, 45, 46, 47, 48, 49, 50, 51, 52, 53, 54, 55, 56, 57, 58, 59, 60, 61, 62, 63, 64, 65, 66, 67]) (w := (bW8_9 S)) C hR (c_X8_level _ _ _ _ _ S.1 ((scr ((x3 + (1 : Int32))).toNatClampNeg)) ((scr ((x3 + (2 : Int32))).toNatClampNeg)) _ h) my_X8_level m_L_114 rfl cl_8 (ge_bW8_0 _) rfl (Nat.le_of_ble_eq_true rfl) (Nat.le_of_ble_eq_true rfl) (su_bW8_9_0_bW8 S) bnd_0t67 (st := []) (Nat.le_of_ble_eq_true rfl) (bf_dk dd_L_law_15 24 rfl) rfl (fun _ => rfl) (fun r135 h => ?_)
        refine bs_pop C (bf_dk dd_L_law_15 25 rfl) rfl ?_
        refine bs_aload_n C (bf_dk dd_L_law_15 26 rfl) rfl ?_
        refine bs_aload_n C (bf_dk dd_L_law_15 27 rfl) rfl ?_
        refine bs_iload_n C (bf_dk dd_L_law_15 28 rfl) rfl ?_
        refine bs_iconst C (bf_dk dd_L_law_15 29 rfl) (1 : Int32) (by decide) ?_
        refine bs_iadd C (bf_dk dd_L_law_15 30 rfl) ?_
        obtain ⟨hi, h⟩ := h
        refine bs_sld C hX hW (bf_dk dd_L_law_15 31 rfl) hi ?_
        refine bs_aload_n C (bf_dk dd_L_law_15 32 rfl) rfl ?_
        refine bs_iload_n C (bf_dk dd_L_law_15 33 rfl) rfl ?_
        refine bs_iconst C (bf_dk dd_L_law_15 34 rfl) (2 : Int32) (by decide) ?_
        refine bs_iadd C (bf_dk dd_L_law_15 35 rfl) ?_
        obtain ⟨hi, h⟩ := h
        refine bs_sld C hX hW (bf_dk dd_L_law_15 36 rfl) hi ?_
        refine bs_callV_i (ps := [68, 69, 70, 71, 72, 73, 74, 75, 76, 77, 78, 79, 80, 81, 82, 83, 84, 85, 86, 87, 88]) (w := (bW8_9 S)) C hR (c_X9_level _ _ _ _ _ S.2 ((scr ((x3 + (1 : Int32))).toNatClampNeg)) ((scr ((x3 + (2 : Int32))).toNatClampNeg)) _ h) my_X9_level m_L_117 rfl cl_9 (ge_bW9_0 _) rfl (Nat.le_of_ble_eq_true rfl) (Nat.le_of_ble_eq_true rfl) (su_bW8_9_68_bW9 S) bnd_68t88 (st := []) (Nat.le_of_ble_eq_true rfl) (bf_dk dd_L_law_15 37 rfl) rfl (fun _ => rfl) (w2 := fun u138 => bW8_9 (S.1, u138)) (pt_bW8_9_68_bW9 S) (fun r137 u138 h => ?_)
        refine bs_nameS bW8_9 (fun S139 eS139 => ?_)
        replace h := h S139 eS139
        refine bs_pop C (bf_dk dd_L_law_15 38 rfl) rfl ?_
        refine bs_goto C (bf_dk dd_L_law_15 39 rfl) (tgt := 1745) rfl ?_
        exact bs_weak (bf_s1 (bf_s1 (bf_s1 (bf_s1 bf_s0)))) (t_L_law_1745 C hR hG hX hW S139 (x3) Q B18 hB18 h)
      · replace h := h.2.2.2.2.2.2.2.2.2.2.2.2.2.2.2.2.2.2.2.2.2.2.2.2.2.1 (bf_i32 c (by decide))
        refine bs_aload_n C (bf_dk dd_L_law_15 40 rfl) rfl ?_
        refine bs_aload_n C (bf_dk dd_L_law_15 41 rfl) rfl ?_
        refine bs_iload_n C (bf_dk dd_L_law_15 42 rfl) rfl ?_
        refine bs_iconst C (bf_dk dd_L_law_15 43 rfl) (1 : Int32) (by decide) ?_
        refine bs_iadd C (bf_dk dd_L_law_15 44 rfl) ?_
        obtain ⟨hi, h⟩ := h
        refine bs_sld C hX hW (bf_dk dd_L_law_15 45 rfl) hi ?_
        refine bs_aload_n C (bf_dk dd_L_law_15 46 rfl) rfl ?_
        refine bs_iload_n C (bf_dk dd_L_law_15 47 rfl) rfl ?_
        refine bs_iconst C (bf_dk dd_L_law_15 48 rfl) (2 : Int32) (by decide) ?_
        refine bs_iadd C (bf_dk dd_L_law_15 49 rfl) ?_
        obtain ⟨hi, h⟩ := h
        refine bs_sld C hX hW (bf_dk dd_L_law_16 0 rfl) hi ?_
        refine bs_pureV_i (ps := [0, 1, 2, 3, 4, 5, 6, 7, 8, 9, 10, 11, 12, 13, 14, 15, 16, 17, 18, 19, 20, 21, 22, 23, 24, 25, 26, 27, 28, 29, 30, 31, 32, 33, 34, 35, 36, 37, 38, 39, 40, 41, 42, 43, 44, 45, 46, 47, 48, 49, 50, 51, 52, 53, 54, 55, 56, 57, 58, 59, 60, 61, 62, 63, 64, 65, 66, 67]) (w := (bW8_9 S)) C hR (c_X8_item _ _ _ _ _ S.1 ((scr ((x3 + (1 : Int32))).toNatClampNeg)) ((scr ((x3 + (2 : Int32))).toNatClampNeg)) _ h) my_X8_item m_L_118 rfl cl_8 (ge_bW8_0 _) rfl (Nat.le_of_ble_eq_true rfl) (Nat.le_of_ble_eq_true rfl) (su_bW8_9_0_bW8 S) bnd_0t67 (st := []) (Nat.le_of_ble_eq_true rfl) (bf_dk dd_L_law_16 1 rfl) rfl (fun _ => rfl) (fun r140 h => ?_)
        refine bs_pop C (bf_dk dd_L_law_16 2 rfl) rfl ?_
        refine bs_aload_n C (bf_dk dd_L_law_16 3 rfl) rfl ?_
        refine bs_aload_n C (bf_dk dd_L_law_16 4 rfl) rfl ?_
        refine bs_iload_n C (bf_dk dd_L_law_16 5 rfl) rfl ?_
        refine bs_iconst C (bf_dk dd_L_law_16 6 rfl) (1 : Int32) (by decide) ?_
        refine bs_iadd C (bf_dk dd_L_law_16 7 rfl) ?_
        obtain ⟨hi, h⟩ := h
        refine bs_sld C hX hW (bf_dk dd_L_law_16 8 rfl) hi ?_
        refine bs_aload_n C (bf_dk dd_L_law_16 9 rfl) rfl ?_
        refine bs_iload_n C (bf_dk dd_L_law_16 10 rfl) rfl ?_
        refine bs_iconst C (bf_dk dd_L_law_16 11 rfl) (2 : Int32) (by decide) ?_
        refine bs_iadd C (bf_dk dd_L_law_16 12 rfl) ?_
        obtain ⟨hi, h⟩ := h
        refine bs_sld C hX hW (bf_dk dd_L_law_16 13 rfl) hi ?_
        refine bs_callV_i (ps := [68, 69, 70, 71, 72, 73, 74, 75, 76, 77, 78, 79, 80, 81, 82, 83, 84, 85, 86, 87, 88]) (w := (bW8_9 S)) C hR (c_X9_item _ _ _ _ _ S.2 ((scr ((x3 + (1 : Int32))).toNatClampNeg)) ((scr ((x3 + (2 : Int32))).toNatClampNeg)) _ h) my_X9_item m_L_121 rfl cl_9 (ge_bW9_0 _) rfl (Nat.le_of_ble_eq_true rfl) (Nat.le_of_ble_eq_true rfl) (su_bW8_9_68_bW9 S) bnd_68t88 (st := []) (Nat.le_of_ble_eq_true rfl) (bf_dk dd_L_law_16 14 rfl) rfl (fun _ => rfl) (w2 := fun u143 => bW8_9 (S.1, u143)) (pt_bW8_9_68_bW9 S) (fun r142 u143 h => ?_)
        refine bs_nameS bW8_9 (fun S144 eS144 => ?_)
        replace h := h S144 eS144
        refine bs_pop C (bf_dk dd_L_law_16 15 rfl) rfl ?_
        refine bs_goto C (bf_dk dd_L_law_16 16 rfl) (tgt := 1745) rfl ?_
        exact bs_weak (bf_s1 (bf_s1 (bf_s1 (bf_s1 bf_s0)))) (t_L_law_1745 C hR hG hX hW S144 (x3) Q B18 hB18 h)
      · replace h := h.2.2.2.2.2.2.2.2.2.2.2.2.2.2.2.2.2.2.2.2.2.2.2.2.2.2.1 (bf_i32 c (by decide))
        refine bs_aload_n C (bf_dk dd_L_law_16 17 rfl) rfl ?_
        refine bs_aload_n C (bf_dk dd_L_law_16 18 rfl) rfl ?_
        refine bs_iload_n C (bf_dk dd_L_law_16 19 rfl) rfl ?_
        refine bs_iconst C (bf_dk dd_L_law_16 20 rfl) (1 : Int32) (by decide) ?_
        refine bs_iadd C (bf_dk dd_L_law_16 21 rfl) ?_
        obtain ⟨hi, h⟩ := h
        refine bs_sld C hX hW (bf_dk dd_L_law_16 22 rfl) hi ?_
        refine bs_pureV_i (ps := [0, 1, 2, 3, 4, 5, 6, 7, 8, 9, 10, 11, 12, 13, 14, 15, 16, 17, 18, 19, 20, 21, 22, 23, 24, 25, 26, 27, 28, 29, 30, 31, 32, 33, 34, 35, 36, 37, 38, 39, 40, 41, 42, 43, 44, 45, 46, 47, 48, 49, 50, 51, 52, 53, 54, 55, 56, 57, 58, 59, 60, 61, 62, 63, 64, 65, 66, 67]) (w := (bW8_9 S)) C hR (c_X8_bit _ _ _ _ _ S.1 ((scr ((x3 + (1 : Int32))).toNatClampNeg)) _ h) my_X8_bit m_L_122 rfl cl_8 (ge_bW8_0 _) rfl (Nat.le_of_ble_eq_true rfl) (Nat.le_of_ble_eq_true rfl) (su_bW8_9_0_bW8 S) bnd_0t67 (st := []) (Nat.le_of_ble_eq_true rfl) (bf_dk dd_L_law_16 23 rfl) rfl (fun _ => rfl) (fun r145 h => ?_)
        refine bs_pop C (bf_dk dd_L_law_16 24 rfl) rfl ?_
        refine bs_aload_n C (bf_dk dd_L_law_16 25 rfl) rfl ?_
        refine bs_aload_n C (bf_dk dd_L_law_16 26 rfl) rfl ?_
        refine bs_iload_n C (bf_dk dd_L_law_16 27 rfl) rfl ?_
        refine bs_iconst C (bf_dk dd_L_law_16 28 rfl) (1 : Int32) (by decide) ?_
        refine bs_iadd C (bf_dk dd_L_law_16 29 rfl) ?_
        obtain ⟨hi, h⟩ := h
        refine bs_sld C hX hW (bf_dk dd_L_law_16 30 rfl) hi ?_
        refine bs_callV_i (ps := [68, 69, 70, 71, 72, 73, 74, 75, 76, 77, 78, 79, 80, 81, 82, 83, 84, 85, 86, 87, 88]) (w := (bW8_9 S)) C hR (c_X9_bit _ _ _ _ _ S.2 ((scr ((x3 + (1 : Int32))).toNatClampNeg)) _ h) my_X9_bit m_L_125 rfl cl_9 (ge_bW9_0 _) rfl (Nat.le_of_ble_eq_true rfl) (Nat.le_of_ble_eq_true rfl) (su_bW8_9_68_bW9 S) bnd_68t88 (st := []) (Nat.le_of_ble_eq_true rfl) (bf_dk dd_L_law_16 31 rfl) rfl (fun _ => rfl) (w2 := fun u148 => bW8_9 (S.1, u148)) (pt_bW8_9_68_bW9 S) (fun r147 u148 h => ?_)
        refine bs_nameS bW8_9 (fun S149 eS149 => ?_)
        replace h := h S149 eS149
        refine bs_pop C (bf_dk dd_L_law_16 32 rfl) rfl ?_
        refine bs_goto C (bf_dk dd_L_law_16 33 rfl) (tgt := 1745) rfl ?_
        exact bs_weak (bf_s1 (bf_s1 (bf_s1 (bf_s1 bf_s0)))) (t_L_law_1745 C hR hG hX hW S149 (x3) Q B18 hB18 h)
      · replace h := h.2.2.2.2.2.2.2.2.2.2.2.2.2.2.2.2.2.2.2.2.2.2.2.2.2.2.2.1 (bf_i32 c (by decide))
        refine bs_aload_n C (bf_dk dd_L_law_16 34 rfl) rfl ?_
        refine bs_aload_n C (bf_dk dd_L_law_16 35 rfl) rfl ?_
        refine bs_iload_n C (bf_dk dd_L_law_16 36 rfl) rfl ?_
        refine bs_iconst C (bf_dk dd_L_law_16 37 rfl) (1 : Int32) (by decide) ?_
        refine bs_iadd C (bf_dk dd_L_law_16 38 rfl) ?_
        obtain ⟨hi, h⟩ := h
        refine bs_sld C hX hW (bf_dk dd_L_law_16 39 rfl) hi ?_
        refine bs_pureV_i (ps := [0, 1, 2, 3, 4, 5, 6, 7, 8, 9, 10, 11, 12, 13, 14, 15, 16, 17, 18, 19, 20, 21, 22, 23, 24, 25, 26, 27, 28, 29, 30, 31, 32, 33, 34, 35, 36, 37, 38, 39, 40, 41, 42, 43, 44, 45, 46, 47, 48, 49, 50, 51, 52, 53, 54, 55, 56, 57, 58, 59, 60, 61, 62, 63, 64, 65, 66, 67]) (w := (bW8_9 S)) C hR (c_X8_rank _ _ _ _ _ S.1 ((scr ((x3 + (1 : Int32))).toNatClampNeg)) _ h) my_X8_rank m_L_126 rfl cl_8 (ge_bW8_0 _) rfl (Nat.le_of_ble_eq_true rfl) (Nat.le_of_ble_eq_true rfl) (su_bW8_9_0_bW8 S) bnd_0t67 (st := []) (Nat.le_of_ble_eq_true rfl) (bf_dk dd_L_law_16 40 rfl) rfl (fun _ => rfl) (fun r150 h => ?_)
        refine bs_pop C (bf_dk dd_L_law_16 41 rfl) rfl ?_
        refine bs_aload_n C (bf_dk dd_L_law_16 42 rfl) rfl ?_
        refine bs_aload_n C (bf_dk dd_L_law_16 43 rfl) rfl ?_
        refine bs_iload_n C (bf_dk dd_L_law_16 44 rfl) rfl ?_
        refine bs_iconst C (bf_dk dd_L_law_16 45 rfl) (1 : Int32) (by decide) ?_
        refine bs_iadd C (bf_dk dd_L_law_16 46 rfl) ?_
        obtain ⟨hi, h⟩ := h
        refine bs_sld C hX hW (bf_dk dd_L_law_16 47 rfl) hi ?_
        refine bs_callV_i (ps := [68, 69, 70, 71, 72, 73, 74, 75, 76, 77, 78, 79, 80, 81, 82, 83, 84, 85, 86, 87, 88]) (w := (bW8_9 S)) C hR (c_X9_rank _ _ _ _ _ S.2 ((scr ((x3 + (1 : Int32))).toNatClampNeg)) _ h) my_X9_rank m_L_129 rfl cl_9 (ge_bW9_0 _) rfl (Nat.le_of_ble_eq_true rfl) (Nat.le_of_ble_eq_true rfl) (su_bW8_9_68_bW9 S) bnd_68t88 (st := []) (Nat.le_of_ble_eq_true rfl) (bf_dk dd_L_law_16 48 rfl) rfl (fun _ => rfl) (w2 := fun u153 => bW8_9 (S.1, u153)) (pt_bW8_9_68_bW9 S) (fun r152 u153 h => ?_)
        refine bs_nameS bW8_9 (fun S154 eS154 => ?_)
        replace h := h S154 eS154
        refine bs_pop C (bf_dk dd_L_law_16 49 rfl) rfl ?_
        refine bs_goto C (bf_dk dd_L_law_17 0 rfl) (tgt := 1745) rfl ?_
        exact bs_weak (bf_s1 (bf_s1 (bf_s1 (bf_s1 bf_s0)))) (t_L_law_1745 C hR hG hX hW S154 (x3) Q B18 hB18 h)
      · replace h := h.2.2.2.2.2.2.2.2.2.2.2.2.2.2.2.2.2.2.2.2.2.2.2.2.2.2.2.2.1 (bf_i32 c (by decide))
        refine bs_aload_n C (bf_dk dd_L_law_17 1 rfl) rfl ?_
        refine bs_aload_n C (bf_dk dd_L_law_17 2 rfl) rfl ?_
        refine bs_iload_n C (bf_dk dd_L_law_17 3 rfl) rfl ?_
        refine bs_iconst C (bf_dk dd_L_law_17 4 rfl) (1 : Int32) (by decide) ?_
        refine bs_iadd C (bf_dk dd_L_law_17 5 rfl) ?_
        obtain ⟨hi, h⟩ := h
        refine bs_sld C hX hW (bf_dk dd_L_law_17 6 rfl) hi ?_
        refine bs_pureV_i (ps := [0, 1, 2, 3, 4, 5, 6, 7, 8, 9, 10, 11, 12, 13, 14, 15, 16, 17, 18, 19, 20, 21, 22, 23, 24, 25, 26, 27, 28, 29, 30, 31, 32, 33, 34, 35, 36, 37, 38, 39, 40, 41, 42, 43, 44, 45, 46, 47, 48, 49, 50, 51, 52, 53, 54, 55, 56, 57, 58, 59, 60, 61, 62, 63, 64, 65, 66, 67]) (w := (bW8_9 S)) C hR (c_X8_select _ _ _ _ _ S.1 ((scr ((x3 + (1 : Int32))).toNatClampNeg)) _ h) my_X8_select m_L_130 rfl cl_8 (ge_bW8_0 _) rfl (Nat.le_of_ble_eq_true rfl) (Nat.le_of_ble_eq_true rfl) (su_bW8_9_0_bW8 S) bnd_0t67 (st := []) (Nat.le_of_ble_eq_true rfl) (bf_dk dd_L_law_17 7 rfl) rfl (fun _ => rfl) (fun r155 h => ?_)
        refine bs_pop C (bf_dk dd_L_law_17 8 rfl) rfl ?_
        refine bs_aload_n C (bf_dk dd_L_law_17 9 rfl) rfl ?_
        refine bs_aload_n C (bf_dk dd_L_law_17 10 rfl) rfl ?_
        refine bs_iload_n C (bf_dk dd_L_law_17 11 rfl) rfl ?_
        refine bs_iconst C (bf_dk dd_L_law_17 12 rfl) (1 : Int32) (by decide) ?_
        refine bs_iadd C (bf_dk dd_L_law_17 13 rfl) ?_
        obtain ⟨hi, h⟩ := h
        refine bs_sld C hX hW (bf_dk dd_L_law_17 14 rfl) hi ?_
        refine bs_callV_i (ps := [68, 69, 70, 71, 72, 73, 74, 75, 76, 77, 78, 79, 80, 81, 82, 83, 84, 85, 86, 87, 88]) (w := (bW8_9 S)) C hR (c_X9_select _ _ _ _ _ S.2 ((scr ((x3 + (1 : Int32))).toNatClampNeg)) _ h) my_X9_select m_L_133 rfl cl_9 (ge_bW9_0 _) rfl (Nat.le_of_ble_eq_true rfl) (Nat.le_of_ble_eq_true rfl) (su_bW8_9_68_bW9 S) bnd_68t88 (st := []) (Nat.le_of_ble_eq_true rfl) (bf_dk dd_L_law_17 15 rfl) rfl (fun _ => rfl) (w2 := fun u158 => bW8_9 (S.1, u158)) (pt_bW8_9_68_bW9 S) (fun r157 u158 h => ?_)
        refine bs_nameS bW8_9 (fun S159 eS159 => ?_)
        replace h := h S159 eS159
        refine bs_pop C (bf_dk dd_L_law_17 16 rfl) rfl ?_
        refine bs_goto C (bf_dk dd_L_law_17 17 rfl) (tgt := 1745) rfl ?_
        exact bs_weak (bf_s1 (bf_s1 (bf_s1 (bf_s1 bf_s0)))) (t_L_law_1745 C hR hG hX hW S159 (x3) Q B18 hB18 h)
      · replace h := h.2.2.2.2.2.2.2.2.2.2.2.2.2.2.2.2.2.2.2.2.2.2.2.2.2.2.2.2.2.1 (bf_i32 c (by decide))
        refine bs_aload_n C (bf_dk dd_L_law_17 18 rfl) rfl ?_
        refine bs_aload_n C (bf_dk dd_L_law_17 19 rfl) rfl ?_
        refine bs_iload_n C (bf_dk dd_L_law_17 20 rfl) rfl ?_
        refine bs_iconst C (bf_dk dd_L_law_17 21 rfl) (1 : Int32) (by decide) ?_
        refine bs_iadd C (bf_dk dd_L_law_17 22 rfl) ?_
        obtain ⟨hi, h⟩ := h
        refine bs_sld C hX hW (bf_dk dd_L_law_17 23 rfl) hi ?_
        refine bs_pureV_i (ps := [0, 1, 2, 3, 4, 5, 6, 7, 8, 9, 10, 11, 12, 13, 14, 15, 16, 17, 18, 19, 20, 21, 22, 23, 24, 25, 26, 27, 28, 29, 30, 31, 32, 33, 34, 35, 36, 37, 38, 39, 40, 41, 42, 43, 44, 45, 46, 47, 48, 49, 50, 51, 52, 53, 54, 55, 56, 57, 58, 59, 60, 61, 62, 63, 64, 65, 66, 67]) (w := (bW8_9 S)) C hR (c_X8_bits _ _ _ _ _ S.1 ((scr ((x3 + (1 : Int32))).toNatClampNeg)) _ h) my_X8_bits m_L_134 rfl cl_8 (ge_bW8_0 _) rfl (Nat.le_of_ble_eq_true rfl) (Nat.le_of_ble_eq_true rfl) (su_bW8_9_0_bW8 S) bnd_0t67 (st := []) (Nat.le_of_ble_eq_true rfl) (bf_dk dd_L_law_17 24 rfl) rfl (fun _ => rfl) (fun r160 h => ?_)
        refine bs_pop C (bf_dk dd_L_law_17 25 rfl) rfl ?_
        refine bs_aload_n C (bf_dk dd_L_law_17 26 rfl) rfl ?_
        refine bs_aload_n C (bf_dk dd_L_law_17 27 rfl) rfl ?_
        refine bs_iload_n C (bf_dk dd_L_law_17 28 rfl) rfl ?_
        refine bs_iconst C (bf_dk dd_L_law_17 29 rfl) (1 : Int32) (by decide) ?_
        refine bs_iadd C (bf_dk dd_L_law_17 30 rfl) ?_
        obtain ⟨hi, h⟩ := h
        refine bs_sld C hX hW (bf_dk dd_L_law_17 31 rfl) hi ?_
        refine bs_callV_i (ps := [68, 69, 70, 71, 72, 73, 74, 75, 76, 77, 78, 79, 80, 81, 82, 83, 84, 85, 86, 87, 88]) (w := (bW8_9 S)) C hR (c_X9_bits _ _ _ _ _ S.2 ((scr ((x3 + (1 : Int32))).toNatClampNeg)) _ h) my_X9_bits m_L_137 rfl cl_9 (ge_bW9_0 _) rfl (Nat.le_of_ble_eq_true rfl) (Nat.le_of_ble_eq_true rfl) (su_bW8_9_68_bW9 S) bnd_68t88 (st := []) (Nat.le_of_ble_eq_true rfl) (bf_dk dd_L_law_17 32 rfl) rfl (fun _ => rfl) (w2 := fun u163 => bW8_9 (S.1, u163)) (pt_bW8_9_68_bW9 S) (fun r162 u163 h => ?_)
        refine bs_nameS bW8_9 (fun S164 eS164 => ?_)
        replace h := h S164 eS164
        refine bs_pop C (bf_dk dd_L_law_17 33 rfl) rfl ?_
        refine bs_goto C (bf_dk dd_L_law_17 34 rfl) (tgt := 1745) rfl ?_
        exact bs_weak (bf_s1 (bf_s1 (bf_s1 (bf_s1 bf_s0)))) (t_L_law_1745 C hR hG hX hW S164 (x3) Q B18 hB18 h)
      · replace h := h.2.2.2.2.2.2.2.2.2.2.2.2.2.2.2.2.2.2.2.2.2.2.2.2.2.2.2.2.2.2.1 (bf_i32 c (by decide))
        refine bs_aload_n C (bf_dk dd_L_law_17 35 rfl) rfl ?_
        refine bs_aload_n C (bf_dk dd_L_law_17 36 rfl) rfl ?_
        refine bs_iload_n C (bf_dk dd_L_law_17 37 rfl) rfl ?_
        refine bs_iconst C (bf_dk dd_L_law_17 38 rfl) (1 : Int32) (by decide) ?_
        refine bs_iadd C (bf_dk dd_L_law_17 39 rfl) ?_
        obtain ⟨hi, h⟩ := h
        refine bs_sld C hX hW (bf_dk dd_L_law_17 40 rfl) hi ?_
        refine bs_pureV_i (ps := [0, 1, 2, 3, 4, 5, 6, 7, 8, 9, 10, 11, 12, 13, 14, 15, 16, 17, 18, 19, 20, 21, 22, 23, 24, 25, 26, 27, 28, 29, 30, 31, 32, 33, 34, 35, 36, 37, 38, 39, 40, 41, 42, 43, 44, 45, 46, 47, 48, 49, 50, 51, 52, 53, 54, 55, 56, 57, 58, 59, 60, 61, 62, 63, 64, 65, 66, 67]) (w := (bW8_9 S)) C hR (c_X8_least _ _ _ _ _ S.1 ((scr ((x3 + (1 : Int32))).toNatClampNeg)) _ h) my_X8_least m_L_138 rfl cl_8 (ge_bW8_0 _) rfl (Nat.le_of_ble_eq_true rfl) (Nat.le_of_ble_eq_true rfl) (su_bW8_9_0_bW8 S) bnd_0t67 (st := []) (Nat.le_of_ble_eq_true rfl) (bf_dk dd_L_law_17 41 rfl) rfl (fun _ => rfl) (fun r165 h => ?_)
        refine bs_pop C (bf_dk dd_L_law_17 42 rfl) rfl ?_
        refine bs_aload_n C (bf_dk dd_L_law_17 43 rfl) rfl ?_
        refine bs_aload_n C (bf_dk dd_L_law_17 44 rfl) rfl ?_
        refine bs_iload_n C (bf_dk dd_L_law_17 45 rfl) rfl ?_
        refine bs_iconst C (bf_dk dd_L_law_17 46 rfl) (1 : Int32) (by decide) ?_
        refine bs_iadd C (bf_dk dd_L_law_17 47 rfl) ?_
        obtain ⟨hi, h⟩ := h
        refine bs_sld C hX hW (bf_dk dd_L_law_17 48 rfl) hi ?_
        refine bs_callV_i (ps := [68, 69, 70, 71, 72, 73, 74, 75, 76, 77, 78, 79, 80, 81, 82, 83, 84, 85, 86, 87, 88]) (w := (bW8_9 S)) C hR (c_X9_least _ _ _ _ _ S.2 ((scr ((x3 + (1 : Int32))).toNatClampNeg)) _ h) my_X9_least m_L_141 rfl cl_9 (ge_bW9_0 _) rfl (Nat.le_of_ble_eq_true rfl) (Nat.le_of_ble_eq_true rfl) (su_bW8_9_68_bW9 S) bnd_68t88 (st := []) (Nat.le_of_ble_eq_true rfl) (bf_dk dd_L_law_17 49 rfl) rfl (fun _ => rfl) (w2 := fun u168 => bW8_9 (S.1, u168)) (pt_bW8_9_68_bW9 S) (fun r167 u168 h => ?_)
        refine bs_nameS bW8_9 (fun S169 eS169 => ?_)
        replace h := h S169 eS169
        refine bs_pop C (bf_dk dd_L_law_18 0 rfl) rfl ?_
        refine bs_goto C (bf_dk dd_L_law_18 1 rfl) (tgt := 1745) rfl ?_
        exact bs_weak (bf_s1 (bf_s1 (bf_s1 (bf_s1 bf_s0)))) (t_L_law_1745 C hR hG hX hW S169 (x3) Q B18 hB18 h)
      · replace h := h.2.2.2.2.2.2.2.2.2.2.2.2.2.2.2.2.2.2.2.2.2.2.2.2.2.2.2.2.2.2.2.1 (bf_i32 c (by decide))
        refine bs_aload_n C (bf_dk dd_L_law_18 2 rfl) rfl ?_
        refine bs_aload_n C (bf_dk dd_L_law_18 3 rfl) rfl ?_
        refine bs_iload_n C (bf_dk dd_L_law_18 4 rfl) rfl ?_
        refine bs_iconst C (bf_dk dd_L_law_18 5 rfl) (1 : Int32) (by decide) ?_
        refine bs_iadd C (bf_dk dd_L_law_18 6 rfl) ?_
        obtain ⟨hi, h⟩ := h
        refine bs_sld C hX hW (bf_dk dd_L_law_18 7 rfl) hi ?_
        refine bs_pureV_l (ps := [0, 1, 2, 3, 4, 5, 6, 7, 8, 9, 10, 11, 12, 13, 14, 15, 16, 17, 18, 19, 20, 21, 22, 23, 24, 25, 26, 27, 28, 29, 30, 31, 32, 33, 34, 35, 36, 37, 38, 39, 40, 41, 42, 43, 44, 45, 46, 47, 48, 49, 50, 51, 52, 53, 54, 55, 56, 57, 58, 59, 60, 61, 62, 63, 64, 65, 66, 67]) (w := (bW8_9 S)) C hR (c_X8_cover _ _ _ _ _ S.1 ((scr ((x3 + (1 : Int32))).toNatClampNeg)) _ h) my_X8_cover m_L_142 rfl cl_8 (ge_bW8_0 _) rfl (Nat.le_of_ble_eq_true rfl) (Nat.le_of_ble_eq_true rfl) (su_bW8_9_0_bW8 S) bnd_0t67 (st := []) (Nat.le_of_ble_eq_true rfl) (bf_dk dd_L_law_18 8 rfl) rfl (fun _ => rfl) (fun r170 h => ?_)
        refine bs_pop2 C (bf_dk dd_L_law_18 9 rfl) rfl ?_
        refine bs_aload_n C (bf_dk dd_L_law_18 10 rfl) rfl ?_
        refine bs_aload_n C (bf_dk dd_L_law_18 11 rfl) rfl ?_
        refine bs_iload_n C (bf_dk dd_L_law_18 12 rfl) rfl ?_
        refine bs_iconst C (bf_dk dd_L_law_18 13 rfl) (1 : Int32) (by decide) ?_
        refine bs_iadd C (bf_dk dd_L_law_18 14 rfl) ?_
        obtain ⟨hi, h⟩ := h
        refine bs_sld C hX hW (bf_dk dd_L_law_18 15 rfl) hi ?_
        refine bs_callV_l (ps := [68, 69, 70, 71, 72, 73, 74, 75, 76, 77, 78, 79, 80, 81, 82, 83, 84, 85, 86, 87, 88]) (w := (bW8_9 S)) C hR (c_X9_cover _ _ _ _ _ S.2 ((scr ((x3 + (1 : Int32))).toNatClampNeg)) _ h) my_X9_cover m_L_146 rfl cl_9 (ge_bW9_0 _) rfl (Nat.le_of_ble_eq_true rfl) (Nat.le_of_ble_eq_true rfl) (su_bW8_9_68_bW9 S) bnd_68t88 (st := []) (Nat.le_of_ble_eq_true rfl) (bf_dk dd_L_law_18 16 rfl) rfl (fun _ => rfl) (w2 := fun u173 => bW8_9 (S.1, u173)) (pt_bW8_9_68_bW9 S) (fun r172 u173 h => ?_)
        refine bs_nameS bW8_9 (fun S174 eS174 => ?_)
        replace h := h S174 eS174
        refine bs_pop2 C (bf_dk dd_L_law_18 17 rfl) rfl ?_
        refine bs_goto C (bf_dk dd_L_law_18 18 rfl) (tgt := 1745) rfl ?_
        exact bs_weak (bf_s1 (bf_s1 (bf_s1 (bf_s1 bf_s0)))) (t_L_law_1745 C hR hG hX hW S174 (x3) Q B18 hB18 h)
      · replace h := h.2.2.2.2.2.2.2.2.2.2.2.2.2.2.2.2.2.2.2.2.2.2.2.2.2.2.2.2.2.2.2.2.1 (bf_i32 c (by decide))
        refine bs_aload_n C (bf_dk dd_L_law_18 19 rfl) rfl ?_
        refine bs_aload_n C (bf_dk dd_L_law_18 20 rfl) rfl ?_
        refine bs_iload_n C (bf_dk dd_L_law_18 21 rfl) rfl ?_
        refine bs_iconst C (bf_dk dd_L_law_18 22 rfl) (1 : Int32) (by decide) ?_
        refine bs_iadd C (bf_dk dd_L_law_18 23 rfl) ?_
        obtain ⟨hi, h⟩ := h
        refine bs_sld C hX hW (bf_dk dd_L_law_18 24 rfl) hi ?_
        refine bs_pureV_l (ps := [0, 1, 2, 3, 4, 5, 6, 7, 8, 9, 10, 11, 12, 13, 14, 15, 16, 17, 18, 19, 20, 21, 22, 23, 24, 25, 26, 27, 28, 29, 30, 31, 32, 33, 34, 35, 36, 37, 38, 39, 40, 41, 42, 43, 44, 45, 46, 47, 48, 49, 50, 51, 52, 53, 54, 55, 56, 57, 58, 59, 60, 61, 62, 63, 64, 65, 66, 67]) (w := (bW8_9 S)) C hR (c_X8_loose _ _ _ _ _ S.1 ((scr ((x3 + (1 : Int32))).toNatClampNeg)) _ h) my_X8_loose m_L_147 rfl cl_8 (ge_bW8_0 _) rfl (Nat.le_of_ble_eq_true rfl) (Nat.le_of_ble_eq_true rfl) (su_bW8_9_0_bW8 S) bnd_0t67 (st := []) (Nat.le_of_ble_eq_true rfl) (bf_dk dd_L_law_18 25 rfl) rfl (fun _ => rfl) (fun r175 h => ?_)
        refine bs_pop2 C (bf_dk dd_L_law_18 26 rfl) rfl ?_
        refine bs_aload_n C (bf_dk dd_L_law_18 27 rfl) rfl ?_
        refine bs_aload_n C (bf_dk dd_L_law_18 28 rfl) rfl ?_
        refine bs_iload_n C (bf_dk dd_L_law_18 29 rfl) rfl ?_
        refine bs_iconst C (bf_dk dd_L_law_18 30 rfl) (1 : Int32) (by decide) ?_
        refine bs_iadd C (bf_dk dd_L_law_18 31 rfl) ?_
        obtain ⟨hi, h⟩ := h
        refine bs_sld C hX hW (bf_dk dd_L_law_18 32 rfl) hi ?_
        refine bs_callV_l (ps := [68, 69, 70, 71, 72, 73, 74, 75, 76, 77, 78, 79, 80, 81, 82, 83, 84, 85, 86, 87, 88]) (w := (bW8_9 S)) C hR (c_X9_loose _ _ _ _ _ S.2 ((scr ((x3 + (1 : Int32))).toNatClampNeg)) _ h) my_X9_loose m_L_150 rfl cl_9 (ge_bW9_0 _) rfl (Nat.le_of_ble_eq_true rfl) (Nat.le_of_ble_eq_true rfl) (su_bW8_9_68_bW9 S) bnd_68t88 (st := []) (Nat.le_of_ble_eq_true rfl) (bf_dk dd_L_law_18 33 rfl) rfl (fun _ => rfl) (w2 := fun u178 => bW8_9 (S.1, u178)) (pt_bW8_9_68_bW9 S) (fun r177 u178 h => ?_)
        refine bs_nameS bW8_9 (fun S179 eS179 => ?_)
        replace h := h S179 eS179
        refine bs_pop2 C (bf_dk dd_L_law_18 34 rfl) rfl ?_
        refine bs_goto C (bf_dk dd_L_law_18 35 rfl) (tgt := 1745) rfl ?_
        exact bs_weak (bf_s1 (bf_s1 (bf_s1 (bf_s1 bf_s0)))) (t_L_law_1745 C hR hG hX hW S179 (x3) Q B18 hB18 h)
      · replace h := h.2.2.2.2.2.2.2.2.2.2.2.2.2.2.2.2.2.2.2.2.2.2.2.2.2.2.2.2.2.2.2.2.2.1 (bf_i32 c (by decide))
        refine bs_aload_n C (bf_dk dd_L_law_18 36 rfl) rfl ?_
        refine bs_aload_n C (bf_dk dd_L_law_18 37 rfl) rfl ?_
        refine bs_iload_n C (bf_dk dd_L_law_18 38 rfl) rfl ?_
        refine bs_iconst C (bf_dk dd_L_law_18 39 rfl) (1 : Int32) (by decide) ?_
        refine bs_iadd C (bf_dk dd_L_law_18 40 rfl) ?_
        obtain ⟨hi, h⟩ := h
        refine bs_sld C hX hW (bf_dk dd_L_law_18 41 rfl) hi ?_
        refine bs_aload_n C (bf_dk dd_L_law_18 42 rfl) rfl ?_
        refine bs_iload_n C (bf_dk dd_L_law_18 43 rfl) rfl ?_
        refine bs_iconst C (bf_dk dd_L_law_18 44 rfl) (2 : Int32) (by decide) ?_
        refine bs_iadd C (bf_dk dd_L_law_18 45 rfl) ?_
        obtain ⟨hi, h⟩ := h
        refine bs_sld C hX hW (bf_dk dd_L_law_18 46 rfl) hi ?_
        refine bs_pureV_l (ps := [0, 1, 2, 3, 4, 5, 6, 7, 8, 9, 10, 11, 12, 13, 14, 15, 16, 17, 18, 19, 20, 21, 22, 23, 24, 25, 26, 27, 28, 29, 30, 31, 32, 33, 34, 35, 36, 37, 38, 39, 40, 41, 42, 43, 44, 45, 46, 47, 48, 49, 50, 51, 52, 53, 54, 55, 56, 57, 58, 59, 60, 61, 62, 63, 64, 65, 66, 67]) (w := (bW8_9 S)) C hR (c_X8_free _ _ _ _ _ S.1 ((scr ((x3 + (1 : Int32))).toNatClampNeg)) ((scr ((x3 + (2 : Int32))).toNatClampNeg)) _ h) my_X8_free m_L_151 rfl cl_8 (ge_bW8_0 _) rfl (Nat.le_of_ble_eq_true rfl) (Nat.le_of_ble_eq_true rfl) (su_bW8_9_0_bW8 S) bnd_0t67 (st := []) (Nat.le_of_ble_eq_true rfl) (bf_dk dd_L_law_18 47 rfl) rfl (fun _ => rfl) (fun r180 h => ?_)
        refine bs_pop2 C (bf_dk dd_L_law_18 48 rfl) rfl ?_
        refine bs_aload_n C (bf_dk dd_L_law_18 49 rfl) rfl ?_
        refine bs_aload_n C (bf_dk dd_L_law_19 0 rfl) rfl ?_
        refine bs_iload_n C (bf_dk dd_L_law_19 1 rfl) rfl ?_
        refine bs_iconst C (bf_dk dd_L_law_19 2 rfl) (1 : Int32) (by decide) ?_
        refine bs_iadd C (bf_dk dd_L_law_19 3 rfl) ?_
        obtain ⟨hi, h⟩ := h
        refine bs_sld C hX hW (bf_dk dd_L_law_19 4 rfl) hi ?_
        refine bs_aload_n C (bf_dk dd_L_law_19 5 rfl) rfl ?_
        refine bs_iload_n C (bf_dk dd_L_law_19 6 rfl) rfl ?_
        refine bs_iconst C (bf_dk dd_L_law_19 7 rfl) (2 : Int32) (by decide) ?_
        refine bs_iadd C (bf_dk dd_L_law_19 8 rfl) ?_
        obtain ⟨hi, h⟩ := h
        refine bs_sld C hX hW (bf_dk dd_L_law_19 9 rfl) hi ?_
        refine bs_callV_l (ps := [68, 69, 70, 71, 72, 73, 74, 75, 76, 77, 78, 79, 80, 81, 82, 83, 84, 85, 86, 87, 88]) (w := (bW8_9 S)) C hR (c_X9_free _ _ _ _ _ S.2 ((scr ((x3 + (1 : Int32))).toNatClampNeg)) ((scr ((x3 + (2 : Int32))).toNatClampNeg)) _ h) my_X9_free m_L_155 rfl cl_9 (ge_bW9_0 _) rfl (Nat.le_of_ble_eq_true rfl) (Nat.le_of_ble_eq_true rfl) (su_bW8_9_68_bW9 S) bnd_68t88 (st := []) (Nat.le_of_ble_eq_true rfl) (bf_dk dd_L_law_19 10 rfl) rfl (fun _ => rfl) (w2 := fun u183 => bW8_9 (S.1, u183)) (pt_bW8_9_68_bW9 S) (fun r182 u183 h => ?_)
        refine bs_nameS bW8_9 (fun S184 eS184 => ?_)
        replace h := h S184 eS184
        refine bs_pop2 C (bf_dk dd_L_law_19 11 rfl) rfl ?_
        refine bs_goto C (bf_dk dd_L_law_19 12 rfl) (tgt := 1745) rfl ?_
        exact bs_weak (bf_s1 (bf_s1 (bf_s1 (bf_s1 bf_s0)))) (t_L_law_1745 C hR hG hX hW S184 (x3) Q B18 hB18 h)
      · replace h := h.2.2.2.2.2.2.2.2.2.2.2.2.2.2.2.2.2.2.2.2.2.2.2.2.2.2.2.2.2.2.2.2.2.2.1 (bf_i32 c (by decide))
        refine bs_aload_n C (bf_dk dd_L_law_19 13 rfl) rfl ?_
        refine bs_aload_n C (bf_dk dd_L_law_19 14 rfl) rfl ?_
        refine bs_iload_n C (bf_dk dd_L_law_19 15 rfl) rfl ?_
        refine bs_iconst C (bf_dk dd_L_law_19 16 rfl) (1 : Int32) (by decide) ?_
        refine bs_iadd C (bf_dk dd_L_law_19 17 rfl) ?_
        obtain ⟨hi, h⟩ := h
        refine bs_sld C hX hW (bf_dk dd_L_law_19 18 rfl) hi ?_
        refine bs_aload_n C (bf_dk dd_L_law_19 19 rfl) rfl ?_
        refine bs_iload_n C (bf_dk dd_L_law_19 20 rfl) rfl ?_
        refine bs_iconst C (bf_dk dd_L_law_19 21 rfl) (2 : Int32) (by decide) ?_
        refine bs_iadd C (bf_dk dd_L_law_19 22 rfl) ?_
        obtain ⟨hi, h⟩ := h
        refine bs_sld C hX hW (bf_dk dd_L_law_19 23 rfl) hi ?_
        refine bs_aload_n C (bf_dk dd_L_law_19 24 rfl) rfl ?_
        refine bs_iload_n C (bf_dk dd_L_law_19 25 rfl) rfl ?_
        refine bs_iconst C (bf_dk dd_L_law_19 26 rfl) (3 : Int32) (by decide) ?_
        refine bs_iadd C (bf_dk dd_L_law_19 27 rfl) ?_
        obtain ⟨hi, h⟩ := h
        refine bs_sld C hX hW (bf_dk dd_L_law_19 28 rfl) hi ?_
        refine bs_aload_n C (bf_dk dd_L_law_19 29 rfl) rfl ?_
        refine bs_iload_n C (bf_dk dd_L_law_19 30 rfl) rfl ?_
        refine bs_iconst C (bf_dk dd_L_law_19 31 rfl) (4 : Int32) (by decide) ?_
        refine bs_iadd C (bf_dk dd_L_law_19 32 rfl) ?_
        obtain ⟨hi, h⟩ := h
        refine bs_sld C hX hW (bf_dk dd_L_law_19 33 rfl) hi ?_
        refine bs_pureV_i (ps := [0, 1, 2, 3, 4, 5, 6, 7, 8, 9, 10, 11, 12, 13, 14, 15, 16, 17, 18, 19, 20, 21, 22, 23, 24, 25, 26, 27, 28, 29, 30, 31, 32, 33, 34, 35, 36, 37, 38, 39, 40, 41, 42, 43, 44, 45, 46, 47, 48, 49, 50, 51, 52, 53, 54, 55, 56, 57, 58, 59, 60, 61, 62, 63, 64, 65, 66, 67]) (w := (bW8_9 S)) C hR (c_X8_spread _ _ _ _ _ S.1 ((scr ((x3 + (1 : Int32))).toNatClampNeg)) ((scr ((x3 + (2 : Int32))).toNatClampNeg)) ((scr ((x3 + (3 : Int32))).toNatClampNeg)) ((scr ((x3 + (4 : Int32))).toNatClampNeg)) _ h) my_X8_spread m_L_156 rfl cl_8 (ge_bW8_0 _) rfl (Nat.le_of_ble_eq_true rfl) (Nat.le_of_ble_eq_true rfl) (su_bW8_9_0_bW8 S) bnd_0t67 (st := []) (Nat.le_of_ble_eq_true rfl) (bf_dk dd_L_law_19 34 rfl) rfl (fun _ => rfl) (fun r185 h => ?_)
        refine bs_pop C (bf_dk dd_L_law_19 35 rfl) rfl ?_
        refine bs_aload_n C (bf_dk dd_L_law_19 36 rfl) rfl ?_
        refine bs_aload_n C (bf_dk dd_L_law_19 37 rfl) rfl ?_
        refine bs_iload_n C (bf_dk dd_L_law_19 38 rfl) rfl ?_
        refine bs_iconst C (bf_dk dd_L_law_19 39 rfl) (1 : Int32) (by decide) ?_
        refine bs_iadd C (bf_dk dd_L_law_19 40 rfl) ?_
        obtain ⟨hi, h⟩ := h
        refine bs_sld C hX hW (bf_dk dd_L_law_19 41 rfl) hi ?_
        refine bs_aload_n C (bf_dk dd_L_law_19 42 rfl) rfl ?_
        refine bs_iload_n C (bf_dk dd_L_law_19 43 rfl) rfl ?_
        refine bs_iconst C (bf_dk dd_L_law_19 44 rfl) (2 : Int32) (by decide) ?_
        refine bs_iadd C (bf_dk dd_L_law_19 45 rfl) ?_
        obtain ⟨hi, h⟩ := h
        refine bs_sld C hX hW (bf_dk dd_L_law_19 46 rfl) hi ?_
        refine bs_aload_n C (bf_dk dd_L_law_19 47 rfl) rfl ?_
        refine bs_iload_n C (bf_dk dd_L_law_19 48 rfl) rfl ?_
        refine bs_iconst C (bf_dk dd_L_law_19 49 rfl) (3 : Int32) (by decide) ?_
        refine bs_iadd C (bf_dk dd_L_law_20 0 rfl) ?_
        obtain ⟨hi, h⟩ := h
        refine bs_sld C hX hW (bf_dk dd_L_law_20 1 rfl) hi ?_
        refine bs_aload_n C (bf_dk dd_L_law_20 2 rfl) rfl ?_
        refine bs_iload_n C (bf_dk dd_L_law_20 3 rfl) rfl ?_
        refine bs_iconst C (bf_dk dd_L_law_20 4 rfl) (4 : Int32) (by decide) ?_
        refine bs_iadd C (bf_dk dd_L_law_20 5 rfl) ?_
        obtain ⟨hi, h⟩ := h
        refine bs_sld C hX hW (bf_dk dd_L_law_20 6 rfl) hi ?_
        refine bs_callV_i (ps := [68, 69, 70, 71, 72, 73, 74, 75, 76, 77, 78, 79, 80, 81, 82, 83, 84, 85, 86, 87, 88]) (w := (bW8_9 S)) C hR (c_X9_spread _ _ _ _ _ S.2 ((scr ((x3 + (1 : Int32))).toNatClampNeg)) ((scr ((x3 + (2 : Int32))).toNatClampNeg)) ((scr ((x3 + (3 : Int32))).toNatClampNeg)) ((scr ((x3 + (4 : Int32))).toNatClampNeg)) _ h) my_X9_spread m_L_159 rfl cl_9 (ge_bW9_0 _) rfl (Nat.le_of_ble_eq_true rfl) (Nat.le_of_ble_eq_true rfl) (su_bW8_9_68_bW9 S) bnd_68t88 (st := []) (Nat.le_of_ble_eq_true rfl) (bf_dk dd_L_law_20 7 rfl) rfl (fun _ => rfl) (w2 := fun u188 => bW8_9 (S.1, u188)) (pt_bW8_9_68_bW9 S) (fun r187 u188 h => ?_)
        refine bs_nameS bW8_9 (fun S189 eS189 => ?_)
        replace h := h S189 eS189
        refine bs_pop C (bf_dk dd_L_law_20 8 rfl) rfl ?_
        refine bs_goto C (bf_dk dd_L_law_20 9 rfl) (tgt := 1745) rfl ?_
        exact bs_weak (bf_s1 (bf_s1 (bf_s1 (bf_s1 bf_s0)))) (t_L_law_1745 C hR hG hX hW S189 (x3) Q B18 hB18 h)
      · replace h := h.2.2.2.2.2.2.2.2.2.2.2.2.2.2.2.2.2.2.2.2.2.2.2.2.2.2.2.2.2.2.2.2.2.2.2.1 (bf_i32 c (by decide))
        refine bs_aload_n C (bf_dk dd_L_law_20 10 rfl) rfl ?_
        refine bs_aload_n C (bf_dk dd_L_law_20 11 rfl) rfl ?_
        refine bs_iload_n C (bf_dk dd_L_law_20 12 rfl) rfl ?_
        refine bs_iconst C (bf_dk dd_L_law_20 13 rfl) (1 : Int32) (by decide) ?_
        refine bs_iadd C (bf_dk dd_L_law_20 14 rfl) ?_
        obtain ⟨hi, h⟩ := h
        refine bs_sld C hX hW (bf_dk dd_L_law_20 15 rfl) hi ?_
        refine bs_aload_n C (bf_dk dd_L_law_20 16 rfl) rfl ?_
        refine bs_iload_n C (bf_dk dd_L_law_20 17 rfl) rfl ?_
        refine bs_iconst C (bf_dk dd_L_law_20 18 rfl) (2 : Int32) (by decide) ?_
        refine bs_iadd C (bf_dk dd_L_law_20 19 rfl) ?_
        obtain ⟨hi, h⟩ := h
        refine bs_sld C hX hW (bf_dk dd_L_law_20 20 rfl) hi ?_
        refine bs_aload_n C (bf_dk dd_L_law_20 21 rfl) rfl ?_
        refine bs_iload_n C (bf_dk dd_L_law_20 22 rfl) rfl ?_
        refine bs_iconst C (bf_dk dd_L_law_20 23 rfl) (3 : Int32) (by decide) ?_
        refine bs_iadd C (bf_dk dd_L_law_20 24 rfl) ?_
        obtain ⟨hi, h⟩ := h
        refine bs_sld C hX hW (bf_dk dd_L_law_20 25 rfl) hi ?_
        refine bs_callV_i (ps := [0, 1, 2, 3, 4, 5, 6, 7, 8, 9, 10, 11, 12, 13, 14, 15, 16, 17, 18, 19, 20, 21, 22, 23, 24, 25, 26, 27, 28, 29, 30, 31, 32, 33, 34, 35, 36, 37, 38, 39, 40, 41, 42, 43, 44, 45, 46, 47, 48, 49, 50, 51, 52, 53, 54, 55, 56, 57, 58, 59, 60, 61, 62, 63, 64, 65, 66, 67]) (w := (bW8_9 S)) C hR (c_X8_question _ _ _ _ _ S.1 ((scr ((x3 + (1 : Int32))).toNatClampNeg)) ((scr ((x3 + (2 : Int32))).toNatClampNeg)) ((scr ((x3 + (3 : Int32))).toNatClampNeg)) _ h) my_X8_question m_L_160 rfl cl_8 (ge_bW8_0 _) rfl (Nat.le_of_ble_eq_true rfl) (Nat.le_of_ble_eq_true rfl) (su_bW8_9_0_bW8 S) bnd_0t67 (st := []) (Nat.le_of_ble_eq_true rfl) (bf_dk dd_L_law_20 26 rfl) rfl (fun _ => rfl) (w2 := fun u191 => bW8_9 (u191, S.2)) (pt_bW8_9_0_bW8 S) (fun r190 u191 h => ?_)
        refine bs_nameS bW8_9 (fun S192 eS192 => ?_)
        replace h := h S192 eS192
        refine bs_aload_n C (bf_dk dd_L_law_20 27 rfl) rfl ?_
        refine bs_aload_n C (bf_dk dd_L_law_20 28 rfl) rfl ?_
        refine bs_iload_n C (bf_dk dd_L_law_20 29 rfl) rfl ?_
        refine bs_iconst C (bf_dk dd_L_law_20 30 rfl) (1 : Int32) (by decide) ?_
        refine bs_iadd C (bf_dk dd_L_law_20 31 rfl) ?_
        obtain ⟨hi, h⟩ := h
        refine bs_sld C hX hW (bf_dk dd_L_law_20 32 rfl) hi ?_
        refine bs_aload_n C (bf_dk dd_L_law_20 33 rfl) rfl ?_
        refine bs_iload_n C (bf_dk dd_L_law_20 34 rfl) rfl ?_
        refine bs_iconst C (bf_dk dd_L_law_20 35 rfl) (2 : Int32) (by decide) ?_
        refine bs_iadd C (bf_dk dd_L_law_20 36 rfl) ?_
        obtain ⟨hi, h⟩ := h
        refine bs_sld C hX hW (bf_dk dd_L_law_20 37 rfl) hi ?_
        refine bs_aload_n C (bf_dk dd_L_law_20 38 rfl) rfl ?_
        refine bs_iload_n C (bf_dk dd_L_law_20 39 rfl) rfl ?_
        refine bs_iconst C (bf_dk dd_L_law_20 40 rfl) (3 : Int32) (by decide) ?_
        refine bs_iadd C (bf_dk dd_L_law_20 41 rfl) ?_
        obtain ⟨hi, h⟩ := h
        refine bs_sld C hX hW (bf_dk dd_L_law_20 42 rfl) hi ?_
        refine bs_callV_i (ps := [68, 69, 70, 71, 72, 73, 74, 75, 76, 77, 78, 79, 80, 81, 82, 83, 84, 85, 86, 87, 88]) (w := (bW8_9 S192)) C hR (c_X9_question _ _ _ _ _ S192.2 ((scr ((x3 + (1 : Int32))).toNatClampNeg)) ((scr ((x3 + (2 : Int32))).toNatClampNeg)) ((scr ((x3 + (3 : Int32))).toNatClampNeg)) _ h) my_X9_question m_L_163 rfl cl_9 (ge_bW9_0 _) rfl (Nat.le_of_ble_eq_true rfl) (Nat.le_of_ble_eq_true rfl) (su_bW8_9_68_bW9 S192) bnd_68t88 (st := [.int r190]) (Nat.le_of_ble_eq_true rfl) (bf_dk dd_L_law_20 43 rfl) rfl (fun _ => rfl) (w2 := fun u194 => bW8_9 (S192.1, u194)) (pt_bW8_9_68_bW9 S192) (fun r193 u194 h => ?_)
        refine bs_nameS bW8_9 (fun S195 eS195 => ?_)
        replace h := h S195 eS195
        refine bs_icmp_eq C (bf_dk dd_L_law_20 44 rfl) (tgt := 1745) rfl (fun c => ?_) (fun c => ?_)
        · replace h := h.1 c
          exact bs_weak (bf_s1 (bf_s1 (bf_s1 (bf_s1 bf_s0)))) (t_L_law_1745 C hR hG hX hW S195 (x3) Q B18 hB18 h)
        · replace h := h.2 c
          refine bs_iconst C (bf_dk dd_L_law_20 45 rfl) (0 : Int32) (by decide) ?_
          exact absurd h (by decide)
      · replace h := h.2.2.2.2.2.2.2.2.2.2.2.2.2.2.2.2.2.2.2.2.2.2.2.2.2.2.2.2.2.2.2.2.2.2.2.2.1 (bf_i32 c (by decide))
        refine bs_aload_n C (bf_dk dd_L_law_20 47 rfl) rfl ?_
        refine bs_callV_i (ps := [0, 1, 2, 3, 4, 5, 6, 7, 8, 9, 10, 11, 12, 13, 14, 15, 16, 17, 18, 19, 20, 21, 22, 23, 24, 25, 26, 27, 28, 29, 30, 31, 32, 33, 34, 35, 36, 37, 38, 39, 40, 41, 42, 43, 44, 45, 46, 47, 48, 49, 50, 51, 52, 53, 54, 55, 56, 57, 58, 59, 60, 61, 62, 63, 64, 65, 66, 67]) (w := (bW8_9 S)) C hR (c_X8_forget _ _ _ _ _ S.1 _ h) my_X8_forget m_L_164 rfl cl_8 (ge_bW8_0 _) rfl (Nat.le_of_ble_eq_true rfl) (Nat.le_of_ble_eq_true rfl) (su_bW8_9_0_bW8 S) bnd_0t67 (st := []) (Nat.le_of_ble_eq_true rfl) (bf_dk dd_L_law_20 48 rfl) rfl (fun _ => rfl) (w2 := fun u197 => bW8_9 (u197, S.2)) (pt_bW8_9_0_bW8 S) (fun r196 u197 h => ?_)
        refine bs_nameS bW8_9 (fun S198 eS198 => ?_)
        replace h := h S198 eS198
        refine bs_pop C (bf_dk dd_L_law_20 49 rfl) rfl ?_
        refine bs_aload_n C (bf_dk dd_L_law_21 0 rfl) rfl ?_
        refine bs_callV_i (ps := [68, 69, 70, 71, 72, 73, 74, 75, 76, 77, 78, 79, 80, 81, 82, 83, 84, 85, 86, 87, 88]) (w := (bW8_9 S198)) C hR (c_X9_forget _ _ _ _ _ S198.2 _ h) my_X9_forget m_L_167 rfl cl_9 (ge_bW9_0 _) rfl (Nat.le_of_ble_eq_true rfl) (Nat.le_of_ble_eq_true rfl) (su_bW8_9_68_bW9 S198) bnd_68t88 (st := []) (Nat.le_of_ble_eq_true rfl) (bf_dk dd_L_law_21 1 rfl) rfl (fun _ => rfl) (w2 := fun u200 => bW8_9 (S198.1, u200)) (pt_bW8_9_68_bW9 S198) (fun r199 u200 h => ?_)
        refine bs_nameS bW8_9 (fun S201 eS201 => ?_)
        replace h := h S201 eS201
        refine bs_pop C (bf_dk dd_L_law_21 2 rfl) rfl ?_
        refine bs_goto C (bf_dk dd_L_law_21 3 rfl) (tgt := 1745) rfl ?_
        exact bs_weak (bf_s1 (bf_s1 (bf_s1 (bf_s1 bf_s0)))) (t_L_law_1745 C hR hG hX hW S201 (x3) Q B18 hB18 h)
      · replace h := h.2.2.2.2.2.2.2.2.2.2.2.2.2.2.2.2.2.2.2.2.2.2.2.2.2.2.2.2.2.2.2.2.2.2.2.2.2.1 (bf_i32 c (by decide))
        refine bs_aload_n C (bf_dk dd_L_law_21 4 rfl) rfl ?_
        refine bs_aload_n C (bf_dk dd_L_law_21 5 rfl) rfl ?_
        refine bs_iload_n C (bf_dk dd_L_law_21 6 rfl) rfl ?_
        refine bs_iconst C (bf_dk dd_L_law_21 7 rfl) (1 : Int32) (by decide) ?_
        refine bs_iadd C (bf_dk dd_L_law_21 8 rfl) ?_
        obtain ⟨hi, h⟩ := h
        refine bs_sld C hX hW (bf_dk dd_L_law_21 9 rfl) hi ?_
        refine bs_aload_n C (bf_dk dd_L_law_21 10 rfl) rfl ?_
        refine bs_iload_n C (bf_dk dd_L_law_21 11 rfl) rfl ?_
        refine bs_iconst C (bf_dk dd_L_law_21 12 rfl) (2 : Int32) (by decide) ?_
        refine bs_iadd C (bf_dk dd_L_law_21 13 rfl) ?_
        obtain ⟨hi, h⟩ := h
        refine bs_sld C hX hW (bf_dk dd_L_law_21 14 rfl) hi ?_
        refine bs_callV_i (ps := [0, 1, 2, 3, 4, 5, 6, 7, 8, 9, 10, 11, 12, 13, 14, 15, 16, 17, 18, 19, 20, 21, 22, 23, 24, 25, 26, 27, 28, 29, 30, 31, 32, 33, 34, 35, 36, 37, 38, 39, 40, 41, 42, 43, 44, 45, 46, 47, 48, 49, 50, 51, 52, 53, 54, 55, 56, 57, 58, 59, 60, 61, 62, 63, 64, 65, 66, 67]) (w := (bW8_9 S)) C hR (c_X8_tuned _ _ _ _ _ S.1 ((scr ((x3 + (1 : Int32))).toNatClampNeg)) ((scr ((x3 + (2 : Int32))).toNatClampNeg)) _ h) my_X8_tuned m_L_168 rfl cl_8 (ge_bW8_0 _) rfl (Nat.le_of_ble_eq_true rfl) (Nat.le_of_ble_eq_true rfl) (su_bW8_9_0_bW8 S) bnd_0t67 (st := []) (Nat.le_of_ble_eq_true rfl) (bf_dk dd_L_law_21 15 rfl) rfl (fun _ => rfl) (w2 := fun u203 => bW8_9 (u203, S.2)) (pt_bW8_9_0_bW8 S) (fun r202 u203 h => ?_)
        refine bs_nameS bW8_9 (fun S204 eS204 => ?_)
        replace h := h S204 eS204
        refine bs_pop C (bf_dk dd_L_law_21 16 rfl) rfl ?_
        refine bs_aload_n C (bf_dk dd_L_law_21 17 rfl) rfl ?_
        refine bs_aload_n C (bf_dk dd_L_law_21 18 rfl) rfl ?_
        refine bs_iload_n C (bf_dk dd_L_law_21 19 rfl) rfl ?_
        refine bs_iconst C (bf_dk dd_L_law_21 20 rfl) (1 : Int32) (by decide) ?_
        refine bs_iadd C (bf_dk dd_L_law_21 21 rfl) ?_
        obtain ⟨hi, h⟩ := h
        refine bs_sld C hX hW (bf_dk dd_L_law_21 22 rfl) hi ?_
        refine bs_aload_n C (bf_dk dd_L_law_21 23 rfl) rfl ?_
        refine bs_iload_n C (bf_dk dd_L_law_21 24 rfl) rfl ?_
        refine bs_iconst C (bf_dk dd_L_law_21 25 rfl) (2 : Int32) (by decide) ?_
        refine bs_iadd C (bf_dk dd_L_law_21 26 rfl) ?_
        obtain ⟨hi, h⟩ := h
        refine bs_sld C hX hW (bf_dk dd_L_law_21 27 rfl) hi ?_
        refine bs_callV_i (ps := [68, 69, 70, 71, 72, 73, 74, 75, 76, 77, 78, 79, 80, 81, 82, 83, 84, 85, 86, 87, 88]) (w := (bW8_9 S204)) C hR (c_X9_tuned _ _ _ _ _ S204.2 ((scr ((x3 + (1 : Int32))).toNatClampNeg)) ((scr ((x3 + (2 : Int32))).toNatClampNeg)) _ h) my_X9_tuned m_L_171 rfl cl_9 (ge_bW9_0 _) rfl (Nat.le_of_ble_eq_true rfl) (Nat.le_of_ble_eq_true rfl) (su_bW8_9_68_bW9 S204) bnd_68t88 (st := []) (Nat.le_of_ble_eq_true rfl) (bf_dk dd_L_law_21 28 rfl) rfl (fun _ => rfl) (w2 := fun u206 => bW8_9 (S204.1, u206)) (pt_bW8_9_68_bW9 S204) (fun r205 u206 h => ?_)
        refine bs_nameS bW8_9 (fun S207 eS207 => ?_)
        replace h := h S207 eS207
        refine bs_pop C (bf_dk dd_L_law_21 29 rfl) rfl ?_
        refine bs_goto C (bf_dk dd_L_law_21 30 rfl) (tgt := 1745) rfl ?_
        exact bs_weak (bf_s1 (bf_s1 (bf_s1 (bf_s1 bf_s0)))) (t_L_law_1745 C hR hG hX hW S207 (x3) Q B18 hB18 h)
      · replace h := h.2.2.2.2.2.2.2.2.2.2.2.2.2.2.2.2.2.2.2.2.2.2.2.2.2.2.2.2.2.2.2.2.2.2.2.2.2.2.1 (bf_i32 c (by decide))
        refine bs_aload_n C (bf_dk dd_L_law_21 31 rfl) rfl ?_
        refine bs_aload_n C (bf_dk dd_L_law_21 32 rfl) rfl ?_
        refine bs_iload_n C (bf_dk dd_L_law_21 33 rfl) rfl ?_
        refine bs_iconst C (bf_dk dd_L_law_21 34 rfl) (1 : Int32) (by decide) ?_
        refine bs_iadd C (bf_dk dd_L_law_21 35 rfl) ?_
        obtain ⟨hi, h⟩ := h
        refine bs_sld C hX hW (bf_dk dd_L_law_21 36 rfl) hi ?_
        refine bs_aload_n C (bf_dk dd_L_law_21 37 rfl) rfl ?_
        refine bs_iload_n C (bf_dk dd_L_law_21 38 rfl) rfl ?_
        refine bs_iconst C (bf_dk dd_L_law_21 39 rfl) (2 : Int32) (by decide) ?_
        refine bs_iadd C (bf_dk dd_L_law_21 40 rfl) ?_
        obtain ⟨hi, h⟩ := h
        refine bs_sld C hX hW (bf_dk dd_L_law_21 41 rfl) hi ?_
        refine bs_callV_i (ps := [0, 1, 2, 3, 4, 5, 6, 7, 8, 9, 10, 11, 12, 13, 14, 15, 16, 17, 18, 19, 20, 21, 22, 23, 24, 25, 26, 27, 28, 29, 30, 31, 32, 33, 34, 35, 36, 37, 38, 39, 40, 41, 42, 43, 44, 45, 46, 47, 48, 49, 50, 51, 52, 53, 54, 55, 56, 57, 58, 59, 60, 61, 62, 63, 64, 65, 66, 67]) (w := (bW8_9 S)) C hR (c_X8_storm _ _ _ _ _ S.1 ((scr ((x3 + (1 : Int32))).toNatClampNeg)) ((scr ((x3 + (2 : Int32))).toNatClampNeg)) _ h) my_X8_storm m_L_172 rfl cl_8 (ge_bW8_0 _) rfl (Nat.le_of_ble_eq_true rfl) (Nat.le_of_ble_eq_true rfl) (su_bW8_9_0_bW8 S) bnd_0t67 (st := []) (Nat.le_of_ble_eq_true rfl) (bf_dk dd_L_law_21 42 rfl) rfl (fun _ => rfl) (w2 := fun u209 => bW8_9 (u209, S.2)) (pt_bW8_9_0_bW8 S) (fun r208 u209 h => ?_)
        refine bs_nameS bW8_9 (fun S210 eS210 => ?_)
        replace h := h S210 eS210
        refine bs_pop C (bf_dk dd_L_law_21 43 rfl) rfl ?_
        refine bs_aload_n C (bf_dk dd_L_law_21 44 rfl) rfl ?_
        refine bs_aload_n C (bf_dk dd_L_law_21 45 rfl) rfl ?_
        refine bs_iload_n C (bf_dk dd_L_law_21 46 rfl) rfl ?_
        refine bs_iconst C (bf_dk dd_L_law_21 47 rfl) (1 : Int32) (by decide) ?_
        refine bs_iadd C (bf_dk dd_L_law_21 48 rfl) ?_
        obtain ⟨hi, h⟩ := h
        refine bs_sld C hX hW (bf_dk dd_L_law_21 49 rfl) hi ?_
        refine bs_aload_n C (bf_dk dd_L_law_22 0 rfl) rfl ?_
        refine bs_iload_n C (bf_dk dd_L_law_22 1 rfl) rfl ?_
        refine bs_iconst C (bf_dk dd_L_law_22 2 rfl) (2 : Int32) (by decide) ?_
        refine bs_iadd C (bf_dk dd_L_law_22 3 rfl) ?_
        obtain ⟨hi, h⟩ := h
        refine bs_sld C hX hW (bf_dk dd_L_law_22 4 rfl) hi ?_
        refine bs_callV_i (ps := [68, 69, 70, 71, 72, 73, 74, 75, 76, 77, 78, 79, 80, 81, 82, 83, 84, 85, 86, 87, 88]) (w := (bW8_9 S210)) C hR (c_X9_storm _ _ _ _ _ S210.2 ((scr ((x3 + (1 : Int32))).toNatClampNeg)) ((scr ((x3 + (2 : Int32))).toNatClampNeg)) _ h) my_X9_storm m_L_175 rfl cl_9 (ge_bW9_0 _) rfl (Nat.le_of_ble_eq_true rfl) (Nat.le_of_ble_eq_true rfl) (su_bW8_9_68_bW9 S210) bnd_68t88 (st := []) (Nat.le_of_ble_eq_true rfl) (bf_dk dd_L_law_22 5 rfl) rfl (fun _ => rfl) (w2 := fun u212 => bW8_9 (S210.1, u212)) (pt_bW8_9_68_bW9 S210) (fun r211 u212 h => ?_)
        refine bs_nameS bW8_9 (fun S213 eS213 => ?_)
        replace h := h S213 eS213
        refine bs_pop C (bf_dk dd_L_law_22 6 rfl) rfl ?_
        refine bs_goto C (bf_dk dd_L_law_22 7 rfl) (tgt := 1745) rfl ?_
        exact bs_weak (bf_s1 (bf_s1 (bf_s1 (bf_s1 bf_s0)))) (t_L_law_1745 C hR hG hX hW S213 (x3) Q B18 hB18 h)
      · replace h := h.2.2.2.2.2.2.2.2.2.2.2.2.2.2.2.2.2.2.2.2.2.2.2.2.2.2.2.2.2.2.2.2.2.2.2.2.2.2.2.1 (bf_i32 c (by decide))
        refine bs_aload_n C (bf_dk dd_L_law_22 8 rfl) rfl ?_
        refine bs_aload_n C (bf_dk dd_L_law_22 9 rfl) rfl ?_
        refine bs_iload_n C (bf_dk dd_L_law_22 10 rfl) rfl ?_
        refine bs_iconst C (bf_dk dd_L_law_22 11 rfl) (1 : Int32) (by decide) ?_
        refine bs_iadd C (bf_dk dd_L_law_22 12 rfl) ?_
        obtain ⟨hi, h⟩ := h
        refine bs_sld C hX hW (bf_dk dd_L_law_22 13 rfl) hi ?_
        refine bs_aload_n C (bf_dk dd_L_law_22 14 rfl) rfl ?_
        refine bs_iload_n C (bf_dk dd_L_law_22 15 rfl) rfl ?_
        refine bs_iconst C (bf_dk dd_L_law_22 16 rfl) (2 : Int32) (by decide) ?_
        refine bs_iadd C (bf_dk dd_L_law_22 17 rfl) ?_
        obtain ⟨hi, h⟩ := h
        refine bs_sld C hX hW (bf_dk dd_L_law_22 18 rfl) hi ?_
        refine bs_aload_n C (bf_dk dd_L_law_22 19 rfl) rfl ?_
        refine bs_iload_n C (bf_dk dd_L_law_22 20 rfl) rfl ?_
        refine bs_iconst C (bf_dk dd_L_law_22 21 rfl) (3 : Int32) (by decide) ?_
        refine bs_iadd C (bf_dk dd_L_law_22 22 rfl) ?_
        obtain ⟨hi, h⟩ := h
        refine bs_sld C hX hW (bf_dk dd_L_law_22 23 rfl) hi ?_
        refine bs_callV_i (ps := [0, 1, 2, 3, 4, 5, 6, 7, 8, 9, 10, 11, 12, 13, 14, 15, 16, 17, 18, 19, 20, 21, 22, 23, 24, 25, 26, 27, 28, 29, 30, 31, 32, 33, 34, 35, 36, 37, 38, 39, 40, 41, 42, 43, 44, 45, 46, 47, 48, 49, 50, 51, 52, 53, 54, 55, 56, 57, 58, 59, 60, 61, 62, 63, 64, 65, 66, 67]) (w := (bW8_9 S)) C hR (c_X8_stormRange _ _ _ _ _ S.1 ((scr ((x3 + (1 : Int32))).toNatClampNeg)) ((scr ((x3 + (2 : Int32))).toNatClampNeg)) ((scr ((x3 + (3 : Int32))).toNatClampNeg)) _ h) my_X8_stormRange m_L_176 rfl cl_8 (ge_bW8_0 _) rfl (Nat.le_of_ble_eq_true rfl) (Nat.le_of_ble_eq_true rfl) (su_bW8_9_0_bW8 S) bnd_0t67 (st := []) (Nat.le_of_ble_eq_true rfl) (bf_dk dd_L_law_22 24 rfl) rfl (fun _ => rfl) (w2 := fun u215 => bW8_9 (u215, S.2)) (pt_bW8_9_0_bW8 S) (fun r214 u215 h => ?_)
        refine bs_nameS bW8_9 (fun S216 eS216 => ?_)
        replace h := h S216 eS216
        refine bs_pop C (bf_dk dd_L_law_22 25 rfl) rfl ?_
        refine bs_aload_n C (bf_dk dd_L_law_22 26 rfl) rfl ?_
        refine bs_aload_n C (bf_dk dd_L_law_22 27 rfl) rfl ?_
        refine bs_iload_n C (bf_dk dd_L_law_22 28 rfl) rfl ?_
        refine bs_iconst C (bf_dk dd_L_law_22 29 rfl) (1 : Int32) (by decide) ?_
        refine bs_iadd C (bf_dk dd_L_law_22 30 rfl) ?_
        obtain ⟨hi, h⟩ := h
        refine bs_sld C hX hW (bf_dk dd_L_law_22 31 rfl) hi ?_
        refine bs_aload_n C (bf_dk dd_L_law_22 32 rfl) rfl ?_
        refine bs_iload_n C (bf_dk dd_L_law_22 33 rfl) rfl ?_
        refine bs_iconst C (bf_dk dd_L_law_22 34 rfl) (2 : Int32) (by decide) ?_
        refine bs_iadd C (bf_dk dd_L_law_22 35 rfl) ?_
        obtain ⟨hi, h⟩ := h
        refine bs_sld C hX hW (bf_dk dd_L_law_22 36 rfl) hi ?_
        refine bs_aload_n C (bf_dk dd_L_law_22 37 rfl) rfl ?_
        refine bs_iload_n C (bf_dk dd_L_law_22 38 rfl) rfl ?_
        refine bs_iconst C (bf_dk dd_L_law_22 39 rfl) (3 : Int32) (by decide) ?_
        refine bs_iadd C (bf_dk dd_L_law_22 40 rfl) ?_
        obtain ⟨hi, h⟩ := h
        refine bs_sld C hX hW (bf_dk dd_L_law_22 41 rfl) hi ?_
        refine bs_callV_i (ps := [68, 69, 70, 71, 72, 73, 74, 75, 76, 77, 78, 79, 80, 81, 82, 83, 84, 85, 86, 87, 88]) (w := (bW8_9 S216)) C hR (c_X9_stormRange _ _ _ _ _ S216.2 ((scr ((x3 + (1 : Int32))).toNatClampNeg)) ((scr ((x3 + (2 : Int32))).toNatClampNeg)) ((scr ((x3 + (3 : Int32))).toNatClampNeg)) _ h) my_X9_stormRange m_L_179 rfl cl_9 (ge_bW9_0 _) rfl (Nat.le_of_ble_eq_true rfl) (Nat.le_of_ble_eq_true rfl) (su_bW8_9_68_bW9 S216) bnd_68t88 (st := []) (Nat.le_of_ble_eq_true rfl) (bf_dk dd_L_law_22 42 rfl) rfl (fun _ => rfl) (w2 := fun u218 => bW8_9 (S216.1, u218)) (pt_bW8_9_68_bW9 S216) (fun r217 u218 h => ?_)
        refine bs_nameS bW8_9 (fun S219 eS219 => ?_)
        replace h := h S219 eS219
        refine bs_pop C (bf_dk dd_L_law_22 43 rfl) rfl ?_
        refine bs_goto C (bf_dk dd_L_law_22 44 rfl) (tgt := 1745) rfl ?_
        exact bs_weak (bf_s1 (bf_s1 (bf_s1 (bf_s1 bf_s0)))) (t_L_law_1745 C hR hG hX hW S219 (x3) Q B18 hB18 h)
      · replace h := h.2.2.2.2.2.2.2.2.2.2.2.2.2.2.2.2.2.2.2.2.2.2.2.2.2.2.2.2.2.2.2.2.2.2.2.2.2.2.2.2.1 (bf_i32 c (by decide))
        refine bs_aload_n C (bf_dk dd_L_law_22 45 rfl) rfl ?_
        refine bs_aload_n C (bf_dk dd_L_law_22 46 rfl) rfl ?_
        refine bs_iload_n C (bf_dk dd_L_law_22 47 rfl) rfl ?_
        refine bs_iconst C (bf_dk dd_L_law_22 48 rfl) (1 : Int32) (by decide) ?_
        refine bs_iadd C (bf_dk dd_L_law_22 49 rfl) ?_
        obtain ⟨hi, h⟩ := h
        refine bs_sld C hX hW (bf_dk dd_L_law_23 0 rfl) hi ?_
        refine bs_pureV_i (ps := [0, 1, 2, 3, 4, 5, 6, 7, 8, 9, 10, 11, 12, 13, 14, 15, 16, 17, 18, 19, 20, 21, 22, 23, 24, 25, 26, 27, 28, 29, 30, 31, 32, 33, 34, 35, 36, 37, 38, 39, 40, 41, 42, 43, 44, 45, 46, 47, 48, 49, 50, 51, 52, 53, 54, 55, 56, 57, 58, 59, 60, 61, 62, 63, 64, 65, 66, 67]) (w := (bW8_9 S)) C hR (c_X8_account _ _ _ _ _ S.1 ((scr ((x3 + (1 : Int32))).toNatClampNeg)) _ h) my_X8_account m_L_180 rfl cl_8 (ge_bW8_0 _) rfl (Nat.le_of_ble_eq_true rfl) (Nat.le_of_ble_eq_true rfl) (su_bW8_9_0_bW8 S) bnd_0t67 (st := []) (Nat.le_of_ble_eq_true rfl) (bf_dk dd_L_law_23 1 rfl) rfl (fun _ => rfl) (fun r220 h => ?_)
        refine bs_pop C (bf_dk dd_L_law_23 2 rfl) rfl ?_
        refine bs_aload_n C (bf_dk dd_L_law_23 3 rfl) rfl ?_
        refine bs_aload_n C (bf_dk dd_L_law_23 4 rfl) rfl ?_
        refine bs_iload_n C (bf_dk dd_L_law_23 5 rfl) rfl ?_
        refine bs_iconst C (bf_dk dd_L_law_23 6 rfl) (1 : Int32) (by decide) ?_
        refine bs_iadd C (bf_dk dd_L_law_23 7 rfl) ?_
        obtain ⟨hi, h⟩ := h
        refine bs_sld C hX hW (bf_dk dd_L_law_23 8 rfl) hi ?_
        refine bs_callV_i (ps := [68, 69, 70, 71, 72, 73, 74, 75, 76, 77, 78, 79, 80, 81, 82, 83, 84, 85, 86, 87, 88]) (w := (bW8_9 S)) C hR (c_X9_account _ _ _ _ _ S.2 ((scr ((x3 + (1 : Int32))).toNatClampNeg)) _ h) my_X9_account m_L_183 rfl cl_9 (ge_bW9_0 _) rfl (Nat.le_of_ble_eq_true rfl) (Nat.le_of_ble_eq_true rfl) (su_bW8_9_68_bW9 S) bnd_68t88 (st := []) (Nat.le_of_ble_eq_true rfl) (bf_dk dd_L_law_23 9 rfl) rfl (fun _ => rfl) (w2 := fun u223 => bW8_9 (S.1, u223)) (pt_bW8_9_68_bW9 S) (fun r222 u223 h => ?_)
        refine bs_nameS bW8_9 (fun S224 eS224 => ?_)
        replace h := h S224 eS224
        refine bs_pop C (bf_dk dd_L_law_23 10 rfl) rfl ?_
        refine bs_goto C (bf_dk dd_L_law_23 11 rfl) (tgt := 1745) rfl ?_
        exact bs_weak (bf_s1 (bf_s1 (bf_s1 (bf_s1 bf_s0)))) (t_L_law_1745 C hR hG hX hW S224 (x3) Q B18 hB18 h)
      · replace h := h.2.2.2.2.2.2.2.2.2.2.2.2.2.2.2.2.2.2.2.2.2.2.2.2.2.2.2.2.2.2.2.2.2.2.2.2.2.2.2.2.2.1 (bf_i32 c (by decide))
        refine bs_aload_n C (bf_dk dd_L_law_23 12 rfl) rfl ?_
        refine bs_aload_n C (bf_dk dd_L_law_23 13 rfl) rfl ?_
        refine bs_iload_n C (bf_dk dd_L_law_23 14 rfl) rfl ?_
        refine bs_iconst C (bf_dk dd_L_law_23 15 rfl) (1 : Int32) (by decide) ?_
        refine bs_iadd C (bf_dk dd_L_law_23 16 rfl) ?_
        obtain ⟨hi, h⟩ := h
        refine bs_sld C hX hW (bf_dk dd_L_law_23 17 rfl) hi ?_
        refine bs_pureV_i (ps := [0, 1, 2, 3, 4, 5, 6, 7, 8, 9, 10, 11, 12, 13, 14, 15, 16, 17, 18, 19, 20, 21, 22, 23, 24, 25, 26, 27, 28, 29, 30, 31, 32, 33, 34, 35, 36, 37, 38, 39, 40, 41, 42, 43, 44, 45, 46, 47, 48, 49, 50, 51, 52, 53, 54, 55, 56, 57, 58, 59, 60, 61, 62, 63, 64, 65, 66, 67]) (w := (bW8_9 S)) C hR (c_X8_since _ _ _ _ _ S.1 ((scr ((x3 + (1 : Int32))).toNatClampNeg)) _ h) my_X8_since m_L_184 rfl cl_8 (ge_bW8_0 _) rfl (Nat.le_of_ble_eq_true rfl) (Nat.le_of_ble_eq_true rfl) (su_bW8_9_0_bW8 S) bnd_0t67 (st := []) (Nat.le_of_ble_eq_true rfl) (bf_dk dd_L_law_23 18 rfl) rfl (fun _ => rfl) (fun r225 h => ?_)
        refine bs_pop C (bf_dk dd_L_law_23 19 rfl) rfl ?_
        refine bs_aload_n C (bf_dk dd_L_law_23 20 rfl) rfl ?_
        refine bs_aload_n C (bf_dk dd_L_law_23 21 rfl) rfl ?_
        refine bs_iload_n C (bf_dk dd_L_law_23 22 rfl) rfl ?_
        refine bs_iconst C (bf_dk dd_L_law_23 23 rfl) (1 : Int32) (by decide) ?_
        refine bs_iadd C (bf_dk dd_L_law_23 24 rfl) ?_
        obtain ⟨hi, h⟩ := h
        refine bs_sld C hX hW (bf_dk dd_L_law_23 25 rfl) hi ?_
        refine bs_callV_i (ps := [68, 69, 70, 71, 72, 73, 74, 75, 76, 77, 78, 79, 80, 81, 82, 83, 84, 85, 86, 87, 88]) (w := (bW8_9 S)) C hR (c_X9_since _ _ _ _ _ S.2 ((scr ((x3 + (1 : Int32))).toNatClampNeg)) _ h) my_X9_since m_L_187 rfl cl_9 (ge_bW9_0 _) rfl (Nat.le_of_ble_eq_true rfl) (Nat.le_of_ble_eq_true rfl) (su_bW8_9_68_bW9 S) bnd_68t88 (st := []) (Nat.le_of_ble_eq_true rfl) (bf_dk dd_L_law_23 26 rfl) rfl (fun _ => rfl) (w2 := fun u228 => bW8_9 (S.1, u228)) (pt_bW8_9_68_bW9 S) (fun r227 u228 h => ?_)
        refine bs_nameS bW8_9 (fun S229 eS229 => ?_)
        replace h := h S229 eS229
        refine bs_pop C (bf_dk dd_L_law_23 27 rfl) rfl ?_
        refine bs_goto C (bf_dk dd_L_law_23 28 rfl) (tgt := 1745) rfl ?_
        exact bs_weak (bf_s1 (bf_s1 (bf_s1 (bf_s1 bf_s0)))) (t_L_law_1745 C hR hG hX hW S229 (x3) Q B18 hB18 h)
      · replace h := h.2.2.2.2.2.2.2.2.2.2.2.2.2.2.2.2.2.2.2.2.2.2.2.2.2.2.2.2.2.2.2.2.2.2.2.2.2.2.2.2.2.2.1 (bf_i32 c (by decide))
        refine bs_aload_n C (bf_dk dd_L_law_23 29 rfl) rfl ?_
        refine bs_aload_n C (bf_dk dd_L_law_23 30 rfl) rfl ?_
        refine bs_iload_n C (bf_dk dd_L_law_23 31 rfl) rfl ?_
        refine bs_iconst C (bf_dk dd_L_law_23 32 rfl) (1 : Int32) (by decide) ?_
        refine bs_iadd C (bf_dk dd_L_law_23 33 rfl) ?_
        obtain ⟨hi, h⟩ := h
        refine bs_sld C hX hW (bf_dk dd_L_law_23 34 rfl) hi ?_
        refine bs_callV_i (ps := [0, 1, 2, 3, 4, 5, 6, 7, 8, 9, 10, 11, 12, 13, 14, 15, 16, 17, 18, 19, 20, 21, 22, 23, 24, 25, 26, 27, 28, 29, 30, 31, 32, 33, 34, 35, 36, 37, 38, 39, 40, 41, 42, 43, 44, 45, 46, 47, 48, 49, 50, 51, 52, 53, 54, 55, 56, 57, 58, 59, 60, 61, 62, 63, 64, 65, 66, 67]) (w := (bW8_9 S)) C hR (c_X8_report _ _ _ _ _ S.1 ((scr ((x3 + (1 : Int32))).toNatClampNeg)) _ h) my_X8_report m_L_188 rfl cl_8 (ge_bW8_0 _) rfl (Nat.le_of_ble_eq_true rfl) (Nat.le_of_ble_eq_true rfl) (su_bW8_9_0_bW8 S) bnd_0t67 (st := []) (Nat.le_of_ble_eq_true rfl) (bf_dk dd_L_law_23 35 rfl) rfl (fun _ => rfl) (w2 := fun u231 => bW8_9 (u231, S.2)) (pt_bW8_9_0_bW8 S) (fun r230 u231 h => ?_)
        refine bs_nameS bW8_9 (fun S232 eS232 => ?_)
        replace h := h S232 eS232
        refine bs_pop C (bf_dk dd_L_law_23 36 rfl) rfl ?_
        refine bs_aload_n C (bf_dk dd_L_law_23 37 rfl) rfl ?_
        refine bs_aload_n C (bf_dk dd_L_law_23 38 rfl) rfl ?_
        refine bs_iload_n C (bf_dk dd_L_law_23 39 rfl) rfl ?_
        refine bs_iconst C (bf_dk dd_L_law_23 40 rfl) (1 : Int32) (by decide) ?_
        refine bs_iadd C (bf_dk dd_L_law_23 41 rfl) ?_
        obtain ⟨hi, h⟩ := h
        refine bs_sld C hX hW (bf_dk dd_L_law_23 42 rfl) hi ?_
        refine bs_callV_i (ps := [68, 69, 70, 71, 72, 73, 74, 75, 76, 77, 78, 79, 80, 81, 82, 83, 84, 85, 86, 87, 88]) (w := (bW8_9 S232)) C hR (c_X9_report _ _ _ _ _ S232.2 ((scr ((x3 + (1 : Int32))).toNatClampNeg)) _ h) my_X9_report m_L_191 rfl cl_9 (ge_bW9_0 _) rfl (Nat.le_of_ble_eq_true rfl) (Nat.le_of_ble_eq_true rfl) (su_bW8_9_68_bW9 S232) bnd_68t88 (st := []) (Nat.le_of_ble_eq_true rfl) (bf_dk dd_L_law_23 43 rfl) rfl (fun _ => rfl) (w2 := fun u234 => bW8_9 (S232.1, u234)) (pt_bW8_9_68_bW9 S232) (fun r233 u234 h => ?_)
        refine bs_nameS bW8_9 (fun S235 eS235 => ?_)
        replace h := h S235 eS235
        refine bs_pop C (bf_dk dd_L_law_23 44 rfl) rfl ?_
        refine bs_goto C (bf_dk dd_L_law_23 45 rfl) (tgt := 1745) rfl ?_
        exact bs_weak (bf_s1 (bf_s1 (bf_s1 (bf_s1 bf_s0)))) (t_L_law_1745 C hR hG hX hW S235 (x3) Q B18 hB18 h)
      · replace h := h.2.2.2.2.2.2.2.2.2.2.2.2.2.2.2.2.2.2.2.2.2.2.2.2.2.2.2.2.2.2.2.2.2.2.2.2.2.2.2.2.2.2.2.1 (bf_i32 c (by decide))
        refine bs_aload_n C (bf_dk dd_L_law_23 46 rfl) rfl ?_
        refine bs_aload_n C (bf_dk dd_L_law_23 47 rfl) rfl ?_
        refine bs_iload_n C (bf_dk dd_L_law_23 48 rfl) rfl ?_
        refine bs_iconst C (bf_dk dd_L_law_23 49 rfl) (1 : Int32) (by decide) ?_
        refine bs_iadd C (bf_dk dd_L_law_24 0 rfl) ?_
        obtain ⟨hi, h⟩ := h
        refine bs_sld C hX hW (bf_dk dd_L_law_24 1 rfl) hi ?_
        refine bs_pureV_i (ps := [0, 1, 2, 3, 4, 5, 6, 7, 8, 9, 10, 11, 12, 13, 14, 15, 16, 17, 18, 19, 20, 21, 22, 23, 24, 25, 26, 27, 28, 29, 30, 31, 32, 33, 34, 35, 36, 37, 38, 39, 40, 41, 42, 43, 44, 45, 46, 47, 48, 49, 50, 51, 52, 53, 54, 55, 56, 57, 58, 59, 60, 61, 62, 63, 64, 65, 66, 67]) (w := (bW8_9 S)) C hR (c_X8_sign _ _ _ _ _ S.1 ((scr ((x3 + (1 : Int32))).toNatClampNeg)) _ h) my_X8_sign m_L_192 rfl cl_8 (ge_bW8_0 _) rfl (Nat.le_of_ble_eq_true rfl) (Nat.le_of_ble_eq_true rfl) (su_bW8_9_0_bW8 S) bnd_0t67 (st := []) (Nat.le_of_ble_eq_true rfl) (bf_dk dd_L_law_24 2 rfl) rfl (fun _ => rfl) (fun r236 h => ?_)
        refine bs_pop C (bf_dk dd_L_law_24 3 rfl) rfl ?_
        refine bs_aload_n C (bf_dk dd_L_law_24 4 rfl) rfl ?_
        refine bs_aload_n C (bf_dk dd_L_law_24 5 rfl) rfl ?_
        refine bs_iload_n C (bf_dk dd_L_law_24 6 rfl) rfl ?_
        refine bs_iconst C (bf_dk dd_L_law_24 7 rfl) (1 : Int32) (by decide) ?_
        refine bs_iadd C (bf_dk dd_L_law_24 8 rfl) ?_
        obtain ⟨hi, h⟩ := h
        refine bs_sld C hX hW (bf_dk dd_L_law_24 9 rfl) hi ?_
        refine bs_callV_i (ps := [68, 69, 70, 71, 72, 73, 74, 75, 76, 77, 78, 79, 80, 81, 82, 83, 84, 85, 86, 87, 88]) (w := (bW8_9 S)) C hR (c_X9_sign _ _ _ _ _ S.2 ((scr ((x3 + (1 : Int32))).toNatClampNeg)) _ h) my_X9_sign m_L_195 rfl cl_9 (ge_bW9_0 _) rfl (Nat.le_of_ble_eq_true rfl) (Nat.le_of_ble_eq_true rfl) (su_bW8_9_68_bW9 S) bnd_68t88 (st := []) (Nat.le_of_ble_eq_true rfl) (bf_dk dd_L_law_24 10 rfl) rfl (fun _ => rfl) (w2 := fun u239 => bW8_9 (S.1, u239)) (pt_bW8_9_68_bW9 S) (fun r238 u239 h => ?_)
        refine bs_nameS bW8_9 (fun S240 eS240 => ?_)
        replace h := h S240 eS240
        refine bs_pop C (bf_dk dd_L_law_24 11 rfl) rfl ?_
        refine bs_goto C (bf_dk dd_L_law_24 12 rfl) (tgt := 1745) rfl ?_
        exact bs_weak (bf_s1 (bf_s1 (bf_s1 (bf_s1 bf_s0)))) (t_L_law_1745 C hR hG hX hW S240 (x3) Q B18 hB18 h)
      · replace h := h.2.2.2.2.2.2.2.2.2.2.2.2.2.2.2.2.2.2.2.2.2.2.2.2.2.2.2.2.2.2.2.2.2.2.2.2.2.2.2.2.2.2.2.2.1 (bf_i32 c (by decide))
        refine bs_aload_n C (bf_dk dd_L_law_24 13 rfl) rfl ?_
        refine bs_aload_n C (bf_dk dd_L_law_24 14 rfl) rfl ?_
        refine bs_iload_n C (bf_dk dd_L_law_24 15 rfl) rfl ?_
        refine bs_iconst C (bf_dk dd_L_law_24 16 rfl) (1 : Int32) (by decide) ?_
        refine bs_iadd C (bf_dk dd_L_law_24 17 rfl) ?_
        obtain ⟨hi, h⟩ := h
        refine bs_sld C hX hW (bf_dk dd_L_law_24 18 rfl) hi ?_
        refine bs_if_eq C (bf_dk dd_L_law_24 19 rfl) (tgt := 1696) rfl (fun c => ?_) (fun c => ?_)
        · replace h := h.1 c
          refine bs_iconst C (bf_dk dd_L_law_24 22 rfl) (0 : Int32) (by decide) ?_
          exact bs_weak (bf_s1 (bf_s1 (bf_s1 (bf_s1 bf_s0)))) (t_L_law_1697 C hR hG hX hW S (x3) ((0 : Int32)) Q B18 hB18 h)
        · replace h := h.2 c
          refine bs_iconst C (bf_dk dd_L_law_24 20 rfl) (1 : Int32) (by decide) ?_
          refine bs_goto C (bf_dk dd_L_law_24 21 rfl) (tgt := 1697) rfl ?_
          exact bs_weak (bf_s1 (bf_s1 (bf_s1 (bf_s1 bf_s0)))) (t_L_law_1697 C hR hG hX hW S (x3) ((1 : Int32)) Q B18 hB18 h)
      · replace h := h.2.2.2.2.2.2.2.2.2.2.2.2.2.2.2.2.2.2.2.2.2.2.2.2.2.2.2.2.2.2.2.2.2.2.2.2.2.2.2.2.2.2.2.2.2 (bf_i32 c (by decide))
        refine bs_aload_n C (bf_dk dd_L_law_24 38 rfl) rfl ?_
        refine bs_aload_n C (bf_dk dd_L_law_24 39 rfl) rfl ?_
        refine bs_iload_n C (bf_dk dd_L_law_24 40 rfl) rfl ?_
        refine bs_iconst C (bf_dk dd_L_law_24 41 rfl) (1 : Int32) (by decide) ?_
        refine bs_iadd C (bf_dk dd_L_law_24 42 rfl) ?_
        obtain ⟨hi, h⟩ := h
        refine bs_sld C hX hW (bf_dk dd_L_law_24 43 rfl) hi ?_
        refine bs_pureV_i (ps := [0, 1, 2, 3, 4, 5, 6, 7, 8, 9, 10, 11, 12, 13, 14, 15, 16, 17, 18, 19, 20, 21, 22, 23, 24, 25, 26, 27, 28, 29, 30, 31, 32, 33, 34, 35, 36, 37, 38, 39, 40, 41, 42, 43, 44, 45, 46, 47, 48, 49, 50, 51, 52, 53, 54, 55, 56, 57, 58, 59, 60, 61, 62, 63, 64, 65, 66, 67]) (w := (bW8_9 S)) C hR (c_X8_look _ _ _ _ _ S.1 ((scr ((x3 + (1 : Int32))).toNatClampNeg)) _ h) my_X8_look m_L_201 rfl cl_8 (ge_bW8_0 _) rfl (Nat.le_of_ble_eq_true rfl) (Nat.le_of_ble_eq_true rfl) (su_bW8_9_0_bW8 S) bnd_0t67 (st := []) (Nat.le_of_ble_eq_true rfl) (bf_dk dd_L_law_24 44 rfl) rfl (fun _ => rfl) (fun r241 h => ?_)
        refine bs_pop C (bf_dk dd_L_law_24 45 rfl) rfl ?_
        refine bs_aload_n C (bf_dk dd_L_law_24 46 rfl) rfl ?_
        refine bs_aload_n C (bf_dk dd_L_law_24 47 rfl) rfl ?_
        refine bs_iload_n C (bf_dk dd_L_law_24 48 rfl) rfl ?_
        refine bs_iconst C (bf_dk dd_L_law_24 49 rfl) (1 : Int32) (by decide) ?_
        refine bs_iadd C (bf_dk dd_L_law_25 0 rfl) ?_
        obtain ⟨hi, h⟩ := h
        refine bs_sld C hX hW (bf_dk dd_L_law_25 1 rfl) hi ?_
        refine bs_callV_i (ps := [68, 69, 70, 71, 72, 73, 74, 75, 76, 77, 78, 79, 80, 81, 82, 83, 84, 85, 86, 87, 88]) (w := (bW8_9 S)) C hR (c_X9_look _ _ _ _ _ S.2 ((scr ((x3 + (1 : Int32))).toNatClampNeg)) _ h) my_X9_look m_L_204 rfl cl_9 (ge_bW9_0 _) rfl (Nat.le_of_ble_eq_true rfl) (Nat.le_of_ble_eq_true rfl) (su_bW8_9_68_bW9 S) bnd_68t88 (st := []) (Nat.le_of_ble_eq_true rfl) (bf_dk dd_L_law_25 2 rfl) rfl (fun _ => rfl) (w2 := fun u244 => bW8_9 (S.1, u244)) (pt_bW8_9_68_bW9 S) (fun r243 u244 h => ?_)
        refine bs_nameS bW8_9 (fun S245 eS245 => ?_)
        replace h := h S245 eS245
        refine bs_pop C (bf_dk dd_L_law_25 3 rfl) rfl ?_
        refine bs_goto C (bf_dk dd_L_law_25 4 rfl) (tgt := 1745) rfl ?_
        exact bs_weak (bf_s1 (bf_s1 (bf_s1 (bf_s1 bf_s0)))) (t_L_law_1745 C hR hG hX hW S245 (x3) Q B18 hB18 h)
def wp_L_law (L : Nat) (scr : Nat → Int32) (S : bT8 × bT9) (x3 : Int32) : Prop := ∃ I : Nat → Int32 → (bT8 × bT9) → Prop, (∃ n : Nat, I n x3 S) ∧ ∀ (n : Nat) (x3 : Int32) (S : bT8 × bT9), I n x3 S → wp_L_law_18b L scr S x3 () (fun x3 S => ∃ n2 : Nat, n2 < n ∧ I n2 x3 S)
theorem t_L_law {X : bf_X} (C : bf_C X R_law code 4 ret) (hR : bf_Rm X 13 494) (hG : bf_G (xA X) (xs X) (xs X).heap) {b : Nat} {L : Nat} {scr : Nat → Int32} (hX : va_X b L scr (xs X) (xs X).heap) (hW : bf_law X b) (S : bT8 × bT9) (x3 : Int32) (h : wp_L_law L scr S x3) : bf_A X (lw_Z (xb X) (xa X) (xs X)) 4 18 [some (.ref 1000), some (.ref 0), some (.ref 68), some (.int x3)] [] (bW8_9 S) := by
  obtain ⟨I, ⟨n0, h0⟩, hI⟩ := h
  have key : ∀ (n : Nat) (x3 : Int32) (S : bT8 × bT9), I n x3 S → bf_A X (lw_Z (xb X) (xa X) (xs X)) 4 18 [some (.ref 1000), some (.ref 0), some (.ref 68), some (.int x3)] [] (bW8_9 S) := by
    intro n
    induction n using Nat.strongRecOn with
    | _ n ih =>
      intro x3 S hi
      exact t_L_law_18b C hR hG hX hW S x3 () _ (fun x3 S hb => by obtain ⟨n2, hn, hi2⟩ := hb; exact ih n2 hn x3 S hi2) (hI n x3 S hi)
  exact key n0 x3 S h0
