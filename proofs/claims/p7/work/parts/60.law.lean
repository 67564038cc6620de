theorem m_L_101 : Cond.methodLink R_law 101 yX9_leaf ∈ lw_good := bf_f bf_c6 221 rfl rfl
theorem m_L_102 : Cond.methodLink R_law 102 yX8_leafAt ∈ lw_good := bf_f bf_c4 11 rfl rfl
theorem m_L_105 : Cond.methodLink R_law 105 yX9_leafAt ∈ lw_good := bf_f bf_c7 65 rfl rfl
theorem m_L_106 : Cond.methodLink R_law 106 yX8_node ∈ lw_good := bf_f bf_c4 15 rfl rfl
theorem m_L_109 : Cond.methodLink R_law 109 yX9_node ∈ lw_good := bf_f bf_c7 69 rfl rfl
theorem m_L_110 : Cond.methodLink R_law 110 yX8_child ∈ lw_good := bf_f bf_c4 40 rfl rfl
theorem m_L_113 : Cond.methodLink R_law 113 yX9_child ∈ lw_good := bf_f bf_c7 85 rfl rfl
theorem m_L_114 : Cond.methodLink R_law 114 yX8_level ∈ lw_good := bf_f bf_c4 48 rfl rfl
theorem m_L_117 : Cond.methodLink R_law 117 yX9_level ∈ lw_good := bf_f bf_c7 89 rfl rfl
theorem m_L_118 : Cond.methodLink R_law 118 yX8_item ∈ lw_good := bf_f bf_c4 57 rfl rfl
theorem m_L_121 : Cond.methodLink R_law 121 yX9_item ∈ lw_good := bf_f bf_c7 101 rfl rfl
theorem m_L_122 : Cond.methodLink R_law 122 yX8_bit ∈ lw_good := bf_f bf_c4 67 rfl rfl
theorem m_L_125 : Cond.methodLink R_law 125 yX9_bit ∈ lw_good := bf_f bf_c7 105 rfl rfl
theorem m_L_126 : Cond.methodLink R_law 126 yX8_rank ∈ lw_good := bf_f bf_c4 95 rfl rfl
theorem m_L_129 : Cond.methodLink R_law 129 yX9_rank ∈ lw_good := bf_f bf_c7 129 rfl rfl
theorem m_L_13 : Cond.methodLink R_law 13 yX8_feed ∈ lw_good := bf_f bf_c2 214 rfl rfl
theorem m_L_130 : Cond.methodLink R_law 130 yX8_select ∈ lw_good := bf_f bf_c4 99 rfl rfl
theorem m_L_133 : Cond.methodLink R_law 133 yX9_select ∈ lw_good := bf_f bf_c7 133 rfl rfl
theorem m_L_134 : Cond.methodLink R_law 134 yX8_bits ∈ lw_good := bf_f bf_c4 107 rfl rfl
theorem m_L_137 : Cond.methodLink R_law 137 yX9_bits ∈ lw_good := bf_f bf_c7 137 rfl rfl
theorem m_L_138 : Cond.methodLink R_law 138 yX8_least ∈ lw_good := bf_f bf_c4 120 rfl rfl
theorem m_L_141 : Cond.methodLink R_law 141 yX9_least ∈ lw_good := bf_f bf_c7 149 rfl rfl
theorem m_L_142 : Cond.methodLink R_law 142 yX8_cover ∈ lw_good := bf_f bf_c4 124 rfl rfl
theorem m_L_146 : Cond.methodLink R_law 146 yX9_cover ∈ lw_good := bf_f bf_c7 153 rfl rfl
theorem m_L_147 : Cond.methodLink R_law 147 yX8_loose ∈ lw_good := bf_f bf_c4 141 rfl rfl
theorem m_L_150 : Cond.methodLink R_law 150 yX9_loose ∈ lw_good := bf_f bf_c7 169 rfl rfl
theorem m_L_151 : Cond.methodLink R_law 151 yX8_free ∈ lw_good := bf_f bf_c4 149 rfl rfl
theorem m_L_155 : Cond.methodLink R_law 155 yX9_free ∈ lw_good := bf_f bf_c7 173 rfl rfl
theorem m_L_156 : Cond.methodLink R_law 156 yX8_spread ∈ lw_good := bf_f bf_c4 156 rfl rfl
theorem m_L_159 : Cond.methodLink R_law 159 yX9_spread ∈ lw_good := bf_f bf_c7 181 rfl rfl
theorem m_L_160 : Cond.methodLink R_law 160 yX8_question ∈ lw_good := bf_f bf_c4 161 rfl rfl
theorem m_L_163 : Cond.methodLink R_law 163 yX9_question ∈ lw_good := bf_f bf_c7 185 rfl rfl
theorem m_L_164 : Cond.methodLink R_law 164 yX8_forget ∈ lw_good := bf_f bf_c4 166 rfl rfl
theorem m_L_167 : Cond.methodLink R_law 167 yX9_forget ∈ lw_good := bf_f bf_c7 189 rfl rfl
theorem m_L_168 : Cond.methodLink R_law 168 yX8_tuned ∈ lw_good := bf_f bf_c4 170 rfl rfl
theorem m_L_17 : Cond.methodLink R_law 17 yX9_feed ∈ lw_good := bf_f bf_c6 43 rfl rfl
theorem m_L_171 : Cond.methodLink R_law 171 yX9_tuned ∈ lw_good := bf_f bf_c7 193 rfl rfl
theorem m_L_172 : Cond.methodLink R_law 172 yX8_storm ∈ lw_good := bf_f bf_c4 207 rfl rfl
theorem m_L_175 : Cond.methodLink R_law 175 yX9_storm ∈ lw_good := bf_f bf_c7 201 rfl rfl
theorem m_L_176 : Cond.methodLink R_law 176 yX8_stormRange ∈ lw_good := bf_f bf_c4 211 rfl rfl
theorem m_L_179 : Cond.methodLink R_law 179 yX9_stormRange ∈ lw_good := bf_f bf_c7 205 rfl rfl
theorem m_L_18 : Cond.methodLink R_law 18 yX8_end ∈ lw_good := bf_f bf_c2 222 rfl rfl
theorem m_L_180 : Cond.methodLink R_law 180 yX8_account ∈ lw_good := bf_f bf_c4 215 rfl rfl
theorem m_L_183 : Cond.methodLink R_law 183 yX9_account ∈ lw_good := bf_f bf_c7 209 rfl rfl
theorem m_L_184 : Cond.methodLink R_law 184 yX8_since ∈ lw_good := bf_f bf_c4 219 rfl rfl
theorem m_L_187 : Cond.methodLink R_law 187 yX9_since ∈ lw_good := bf_f bf_c7 213 rfl rfl
theorem m_L_188 : Cond.methodLink R_law 188 yX8_report ∈ lw_good := bf_f bf_c4 232 rfl rfl
theorem m_L_191 : Cond.methodLink R_law 191 yX9_report ∈ lw_good := bf_f bf_c7 221 rfl rfl
theorem m_L_192 : Cond.methodLink R_law 192 yX8_sign ∈ lw_good := bf_f bf_c5 22 rfl rfl
theorem m_L_195 : Cond.methodLink R_law 195 yX9_sign ∈ lw_good := bf_f bf_c8 5 rfl rfl
theorem m_L_196 : Cond.methodLink R_law 196 yX8_image ∈ lw_good := bf_f bf_c5 30 rfl rfl
theorem m_L_200 : Cond.methodLink R_law 200 yX9_image ∈ lw_good := bf_f bf_c8 9 rfl rfl
theorem m_L_201 : Cond.methodLink R_law 201 yX8_look ∈ lw_good := bf_f bf_c5 41 rfl rfl
theorem m_L_204 : Cond.methodLink R_law 204 yX9_look ∈ lw_good := bf_f bf_c8 13 rfl rfl
theorem m_L_22 : Cond.methodLink R_law 22 yX9_end ∈ lw_good := bf_f bf_c6 51 rfl rfl
theorem m_L_23 : Cond.methodLink R_law 23 yX8_mode ∈ lw_good := bf_f bf_c2 226 rfl rfl
theorem m_L_27 : Cond.methodLink R_law 27 yX9_mode ∈ lw_good := bf_f bf_c6 55 rfl rfl
theorem m_L_28 : Cond.methodLink R_law 28 yX8_row ∈ lw_good := bf_f bf_c3 51 rfl rfl
theorem m_L_31 : Cond.methodLink R_law 31 yX9_row ∈ lw_good := bf_f bf_c6 63 rfl rfl
theorem m_L_32 : Cond.methodLink R_law 32 yX8_keys ∈ lw_good := bf_f bf_c3 64 rfl rfl
theorem m_L_35 : Cond.methodLink R_law 35 yX9_keys ∈ lw_good := bf_f bf_c6 67 rfl rfl
theorem m_L_36 : Cond.methodLink R_law 36 yX8_set ∈ lw_good := bf_f bf_c3 103 rfl rfl
theorem m_L_40 : Cond.methodLink R_law 40 yX9_set ∈ lw_good := bf_f bf_c5 199 rfl rfl
theorem m_L_41 : Cond.methodLink R_law 41 yX8_state ∈ lw_good := bf_f bf_c3 111 rfl rfl
theorem m_L_45 : Cond.methodLink R_law 45 yX9_state ∈ lw_good := bf_f bf_c5 215 rfl rfl
theorem m_L_46 : Cond.methodLink R_law 46 yX8_add ∈ lw_good := bf_f bf_c3 115 rfl rfl
theorem m_L_50 : Cond.methodLink R_law 50 yX9_add ∈ lw_good := bf_f bf_c5 219 rfl rfl
theorem m_L_51 : Cond.methodLink R_law 51 yX8_remove ∈ lw_good := bf_f bf_c3 126 rfl rfl
theorem m_L_54 : Cond.methodLink R_law 54 yX9_remove ∈ lw_good := bf_f bf_c6 17 rfl rfl
theorem m_L_55 : Cond.methodLink R_law 55 yX8_fill ∈ lw_good := bf_f bf_c3 135 rfl rfl
theorem m_L_59 : Cond.methodLink R_law 59 yX9_fill ∈ lw_good := bf_f bf_c6 25 rfl rfl
theorem m_L_60 : Cond.methodLink R_law 60 yX8_build ∈ lw_good := bf_f bf_c3 152 rfl rfl
theorem m_L_63 : Cond.methodLink R_law 63 yX9_build ∈ lw_good := bf_f bf_c6 87 rfl rfl
theorem m_L_64 : Cond.methodLink R_law 64 yX8_has ∈ lw_good := bf_f bf_c3 162 rfl rfl
theorem m_L_68 : Cond.methodLink R_law 68 yX9_has ∈ lw_good := bf_f bf_c6 21 rfl rfl
theorem m_L_69 : Cond.methodLink R_law 69 yX8_may ∈ lw_good := bf_f bf_c3 166 rfl rfl
theorem m_L_72 : Cond.methodLink R_law 72 yX9_may ∈ lw_good := bf_f bf_c6 91 rfl rfl
theorem m_L_73 : Cond.methodLink R_law 73 yX8_leafOf ∈ lw_good := bf_f bf_c3 198 rfl rfl
theorem m_L_76 : Cond.methodLink R_law 76 yX9_leafOf ∈ lw_good := bf_f bf_c6 177 rfl rfl
theorem m_L_77 : Cond.methodLink R_law 77 yX8_range ∈ lw_good := bf_f bf_c3 203 rfl rfl
theorem m_L_81 : Cond.methodLink R_law 81 yX9_range ∈ lw_good := bf_f bf_c6 181 rfl rfl
theorem m_L_82 : Cond.methodLink R_law 82 yX8_meets ∈ lw_good := bf_f bf_c3 222 rfl rfl
theorem m_L_85 : Cond.methodLink R_law 85 yX9_meets ∈ lw_good := bf_f bf_c6 205 rfl rfl
theorem m_L_86 : Cond.methodLink R_law 86 yX8_holds ∈ lw_good := bf_f bf_c3 226 rfl rfl
theorem m_L_89 : Cond.methodLink R_law 89 yX9_holds ∈ lw_good := bf_f bf_c6 209 rfl rfl
theorem m_L_90 : Cond.methodLink R_law 90 yX8_seek ∈ lw_good := bf_f bf_c3 234 rfl rfl
theorem m_L_93 : Cond.methodLink R_law 93 yX9_seek ∈ lw_good := bf_f bf_c6 213 rfl rfl
theorem m_L_94 : Cond.methodLink R_law 94 yX8_seekBack ∈ lw_good := bf_f bf_c3 238 rfl rfl
theorem m_L_97 : Cond.methodLink R_law 97 yX9_seekBack ∈ lw_good := bf_f bf_c6 217 rfl rfl
theorem m_L_98 : Cond.methodLink R_law 98 yX8_leaf ∈ lw_good := bf_f bf_c4 2 rfl rfl
def wp_L_law_1745 (L : Nat) (scr : Nat → Int32) (S : bT8 × bT9) (x3 : Int32) (Q : Unit) (B18 : Int32 → (bT8 × bT9) → Prop) : Prop := (B18 ((x3 + (7 : Int32))) S)
set_option maxRecDepth 20000 in
theorem t_L_law_1745 {X : bf_X} (C : bf_C X R_law code 4 ret) (hR : bf_Rm X 13 494) (hG : bf_G (xA X) (xs X) (xs X).heap) {b : Nat} {L : Nat} {scr : Nat → Int32} (hX : va_X b L scr (xs X) (xs X).heap) (hW : bf_law X b) (S : bT8 × bT9) (x3 : Int32) (Q : Unit) (B18 : Int32 → (bT8 × bT9) → Prop) (hB18 : ∀ (x3 : Int32) (S : bT8 × bT9), B18 x3 S → bf_A X (lw_Z (xb X) (xa X) (xs X)) 4 18 [some (.ref 1000), some (.ref 0), some (.ref 68), some (.int x3)] [] (bW8_9 S)) (h : wp_L_law_1745 L scr S x3 Q B18) : bf_A X (lw_Z (xb X) (xa X) (xs X)) 4 1745 [some (.ref 1000), some (.ref 0), some (.ref 68), some (.int x3)] [] (bW8_9 S) := by
  unfold wp_L_law_1745 at h
  refine bs_iinc C (bf_dk dd_L_law 1255 rfl) (x3 + (7 : Int32)) rfl rfl (Nat.le_of_ble_eq_true rfl) (Nat.le_of_ble_eq_true rfl) (lv2 := [some (.ref 1000), some (.ref 0), some (.ref 68), some (.int (x3 + (7 : Int32)))]) rfl ?_
  refine bs_goto C (bf_dk dd_L_law 1256 rfl) (tgt := 18) rfl ?_
  exact bs_weak (bf_s1 (bf_s1 (bf_s1 (bf_s1 bf_s0)))) (hB18 ((x3 + (7 : Int32))) S h)
def wp_L_law_1715 (L : Nat) (scr : Nat → Int32) (S : bT8 × bT9) (x3 : Int32) (t1 : Int32) (Q : Unit) (B18 : Int32 → (bT8 × bT9) → Prop) : Prop := (wp_X9_image S.2 (t1) (fun r1 u2 => (∀ S3 : bT8 × bT9, S3 = (S.1, u2) → (wp_L_law_1745 L scr S3 (x3) Q B18))))
set_option maxRecDepth 20000 in
theorem t_L_law_1715 {X : bf_X} (C : bf_C X R_law code 4 ret) (hR : bf_Rm X 13 494) (hG : bf_G (xA X) (xs X) (xs X).heap) {b : Nat} {L : Nat} {scr : Nat → Int32} (hX : va_X b L scr (xs X) (xs X).heap) (hW : bf_law X b) (S : bT8 × bT9) (x3 : Int32) (t1 : Int32) (Q : Unit) (B18 : Int32 → (bT8 × bT9) → Prop) (hB18 : ∀ (x3 : Int32) (S : bT8 × bT9), B18 x3 S → bf_A X (lw_Z (xb X) (xa X) (xs X)) 4 18 [some (.ref 1000), some (.ref 0), some (.ref 68), some (.int x3)] [] (bW8_9 S)) (h : wp_L_law_1715 L scr S x3 t1 Q B18) : bf_A X (lw_Z (xb X) (xa X) (xs X)) 4 1715 [some (.ref 1000), some (.ref 0), some (.ref 68), some (.int x3)] [.int t1, .ref 68] (bW8_9 S) := by
  unfold wp_L_law_1715 at h
  refine bs_callV_i (ps := [68, 69, 70, 71, 72, 73, 74, 75, 76, 77, 78, 79, 80, 81, 82, 83, 84, 85, 86, 87, 88]) (w := (bW8_9 S)) C hR (c_X9_image _ _ _ _ _ S.2 (t1) _ h) my_X9_image m_L_200 rfl cl_9 (ge_bW9_0 _) rfl (Nat.le_of_ble_eq_true rfl) (Nat.le_of_ble_eq_true rfl) (su_bW8_9_68_bW9 S) rfl (st := []) (Nat.le_of_ble_eq_true rfl) (bf_dk dd_L_law 1235 rfl) rfl (fun _ => rfl) (w2 := fun u2 => bW8_9 (S.1, u2)) (pt_bW8_9_68_bW9 S) (fun r1 u2 h => ?_)
  refine bs_nameS bW8_9 (fun S3 eS3 => ?_)
  replace h := h S3 eS3
  refine bs_pop C (bf_dk dd_L_law 1236 rfl) rfl ?_
  refine bs_goto C (bf_dk dd_L_law 1237 rfl) (tgt := 1745) rfl ?_
  exact bs_weak (bf_s1 (bf_s1 (bf_s1 (bf_s1 bf_s0)))) (t_L_law_1745 C hR hG hX hW S3 (x3) Q B18 hB18 h)
def wp_L_law_1697 (L : Nat) (scr : Nat → Int32) (S : bT8 × bT9) (x3 : Int32) (t1 : Int32) (Q : Unit) (B18 : Int32 → (bT8 × bT9) → Prop) : Prop := (wp_X8_image S.1 (t1) (fun r4 u5 => (∀ S6 : bT8 × bT9, S6 = (u5, S.2) → (vp_in (x3 + (1 : Int32)) L ∧ (((xs ((x3 + (1 : Int32))).toNatClampNeg) = 0 → (wp_L_law_1715 L scr S6 (x3) ((0 : Int32)) Q B18)) ∧ (¬ (xs ((x3 + (1 : Int32))).toNatClampNeg) = 0 → (wp_L_law_1715 L scr S6 (x3) ((1 : Int32)) Q B18)))))))
set_option maxRecDepth 20000 in
theorem t_L_law_1697 {X : bf_X} (C : bf_C X R_law code 4 ret) (hR : bf_Rm X 13 494) (hG : bf_G (xA X) (xs X) (xs X).heap) {b : Nat} {L : Nat} {scr : Nat → Int32} (hX : va_X b L scr (xs X) (xs X).heap) (hW : bf_law X b) (S : bT8 × bT9) (x3 : Int32) (t1 : Int32) (Q : Unit) (B18 : Int32 → (bT8 × bT9) → Prop) (hB18 : ∀ (x3 : Int32) (S : bT8 × bT9), B18 x3 S → bf_A X (lw_Z (xb X) (xa X) (xs X)) 4 18 [some (.ref 1000), some (.ref 0), some (.ref 68), some (.int x3)] [] (bW8_9 S)) (h : wp_L_law_1697 L scr S x3 t1 Q B18) : bf_A X (lw_Z (xb X) (xa X) (xs X)) 4 1697 [some (.ref 1000), some (.ref 0), some (.ref 68), some (.int x3)] [.int t1, .ref 0] (bW8_9 S) := by
  unfold wp_L_law_1697 at h
  refine bs_callV_i (ps := [0, 1, 2, 3, 4, 5, 6, 7, 8, 9, 10, 11, 12, 13, 14, 15, 16, 17, 18, 19, 20, 21, 22, 23, 24, 25, 26, 27, 28, 29, 30, 31, 32, 33, 34, 35, 36, 37, 38, 39, 40, 41, 42, 43, 44, 45, 46, 47, 48, 49, 50, 51, 52, 53, 54, 55, 56, 57, 58, 59, 60, 61, 62, 63, 64, 65, 66, 67]) (w := (bW8_9 S)) C hR (c_X8_image _ _ _ _ _ S.1 (t1) _ h) my_X8_image m_L_196 rfl cl_8 (ge_bW8_0 _) rfl (Nat.le_of_ble_eq_true rfl) (Nat.le_of_ble_eq_true rfl) (su_bW8_9_0_bW8 S) rfl (st := []) (Nat.le_of_ble_eq_true rfl) (bf_dk dd_L_law 1223 rfl) rfl (fun _ => rfl) (w2 := fun u5 => bW8_9 (u5, S.2)) (pt_bW8_9_0_bW8 S) (fun r4 u5 h => ?_)
  refine bs_nameS bW8_9 (fun S6 eS6 => ?_)
  replace h := h S6 eS6
  refine bs_pop C (bf_dk dd_L_law 1224 rfl) rfl ?_
  refine bs_aload_n C (bf_dk dd_L_law 1225 rfl) rfl ?_
  refine bs_aload_n C (bf_dk dd_L_law 1226 rfl) rfl ?_
  refine bs_iload_n C (bf_dk dd_L_law 1227 rfl) rfl ?_
  refine bs_iconst C (bf_dk dd_L_law 1228 rfl) (1 : Int32) (by decide) ?_
  refine bs_iadd C (bf_dk dd_L_law 1229 rfl) ?_
  obtain ⟨hi, h⟩ := h
  refine bs_sld C hX hW (bf_dk dd_L_law 1230 rfl) hi ?_
  refine bs_if_eq C (bf_dk dd_L_law 1231 rfl) (tgt := 1714) rfl (fun c => ?_) (fun c => ?_)
  · replace h := h.1 c
    refine bs_iconst C (bf_dk dd_L_law 1234 rfl) (0 : Int32) (by decide) ?_
    exact bs_weak (bf_s1 (bf_s1 (bf_s1 (bf_s1 bf_s0)))) (t_L_law_1715 C hR hG hX hW S6 (x3) ((0 : Int32)) Q B18 hB18 h)
  · replace h := h.2 c
    refine bs_iconst C (bf_dk dd_L_law 1232 rfl) (1 : Int32) (by decide) ?_
    refine bs_goto C (bf_dk dd_L_law 1233 rfl) (tgt := 1715) rfl ?_
    exact bs_weak (bf_s1 (bf_s1 (bf_s1 (bf_s1 bf_s0)))) (t_L_law_1715 C hR hG hX hW S6 (x3) ((1 : Int32)) Q B18 hB18 h)
def wp_L_law_18b (L : Nat) (scr : Nat → Int32) (S : bT8 × bT9) (x3 : Int32) (Q : Unit) (B18 : Int32 → (bT8 × bT9) → Prop) : Prop := ((((Int32.ofNat L) - (7 : Int32)) < x3 → ((1 : Int32) = (1 : Int32))) ∧ (¬ ((Int32.ofNat L) - (7 : Int32)) < x3 → (vp_in x3 L ∧ ((((((xs (x3).toNatClampNeg) &&& (63 : Int32))).toInt < 0 ∨ 44 < (((xs (x3).toNatClampNeg) &&& (63 : Int32))).toInt) → (wp_L_law_1745 L scr S (x3) Q B18)) ∧ (((xs (x3).toNatClampNeg) &&& (63 : Int32)) = (0 : Int32) → (vp_in (x3 + (1 : Int32)) L ∧ (vp_in (x3 + (2 : Int32)) L ∧ (vp_in (x3 + (3 : Int32)) L ∧ (vp_in (x3 + (4 : Int32)) L ∧ (vp_in (x3 + (5 : Int32)) L ∧ (wp_X8_feed S.1 ((xs ((x3 + (1 : Int32))).toNatClampNeg)) ((xs ((x3 + (2 : Int32))).toNatClampNeg)) ((xs ((x3 + (3 : Int32))).toNatClampNeg)) ((xs ((x3 + (4 : Int32))).toNatClampNeg)) ((xs ((x3 + (5 : Int32))).toNatClampNeg)) (fun r7 u8 => (∀ S9 : bT8 × bT9, S9 = (u8, S.2) → (vp_in (x3 + (1 : Int32)) L ∧ (vp_in (x3 + (2 : Int32)) L ∧ (vp_in (x3 + (3 : Int32)) L ∧ (vp_in (x3 + (4 : Int32)) L ∧ (vp_in (x3 + (5 : Int32)) L ∧ (wp_X9_feed S9.2 ((xs ((x3 + (1 : Int32))).toNatClampNeg)) ((xs ((x3 + (2 : Int32))).toNatClampNeg)) ((xs ((x3 + (3 : Int32))).toNatClampNeg)) ((xs ((x3 + (4 : Int32))).toNatClampNeg)) ((xs ((x3 + (5 : Int32))).toNatClampNeg)) (fun r10 u11 => (∀ S12 : bT8 × bT9, S12 = (S9.1, u11) → (wp_L_law_1745 L scr S12 (x3) Q B18)))))))))))))))))) ∧ (((xs (x3).toNatClampNeg) &&& (63 : Int32)) = (1 : Int32) → (vp_in (x3 + (1 : Int32)) L ∧ (wp_X8_end S.1 ((xs ((x3 + (1 : Int32))).toNatClampNeg)) (fun r13 u14 => (∀ S15 : bT8 × bT9, S15 = (u14, S.2) → (vp_in (x3 + (1 : Int32)) L ∧ (wp_X9_end S15.2 ((xs ((x3 + (1 : Int32))).toNatClampNeg)) (fun r16 u17 => (∀ S18 : bT8 × bT9, S18 = (S15.1, u17) → (wp_L_law_1745 L scr S18 (x3) Q B18)))))))))) ∧ (((xs (x3).toNatClampNeg) &&& (63 : Int32)) = (2 : Int32) → (wp_X8_mode S.1 (fun r19 u20 => (∀ S21 : bT8 × bT9, S21 = (u20, S.2) → (wp_X9_mode S21.2 (fun r22 u23 => (∀ S24 : bT8 × bT9, S24 = (S21.1, u23) → (wp_L_law_1745 L scr S24 (x3) Q B18)))))))) ∧ (((xs (x3).toNatClampNeg) &&& (63 : Int32)) = (3 : Int32) → (wp_X8_row S.1 (fun r25 u26 => (∀ S27 : bT8 × bT9, S27 = (u26, S.2) → (wp_X9_row S27.2 (fun r28 u29 => (∀ S30 : bT8 × bT9, S30 = (S27.1, u29) → (wp_L_law_1745 L scr S30 (x3) Q B18)))))))) ∧ (((xs (x3).toNatClampNeg) &&& (63 : Int32)) = (4 : Int32) → (wp_X8_keys S.1 (fun r31 u32 => (∀ S33 : bT8 × bT9, S33 = (u32, S.2) → (wp_X9_keys S33.2 (fun r34 u35 => (∀ S36 : bT8 × bT9, S36 = (S33.1, u35) → (wp_L_law_1745 L scr S36 (x3) Q B18)))))))) ∧ (((xs (x3).toNatClampNeg) &&& (63 : Int32)) = (5 : Int32) → (vp_in (x3 + (1 : Int32)) L ∧ (vp_in (x3 + (2 : Int32)) L ∧ (wp_X8_set S.1 ((xs ((x3 + (1 : Int32))).toNatClampNeg)) ((xs ((x3 + (2 : Int32))).toNatClampNeg)) (fun r37 u38 => (∀ S39 : bT8 × bT9, S39 = (u38, S.2) → (vp_in (x3 + (1 : Int32)) L ∧ (vp_in (x3 + (2 : Int32)) L ∧ (wp_X9_set S39.2 ((xs ((x3 + (1 : Int32))).toNatClampNeg)) ((xs ((x3 + (2 : Int32))).toNatClampNeg)) (fun r40 u41 => (∀ S42 : bT8 × bT9, S42 = (S39.1, u41) → ((r37 = r40 → (wp_L_law_1745 L scr S42 (x3) Q B18)) ∧ (¬ r37 = r40 → ((0 : Int32) = (1 : Int32))))))))))))))) ∧ (((xs (x3).toNatClampNeg) &&& (63 : Int32)) = (6 : Int32) → (vp_in (x3 + (1 : Int32)) L ∧ (wp_X8_state S.1 ((xs ((x3 + (1 : Int32))).toNatClampNeg)) (fun r43 u44 => (∀ S45 : bT8 × bT9, S45 = (u44, S.2) → (vp_in (x3 + (1 : Int32)) L ∧ (wp_X9_state S45.2 ((xs ((x3 + (1 : Int32))).toNatClampNeg)) (fun r46 u47 => (∀ S48 : bT8 × bT9, S48 = (S45.1, u47) → (wp_L_law_1745 L scr S48 (x3) Q B18)))))))))) ∧ (((xs (x3).toNatClampNeg) &&& (63 : Int32)) = (7 : Int32) → (vp_in (x3 + (1 : Int32)) L ∧ (vp_in (x3 + (2 : Int32)) L ∧ (vp_in (x3 + (3 : Int32)) L ∧ (wp_X8_add S.1 ((xs ((x3 + (1 : Int32))).toNatClampNeg)) ((xs ((x3 + (2 : Int32))).toNatClampNeg)) ((xs ((x3 + (3 : Int32))).toNatClampNeg)) (fun r49 u50 => (∀ S51 : bT8 × bT9, S51 = (u50, S.2) → (vp_in (x3 + (1 : Int32)) L ∧ (vp_in (x3 + (2 : Int32)) L ∧ (vp_in (x3 + (3 : Int32)) L ∧ (wp_X9_add S51.2 ((xs ((x3 + (1 : Int32))).toNatClampNeg)) ((xs ((x3 + (2 : Int32))).toNatClampNeg)) ((xs ((x3 + (3 : Int32))).toNatClampNeg)) (fun r52 u53 => (∀ S54 : bT8 × bT9, S54 = (S51.1, u53) → (wp_L_law_1745 L scr S54 (x3) Q B18)))))))))))))) ∧ (((xs (x3).toNatClampNeg) &&& (63 : Int32)) = (8 : Int32) → (vp_in (x3 + (1 : Int32)) L ∧ (vp_in (x3 + (2 : Int32)) L ∧ (vp_in (x3 + (3 : Int32)) L ∧ (wp_X8_remove S.1 ((xs ((x3 + (1 : Int32))).toNatClampNeg)) ((xs ((x3 + (2 : Int32))).toNatClampNeg)) ((xs ((x3 + (3 : Int32))).toNatClampNeg)) (fun r55 u56 => (∀ S57 : bT8 × bT9, S57 = (u56, S.2) → (vp_in (x3 + (1 : Int32)) L ∧ (vp_in (x3 + (2 : Int32)) L ∧ (vp_in (x3 + (3 : Int32)) L ∧ (wp_X9_remove S57.2 ((xs ((x3 + (1 : Int32))).toNatClampNeg)) ((xs ((x3 + (2 : Int32))).toNatClampNeg)) ((xs ((x3 + (3 : Int32))).toNatClampNeg)) (fun r58 u59 => (∀ S60 : bT8 × bT9, S60 = (S57.1, u59) → (wp_L_law_1745 L scr S60 (x3) Q B18)))))))))))))) ∧ (((xs (x3).toNatClampNeg) &&& (63 : Int32)) = (9 : Int32) → (vp_in (x3 + (1 : Int32)) L ∧ (vp_in (x3 + (2 : Int32)) L ∧ (wp_X8_fill S.1 ((xs ((x3 + (1 : Int32))).toNatClampNeg)) ((xs ((x3 + (2 : Int32))).toNatClampNeg)) (fun r61 u62 => (∀ S63 : bT8 × bT9, S63 = (u62, S.2) → (vp_in (x3 + (1 : Int32)) L ∧ (vp_in (x3 + (2 : Int32)) L ∧ (wp_X9_fill S63.2 ((xs ((x3 + (1 : Int32))).toNatClampNeg)) ((xs ((x3 + (2 : Int32))).toNatClampNeg)) (fun r64 u65 => (∀ S66 : bT8 × bT9, S66 = (S63.1, u65) → (wp_L_law_1745 L scr S66 (x3) Q B18)))))))))))) ∧ (((xs (x3).toNatClampNeg) &&& (63 : Int32)) = (10 : Int32) → (wp_X8_build S.1 (fun r67 u68 => (∀ S69 : bT8 × bT9, S69 = (u68, S.2) → (wp_X9_build S69.2 (fun r70 u71 => (∀ S72 : bT8 × bT9, S72 = (S69.1, u71) → (wp_L_law_1745 L scr S72 (x3) Q B18)))))))) ∧ (((xs (x3).toNatClampNeg) &&& (63 : Int32)) = (11 : Int32) → (vp_in (x3 + (1 : Int32)) L ∧ (vp_in (x3 + (2 : Int32)) L ∧ (vp_in (x3 + (3 : Int32)) L ∧ (vp_in (x3 + (4 : Int32)) L ∧ (wp_X8_has S.1 ((xs ((x3 + (1 : Int32))).toNatClampNeg)) ((xs ((x3 + (2 : Int32))).toNatClampNeg)) ((xs ((x3 + (3 : Int32))).toNatClampNeg)) ((xs ((x3 + (4 : Int32))).toNatClampNeg)) (fun r73 => (vp_in (x3 + (1 : Int32)) L ∧ (vp_in (x3 + (2 : Int32)) L ∧ (vp_in (x3 + (3 : Int32)) L ∧ (vp_in (x3 + (4 : Int32)) L ∧ (wp_X9_has S.2 ((xs ((x3 + (1 : Int32))).toNatClampNeg)) ((xs ((x3 + (2 : Int32))).toNatClampNeg)) ((xs ((x3 + (3 : Int32))).toNatClampNeg)) ((xs ((x3 + (4 : Int32))).toNatClampNeg)) (fun r75 u76 => (∀ S77 : bT8 × bT9, S77 = (S.1, u76) → (wp_L_law_1745 L scr S77 (x3) Q B18))))))))))))))) ∧ (((xs (x3).toNatClampNeg) &&& (63 : Int32)) = (12 : Int32) → (vp_in (x3 + (1 : Int32)) L ∧ (vp_in (x3 + (2 : Int32)) L ∧ (vp_in (x3 + (3 : Int32)) L ∧ (wp_X8_may S.1 ((xs ((x3 + (1 : Int32))).toNatClampNeg)) ((xs ((x3 + (2 : Int32))).toNatClampNeg)) ((xs ((x3 + (3 : Int32))).toNatClampNeg)) (fun r78 u79 => (∀ S80 : bT8 × bT9, S80 = (u79, S.2) → (vp_in (x3 + (1 : Int32)) L ∧ (vp_in (x3 + (2 : Int32)) L ∧ (vp_in (x3 + (3 : Int32)) L ∧ (wp_X9_may S80.2 ((xs ((x3 + (1 : Int32))).toNatClampNeg)) ((xs ((x3 + (2 : Int32))).toNatClampNeg)) ((xs ((x3 + (3 : Int32))).toNatClampNeg)) (fun r81 u82 => (∀ S83 : bT8 × bT9, S83 = (S80.1, u82) → (wp_L_law_1745 L scr S83 (x3) Q B18)))))))))))))) ∧ (((xs (x3).toNatClampNeg) &&& (63 : Int32)) = (13 : Int32) → (vp_in (x3 + (1 : Int32)) L ∧ (vp_in (x3 + (2 : Int32)) L ∧ (vp_in (x3 + (3 : Int32)) L ∧ (wp_X8_leafOf S.1 ((xs ((x3 + (1 : Int32))).toNatClampNeg)) ((xs ((x3 + (2 : Int32))).toNatClampNeg)) ((xs ((x3 + (3 : Int32))).toNatClampNeg)) (fun r84 => (vp_in (x3 + (1 : Int32)) L ∧ (vp_in (x3 + (2 : Int32)) L ∧ (vp_in (x3 + (3 : Int32)) L ∧ (wp_X9_leafOf S.2 ((xs ((x3 + (1 : Int32))).toNatClampNeg)) ((xs ((x3 + (2 : Int32))).toNatClampNeg)) ((xs ((x3 + (3 : Int32))).toNatClampNeg)) (fun r86 u87 => (∀ S88 : bT8 × bT9, S88 = (S.1, u87) → (wp_L_law_1745 L scr S88 (x3) Q B18))))))))))))) ∧ (((xs (x3).toNatClampNeg) &&& (63 : Int32)) = (14 : Int32) → (vp_in (x3 + (1 : Int32)) L ∧ (vp_in (x3 + (2 : Int32)) L ∧ (vp_in (x3 + (3 : Int32)) L ∧ (vp_in (x3 + (4 : Int32)) L ∧ (vp_in (x3 + (5 : Int32)) L ∧ (vp_in (x3 + (6 : Int32)) L ∧ (wp_X8_range S.1 ((xs ((x3 + (1 : Int32))).toNatClampNeg)) ((xs ((x3 + (2 : Int32))).toNatClampNeg)) ((xs ((x3 + (3 : Int32))).toNatClampNeg)) ((xs ((x3 + (4 : Int32))).toNatClampNeg)) ((xs ((x3 + (5 : Int32))).toNatClampNeg)) ((xs ((x3 + (6 : Int32))).toNatClampNeg)) (fun r89 u90 => (∀ S91 : bT8 × bT9, S91 = (u90, S.2) → (vp_in (x3 + (1 : Int32)) L ∧ (vp_in (x3 + (2 : Int32)) L ∧ (vp_in (x3 + (3 : Int32)) L ∧ (vp_in (x3 + (4 : Int32)) L ∧ (vp_in (x3 + (5 : Int32)) L ∧ (vp_in (x3 + (6 : Int32)) L ∧ (wp_X9_range S91.2 ((xs ((x3 + (1 : Int32))).toNatClampNeg)) ((xs ((x3 + (2 : Int32))).toNatClampNeg)) ((xs ((x3 + (3 : Int32))).toNatClampNeg)) ((xs ((x3 + (4 : Int32))).toNatClampNeg)) ((xs ((x3 + (5 : Int32))).toNatClampNeg)) ((xs ((x3 + (6 : Int32))).toNatClampNeg)) (fun r92 u93 => (∀ S94 : bT8 × bT9, S94 = (S91.1, u93) → (wp_L_law_1745 L scr S94 (x3) Q B18)))))))))))))))))))) ∧ (((xs (x3).toNatClampNeg) &&& (63 : Int32)) = (15 : Int32) → (vp_in (x3 + (1 : Int32)) L ∧ (vp_in (x3 + (2 : Int32)) L ∧ (vp_in (x3 + (3 : Int32)) L ∧ (vp_in (x3 + (4 : Int32)) L ∧ (vp_in (x3 + (5 : Int32)) L ∧ (vp_in (x3 + (6 : Int32)) L ∧ (wp_X8_meets S.1 ((xs ((x3 + (1 : Int32))).toNatClampNeg)) ((xs ((x3 + (2 : Int32))).toNatClampNeg)) ((xs ((x3 + (3 : Int32))).toNatClampNeg)) ((xs ((x3 + (4 : Int32))).toNatClampNeg)) ((xs ((x3 + (5 : Int32))).toNatClampNeg)) ((xs ((x3 + (6 : Int32))).toNatClampNeg)) (fun r95 => (vp_in (x3 + (1 : Int32)) L ∧ (vp_in (x3 + (2 : Int32)) L ∧ (vp_in (x3 + (3 : Int32)) L ∧ (vp_in (x3 + (4 : Int32)) L ∧ (vp_in (x3 + (5 : Int32)) L ∧ (vp_in (x3 + (6 : Int32)) L ∧ (wp_X9_meets S.2 ((xs ((x3 + (1 : Int32))).toNatClampNeg)) ((xs ((x3 + (2 : Int32))).toNatClampNeg)) ((xs ((x3 + (3 : Int32))).toNatClampNeg)) ((xs ((x3 + (4 : Int32))).toNatClampNeg)) ((xs ((x3 + (5 : Int32))).toNatClampNeg)) ((xs ((x3 + (6 : Int32))).toNatClampNeg)) (fun r97 u98 => (∀ S99 : bT8 × bT9, S99 = (S.1, u98) → (wp_L_law_1745 L scr S99 (x3) Q B18))))))))))))))))))) ∧ (((xs (x3).toNatClampNeg) &&& (63 : Int32)) = (16 : Int32) → (vp_in (x3 + (1 : Int32)) L ∧ (vp_in (x3 + (2 : Int32)) L ∧ (vp_in (x3 + (3 : Int32)) L ∧ (vp_in (x3 + (4 : Int32)) L ∧ (vp_in (x3 + (5 : Int32)) L ∧ (vp_in (x3 + (6 : Int32)) L ∧ (wp_X8_holds S.1 ((xs ((x3 + (1 : Int32))).toNatClampNeg)) ((xs ((x3 + (2 : Int32))).toNatClampNeg)) ((xs ((x3 + (3 : Int32))).toNatClampNeg)) ((xs ((x3 + (4 : Int32))).toNatClampNeg)) ((xs ((x3 + (5 : Int32))).toNatClampNeg)) ((xs ((x3 + (6 : Int32))).toNatClampNeg)) (fun r100 => (vp_in (x3 + (1 : Int32)) L ∧ (vp_in (x3 + (2 : Int32)) L ∧ (vp_in (x3 + (3 : Int32)) L ∧ (vp_in (x3 + (4 : Int32)) L ∧ (vp_in (x3 + (5 : Int32)) L ∧ (vp_in (x3 + (6 : Int32)) L ∧ (wp_X9_holds S.2 ((xs ((x3 + (1 : Int32))).toNatClampNeg)) ((xs ((x3 + (2 : Int32))).toNatClampNeg)) ((xs ((x3 + (3 : Int32))).toNatClampNeg)) ((xs ((x3 + (4 : Int32))).toNatClampNeg)) ((xs ((x3 + (5 : Int32))).toNatClampNeg)) ((xs ((x3 + (6 : Int32))).toNatClampNeg)) (fun r102 u103 => (∀ S104 : bT8 × bT9, S104 = (S.1, u103) → (wp_L_law_1745 L scr S104 (x3) Q B18))))))))))))))))))) ∧ (((xs (x3).toNatClampNeg) &&& (63 : Int32)) = (17 : Int32) → (vp_in (x3 + (1 : Int32)) L ∧ (vp_in (x3 + (2 : Int32)) L ∧ (vp_in (x3 + (3 : Int32)) L ∧ (wp_X8_seek S.1 ((xs ((x3 + (1 : Int32))).toNatClampNeg)) ((xs ((x3 + (2 : Int32))).toNatClampNeg)) ((xs ((x3 + (3 : Int32))).toNatClampNeg)) (fun r105 => (vp_in (x3 + (1 : Int32)) L ∧ (vp_in (x3 + (2 : Int32)) L ∧ (vp_in (x3 + (3 : Int32)) L ∧ (wp_X9_seek S.2 ((xs ((x3 + (1 : Int32))).toNatClampNeg)) ((xs ((x3 + (2 : Int32))).toNatClampNeg)) ((xs ((x3 + (3 : Int32))).toNatClampNeg)) (fun r107 u108 => (∀ S109 : bT8 × bT9, S109 = (S.1, u108) → (wp_L_law_1745 L scr S109 (x3) Q B18))))))))))))) ∧ (((xs (x3).toNatClampNeg) &&& (63 : Int32)) = (18 : Int32) → (vp_in (x3 + (1 : Int32)) L ∧ (vp_in (x3 + (2 : Int32)) L ∧ (vp_in (x3 + (3 : Int32)) L ∧ (wp_X8_seekBack S.1 ((xs ((x3 + (1 : Int32))).toNatClampNeg)) ((xs ((x3 + (2 : Int32))).toNatClampNeg)) ((xs ((x3 + (3 : Int32))).toNatClampNeg)) (fun r110 => (vp_in (x3 + (1 : Int32)) L ∧ (vp_in (x3 + (2 : Int32)) L ∧ (vp_in (x3 + (3 : Int32)) L ∧ (wp_X9_seekBack S.2 ((xs ((x3 + (1 : Int32))).toNatClampNeg)) ((xs ((x3 + (2 : Int32))).toNatClampNeg)) ((xs ((x3 + (3 : Int32))).toNatClampNeg)) (fun r112 u113 => (∀ S114 : bT8 × bT9, S114 = (S.1, u113) → (wp_L_law_1745 L scr S114 (x3) Q B18))))))))))))) ∧ (((xs (x3).toNatClampNeg) &&& (63 : Int32)) = (19 : Int32) → (vp_in (x3 + (1 : Int32)) L ∧ (vp_in (x3 + (2 : Int32)) L ∧ (wp_X8_leaf S.1 ((xs ((x3 + (1 : Int32))).toNatClampNeg)) ((xs ((x3 + (2 : Int32))).toNatClampNeg)) (fun r115 => (vp_in (x3 + (1 : Int32)) L ∧ (vp_in (x3 + (2 : Int32)) L ∧ (wp_X9_leaf S.2 ((xs ((x3 + (1 : Int32))).toNatClampNeg)) ((xs ((x3 + (2 : Int32))).toNatClampNeg)) (fun r117 u118 => (∀ S119 : bT8 × bT9, S119 = (S.1, u118) → (wp_L_law_1745 L scr S119 (x3) Q B18))))))))))) ∧ (((xs (x3).toNatClampNeg) &&& (63 : Int32)) = (20 : Int32) → (vp_in (x3 + (1 : Int32)) L ∧ (wp_X8_leafAt S.1 ((xs ((x3 + (1 : Int32))).toNatClampNeg)) (fun r120 => (vp_in (x3 + (1 : Int32)) L ∧ (wp_X9_leafAt S.2 ((xs ((x3 + (1 : Int32))).toNatClampNeg)) (fun r122 u123 => (∀ S124 : bT8 × bT9, S124 = (S.1, u123) → (wp_L_law_1745 L scr S124 (x3) Q B18))))))))) ∧ (((xs (x3).toNatClampNeg) &&& (63 : Int32)) = (21 : Int32) → (vp_in (x3 + (1 : Int32)) L ∧ (vp_in (x3 + (2 : Int32)) L ∧ (wp_X8_node S.1 ((xs ((x3 + (1 : Int32))).toNatClampNeg)) ((xs ((x3 + (2 : Int32))).toNatClampNeg)) (fun r125 => (vp_in (x3 + (1 : Int32)) L ∧ (vp_in (x3 + (2 : Int32)) L ∧ (wp_X9_node S.2 ((xs ((x3 + (1 : Int32))).toNatClampNeg)) ((xs ((x3 + (2 : Int32))).toNatClampNeg)) (fun r127 u128 => (∀ S129 : bT8 × bT9, S129 = (S.1, u128) → (wp_L_law_1745 L scr S129 (x3) Q B18))))))))))) ∧ (((xs (x3).toNatClampNeg) &&& (63 : Int32)) = (22 : Int32) → (vp_in (x3 + (1 : Int32)) L ∧ (vp_in (x3 + (2 : Int32)) L ∧ (wp_X8_child S.1 ((xs ((x3 + (1 : Int32))).toNatClampNeg)) ((xs ((x3 + (2 : Int32))).toNatClampNeg)) (fun r130 => (vp_in (x3 + (1 : Int32)) L ∧ (vp_in (x3 + (2 : Int32)) L ∧ (wp_X9_child S.2 ((xs ((x3 + (1 : Int32))).toNatClampNeg)) ((xs ((x3 + (2 : Int32))).toNatClampNeg)) (fun r132 u133 => (∀ S134 : bT8 × bT9, S134 = (S.1, u133) → (wp_L_law_1745 L scr S134 (x3) Q B18))))))))))) ∧ (((xs (x3).toNatClampNeg) &&& (63 : Int32)) = (23 : Int32) → (vp_in (x3 + (1 : Int32)) L ∧ (vp_in (x3 + (2 : Int32)) L ∧ (wp_X8_level S.1 ((xs ((x3 + (1 : Int32))).toNatClampNeg)) ((xs ((x3 + (2 : Int32))).toNatClampNeg)) (fun r135 => (vp_in (x3 + (1 : Int32)) L ∧ (vp_in (x3 + (2 : Int32)) L ∧ (wp_X9_level S.2 ((xs ((x3 + (1 : Int32))).toNatClampNeg)) ((xs ((x3 + (2 : Int32))).toNatClampNeg)) (fun r137 u138 => (∀ S139 : bT8 × bT9, S139 = (S.1, u138) → (wp_L_law_1745 L scr S139 (x3) Q B18))))))))))) ∧ (((xs (x3).toNatClampNeg) &&& (63 : Int32)) = (24 : Int32) → (vp_in (x3 + (1 : Int32)) L ∧ (vp_in (x3 + (2 : Int32)) L ∧ (wp_X8_item S.1 ((xs ((x3 + (1 : Int32))).toNatClampNeg)) ((xs ((x3 + (2 : Int32))).toNatClampNeg)) (fun r140 => (vp_in (x3 + (1 : Int32)) L ∧ (vp_in (x3 + (2 : Int32)) L ∧ (wp_X9_item S.2 ((xs ((x3 + (1 : Int32))).toNatClampNeg)) ((xs ((x3 + (2 : Int32))).toNatClampNeg)) (fun r142 u143 => (∀ S144 : bT8 × bT9, S144 = (S.1, u143) → (wp_L_law_1745 L scr S144 (x3) Q B18))))))))))) ∧ (((xs (x3).toNatClampNeg) &&& (63 : Int32)) = (25 : Int32) → (vp_in (x3 + (1 : Int32)) L ∧ (wp_X8_bit S.1 ((xs ((x3 + (1 : Int32))).toNatClampNeg)) (fun r145 => (vp_in (x3 + (1 : Int32)) L ∧ (wp_X9_bit S.2 ((xs ((x3 + (1 : Int32))).toNatClampNeg)) (fun r147 u148 => (∀ S149 : bT8 × bT9, S149 = (S.1, u148) → (wp_L_law_1745 L scr S149 (x3) Q B18))))))))) ∧ (((xs (x3).toNatClampNeg) &&& (63 : Int32)) = (26 : Int32) → (vp_in (x3 + (1 : Int32)) L ∧ (wp_X8_rank S.1 ((xs ((x3 + (1 : Int32))).toNatClampNeg)) (fun r150 => (vp_in (x3 + (1 : Int32)) L ∧ (wp_X9_rank S.2 ((xs ((x3 + (1 : Int32))).toNatClampNeg)) (fun r152 u153 => (∀ S154 : bT8 × bT9, S154 = (S.1, u153) → (wp_L_law_1745 L scr S154 (x3) Q B18))))))))) ∧ (((xs (x3).toNatClampNeg) &&& (63 : Int32)) = (27 : Int32) → (vp_in (x3 + (1 : Int32)) L ∧ (wp_X8_select S.1 ((xs ((x3 + (1 : Int32))).toNatClampNeg)) (fun r155 => (vp_in (x3 + (1 : Int32)) L ∧ (wp_X9_select S.2 ((xs ((x3 + (1 : Int32))).toNatClampNeg)) (fun r157 u158 => (∀ S159 : bT8 × bT9, S159 = (S.1, u158) → (wp_L_law_1745 L scr S159 (x3) Q B18))))))))) ∧ (((xs (x3).toNatClampNeg) &&& (63 : Int32)) = (28 : Int32) → (vp_in (x3 + (1 : Int32)) L ∧ (wp_X8_bits S.1 ((xs ((x3 + (1 : Int32))).toNatClampNeg)) (fun r160 => (vp_in (x3 + (1 : Int32)) L ∧ (wp_X9_bits S.2 ((xs ((x3 + (1 : Int32))).toNatClampNeg)) (fun r162 u163 => (∀ S164 : bT8 × bT9, S164 = (S.1, u163) → (wp_L_law_1745 L scr S164 (x3) Q B18))))))))) ∧ (((xs (x3).toNatClampNeg) &&& (63 : Int32)) = (29 : Int32) → (vp_in (x3 + (1 : Int32)) L ∧ (wp_X8_least S.1 ((xs ((x3 + (1 : Int32))).toNatClampNeg)) (fun r165 => (vp_in (x3 + (1 : Int32)) L ∧ (wp_X9_least S.2 ((xs ((x3 + (1 : Int32))).toNatClampNeg)) (fun r167 u168 => (∀ S169 : bT8 × bT9, S169 = (S.1, u168) → (wp_L_law_1745 L scr S169 (x3) Q B18))))))))) ∧ (((xs (x3).toNatClampNeg) &&& (63 : Int32)) = (30 : Int32) → (vp_in (x3 + (1 : Int32)) L ∧ (wp_X8_cover S.1 ((xs ((x3 + (1 : Int32))).toNatClampNeg)) (fun r170 => (vp_in (x3 + (1 : Int32)) L ∧ (wp_X9_cover S.2 ((xs ((x3 + (1 : Int32))).toNatClampNeg)) (fun r172 u173 => (∀ S174 : bT8 × bT9, S174 = (S.1, u173) → (wp_L_law_1745 L scr S174 (x3) Q B18))))))))) ∧ (((xs (x3).toNatClampNeg) &&& (63 : Int32)) = (31 : Int32) → (vp_in (x3 + (1 : Int32)) L ∧ (wp_X8_loose S.1 ((xs ((x3 + (1 : Int32))).toNatClampNeg)) (fun r175 => (vp_in (x3 + (1 : Int32)) L ∧ (wp_X9_loose S.2 ((xs ((x3 + (1 : Int32))).toNatClampNeg)) (fun r177 u178 => (∀ S179 : bT8 × bT9, S179 = (S.1, u178) → (wp_L_law_1745 L scr S179 (x3) Q B18))))))))) ∧ (((xs (x3).toNatClampNeg) &&& (63 : Int32)) = (32 : Int32) → (vp_in (x3 + (1 : Int32)) L ∧ (vp_in (x3 + (2 : Int32)) L ∧ (wp_X8_free S.1 ((xs ((x3 + (1 : Int32))).toNatClampNeg)) ((xs ((x3 + (2 : Int32))).toNatClampNeg)) (fun r180 => (vp_in (x3 + (1 : Int32)) L ∧ (vp_in (x3 + (2 : Int32)) L ∧ (wp_X9_free S.2 ((xs ((x3 + (1 : Int32))).toNatClampNeg)) ((xs ((x3 + (2 : Int32))).toNatClampNeg)) (fun r182 u183 => (∀ S184 : bT8 × bT9, S184 = (S.1, u183) → (wp_L_law_1745 L scr S184 (x3) Q B18))))))))))) ∧ (((xs (x3).toNatClampNeg) &&& (63 : Int32)) = (33 : Int32) → (vp_in (x3 + (1 : Int32)) L ∧ (vp_in (x3 + (2 : Int32)) L ∧ (vp_in (x3 + (3 : Int32)) L ∧ (vp_in (x3 + (4 : Int32)) L ∧ (wp_X8_spread S.1 ((xs ((x3 + (1 : Int32))).toNatClampNeg)) ((xs ((x3 + (2 : Int32))).toNatClampNeg)) ((xs ((x3 + (3 : Int32))).toNatClampNeg)) ((xs ((x3 + (4 : Int32))).toNatClampNeg)) (fun r185 => (vp_in (x3 + (1 : Int32)) L ∧ (vp_in (x3 + (2 : Int32)) L ∧ (vp_in (x3 + (3 : Int32)) L ∧ (vp_in (x3 + (4 : Int32)) L ∧ (wp_X9_spread S.2 ((xs ((x3 + (1 : Int32))).toNatClampNeg)) ((xs ((x3 + (2 : Int32))).toNatClampNeg)) ((xs ((x3 + (3 : Int32))).toNatClampNeg)) ((xs ((x3 + (4 : Int32))).toNatClampNeg)) (fun r187 u188 => (∀ S189 : bT8 × bT9, S189 = (S.1, u188) → (wp_L_law_1745 L scr S189 (x3) Q B18))))))))))))))) ∧ (((xs (x3).toNatClampNeg) &&& (63 : Int32)) = (34 : Int32) → (vp_in (x3 + (1 : Int32)) L ∧ (vp_in (x3 + (2 : Int32)) L ∧ (vp_in (x3 + (3 : Int32)) L ∧ (wp_X8_question S.1 ((xs ((x3 + (1 : Int32))).toNatClampNeg)) ((xs ((x3 + (2 : Int32))).toNatClampNeg)) ((xs ((x3 + (3 : Int32))).toNatClampNeg)) (fun r190 u191 => (∀ S192 : bT8 × bT9, S192 = (u191, S.2) → (vp_in (x3 + (1 : Int32)) L ∧ (vp_in (x3 + (2 : Int32)) L ∧ (vp_in (x3 + (3 : Int32)) L ∧ (wp_X9_question S192.2 ((xs ((x3 + (1 : Int32))).toNatClampNeg)) ((xs ((x3 + (2 : Int32))).toNatClampNeg)) ((xs ((x3 + (3 : Int32))).toNatClampNeg)) (fun r193 u194 => (∀ S195 : bT8 × bT9, S195 = (S192.1, u194) → (wp_L_law_1745 L scr S195 (x3) Q B18)))))))))))))) ∧ (((xs (x3).toNatClampNeg) &&& (63 : Int32)) = (35 : Int32) → (wp_X8_forget S.1 (fun r196 u197 => (∀ S198 : bT8 × bT9, S198 = (u197, S.2) → (wp_X9_forget S198.2 (fun r199 u200 => (∀ S201 : bT8 × bT9, S201 = (S198.1, u200) → (wp_L_law_1745 L scr S201 (x3) Q B18)))))))) ∧ (((xs (x3).toNatClampNeg) &&& (63 : Int32)) = (36 : Int32) → (vp_in (x3 + (1 : Int32)) L ∧ (vp_in (x3 + (2 : Int32)) L ∧ (wp_X8_tuned S.1 ((xs ((x3 + (1 : Int32))).toNatClampNeg)) ((xs ((x3 + (2 : Int32))).toNatClampNeg)) (fun r202 u203 => (∀ S204 : bT8 × bT9, S204 = (u203, S.2) → (vp_in (x3 + (1 : Int32)) L ∧ (vp_in (x3 + (2 : Int32)) L ∧ (wp_X9_tuned S204.2 ((xs ((x3 + (1 : Int32))).toNatClampNeg)) ((xs ((x3 + (2 : Int32))).toNatClampNeg)) (fun r205 u206 => (∀ S207 : bT8 × bT9, S207 = (S204.1, u206) → (wp_L_law_1745 L scr S207 (x3) Q B18)))))))))))) ∧ (((xs (x3).toNatClampNeg) &&& (63 : Int32)) = (37 : Int32) → (vp_in (x3 + (1 : Int32)) L ∧ (vp_in (x3 + (2 : Int32)) L ∧ (wp_X8_storm S.1 ((xs ((x3 + (1 : Int32))).toNatClampNeg)) ((xs ((x3 + (2 : Int32))).toNatClampNeg)) (fun r208 u209 => (∀ S210 : bT8 × bT9, S210 = (u209, S.2) → (vp_in (x3 + (1 : Int32)) L ∧ (vp_in (x3 + (2 : Int32)) L ∧ (wp_X9_storm S210.2 ((xs ((x3 + (1 : Int32))).toNatClampNeg)) ((xs ((x3 + (2 : Int32))).toNatClampNeg)) (fun r211 u212 => (∀ S213 : bT8 × bT9, S213 = (S210.1, u212) → (wp_L_law_1745 L scr S213 (x3) Q B18)))))))))))) ∧ (((xs (x3).toNatClampNeg) &&& (63 : Int32)) = (38 : Int32) → (vp_in (x3 + (1 : Int32)) L ∧ (vp_in (x3 + (2 : Int32)) L ∧ (vp_in (x3 + (3 : Int32)) L ∧ (wp_X8_stormRange S.1 ((xs ((x3 + (1 : Int32))).toNatClampNeg)) ((xs ((x3 + (2 : Int32))).toNatClampNeg)) ((xs ((x3 + (3 : Int32))).toNatClampNeg)) (fun r214 u215 => (∀ S216 : bT8 × bT9, S216 = (u215, S.2) → (vp_in (x3 + (1 : Int32)) L ∧ (vp_in (x3 + (2 : Int32)) L ∧ (vp_in (x3 + (3 : Int32)) L ∧ (wp_X9_stormRange S216.2 ((xs ((x3 + (1 : Int32))).toNatClampNeg)) ((xs ((x3 + (2 : Int32))).toNatClampNeg)) ((xs ((x3 + (3 : Int32))).toNatClampNeg)) (fun r217 u218 => (∀ S219 : bT8 × bT9, S219 = (S216.1, u218) → (wp_L_law_1745 L scr S219 (x3) Q B18)))))))))))))) ∧ (((xs (x3).toNatClampNeg) &&& (63 : Int32)) = (39 : Int32) → (vp_in (x3 + (1 : Int32)) L ∧ (wp_X8_account S.1 ((xs ((x3 + (1 : Int32))).toNatClampNeg)) (fun r220 => (vp_in (x3 + (1 : Int32)) L ∧ (wp_X9_account S.2 ((xs ((x3 + (1 : Int32))).toNatClampNeg)) (fun r222 u223 => (∀ S224 : bT8 × bT9, S224 = (S.1, u223) → (wp_L_law_1745 L scr S224 (x3) Q B18))))))))) ∧ (((xs (x3).toNatClampNeg) &&& (63 : Int32)) = (40 : Int32) → (vp_in (x3 + (1 : Int32)) L ∧ (wp_X8_since S.1 ((xs ((x3 + (1 : Int32))).toNatClampNeg)) (fun r225 => (vp_in (x3 + (1 : Int32)) L ∧ (wp_X9_since S.2 ((xs ((x3 + (1 : Int32))).toNatClampNeg)) (fun r227 u228 => (∀ S229 : bT8 × bT9, S229 = (S.1, u228) → (wp_L_law_1745 L scr S229 (x3) Q B18))))))))) ∧ (((xs (x3).toNatClampNeg) &&& (63 : Int32)) = (41 : Int32) → (vp_in (x3 + (1 : Int32)) L ∧ (wp_X8_report S.1 ((xs ((x3 + (1 : Int32))).toNatClampNeg)) (fun r230 u231 => (∀ S232 : bT8 × bT9, S232 = (u231, S.2) → (vp_in (x3 + (1 : Int32)) L ∧ (wp_X9_report S232.2 ((xs ((x3 + (1 : Int32))).toNatClampNeg)) (fun r233 u234 => (∀ S235 : bT8 × bT9, S235 = (S232.1, u234) → (wp_L_law_1745 L scr S235 (x3) Q B18)))))))))) ∧ (((xs (x3).toNatClampNeg) &&& (63 : Int32)) = (42 : Int32) → (vp_in (x3 + (1 : Int32)) L ∧ (wp_X8_sign S.1 ((xs ((x3 + (1 : Int32))).toNatClampNeg)) (fun r236 => (vp_in (x3 + (1 : Int32)) L ∧ (wp_X9_sign S.2 ((xs ((x3 + (1 : Int32))).toNatClampNeg)) (fun r238 u239 => (∀ S240 : bT8 × bT9, S240 = (S.1, u239) → (wp_L_law_1745 L scr S240 (x3) Q B18))))))))) ∧ (((xs (x3).toNatClampNeg) &&& (63 : Int32)) = (43 : Int32) → (vp_in (x3 + (1 : Int32)) L ∧ (((xs ((x3 + (1 : Int32))).toNatClampNeg) = 0 → (wp_L_law_1697 L scr S (x3) ((0 : Int32)) Q B18)) ∧ (¬ (xs ((x3 + (1 : Int32))).toNatClampNeg) = 0 → (wp_L_law_1697 L scr S (x3) ((1 : Int32)) Q B18))))) ∧ (((xs (x3).toNatClampNeg) &&& (63 : Int32)) = (44 : Int32) → (vp_in (x3 + (1 : Int32)) L ∧ (wp_X8_look S.1 ((xs ((x3 + (1 : Int32))).toNatClampNeg)) (fun r241 => (vp_in (x3 + (1 : Int32)) L ∧ (wp_X9_look S.2 ((xs ((x3 + (1 : Int32))).toNatClampNeg)) (fun r243 u244 => (∀ S245 : bT8 × bT9, S245 = (S.1, u244) → (wp_L_law_1745 L scr S245 (x3) Q B18)))))))))))))
set_option maxRecDepth 20000 in
theorem t_L_law_18b {X : bf_X} (C : bf_C X R_law code 4 ret) (hR : bf_Rm X 13 494) (hG : bf_G (xA X) (xs X) (xs X).heap) {b : Nat} {L : Nat} {scr : Nat → Int32} (hX : va_X b L scr (xs X) (xs X).heap) (hW : bf_law X b) (S : bT8 × bT9) (x3 : Int32) (Q : Unit) (B18 : Int32 → (bT8 × bT9) → Prop) (hB18 : ∀ (x3 : Int32) (S : bT8 × bT9), B18 x3 S → bf_A X (lw_Z (xb X) (xa X) (xs X)) 4 18 [some (.ref 1000), some (.ref 0), some (.ref 68), some (.int x3)] [] (bW8_9 S)) (h : wp_L_law_18b L scr S x3 Q B18) : bf_A X (lw_Z (xb X) (xa X) (xs X)) 4 18 [some (.ref 1000), some (.ref 0), some (.ref 68), some (.int x3)] [] (bW8_9 S) := by
  unfold wp_L_law_18b at h
  refine bs_iload_n C (bf_dk dd_L_law 10 rfl) rfl ?_
  refine bs_aload_n C (bf_dk dd_L_law 11 rfl) rfl ?_
  refine bs_slen C hX hW (bf_dk dd_L_law 12 rfl) ?_
  refine bs_bipush C (bf_dk dd_L_law 13 rfl) (7 : Int32) (by decide) ?_
  refine bs_isub C (bf_dk dd_L_law 14 rfl) ?_
  refine bs_icmp_gt C (bf_dk dd_L_law 15 rfl) (tgt := 1751) rfl (fun c => ?_) (fun c => ?_)
  · replace h := h.1 c
    refine bs_iconst C (bf_dk dd_L_law 1257 rfl) (1 : Int32) (by decide) ?_
    have h : (1 : Int32) = (1 : Int32) := h
    exact bs_lawret C hW (bf_dk dd_L_law 1258 rfl)
  · replace h := h.2 c
    refine bs_aload_n C (bf_dk dd_L_law 16 rfl) rfl ?_
    refine bs_iload_n C (bf_dk dd_L_law 17 rfl) rfl ?_
    obtain ⟨hi, h⟩ := h
    refine bs_sld C hX hW (bf_dk dd_L_law 18 rfl) hi ?_
    refine bs_bipush C (bf_dk dd_L_law 19 rfl) (63 : Int32) (by decide) ?_
    refine bs_iand C (bf_dk dd_L_law 20 rfl) ?_
    refine bs_table C (tdef := 1745) (fun k => List.getD [228, 291, 314, 327, 340, 353, 386, 409, 452, 495, 528, 541, 594, 637, 680, 755, 830, 905, 948, 991, 1024, 1047, 1080, 1113, 1146, 1179, 1202, 1225, 1248, 1271, 1294, 1317, 1340, 1373, 1426, 1469, 1482, 1515, 1548, 1591, 1614, 1637, 1660, 1683, 1722] k 0) 45 (bf_dk dd_L_law 21 rfl) rfl rfl (fun k hk => by rcases (show k = 0 ∨ k = 1 ∨ k = 2 ∨ k = 3 ∨ k = 4 ∨ k = 5 ∨ k = 6 ∨ k = 7 ∨ k = 8 ∨ k = 9 ∨ k = 10 ∨ k = 11 ∨ k = 12 ∨ k = 13 ∨ k = 14 ∨ k = 15 ∨ k = 16 ∨ k = 17 ∨ k = 18 ∨ k = 19 ∨ k = 20 ∨ k = 21 ∨ k = 22 ∨ k = 23 ∨ k = 24 ∨ k = 25 ∨ k = 26 ∨ k = 27 ∨ k = 28 ∨ k = 29 ∨ k = 30 ∨ k = 31 ∨ k = 32 ∨ k = 33 ∨ k = 34 ∨ k = 35 ∨ k = 36 ∨ k = 37 ∨ k = 38 ∨ k = 39 ∨ k = 40 ∨ k = 41 ∨ k = 42 ∨ k = 43 ∨ k = 44 by omega) with rfl | rfl | rfl | rfl | rfl | rfl | rfl | rfl | rfl | rfl | rfl | rfl | rfl | rfl | rfl | rfl | rfl | rfl | rfl | rfl | rfl | rfl | rfl | rfl | rfl | rfl | rfl | rfl | rfl | rfl | rfl | rfl | rfl | rfl | rfl | rfl | rfl | rfl | rfl | rfl | rfl | rfl | rfl | rfl | rfl <;> exact ⟨_, rfl, rfl⟩) (fun c => ?_) (fun k hk c => ?_)
    · replace h := h.1 c
      exact bs_weak (bf_s1 (bf_s1 (bf_s1 (bf_s1 bf_s0)))) (t_L_law_1745 C hR hG hX hW S (x3) Q B18 hB18 h)
    · rcases (show k = 0 ∨ k = 1 ∨ k = 2 ∨ k = 3 ∨ k = 4 ∨ k = 5 ∨ k = 6 ∨ k = 7 ∨ k = 8 ∨ k = 9 ∨ k = 10 ∨ k = 11 ∨ k = 12 ∨ k = 13 ∨ k = 14 ∨ k = 15 ∨ k = 16 ∨ k = 17 ∨ k = 18 ∨ k = 19 ∨ k = 20 ∨ k = 21 ∨ k = 22 ∨ k = 23 ∨ k = 24 ∨ k = 25 ∨ k = 26 ∨ k = 27 ∨ k = 28 ∨ k = 29 ∨ k = 30 ∨ k = 31 ∨ k = 32 ∨ k = 33 ∨ k = 34 ∨ k = 35 ∨ k = 36 ∨ k = 37 ∨ k = 38 ∨ k = 39 ∨ k = 40 ∨ k = 41 ∨ k = 42 ∨ k = 43 ∨ k = 44 by omega) with rfl | rfl | rfl | rfl | rfl | rfl | rfl | rfl | rfl | rfl | rfl | rfl | rfl | rfl | rfl | rfl | rfl | rfl | rfl | rfl | rfl | rfl | rfl | rfl | rfl | rfl | rfl | rfl | rfl | rfl | rfl | rfl | rfl | rfl | rfl | rfl | rfl | rfl | rfl | rfl | rfl | rfl | rfl | rfl | rfl
      · replace h := h.2.1 (bf_i32 c (by decide))
        refine bs_aload_n C (bf_dk dd_L_law 22 rfl) rfl ?_
        refine bs_aload_n C (bf_dk dd_L_law 23 rfl) rfl ?_
        refine bs_iload_n C (bf_dk dd_L_law 24 rfl) rfl ?_
        refine bs_iconst C (bf_dk dd_L_law 25 rfl) (1 : Int32) (by decide) ?_
        refine bs_iadd C (bf_dk dd_L_law 26 rfl) ?_
        obtain ⟨hi, h⟩ := h
        refine bs_sld C hX hW (bf_dk dd_L_law 27 rfl) hi ?_
        refine bs_aload_n C (bf_dk dd_L_law 28 rfl) rfl ?_
        refine bs_iload_n C (bf_dk dd_L_law 29 rfl) rfl ?_
        refine bs_iconst C (bf_dk dd_L_law 30 rfl) (2 : Int32) (by decide) ?_
        refine bs_iadd C (bf_dk dd_L_law 31 rfl) ?_
        obtain ⟨hi, h⟩ := h
        refine bs_sld C hX hW (bf_dk dd_L_law 32 rfl) hi ?_
        refine bs_aload_n C (bf_dk dd_L_law 33 rfl) rfl ?_
        refine bs_iload_n C (bf_dk dd_L_law 34 rfl) rfl ?_
        refine bs_iconst C (bf_dk dd_L_law 35 rfl) (3 : Int32) (by decide) ?_
        refine bs_iadd C (bf_dk dd_L_law 36 rfl) ?_
        obtain ⟨hi, h⟩ := h
        refine bs_sld C hX hW (bf_dk dd_L_law 37 rfl) hi ?_
        refine bs_aload_n C (bf_dk dd_L_law 38 rfl) rfl ?_
        refine bs_iload_n C (bf_dk dd_L_law 39 rfl) rfl ?_
        refine bs_iconst C (bf_dk dd_L_law 40 rfl) (4 : Int32) (by decide) ?_
        refine bs_iadd C (bf_dk dd_L_law 41 rfl) ?_
        obtain ⟨hi, h⟩ := h
        refine bs_sld C hX hW (bf_dk dd_L_law 42 rfl) hi ?_
        refine bs_aload_n C (bf_dk dd_L_law 43 rfl) rfl ?_
        refine bs_iload_n C (bf_dk dd_L_law 44 rfl) rfl ?_
        refine bs_iconst C (bf_dk dd_L_law 45 rfl) (5 : Int32) (by decide) ?_
        refine bs_iadd C (bf_dk dd_L_law 46 rfl) ?_
        obtain ⟨hi, h⟩ := h
        refine bs_sld C hX hW (bf_dk dd_L_law 47 rfl) hi ?_
        refine bs_callV_i (ps := [0, 1, 2, 3, 4, 5, 6, 7, 8, 9, 10, 11, 12, 13, 14, 15, 16, 17, 18, 19, 20, 21, 22, 23, 24, 25, 26, 27, 28, 29, 30, 31, 32, 33, 34, 35, 36, 37, 38, 39, 40, 41, 42, 43, 44, 45, 46, 47, 48, 49, 50, 51, 52, 53, 54, 55, 56, 57, 58, 59, 60, 61, 62, 63, 64, 65, 66, 67]) (w := (bW8_9 S)) C hR (c_X8_feed _ _ _ _ _ S.1 ((xs ((x3 + (1 : Int32))).toNatClampNeg)) ((xs ((x3 + (2 : Int32))).toNatClampNeg)) ((xs ((x3 + (3 : Int32))).toNatClampNeg)) ((xs ((x3 + (4 : Int32))).toNatClampNeg)) ((xs ((x3 + (5 : Int32))).toNatClampNeg)) _ h) my_X8_feed m_L_13 rfl cl_8 (ge_bW8_0 _) rfl (Nat.le_of_ble_eq_true rfl) (Nat.le_of_ble_eq_true rfl) (su_bW8_9_0_bW8 S) rfl (st := []) (Nat.le_of_ble_eq_true rfl) (bf_dk dd_L_law 48 rfl) rfl (fun _ => rfl) (w2 := fun u8 => bW8_9 (u8, S.2)) (pt_bW8_9_0_bW8 S) (fun r7 u8 h => ?_)
        refine bs_nameS bW8_9 (fun S9 eS9 => ?_)
        replace h := h S9 eS9
        refine bs_pop C (bf_dk dd_L_law 49 rfl) rfl ?_
        refine bs_aload_n C (bf_dk dd_L_law 50 rfl) rfl ?_
        refine bs_aload_n C (bf_dk dd_L_law 51 rfl) rfl ?_
        refine bs_iload_n C (bf_dk dd_L_law 52 rfl) rfl ?_
        refine bs_iconst C (bf_dk dd_L_law 53 rfl) (1 : Int32) (by decide) ?_
        refine bs_iadd C (bf_dk dd_L_law 54 rfl) ?_
        obtain ⟨hi, h⟩ := h
        refine bs_sld C hX hW (bf_dk dd_L_law 55 rfl) hi ?_
        refine bs_aload_n C (bf_dk dd_L_law 56 rfl) rfl ?_
        refine bs_iload_n C (bf_dk dd_L_law 57 rfl) rfl ?_
        refine bs_iconst C (bf_dk dd_L_law 58 rfl) (2 : Int32) (by decide) ?_
        refine bs_iadd C (bf_dk dd_L_law 59 rfl) ?_
        obtain ⟨hi, h⟩ := h
        refine bs_sld C hX hW (bf_dk dd_L_law 60 rfl) hi ?_
        refine bs_aload_n C (bf_dk dd_L_law 61 rfl) rfl ?_
        refine bs_iload_n C (bf_dk dd_L_law 62 rfl) rfl ?_
        refine bs_iconst C (bf_dk dd_L_law 63 rfl) (3 : Int32) (by decide) ?_
        refine bs_iadd C (bf_dk dd_L_law 64 rfl) ?_
        obtain ⟨hi, h⟩ := h
        refine bs_sld C hX hW (bf_dk dd_L_law 65 rfl) hi ?_
        refine bs_aload_n C (bf_dk dd_L_law 66 rfl) rfl ?_
        refine bs_iload_n C (bf_dk dd_L_law 67 rfl) rfl ?_
        refine bs_iconst C (bf_dk dd_L_law 68 rfl) (4 : Int32) (by decide) ?_
        refine bs_iadd C (bf_dk dd_L_law 69 rfl) ?_
        obtain ⟨hi, h⟩ := h
        refine bs_sld C hX hW (bf_dk dd_L_law 70 rfl) hi ?_
        refine bs_aload_n C (bf_dk dd_L_law 71 rfl) rfl ?_
        refine bs_iload_n C (bf_dk dd_L_law 72 rfl) rfl ?_
        refine bs_iconst C (bf_dk dd_L_law 73 rfl) (5 : Int32) (by decide) ?_
        refine bs_iadd C (bf_dk dd_L_law 74 rfl) ?_
        obtain ⟨hi, h⟩ := h
        refine bs_sld C hX hW (bf_dk dd_L_law 75 rfl) hi ?_
        refine bs_callV_i (ps := [68, 69, 70, 71, 72, 73, 74, 75, 76, 77, 78, 79, 80, 81, 82, 83, 84, 85, 86, 87, 88]) (w := (bW8_9 S9)) C hR (c_X9_feed _ _ _ _ _ S9.2 ((xs ((x3 + (1 : Int32))).toNatClampNeg)) ((xs ((x3 + (2 : Int32))).toNatClampNeg)) ((xs ((x3 + (3 : Int32))).toNatClampNeg)) ((xs ((x3 + (4 : Int32))).toNatClampNeg)) ((xs ((x3 + (5 : Int32))).toNatClampNeg)) _ h) my_X9_feed m_L_17 rfl cl_9 (ge_bW9_0 _) rfl (Nat.le_of_ble_eq_true rfl) (Nat.le_of_ble_eq_true rfl) (su_bW8_9_68_bW9 S9) rfl (st := []) (Nat.le_of_ble_eq_true rfl) (bf_dk dd_L_law 76 rfl) rfl (fun _ => rfl) (w2 := fun u11 => bW8_9 (S9.1, u11)) (pt_bW8_9_68_bW9 S9) (fun r10 u11 h => ?_)
        refine bs_nameS bW8_9 (fun S12 eS12 => ?_)
        replace h := h S12 eS12
        refine bs_pop C (bf_dk dd_L_law 77 rfl) rfl ?_
        refine bs_goto C (bf_dk dd_L_law 78 rfl) (tgt := 1745) rfl ?_
        exact bs_weak (bf_s1 (bf_s1 (bf_s1 (bf_s1 bf_s0)))) (t_L_law_1745 C hR hG hX hW S12 (x3) Q B18 hB18 h)
      · replace h := h.2.2.1 (bf_i32 c (by decide))
        refine bs_aload_n C (bf_dk dd_L_law 79 rfl) rfl ?_
        refine bs_aload_n C (bf_dk dd_L_law 80 rfl) rfl ?_
        refine bs_iload_n C (bf_dk dd_L_law 81 rfl) rfl ?_
        refine bs_iconst C (bf_dk dd_L_law 82 rfl) (1 : Int32) (by decide) ?_
        refine bs_iadd C (bf_dk dd_L_law 83 rfl) ?_
        obtain ⟨hi, h⟩ := h
        refine bs_sld C hX hW (bf_dk dd_L_law 84 rfl) hi ?_
        refine bs_callV_i (ps := [0, 1, 2, 3, 4, 5, 6, 7, 8, 9, 10, 11, 12, 13, 14, 15, 16, 17, 18, 19, 20, 21, 22, 23, 24, 25, 26, 27, 28, 29, 30, 31, 32, 33, 34, 35, 36, 37, 38, 39, 40, 41, 42, 43, 44, 45, 46, 47, 48, 49, 50, 51, 52, 53, 54, 55, 56, 57, 58, 59, 60, 61, 62, 63, 64, 65, 66, 67]) (w := (bW8_9 S)) C hR (c_X8_end _ _ _ _ _ S.1 ((xs ((x3 + (1 : Int32))).toNatClampNeg)) _ h) my_X8_end m_L_18 rfl cl_8 (ge_bW8_0 _) rfl (Nat.le_of_ble_eq_true rfl) (Nat.le_of_ble_eq_true rfl) (su_bW8_9_0_bW8 S) rfl (st := []) (Nat.le_of_ble_eq_true rfl) (bf_dk dd_L_law 85 rfl) rfl (fun _ => rfl) (w2 := fun u14 => bW8_9 (u14, S.2)) (pt_bW8_9_0_bW8 S) (fun r13 u14 h => ?_)
        refine bs_nameS bW8_9 (fun S15 eS15 => ?_)
        replace h := h S15 eS15
        refine bs_pop C (bf_dk dd_L_law 86 rfl) rfl ?_
        refine bs_aload_n C (bf_dk dd_L_law 87 rfl) rfl ?_
        refine bs_aload_n C (bf_dk dd_L_law 88 rfl) rfl ?_
        refine bs_iload_n C (bf_dk dd_L_law 89 rfl) rfl ?_
        refine bs_iconst C (bf_dk dd_L_law 90 rfl) (1 : Int32) (by decide) ?_
        refine bs_iadd C (bf_dk dd_L_law 91 rfl) ?_
        obtain ⟨hi, h⟩ := h
        refine bs_sld C hX hW (bf_dk dd_L_law 92 rfl) hi ?_
        refine bs_callV_i (ps := [68, 69, 70, 71, 72, 73, 74, 75, 76, 77, 78, 79, 80, 81, 82, 83, 84, 85, 86, 87, 88]) (w := (bW8_9 S15)) C hR (c_X9_end _ _ _ _ _ S15.2 ((xs ((x3 + (1 : Int32))).toNatClampNeg)) _ h) my_X9_end m_L_22 rfl cl_9 (ge_bW9_0 _) rfl (Nat.le_of_ble_eq_true rfl) (Nat.le_of_ble_eq_true rfl) (su_bW8_9_68_bW9 S15) rfl (st := []) (Nat.le_of_ble_eq_true rfl) (bf_dk dd_L_law 93 rfl) rfl (fun _ => rfl) (w2 := fun u17 => bW8_9 (S15.1, u17)) (pt_bW8_9_68_bW9 S15) (fun r16 u17 h => ?_)
        refine bs_nameS bW8_9 (fun S18 eS18 => ?_)
        replace h := h S18 eS18
        refine bs_pop C (bf_dk dd_L_law 94 rfl) rfl ?_
        refine bs_goto C (bf_dk dd_L_law 95 rfl) (tgt := 1745) rfl ?_
        exact bs_weak (bf_s1 (bf_s1 (bf_s1 (bf_s1 bf_s0)))) (t_L_law_1745 C hR hG hX hW S18 (x3) Q B18 hB18 h)
      · replace h := h.2.2.2.1 (bf_i32 c (by decide))
        refine bs_aload_n C (bf_dk dd_L_law 96 rfl) rfl ?_
        refine bs_callGV_i (ps := [0, 1, 2, 3, 4, 5, 6, 7, 8, 9, 10, 11, 12, 13, 14, 15, 16, 17, 18, 19, 20, 21, 22, 23, 24, 25, 26, 27, 28, 29, 30, 31, 32, 33, 34, 35, 36, 37, 38, 39, 40, 41, 42, 43, 44, 45, 46, 47, 48, 49, 50, 51, 52, 53, 54, 55, 56, 57, 58, 59, 60, 61, 62, 63, 64, 65, 66, 67]) (w := (bW8_9 S)) C hR hG (c_X8_mode _ _ _ _ _ S.1 _ h) my_X8_mode m_L_23 rfl cl_8 (ge_bW8_0 _) rfl (Nat.le_of_ble_eq_true rfl) (Nat.le_of_ble_eq_true rfl) (su_bW8_9_0_bW8 S) rfl (st := []) (Nat.le_of_ble_eq_true rfl) (bf_dk dd_L_law 97 rfl) rfl (fun _ => rfl) (w2 := fun u20 => bW8_9 (u20, S.2)) (pt_bW8_9_0_bW8 S) (fun r19 u20 h => ?_)
        refine bs_nameS bW8_9 (fun S21 eS21 => ?_)
        replace h := h S21 eS21
        refine bs_pop C (bf_dk dd_L_law 98 rfl) rfl ?_
        refine bs_aload_n C (bf_dk dd_L_law 99 rfl) rfl ?_
        refine bs_callV_i (ps := [68, 69, 70, 71, 72, 73, 74, 75, 76, 77, 78, 79, 80, 81, 82, 83, 84, 85, 86, 87, 88]) (w := (bW8_9 S21)) C hR (c_X9_mode _ _ _ _ _ S21.2 _ h) my_X9_mode m_L_27 rfl cl_9 (ge_bW9_0 _) rfl (Nat.le_of_ble_eq_true rfl) (Nat.le_of_ble_eq_true rfl) (su_bW8_9_68_bW9 S21) rfl (st := []) (Nat.le_of_ble_eq_true rfl) (bf_dk dd_L_law 100 rfl) rfl (fun _ => rfl) (w2 := fun u23 => bW8_9 (S21.1, u23)) (pt_bW8_9_68_bW9 S21) (fun r22 u23 h => ?_)
        refine bs_nameS bW8_9 (fun S24 eS24 => ?_)
        replace h := h S24 eS24
        refine bs_pop C (bf_dk dd_L_law 101 rfl) rfl ?_
        refine bs_goto C (bf_dk dd_L_law 102 rfl) (tgt := 1745) rfl ?_
        exact bs_weak (bf_s1 (bf_s1 (bf_s1 (bf_s1 bf_s0)))) (t_L_law_1745 C hR hG hX hW S24 (x3) Q B18 hB18 h)
      · replace h := h.2.2.2.2.1 (bf_i32 c (by decide))
        refine bs_aload_n C (bf_dk dd_L_law 103 rfl) rfl ?_
        refine bs_callGV_i (ps := [0, 1, 2, 3, 4, 5, 6, 7, 8, 9, 10, 11, 12, 13, 14, 15, 16, 17, 18, 19, 20, 21, 22, 23, 24, 25, 26, 27, 28, 29, 30, 31, 32, 33, 34, 35, 36, 37, 38, 39, 40, 41, 42, 43, 44, 45, 46, 47, 48, 49, 50, 51, 52, 53, 54, 55, 56, 57, 58, 59, 60, 61, 62, 63, 64, 65, 66, 67]) (w := (bW8_9 S)) C hR hG (c_X8_row _ _ _ _ _ S.1 _ h) my_X8_row m_L_28 rfl cl_8 (ge_bW8_0 _) rfl (Nat.le_of_ble_eq_true rfl) (Nat.le_of_ble_eq_true rfl) (su_bW8_9_0_bW8 S) rfl (st := []) (Nat.le_of_ble_eq_true rfl) (bf_dk dd_L_law 104 rfl) rfl (fun _ => rfl) (w2 := fun u26 => bW8_9 (u26, S.2)) (pt_bW8_9_0_bW8 S) (fun r25 u26 h => ?_)
        refine bs_nameS bW8_9 (fun S27 eS27 => ?_)
        replace h := h S27 eS27
        refine bs_pop C (bf_dk dd_L_law 105 rfl) rfl ?_
        refine bs_aload_n C (bf_dk dd_L_law 106 rfl) rfl ?_
        refine bs_callV_i (ps := [68, 69, 70, 71, 72, 73, 74, 75, 76, 77, 78, 79, 80, 81, 82, 83, 84, 85, 86, 87, 88]) (w := (bW8_9 S27)) C hR (c_X9_row _ _ _ _ _ S27.2 _ h) my_X9_row m_L_31 rfl cl_9 (ge_bW9_0 _) rfl (Nat.le_of_ble_eq_true rfl) (Nat.le_of_ble_eq_true rfl) (su_bW8_9_68_bW9 S27) rfl (st := []) (Nat.le_of_ble_eq_true rfl) (bf_dk dd_L_law 107 rfl) rfl (fun _ => rfl) (w2 := fun u29 => bW8_9 (S27.1, u29)) (pt_bW8_9_68_bW9 S27) (fun r28 u29 h => ?_)
        refine bs_nameS bW8_9 (fun S30 eS30 => ?_)
        replace h := h S30 eS30
        refine bs_pop C (bf_dk dd_L_law 108 rfl) rfl ?_
        refine bs_goto C (bf_dk dd_L_law 109 rfl) (tgt := 1745) rfl ?_
        exact bs_weak (bf_s1 (bf_s1 (bf_s1 (bf_s1 bf_s0)))) (t_L_law_1745 C hR hG hX hW S30 (x3) Q B18 hB18 h)
      · replace h := h.2.2.2.2.2.1 (bf_i32 c (by decide))
        refine bs_aload_n C (bf_dk dd_L_law 110 rfl) rfl ?_
        refine bs_callV_i (ps := [0, 1, 2, 3, 4, 5, 6, 7, 8, 9, 10, 11, 12, 13, 14, 15, 16, 17, 18, 19, 20, 21, 22, 23, 24, 25, 26, 27, 28, 29, 30, 31, 32, 33, 34, 35, 36, 37, 38, 39, 40, 41, 42, 43, 44, 45, 46, 47, 48, 49, 50, 51, 52, 53, 54, 55, 56, 57, 58, 59, 60, 61, 62, 63, 64, 65, 66, 67]) (w := (bW8_9 S)) C hR (c_X8_keys _ _ _ _ _ S.1 _ h) my_X8_keys m_L_32 rfl cl_8 (ge_bW8_0 _) rfl (Nat.le_of_ble_eq_true rfl) (Nat.le_of_ble_eq_true rfl) (su_bW8_9_0_bW8 S) rfl (st := []) (Nat.le_of_ble_eq_true rfl) (bf_dk dd_L_law 111 rfl) rfl (fun _ => rfl) (w2 := fun u32 => bW8_9 (u32, S.2)) (pt_bW8_9_0_bW8 S) (fun r31 u32 h => ?_)
        refine bs_nameS bW8_9 (fun S33 eS33 => ?_)
        replace h := h S33 eS33
        refine bs_pop C (bf_dk dd_L_law 112 rfl) rfl ?_
        refine bs_aload_n C (bf_dk dd_L_law 113 rfl) rfl ?_
        refine bs_callV_i (ps := [68, 69, 70, 71, 72, 73, 74, 75, 76, 77, 78, 79, 80, 81, 82, 83, 84, 85, 86, 87, 88]) (w := (bW8_9 S33)) C hR (c_X9_keys _ _ _ _ _ S33.2 _ h) my_X9_keys m_L_35 rfl cl_9 (ge_bW9_0 _) rfl (Nat.le_of_ble_eq_true rfl) (Nat.le_of_ble_eq_true rfl) (su_bW8_9_68_bW9 S33) rfl (st := []) (Nat.le_of_ble_eq_true rfl) (bf_dk dd_L_law 114 rfl) rfl (fun _ => rfl) (w2 := fun u35 => bW8_9 (S33.1, u35)) (pt_bW8_9_68_bW9 S33) (fun r34 u35 h => ?_)
        refine bs_nameS bW8_9 (fun S36 eS36 => ?_)
        replace h := h S36 eS36
        refine bs_pop C (bf_dk dd_L_law 115 rfl) rfl ?_
        refine bs_goto C (bf_dk dd_L_law 116 rfl) (tgt := 1745) rfl ?_
        exact bs_weak (bf_s1 (bf_s1 (bf_s1 (bf_s1 bf_s0)))) (t_L_law_1745 C hR hG hX hW S36 (x3) Q B18 hB18 h)
      · replace h := h.2.2.2.2.2.2.1 (bf_i32 c (by decide))
        refine bs_aload_n C (bf_dk dd_L_law 117 rfl) rfl ?_
        refine bs_aload_n C (bf_dk dd_L_law 118 rfl) rfl ?_
        refine bs_iload_n C (bf_dk dd_L_law 119 rfl) rfl ?_
        refine bs_iconst C (bf_dk dd_L_law 120 rfl) (1 : Int32) (by decide) ?_
        refine bs_iadd C (bf_dk dd_L_law 121 rfl) ?_
        obtain ⟨hi, h⟩ := h
        refine bs_sld C hX hW (bf_dk dd_L_law 122 rfl) hi ?_
        refine bs_aload_n C (bf_dk dd_L_law 123 rfl) rfl ?_
        refine bs_iload_n C (bf_dk dd_L_law 124 rfl) rfl ?_
        refine bs_iconst C (bf_dk dd_L_law 125 rfl) (2 : Int32) (by decide) ?_
        refine bs_iadd C (bf_dk dd_L_law 126 rfl) ?_
        obtain ⟨hi, h⟩ := h
        refine bs_sld C hX hW (bf_dk dd_L_law 127 rfl) hi ?_
        refine bs_callGV_i (ps := [0, 1, 2, 3, 4, 5, 6, 7, 8, 9, 10, 11, 12, 13, 14, 15, 16, 17, 18, 19, 20, 21, 22, 23, 24, 25, 26, 27, 28, 29, 30, 31, 32, 33, 34, 35, 36, 37, 38, 39, 40, 41, 42, 43, 44, 45, 46, 47, 48, 49, 50, 51, 52, 53, 54, 55, 56, 57, 58, 59, 60, 61, 62, 63, 64, 65, 66, 67]) (w := (bW8_9 S)) C hR hG (c_X8_set _ _ _ _ _ S.1 ((xs ((x3 + (1 : Int32))).toNatClampNeg)) ((xs ((x3 + (2 : Int32))).toNatClampNeg)) _ h) my_X8_set m_L_36 rfl cl_8 (ge_bW8_0 _) rfl (Nat.le_of_ble_eq_true rfl) (Nat.le_of_ble_eq_true rfl) (su_bW8_9_0_bW8 S) rfl (st := []) (Nat.le_of_ble_eq_true rfl) (bf_dk dd_L_law 128 rfl) rfl (fun _ => rfl) (w2 := fun u38 => bW8_9 (u38, S.2)) (pt_bW8_9_0_bW8 S) (fun r37 u38 h => ?_)
        refine bs_nameS bW8_9 (fun S39 eS39 => ?_)
        replace h := h S39 eS39
        refine bs_aload_n C (bf_dk dd_L_law 129 rfl) rfl ?_
        refine bs_aload_n C (bf_dk dd_L_law 130 rfl) rfl ?_
        refine bs_iload_n C (bf_dk dd_L_law 131 rfl) rfl ?_
        refine bs_iconst C (bf_dk dd_L_law 132 rfl) (1 : Int32) (by decide) ?_
        refine bs_iadd C (bf_dk dd_L_law 133 rfl) ?_
        obtain ⟨hi, h⟩ := h
        refine bs_sld C hX hW (bf_dk dd_L_law 134 rfl) hi ?_
        refine bs_aload_n C (bf_dk dd_L_law 135 rfl) rfl ?_
        refine bs_iload_n C (bf_dk dd_L_law 136 rfl) rfl ?_
        refine bs_iconst C (bf_dk dd_L_law 137 rfl) (2 : Int32) (by decide) ?_
        refine bs_iadd C (bf_dk dd_L_law 138 rfl) ?_
        obtain ⟨hi, h⟩ := h
        refine bs_sld C hX hW (bf_dk dd_L_law 139 rfl) hi ?_
        refine bs_callV_i (ps := [68, 69, 70, 71, 72, 73, 74, 75, 76, 77, 78, 79, 80, 81, 82, 83, 84, 85, 86, 87, 88]) (w := (bW8_9 S39)) C hR (c_X9_set _ _ _ _ _ S39.2 ((xs ((x3 + (1 : Int32))).toNatClampNeg)) ((xs ((x3 + (2 : Int32))).toNatClampNeg)) _ h) my_X9_set m_L_40 rfl cl_9 (ge_bW9_0 _) rfl (Nat.le_of_ble_eq_true rfl) (Nat.le_of_ble_eq_true rfl) (su_bW8_9_68_bW9 S39) rfl (st := [.int r37]) (Nat.le_of_ble_eq_true rfl) (bf_dk dd_L_law 140 rfl) rfl (fun _ => rfl) (w2 := fun u41 => bW8_9 (S39.1, u41)) (pt_bW8_9_68_bW9 S39) (fun r40 u41 h => ?_)
        refine bs_nameS bW8_9 (fun S42 eS42 => ?_)
        replace h := h S42 eS42
        refine bs_icmp_eq C (bf_dk dd_L_law 141 rfl) (tgt := 1745) rfl (fun c => ?_) (fun c => ?_)
        · replace h := h.1 c
          exact bs_weak (bf_s1 (bf_s1 (bf_s1 (bf_s1 bf_s0)))) (t_L_law_1745 C hR hG hX hW S42 (x3) Q B18 hB18 h)
        · replace h := h.2 c
          refine bs_iconst C (bf_dk dd_L_law 142 rfl) (0 : Int32) (by decide) ?_
          have h : (0 : Int32) = (1 : Int32) := h
          exact absurd h (by decide)
      · replace h := h.2.2.2.2.2.2.2.1 (bf_i32 c (by decide))
        refine bs_aload_n C (bf_dk dd_L_law 144 rfl) rfl ?_
        refine bs_aload_n C (bf_dk dd_L_law 145 rfl) rfl ?_
        refine bs_iload_n C (bf_dk dd_L_law 146 rfl) rfl ?_
        refine bs_iconst C (bf_dk dd_L_law 147 rfl) (1 : Int32) (by decide) ?_
        refine bs_iadd C (bf_dk dd_L_law 148 rfl) ?_
        obtain ⟨hi, h⟩ := h
        refine bs_sld C hX hW (bf_dk dd_L_law 149 rfl) hi ?_
        refine bs_callV_i (ps := [0, 1, 2, 3, 4, 5, 6, 7, 8, 9, 10, 11, 12, 13, 14, 15, 16, 17, 18, 19, 20, 21, 22, 23, 24, 25, 26, 27, 28, 29, 30, 31, 32, 33, 34, 35, 36, 37, 38, 39, 40, 41, 42, 43, 44, 45, 46, 47, 48, 49, 50, 51, 52, 53, 54, 55, 56, 57, 58, 59, 60, 61, 62, 63, 64, 65, 66, 67]) (w := (bW8_9 S)) C hR (c_X8_state _ _ _ _ _ S.1 ((xs ((x3 + (1 : Int32))).toNatClampNeg)) _ h) my_X8_state m_L_41 rfl cl_8 (ge_bW8_0 _) rfl (Nat.le_of_ble_eq_true rfl) (Nat.le_of_ble_eq_true rfl) (su_bW8_9_0_bW8 S) rfl (st := []) (Nat.le_of_ble_eq_true rfl) (bf_dk dd_L_law 150 rfl) rfl (fun _ => rfl) (w2 := fun u44 => bW8_9 (u44, S.2)) (pt_bW8_9_0_bW8 S) (fun r43 u44 h => ?_)
        refine bs_nameS bW8_9 (fun S45 eS45 => ?_)
        replace h := h S45 eS45
        refine bs_pop C (bf_dk dd_L_law 151 rfl) rfl ?_
        refine bs_aload_n C (bf_dk dd_L_law 152 rfl) rfl ?_
        refine bs_aload_n C (bf_dk dd_L_law 153 rfl) rfl ?_
        refine bs_iload_n C (bf_dk dd_L_law 154 rfl) rfl ?_
        refine bs_iconst C (bf_dk dd_L_law 155 rfl) (1 : Int32) (by decide) ?_
        refine bs_iadd C (bf_dk dd_L_law 156 rfl) ?_
        obtain ⟨hi, h⟩ := h
        refine bs_sld C hX hW (bf_dk dd_L_law 157 rfl) hi ?_
        refine bs_callV_i (ps := [68, 69, 70, 71, 72, 73, 74, 75, 76, 77, 78, 79, 80, 81, 82, 83, 84, 85, 86, 87, 88]) (w := (bW8_9 S45)) C hR (c_X9_state _ _ _ _ _ S45.2 ((xs ((x3 + (1 : Int32))).toNatClampNeg)) _ h) my_X9_state m_L_45 rfl cl_9 (ge_bW9_0 _) rfl (Nat.le_of_ble_eq_true rfl) (Nat.le_of_ble_eq_true rfl) (su_bW8_9_68_bW9 S45) rfl (st := []) (Nat.le_of_ble_eq_true rfl) (bf_dk dd_L_law 158 rfl) rfl (fun _ => rfl) (w2 := fun u47 => bW8_9 (S45.1, u47)) (pt_bW8_9_68_bW9 S45) (fun r46 u47 h => ?_)
        refine bs_nameS bW8_9 (fun S48 eS48 => ?_)
        replace h := h S48 eS48
        refine bs_pop C (bf_dk dd_L_law 159 rfl) rfl ?_
        refine bs_goto C (bf_dk dd_L_law 160 rfl) (tgt := 1745) rfl ?_
        exact bs_weak (bf_s1 (bf_s1 (bf_s1 (bf_s1 bf_s0)))) (t_L_law_1745 C hR hG hX hW S48 (x3) Q B18 hB18 h)
      · replace h := h.2.2.2.2.2.2.2.2.1 (bf_i32 c (by decide))
        refine bs_aload_n C (bf_dk dd_L_law 161 rfl) rfl ?_
        refine bs_aload_n C (bf_dk dd_L_law 162 rfl) rfl ?_
        refine bs_iload_n C (bf_dk dd_L_law 163 rfl) rfl ?_
        refine bs_iconst C (bf_dk dd_L_law 164 rfl) (1 : Int32) (by decide) ?_
        refine bs_iadd C (bf_dk dd_L_law 165 rfl) ?_
        obtain ⟨hi, h⟩ := h
        refine bs_sld C hX hW (bf_dk dd_L_law 166 rfl) hi ?_
        refine bs_aload_n C (bf_dk dd_L_law 167 rfl) rfl ?_
        refine bs_iload_n C (bf_dk dd_L_law 168 rfl) rfl ?_
        refine bs_iconst C (bf_dk dd_L_law 169 rfl) (2 : Int32) (by decide) ?_
        refine bs_iadd C (bf_dk dd_L_law 170 rfl) ?_
        obtain ⟨hi, h⟩ := h
        refine bs_sld C hX hW (bf_dk dd_L_law 171 rfl) hi ?_
        refine bs_aload_n C (bf_dk dd_L_law 172 rfl) rfl ?_
        refine bs_iload_n C (bf_dk dd_L_law 173 rfl) rfl ?_
        refine bs_iconst C (bf_dk dd_L_law 174 rfl) (3 : Int32) (by decide) ?_
        refine bs_iadd C (bf_dk dd_L_law 175 rfl) ?_
        obtain ⟨hi, h⟩ := h
        refine bs_sld C hX hW (bf_dk dd_L_law 176 rfl) hi ?_
        refine bs_callV_i (ps := [0, 1, 2, 3, 4, 5, 6, 7, 8, 9, 10, 11, 12, 13, 14, 15, 16, 17, 18, 19, 20, 21, 22, 23, 24, 25, 26, 27, 28, 29, 30, 31, 32, 33, 34, 35, 36, 37, 38, 39, 40, 41, 42, 43, 44, 45, 46, 47, 48, 49, 50, 51, 52, 53, 54, 55, 56, 57, 58, 59, 60, 61, 62, 63, 64, 65, 66, 67]) (w := (bW8_9 S)) C hR (c_X8_add _ _ _ _ _ S.1 ((xs ((x3 + (1 : Int32))).toNatClampNeg)) ((xs ((x3 + (2 : Int32))).toNatClampNeg)) ((xs ((x3 + (3 : Int32))).toNatClampNeg)) _ h) my_X8_add m_L_46 rfl cl_8 (ge_bW8_0 _) rfl (Nat.le_of_ble_eq_true rfl) (Nat.le_of_ble_eq_true rfl) (su_bW8_9_0_bW8 S) rfl (st := []) (Nat.le_of_ble_eq_true rfl) (bf_dk dd_L_law 177 rfl) rfl (fun _ => rfl) (w2 := fun u50 => bW8_9 (u50, S.2)) (pt_bW8_9_0_bW8 S) (fun r49 u50 h => ?_)
        refine bs_nameS bW8_9 (fun S51 eS51 => ?_)
        replace h := h S51 eS51
        refine bs_pop C (bf_dk dd_L_law 178 rfl) rfl ?_
        refine bs_aload_n C (bf_dk dd_L_law 179 rfl) rfl ?_
        refine bs_aload_n C (bf_dk dd_L_law 180 rfl) rfl ?_
        refine bs_iload_n C (bf_dk dd_L_law 181 rfl) rfl ?_
        refine bs_iconst C (bf_dk dd_L_law 182 rfl) (1 : Int32) (by decide) ?_
        refine bs_iadd C (bf_dk dd_L_law 183 rfl) ?_
        obtain ⟨hi, h⟩ := h
        refine bs_sld C hX hW (bf_dk dd_L_law 184 rfl) hi ?_
        refine bs_aload_n C (bf_dk dd_L_law 185 rfl) rfl ?_
        refine bs_iload_n C (bf_dk dd_L_law 186 rfl) rfl ?_
        refine bs_iconst C (bf_dk dd_L_law 187 rfl) (2 : Int32) (by decide) ?_
        refine bs_iadd C (bf_dk dd_L_law 188 rfl) ?_
        obtain ⟨hi, h⟩ := h
        refine bs_sld C hX hW (bf_dk dd_L_law 189 rfl) hi ?_
        refine bs_aload_n C (bf_dk dd_L_law 190 rfl) rfl ?_
        refine bs_iload_n C (bf_dk dd_L_law 191 rfl) rfl ?_
        refine bs_iconst C (bf_dk dd_L_law 192 rfl) (3 : Int32) (by decide) ?_
        refine bs_iadd C (bf_dk dd_L_law 193 rfl) ?_
        obtain ⟨hi, h⟩ := h
        refine bs_sld C hX hW (bf_dk dd_L_law 194 rfl) hi ?_
        refine bs_callV_i (ps := [68, 69, 70, 71, 72, 73, 74, 75, 76, 77, 78, 79, 80, 81, 82, 83, 84, 85, 86, 87, 88]) (w := (bW8_9 S51)) C hR (c_X9_add _ _ _ _ _ S51.2 ((xs ((x3 + (1 : Int32))).toNatClampNeg)) ((xs ((x3 + (2 : Int32))).toNatClampNeg)) ((xs ((x3 + (3 : Int32))).toNatClampNeg)) _ h) my_X9_add m_L_50 rfl cl_9 (ge_bW9_0 _) rfl (Nat.le_of_ble_eq_true rfl) (Nat.le_of_ble_eq_true rfl) (su_bW8_9_68_bW9 S51) rfl (st := []) (Nat.le_of_ble_eq_true rfl) (bf_dk dd_L_law 195 rfl) rfl (fun _ => rfl) (w2 := fun u53 => bW8_9 (S51.1, u53)) (pt_bW8_9_68_bW9 S51) (fun r52 u53 h => ?_)
        refine bs_nameS bW8_9 (fun S54 eS54 => ?_)
        replace h := h S54 eS54
        refine bs_pop C (bf_dk dd_L_law 196 rfl) rfl ?_
        refine bs_goto C (bf_dk dd_L_law 197 rfl) (tgt := 1745) rfl ?_
        exact bs_weak (bf_s1 (bf_s1 (bf_s1 (bf_s1 bf_s0)))) (t_L_law_1745 C hR hG hX hW S54 (x3) Q B18 hB18 h)
      · replace h := h.2.2.2.2.2.2.2.2.2.1 (bf_i32 c (by decide))
        refine bs_aload_n C (bf_dk dd_L_law 198 rfl) rfl ?_
        refine bs_aload_n C (bf_dk dd_L_law 199 rfl) rfl ?_
        refine bs_iload_n C (bf_dk dd_L_law 200 rfl) rfl ?_
        refine bs_iconst C (bf_dk dd_L_law 201 rfl) (1 : Int32) (by decide) ?_
        refine bs_iadd C (bf_dk dd_L_law 202 rfl) ?_
        obtain ⟨hi, h⟩ := h
        refine bs_sld C hX hW (bf_dk dd_L_law 203 rfl) hi ?_
        refine bs_aload_n C (bf_dk dd_L_law 204 rfl) rfl ?_
        refine bs_iload_n C (bf_dk dd_L_law 205 rfl) rfl ?_
        refine bs_iconst C (bf_dk dd_L_law 206 rfl) (2 : Int32) (by decide) ?_
        refine bs_iadd C (bf_dk dd_L_law 207 rfl) ?_
        obtain ⟨hi, h⟩ := h
        refine bs_sld C hX hW (bf_dk dd_L_law 208 rfl) hi ?_
        refine bs_aload_n C (bf_dk dd_L_law 209 rfl) rfl ?_
        refine bs_iload_n C (bf_dk dd_L_law 210 rfl) rfl ?_
        refine bs_iconst C (bf_dk dd_L_law 211 rfl) (3 : Int32) (by decide) ?_
        refine bs_iadd C (bf_dk dd_L_law 212 rfl) ?_
        obtain ⟨hi, h⟩ := h
        refine bs_sld C hX hW (bf_dk dd_L_law 213 rfl) hi ?_
        refine bs_callV_i (ps := [0, 1, 2, 3, 4, 5, 6, 7, 8, 9, 10, 11, 12, 13, 14, 15, 16, 17, 18, 19, 20, 21, 22, 23, 24, 25, 26, 27, 28, 29, 30, 31, 32, 33, 34, 35, 36, 37, 38, 39, 40, 41, 42, 43, 44, 45, 46, 47, 48, 49, 50, 51, 52, 53, 54, 55, 56, 57, 58, 59, 60, 61, 62, 63, 64, 65, 66, 67]) (w := (bW8_9 S)) C hR (c_X8_remove _ _ _ _ _ S.1 ((xs ((x3 + (1 : Int32))).toNatClampNeg)) ((xs ((x3 + (2 : Int32))).toNatClampNeg)) ((xs ((x3 + (3 : Int32))).toNatClampNeg)) _ h) my_X8_remove m_L_51 rfl cl_8 (ge_bW8_0 _) rfl (Nat.le_of_ble_eq_true rfl) (Nat.le_of_ble_eq_true rfl) (su_bW8_9_0_bW8 S) rfl (st := []) (Nat.le_of_ble_eq_true rfl) (bf_dk dd_L_law 214 rfl) rfl (fun _ => rfl) (w2 := fun u56 => bW8_9 (u56, S.2)) (pt_bW8_9_0_bW8 S) (fun r55 u56 h => ?_)
        refine bs_nameS bW8_9 (fun S57 eS57 => ?_)
        replace h := h S57 eS57
        refine bs_pop C (bf_dk dd_L_law 215 rfl) rfl ?_
        refine bs_aload_n C (bf_dk dd_L_law 216 rfl) rfl ?_
        refine bs_aload_n C (bf_dk dd_L_law 217 rfl) rfl ?_
        refine bs_iload_n C (bf_dk dd_L_law 218 rfl) rfl ?_
        refine bs_iconst C (bf_dk dd_L_law 219 rfl) (1 : Int32) (by decide) ?_
        refine bs_iadd C (bf_dk dd_L_law 220 rfl) ?_
        obtain ⟨hi, h⟩ := h
        refine bs_sld C hX hW (bf_dk dd_L_law 221 rfl) hi ?_
        refine bs_aload_n C (bf_dk dd_L_law 222 rfl) rfl ?_
        refine bs_iload_n C (bf_dk dd_L_law 223 rfl) rfl ?_
        refine bs_iconst C (bf_dk dd_L_law 224 rfl) (2 : Int32) (by decide) ?_
        refine bs_iadd C (bf_dk dd_L_law 225 rfl) ?_
        obtain ⟨hi, h⟩ := h
        refine bs_sld C hX hW (bf_dk dd_L_law 226 rfl) hi ?_
        refine bs_aload_n C (bf_dk dd_L_law 227 rfl) rfl ?_
        refine bs_iload_n C (bf_dk dd_L_law 228 rfl) rfl ?_
        refine bs_iconst C (bf_dk dd_L_law 229 rfl) (3 : Int32) (by decide) ?_
        refine bs_iadd C (bf_dk dd_L_law 230 rfl) ?_
        obtain ⟨hi, h⟩ := h
        refine bs_sld C hX hW (bf_dk dd_L_law 231 rfl) hi ?_
        refine bs_callV_i (ps := [68, 69, 70, 71, 72, 73, 74, 75, 76, 77, 78, 79, 80, 81, 82, 83, 84, 85, 86, 87, 88]) (w := (bW8_9 S57)) C hR (c_X9_remove _ _ _ _ _ S57.2 ((xs ((x3 + (1 : Int32))).toNatClampNeg)) ((xs ((x3 + (2 : Int32))).toNatClampNeg)) ((xs ((x3 + (3 : Int32))).toNatClampNeg)) _ h) my_X9_remove m_L_54 rfl cl_9 (ge_bW9_0 _) rfl (Nat.le_of_ble_eq_true rfl) (Nat.le_of_ble_eq_true rfl) (su_bW8_9_68_bW9 S57) rfl (st := []) (Nat.le_of_ble_eq_true rfl) (bf_dk dd_L_law 232 rfl) rfl (fun _ => rfl) (w2 := fun u59 => bW8_9 (S57.1, u59)) (pt_bW8_9_68_bW9 S57) (fun r58 u59 h => ?_)
        refine bs_nameS bW8_9 (fun S60 eS60 => ?_)
        replace h := h S60 eS60
        refine bs_pop C (bf_dk dd_L_law 233 rfl) rfl ?_
        refine bs_goto C (bf_dk dd_L_law 234 rfl) (tgt := 1745) rfl ?_
        exact bs_weak (bf_s1 (bf_s1 (bf_s1 (bf_s1 bf_s0)))) (t_L_law_1745 C hR hG hX hW S60 (x3) Q B18 hB18 h)
      · replace h := h.2.2.2.2.2.2.2.2.2.2.1 (bf_i32 c (by decide))
        refine bs_aload_n C (bf_dk dd_L_law 235 rfl) rfl ?_
        refine bs_aload_n C (bf_dk dd_L_law 236 rfl) rfl ?_
        refine bs_iload_n C (bf_dk dd_L_law 237 rfl) rfl ?_
        refine bs_iconst C (bf_dk dd_L_law 238 rfl) (1 : Int32) (by decide) ?_
        refine bs_iadd C (bf_dk dd_L_law 239 rfl) ?_
        obtain ⟨hi, h⟩ := h
        refine bs_sld C hX hW (bf_dk dd_L_law 240 rfl) hi ?_
        refine bs_aload_n C (bf_dk dd_L_law 241 rfl) rfl ?_
        refine bs_iload_n C (bf_dk dd_L_law 242 rfl) rfl ?_
        refine bs_iconst C (bf_dk dd_L_law 243 rfl) (2 : Int32) (by decide) ?_
        refine bs_iadd C (bf_dk dd_L_law 244 rfl) ?_
        obtain ⟨hi, h⟩ := h
        refine bs_sld C hX hW (bf_dk dd_L_law 245 rfl) hi ?_
        refine bs_callV_i (ps := [0, 1, 2, 3, 4, 5, 6, 7, 8, 9, 10, 11, 12, 13, 14, 15, 16, 17, 18, 19, 20, 21, 22, 23, 24, 25, 26, 27, 28, 29, 30, 31, 32, 33, 34, 35, 36, 37, 38, 39, 40, 41, 42, 43, 44, 45, 46, 47, 48, 49, 50, 51, 52, 53, 54, 55, 56, 57, 58, 59, 60, 61, 62, 63, 64, 65, 66, 67]) (w := (bW8_9 S)) C hR (c_X8_fill _ _ _ _ _ S.1 ((xs ((x3 + (1 : Int32))).toNatClampNeg)) ((xs ((x3 + (2 : Int32))).toNatClampNeg)) _ h) my_X8_fill m_L_55 rfl cl_8 (ge_bW8_0 _) rfl (Nat.le_of_ble_eq_true rfl) (Nat.le_of_ble_eq_true rfl) (su_bW8_9_0_bW8 S) rfl (st := []) (Nat.le_of_ble_eq_true rfl) (bf_dk dd_L_law 246 rfl) rfl (fun _ => rfl) (w2 := fun u62 => bW8_9 (u62, S.2)) (pt_bW8_9_0_bW8 S) (fun r61 u62 h => ?_)
        refine bs_nameS bW8_9 (fun S63 eS63 => ?_)
        replace h := h S63 eS63
        refine bs_pop C (bf_dk dd_L_law 247 rfl) rfl ?_
        refine bs_aload_n C (bf_dk dd_L_law 248 rfl) rfl ?_
        refine bs_aload_n C (bf_dk dd_L_law 249 rfl) rfl ?_
        refine bs_iload_n C (bf_dk dd_L_law 250 rfl) rfl ?_
        refine bs_iconst C (bf_dk dd_L_law 251 rfl) (1 : Int32) (by decide) ?_
        refine bs_iadd C (bf_dk dd_L_law 252 rfl) ?_
        obtain ⟨hi, h⟩ := h
        refine bs_sld C hX hW (bf_dk dd_L_law 253 rfl) hi ?_
        refine bs_aload_n C (bf_dk dd_L_law 254 rfl) rfl ?_
        refine bs_iload_n C (bf_dk dd_L_law 255 rfl) rfl ?_
        refine bs_iconst C (bf_dk dd_L_law 256 rfl) (2 : Int32) (by decide) ?_
        refine bs_iadd C (bf_dk dd_L_law 257 rfl) ?_
        obtain ⟨hi, h⟩ := h
        refine bs_sld C hX hW (bf_dk dd_L_law 258 rfl) hi ?_
        refine bs_callV_i (ps := [68, 69, 70, 71, 72, 73, 74, 75, 76, 77, 78, 79, 80, 81, 82, 83, 84, 85, 86, 87, 88]) (w := (bW8_9 S63)) C hR (c_X9_fill _ _ _ _ _ S63.2 ((xs ((x3 + (1 : Int32))).toNatClampNeg)) ((xs ((x3 + (2 : Int32))).toNatClampNeg)) _ h) my_X9_fill m_L_59 rfl cl_9 (ge_bW9_0 _) rfl (Nat.le_of_ble_eq_true rfl) (Nat.le_of_ble_eq_true rfl) (su_bW8_9_68_bW9 S63) rfl (st := []) (Nat.le_of_ble_eq_true rfl) (bf_dk dd_L_law 259 rfl) rfl (fun _ => rfl) (w2 := fun u65 => bW8_9 (S63.1, u65)) (pt_bW8_9_68_bW9 S63) (fun r64 u65 h => ?_)
        refine bs_nameS bW8_9 (fun S66 eS66 => ?_)
        replace h := h S66 eS66
        refine bs_pop C (bf_dk dd_L_law 260 rfl) rfl ?_
        refine bs_goto C (bf_dk dd_L_law 261 rfl) (tgt := 1745) rfl ?_
        exact bs_weak (bf_s1 (bf_s1 (bf_s1 (bf_s1 bf_s0)))) (t_L_law_1745 C hR hG hX hW S66 (x3) Q B18 hB18 h)
      · replace h := h.2.2.2.2.2.2.2.2.2.2.2.1 (bf_i32 c (by decide))
        refine bs_aload_n C (bf_dk dd_L_law 262 rfl) rfl ?_
        refine bs_callV_i (ps := [0, 1, 2, 3, 4, 5, 6, 7, 8, 9, 10, 11, 12, 13, 14, 15, 16, 17, 18, 19, 20, 21, 22, 23, 24, 25, 26, 27, 28, 29, 30, 31, 32, 33, 34, 35, 36, 37, 38, 39, 40, 41, 42, 43, 44, 45, 46, 47, 48, 49, 50, 51, 52, 53, 54, 55, 56, 57, 58, 59, 60, 61, 62, 63, 64, 65, 66, 67]) (w := (bW8_9 S)) C hR (c_X8_build _ _ _ _ _ S.1 _ h) my_X8_build m_L_60 rfl cl_8 (ge_bW8_0 _) rfl (Nat.le_of_ble_eq_true rfl) (Nat.le_of_ble_eq_true rfl) (su_bW8_9_0_bW8 S) rfl (st := []) (Nat.le_of_ble_eq_true rfl) (bf_dk dd_L_law 263 rfl) rfl (fun _ => rfl) (w2 := fun u68 => bW8_9 (u68, S.2)) (pt_bW8_9_0_bW8 S) (fun r67 u68 h => ?_)
        refine bs_nameS bW8_9 (fun S69 eS69 => ?_)
        replace h := h S69 eS69
        refine bs_pop C (bf_dk dd_L_law 264 rfl) rfl ?_
        refine bs_aload_n C (bf_dk dd_L_law 265 rfl) rfl ?_
        refine bs_callV_i (ps := [68, 69, 70, 71, 72, 73, 74, 75, 76, 77, 78, 79, 80, 81, 82, 83, 84, 85, 86, 87, 88]) (w := (bW8_9 S69)) C hR (c_X9_build _ _ _ _ _ S69.2 _ h) my_X9_build m_L_63 rfl cl_9 (ge_bW9_0 _) rfl (Nat.le_of_ble_eq_true rfl) (Nat.le_of_ble_eq_true rfl) (su_bW8_9_68_bW9 S69) rfl (st := []) (Nat.le_of_ble_eq_true rfl) (bf_dk dd_L_law 266 rfl) rfl (fun _ => rfl) (w2 := fun u71 => bW8_9 (S69.1, u71)) (pt_bW8_9_68_bW9 S69) (fun r70 u71 h => ?_)
        refine bs_nameS bW8_9 (fun S72 eS72 => ?_)
        replace h := h S72 eS72
        refine bs_pop C (bf_dk dd_L_law 267 rfl) rfl ?_
        refine bs_goto C (bf_dk dd_L_law 268 rfl) (tgt := 1745) rfl ?_
        exact bs_weak (bf_s1 (bf_s1 (bf_s1 (bf_s1 bf_s0)))) (t_L_law_1745 C hR hG hX hW S72 (x3) Q B18 hB18 h)
      · replace h := h.2.2.2.2.2.2.2.2.2.2.2.2.1 (bf_i32 c (by decide))
        refine bs_aload_n C (bf_dk dd_L_law 269 rfl) rfl ?_
        refine bs_aload_n C (bf_dk dd_L_law 270 rfl) rfl ?_
        refine bs_iload_n C (bf_dk dd_L_law 271 rfl) rfl ?_
        refine bs_iconst C (bf_dk dd_L_law 272 rfl) (1 : Int32) (by decide) ?_
        refine bs_iadd C (bf_dk dd_L_law 273 rfl) ?_
        obtain ⟨hi, h⟩ := h
        refine bs_sld C hX hW (bf_dk dd_L_law 274 rfl) hi ?_
        refine bs_aload_n C (bf_dk dd_L_law 275 rfl) rfl ?_
        refine bs_iload_n C (bf_dk dd_L_law 276 rfl) rfl ?_
        refine bs_iconst C (bf_dk dd_L_law 277 rfl) (2 : Int32) (by decide) ?_
        refine bs_iadd C (bf_dk dd_L_law 278 rfl) ?_
        obtain ⟨hi, h⟩ := h
        refine bs_sld C hX hW (bf_dk dd_L_law 279 rfl) hi ?_
        refine bs_aload_n C (bf_dk dd_L_law 280 rfl) rfl ?_
        refine bs_iload_n C (bf_dk dd_L_law 281 rfl) rfl ?_
        refine bs_iconst C (bf_dk dd_L_law 282 rfl) (3 : Int32) (by decide) ?_
        refine bs_iadd C (bf_dk dd_L_law 283 rfl) ?_
        obtain ⟨hi, h⟩ := h
        refine bs_sld C hX hW (bf_dk dd_L_law 284 rfl) hi ?_
        refine bs_aload_n C (bf_dk dd_L_law 285 rfl) rfl ?_
        refine bs_iload_n C (bf_dk dd_L_law 286 rfl) rfl ?_
        refine bs_iconst C (bf_dk dd_L_law 287 rfl) (4 : Int32) (by decide) ?_
        refine bs_iadd C (bf_dk dd_L_law 288 rfl) ?_
        obtain ⟨hi, h⟩ := h
        refine bs_sld C hX hW (bf_dk dd_L_law 289 rfl) hi ?_
        refine bs_pureV_i (ps := [0, 1, 2, 3, 4, 5, 6, 7, 8, 9, 10, 11, 12, 13, 14, 15, 16, 17, 18, 19, 20, 21, 22, 23, 24, 25, 26, 27, 28, 29, 30, 31, 32, 33, 34, 35, 36, 37, 38, 39, 40, 41, 42, 43, 44, 45, 46, 47, 48, 49, 50, 51, 52, 53, 54, 55, 56, 57, 58, 59, 60, 61, 62, 63, 64, 65, 66, 67]) (w := (bW8_9 S)) C hR (c_X8_has _ _ _ _ _ S.1 ((xs ((x3 + (1 : Int32))).toNatClampNeg)) ((xs ((x3 + (2 : Int32))).toNatClampNeg)) ((xs ((x3 + (3 : Int32))).toNatClampNeg)) ((xs ((x3 + (4 : Int32))).toNatClampNeg)) _ h) my_X8_has m_L_64 rfl cl_8 (ge_bW8_0 _) rfl (Nat.le_of_ble_eq_true rfl) (Nat.le_of_ble_eq_true rfl) (su_bW8_9_0_bW8 S) rfl (st := []) (Nat.le_of_ble_eq_true rfl) (bf_dk dd_L_law 290 rfl) rfl (fun _ => rfl) (fun r73 h => ?_)
        refine bs_pop C (bf_dk dd_L_law 291 rfl) rfl ?_
        refine bs_aload_n C (bf_dk dd_L_law 292 rfl) rfl ?_
        refine bs_aload_n C (bf_dk dd_L_law 293 rfl) rfl ?_
        refine bs_iload_n C (bf_dk dd_L_law 294 rfl) rfl ?_
        refine bs_iconst C (bf_dk dd_L_law 295 rfl) (1 : Int32) (by decide) ?_
        refine bs_iadd C (bf_dk dd_L_law 296 rfl) ?_
        obtain ⟨hi, h⟩ := h
        refine bs_sld C hX hW (bf_dk dd_L_law 297 rfl) hi ?_
        refine bs_aload_n C (bf_dk dd_L_law 298 rfl) rfl ?_
        refine bs_iload_n C (bf_dk dd_L_law 299 rfl) rfl ?_
        refine bs_iconst C (bf_dk dd_L_law 300 rfl) (2 : Int32) (by decide) ?_
        refine bs_iadd C (bf_dk dd_L_law 301 rfl) ?_
        obtain ⟨hi, h⟩ := h
        refine bs_sld C hX hW (bf_dk dd_L_law 302 rfl) hi ?_
        refine bs_aload_n C (bf_dk dd_L_law 303 rfl) rfl ?_
        refine bs_iload_n C (bf_dk dd_L_law 304 rfl) rfl ?_
        refine bs_iconst C (bf_dk dd_L_law 305 rfl) (3 : Int32) (by decide) ?_
        refine bs_iadd C (bf_dk dd_L_law 306 rfl) ?_
        obtain ⟨hi, h⟩ := h
        refine bs_sld C hX hW (bf_dk dd_L_law 307 rfl) hi ?_
        refine bs_aload_n C (bf_dk dd_L_law 308 rfl) rfl ?_
        refine bs_iload_n C (bf_dk dd_L_law 309 rfl) rfl ?_
        refine bs_iconst C (bf_dk dd_L_law 310 rfl) (4 : Int32) (by decide) ?_
        refine bs_iadd C (bf_dk dd_L_law 311 rfl) ?_
        obtain ⟨hi, h⟩ := h
        refine bs_sld C hX hW (bf_dk dd_L_law 312 rfl) hi ?_
        refine bs_callV_i (ps := [68, 69, 70, 71, 72, 73, 74, 75, 76, 77, 78, 79, 80, 81, 82, 83, 84, 85, 86, 87, 88]) (w := (bW8_9 S)) C hR (c_X9_has _ _ _ _ _ S.2 ((xs ((x3 + (1 : Int32))).toNatClampNeg)) ((xs ((x3 + (2 : Int32))).toNatClampNeg)) ((xs ((x3 + (3 : Int32))).toNatClampNeg)) ((xs ((x3 + (4 : Int32))).toNatClampNeg)) _ h) my_X9_has m_L_68 rfl cl_9 (ge_bW9_0 _) rfl (Nat.le_of_ble_eq_true rfl) (Nat.le_of_ble_eq_true rfl) (su_bW8_9_68_bW9 S) rfl (st := []) (Nat.le_of_ble_eq_true rfl) (bf_dk dd_L_law 313 rfl) rfl (fun _ => rfl) (w2 := fun u76 => bW8_9 (S.1, u76)) (pt_bW8_9_68_bW9 S) (fun r75 u76 h => ?_)
        refine bs_nameS bW8_9 (fun S77 eS77 => ?_)
        replace h := h S77 eS77
        refine bs_pop C (bf_dk dd_L_law 314 rfl) rfl ?_
        refine bs_goto C (bf_dk dd_L_law 315 rfl) (tgt := 1745) rfl ?_
        exact bs_weak (bf_s1 (bf_s1 (bf_s1 (bf_s1 bf_s0)))) (t_L_law_1745 C hR hG hX hW S77 (x3) Q B18 hB18 h)
      · replace h := h.2.2.2.2.2.2.2.2.2.2.2.2.2.1 (bf_i32 c (by decide))
        refine bs_aload_n C (bf_dk dd_L_law 316 rfl) rfl ?_
        refine bs_aload_n C (bf_dk dd_L_law 317 rfl) rfl ?_
        refine bs_iload_n C (bf_dk dd_L_law 318 rfl) rfl ?_
        refine bs_iconst C (bf_dk dd_L_law 319 rfl) (1 : Int32) (by decide) ?_
        refine bs_iadd C (bf_dk dd_L_law 320 rfl) ?_
        obtain ⟨hi, h⟩ := h
        refine bs_sld C hX hW (bf_dk dd_L_law 321 rfl) hi ?_
        refine bs_aload_n C (bf_dk dd_L_law 322 rfl) rfl ?_
        refine bs_iload_n C (bf_dk dd_L_law 323 rfl) rfl ?_
        refine bs_iconst C (bf_dk dd_L_law 324 rfl) (2 : Int32) (by decide) ?_
        refine bs_iadd C (bf_dk dd_L_law 325 rfl) ?_
        obtain ⟨hi, h⟩ := h
        refine bs_sld C hX hW (bf_dk dd_L_law 326 rfl) hi ?_
        refine bs_aload_n C (bf_dk dd_L_law 327 rfl) rfl ?_
        refine bs_iload_n C (bf_dk dd_L_law 328 rfl) rfl ?_
        refine bs_iconst C (bf_dk dd_L_law 329 rfl) (3 : Int32) (by decide) ?_
        refine bs_iadd C (bf_dk dd_L_law 330 rfl) ?_
        obtain ⟨hi, h⟩ := h
        refine bs_sld C hX hW (bf_dk dd_L_law 331 rfl) hi ?_
        refine bs_callV_i (ps := [0, 1, 2, 3, 4, 5, 6, 7, 8, 9, 10, 11, 12, 13, 14, 15, 16, 17, 18, 19, 20, 21, 22, 23, 24, 25, 26, 27, 28, 29, 30, 31, 32, 33, 34, 35, 36, 37, 38, 39, 40, 41, 42, 43, 44, 45, 46, 47, 48, 49, 50, 51, 52, 53, 54, 55, 56, 57, 58, 59, 60, 61, 62, 63, 64, 65, 66, 67]) (w := (bW8_9 S)) C hR (c_X8_may _ _ _ _ _ S.1 ((xs ((x3 + (1 : Int32))).toNatClampNeg)) ((xs ((x3 + (2 : Int32))).toNatClampNeg)) ((xs ((x3 + (3 : Int32))).toNatClampNeg)) _ h) my_X8_may m_L_69 rfl cl_8 (ge_bW8_0 _) rfl (Nat.le_of_ble_eq_true rfl) (Nat.le_of_ble_eq_true rfl) (su_bW8_9_0_bW8 S) rfl (st := []) (Nat.le_of_ble_eq_true rfl) (bf_dk dd_L_law 332 rfl) rfl (fun _ => rfl) (w2 := fun u79 => bW8_9 (u79, S.2)) (pt_bW8_9_0_bW8 S) (fun r78 u79 h => ?_)
        refine bs_nameS bW8_9 (fun S80 eS80 => ?_)
        replace h := h S80 eS80
        refine bs_pop C (bf_dk dd_L_law 333 rfl) rfl ?_
        refine bs_aload_n C (bf_dk dd_L_law 334 rfl) rfl ?_
        refine bs_aload_n C (bf_dk dd_L_law 335 rfl) rfl ?_
        refine bs_iload_n C (bf_dk dd_L_law 336 rfl) rfl ?_
        refine bs_iconst C (bf_dk dd_L_law 337 rfl) (1 : Int32) (by decide) ?_
        refine bs_iadd C (bf_dk dd_L_law 338 rfl) ?_
        obtain ⟨hi, h⟩ := h
        refine bs_sld C hX hW (bf_dk dd_L_law 339 rfl) hi ?_
        refine bs_aload_n C (bf_dk dd_L_law 340 rfl) rfl ?_
        refine bs_iload_n C (bf_dk dd_L_law 341 rfl) rfl ?_
        refine bs_iconst C (bf_dk dd_L_law 342 rfl) (2 : Int32) (by decide) ?_
        refine bs_iadd C (bf_dk dd_L_law 343 rfl) ?_
        obtain ⟨hi, h⟩ := h
        refine bs_sld C hX hW (bf_dk dd_L_law 344 rfl) hi ?_
        refine bs_aload_n C (bf_dk dd_L_law 345 rfl) rfl ?_
        refine bs_iload_n C (bf_dk dd_L_law 346 rfl) rfl ?_
        refine bs_iconst C (bf_dk dd_L_law 347 rfl) (3 : Int32) (by decide) ?_
        refine bs_iadd C (bf_dk dd_L_law 348 rfl) ?_
        obtain ⟨hi, h⟩ := h
        refine bs_sld C hX hW (bf_dk dd_L_law 349 rfl) hi ?_
        refine bs_callV_i (ps := [68, 69, 70, 71, 72, 73, 74, 75, 76, 77, 78, 79, 80, 81, 82, 83, 84, 85, 86, 87, 88]) (w := (bW8_9 S80)) C hR (c_X9_may _ _ _ _ _ S80.2 ((xs ((x3 + (1 : Int32))).toNatClampNeg)) ((xs ((x3 + (2 : Int32))).toNatClampNeg)) ((xs ((x3 + (3 : Int32))).toNatClampNeg)) _ h) my_X9_may m_L_72 rfl cl_9 (ge_bW9_0 _) rfl (Nat.le_of_ble_eq_true rfl) (Nat.le_of_ble_eq_true rfl) (su_bW8_9_68_bW9 S80) rfl (st := []) (Nat.le_of_ble_eq_true rfl) (bf_dk dd_L_law 350 rfl) rfl (fun _ => rfl) (w2 := fun u82 => bW8_9 (S80.1, u82)) (pt_bW8_9_68_bW9 S80) (fun r81 u82 h => ?_)
        refine bs_nameS bW8_9 (fun S83 eS83 => ?_)
        replace h := h S83 eS83
        refine bs_pop C (bf_dk dd_L_law 351 rfl) rfl ?_
        refine bs_goto C (bf_dk dd_L_law 352 rfl) (tgt := 1745) rfl ?_
        exact bs_weak (bf_s1 (bf_s1 (bf_s1 (bf_s1 bf_s0)))) (t_L_law_1745 C hR hG hX hW S83 (x3) Q B18 hB18 h)
      · replace h := h.2.2.2.2.2.2.2.2.2.2.2.2.2.2.1 (bf_i32 c (by decide))
        refine bs_aload_n C (bf_dk dd_L_law 353 rfl) rfl ?_
        refine bs_aload_n C (bf_dk dd_L_law 354 rfl) rfl ?_
        refine bs_iload_n C (bf_dk dd_L_law 355 rfl) rfl ?_
        refine bs_iconst C (bf_dk dd_L_law 356 rfl) (1 : Int32) (by decide) ?_
        refine bs_iadd C (bf_dk dd_L_law 357 rfl) ?_
        obtain ⟨hi, h⟩ := h
        refine bs_sld C hX hW (bf_dk dd_L_law 358 rfl) hi ?_
        refine bs_aload_n C (bf_dk dd_L_law 359 rfl) rfl ?_
        refine bs_iload_n C (bf_dk dd_L_law 360 rfl) rfl ?_
        refine bs_iconst C (bf_dk dd_L_law 361 rfl) (2 : Int32) (by decide) ?_
        refine bs_iadd C (bf_dk dd_L_law 362 rfl) ?_
        obtain ⟨hi, h⟩ := h
        refine bs_sld C hX hW (bf_dk dd_L_law 363 rfl) hi ?_
        refine bs_aload_n C (bf_dk dd_L_law 364 rfl) rfl ?_
        refine bs_iload_n C (bf_dk dd_L_law 365 rfl) rfl ?_
        refine bs_iconst C (bf_dk dd_L_law 366 rfl) (3 : Int32) (by decide) ?_
        refine bs_iadd C (bf_dk dd_L_law 367 rfl) ?_
        obtain ⟨hi, h⟩ := h
        refine bs_sld C hX hW (bf_dk dd_L_law 368 rfl) hi ?_
        refine bs_pureV_i (ps := [0, 1, 2, 3, 4, 5, 6, 7, 8, 9, 10, 11, 12, 13, 14, 15, 16, 17, 18, 19, 20, 21, 22, 23, 24, 25, 26, 27, 28, 29, 30, 31, 32, 33, 34, 35, 36, 37, 38, 39, 40, 41, 42, 43, 44, 45, 46, 47, 48, 49, 50, 51, 52, 53, 54, 55, 56, 57, 58, 59, 60, 61, 62, 63, 64, 65, 66, 67]) (w := (bW8_9 S)) C hR (c_X8_leafOf _ _ _ _ _ S.1 ((xs ((x3 + (1 : Int32))).toNatClampNeg)) ((xs ((x3 + (2 : Int32))).toNatClampNeg)) ((xs ((x3 + (3 : Int32))).toNatClampNeg)) _ h) my_X8_leafOf m_L_73 rfl cl_8 (ge_bW8_0 _) rfl (Nat.le_of_ble_eq_true rfl) (Nat.le_of_ble_eq_true rfl) (su_bW8_9_0_bW8 S) rfl (st := []) (Nat.le_of_ble_eq_true rfl) (bf_dk dd_L_law 369 rfl) rfl (fun _ => rfl) (fun r84 h => ?_)
        refine bs_pop C (bf_dk dd_L_law 370 rfl) rfl ?_
        refine bs_aload_n C (bf_dk dd_L_law 371 rfl) rfl ?_
        refine bs_aload_n C (bf_dk dd_L_law 372 rfl) rfl ?_
        refine bs_iload_n C (bf_dk dd_L_law 373 rfl) rfl ?_
        refine bs_iconst C (bf_dk dd_L_law 374 rfl) (1 : Int32) (by decide) ?_
        refine bs_iadd C (bf_dk dd_L_law 375 rfl) ?_
        obtain ⟨hi, h⟩ := h
        refine bs_sld C hX hW (bf_dk dd_L_law 376 rfl) hi ?_
        refine bs_aload_n C (bf_dk dd_L_law 377 rfl) rfl ?_
        refine bs_iload_n C (bf_dk dd_L_law 378 rfl) rfl ?_
        refine bs_iconst C (bf_dk dd_L_law 379 rfl) (2 : Int32) (by decide) ?_
        refine bs_iadd C (bf_dk dd_L_law 380 rfl) ?_
        obtain ⟨hi, h⟩ := h
        refine bs_sld C hX hW (bf_dk dd_L_law 381 rfl) hi ?_
        refine bs_aload_n C (bf_dk dd_L_law 382 rfl) rfl ?_
        refine bs_iload_n C (bf_dk dd_L_law 383 rfl) rfl ?_
        refine bs_iconst C (bf_dk dd_L_law 384 rfl) (3 : Int32) (by decide) ?_
        refine bs_iadd C (bf_dk dd_L_law 385 rfl) ?_
        obtain ⟨hi, h⟩ := h
        refine bs_sld C hX hW (bf_dk dd_L_law 386 rfl) hi ?_
        refine bs_callV_i (ps := [68, 69, 70, 71, 72, 73, 74, 75, 76, 77, 78, 79, 80, 81, 82, 83, 84, 85, 86, 87, 88]) (w := (bW8_9 S)) C hR (c_X9_leafOf _ _ _ _ _ S.2 ((xs ((x3 + (1 : Int32))).toNatClampNeg)) ((xs ((x3 + (2 : Int32))).toNatClampNeg)) ((xs ((x3 + (3 : Int32))).toNatClampNeg)) _ h) my_X9_leafOf m_L_76 rfl cl_9 (ge_bW9_0 _) rfl (Nat.le_of_ble_eq_true rfl) (Nat.le_of_ble_eq_true rfl) (su_bW8_9_68_bW9 S) rfl (st := []) (Nat.le_of_ble_eq_true rfl) (bf_dk dd_L_law 387 rfl) rfl (fun _ => rfl) (w2 := fun u87 => bW8_9 (S.1, u87)) (pt_bW8_9_68_bW9 S) (fun r86 u87 h => ?_)
        refine bs_nameS bW8_9 (fun S88 eS88 => ?_)
        replace h := h S88 eS88
        refine bs_pop C (bf_dk dd_L_law 388 rfl) rfl ?_
        refine bs_goto C (bf_dk dd_L_law 389 rfl) (tgt := 1745) rfl ?_
        exact bs_weak (bf_s1 (bf_s1 (bf_s1 (bf_s1 bf_s0)))) (t_L_law_1745 C hR hG hX hW S88 (x3) Q B18 hB18 h)
      · replace h := h.2.2.2.2.2.2.2.2.2.2.2.2.2.2.2.1 (bf_i32 c (by decide))
        refine bs_aload_n C (bf_dk dd_L_law 390 rfl) rfl ?_
        refine bs_aload_n C (bf_dk dd_L_law 391 rfl) rfl ?_
        refine bs_iload_n C (bf_dk dd_L_law 392 rfl) rfl ?_
        refine bs_iconst C (bf_dk dd_L_law 393 rfl) (1 : Int32) (by decide) ?_
        refine bs_iadd C (bf_dk dd_L_law 394 rfl) ?_
        obtain ⟨hi, h⟩ := h
        refine bs_sld C hX hW (bf_dk dd_L_law 395 rfl) hi ?_
        refine bs_aload_n C (bf_dk dd_L_law 396 rfl) rfl ?_
        refine bs_iload_n C (bf_dk dd_L_law 397 rfl) rfl ?_
        refine bs_iconst C (bf_dk dd_L_law 398 rfl) (2 : Int32) (by decide) ?_
        refine bs_iadd C (bf_dk dd_L_law 399 rfl) ?_
        obtain ⟨hi, h⟩ := h
        refine bs_sld C hX hW (bf_dk dd_L_law 400 rfl) hi ?_
        refine bs_aload_n C (bf_dk dd_L_law 401 rfl) rfl ?_
        refine bs_iload_n C (bf_dk dd_L_law 402 rfl) rfl ?_
        refine bs_iconst C (bf_dk dd_L_law 403 rfl) (3 : Int32) (by decide) ?_
        refine bs_iadd C (bf_dk dd_L_law 404 rfl) ?_
        obtain ⟨hi, h⟩ := h
        refine bs_sld C hX hW (bf_dk dd_L_law 405 rfl) hi ?_
        refine bs_aload_n C (bf_dk dd_L_law 406 rfl) rfl ?_
        refine bs_iload_n C (bf_dk dd_L_law 407 rfl) rfl ?_
        refine bs_iconst C (bf_dk dd_L_law 408 rfl) (4 : Int32) (by decide) ?_
        refine bs_iadd C (bf_dk dd_L_law 409 rfl) ?_
        obtain ⟨hi, h⟩ := h
        refine bs_sld C hX hW (bf_dk dd_L_law 410 rfl) hi ?_
        refine bs_aload_n C (bf_dk dd_L_law 411 rfl) rfl ?_
        refine bs_iload_n C (bf_dk dd_L_law 412 rfl) rfl ?_
        refine bs_iconst C (bf_dk dd_L_law 413 rfl) (5 : Int32) (by decide) ?_
        refine bs_iadd C (bf_dk dd_L_law 414 rfl) ?_
        obtain ⟨hi, h⟩ := h
        refine bs_sld C hX hW (bf_dk dd_L_law 415 rfl) hi ?_
        refine bs_aload_n C (bf_dk dd_L_law 416 rfl) rfl ?_
        refine bs_iload_n C (bf_dk dd_L_law 417 rfl) rfl ?_
        refine bs_bipush C (bf_dk dd_L_law 418 rfl) (6 : Int32) (by decide) ?_
        refine bs_iadd C (bf_dk dd_L_law 419 rfl) ?_
        obtain ⟨hi, h⟩ := h
        refine bs_sld C hX hW (bf_dk dd_L_law 420 rfl) hi ?_
        refine bs_callV_i (ps := [0, 1, 2, 3, 4, 5, 6, 7, 8, 9, 10, 11, 12, 13, 14, 15, 16, 17, 18, 19, 20, 21, 22, 23, 24, 25, 26, 27, 28, 29, 30, 31, 32, 33, 34, 35, 36, 37, 38, 39, 40, 41, 42, 43, 44, 45, 46, 47, 48, 49, 50, 51, 52, 53, 54, 55, 56, 57, 58, 59, 60, 61, 62, 63, 64, 65, 66, 67]) (w := (bW8_9 S)) C hR (c_X8_range _ _ _ _ _ S.1 ((xs ((x3 + (1 : Int32))).toNatClampNeg)) ((xs ((x3 + (2 : Int32))).toNatClampNeg)) ((xs ((x3 + (3 : Int32))).toNatClampNeg)) ((xs ((x3 + (4 : Int32))).toNatClampNeg)) ((xs ((x3 + (5 : Int32))).toNatClampNeg)) ((xs ((x3 + (6 : Int32))).toNatClampNeg)) _ h) my_X8_range m_L_77 rfl cl_8 (ge_bW8_0 _) rfl (Nat.le_of_ble_eq_true rfl) (Nat.le_of_ble_eq_true rfl) (su_bW8_9_0_bW8 S) rfl (st := []) (Nat.le_of_ble_eq_true rfl) (bf_dk dd_L_law 421 rfl) rfl (fun _ => rfl) (w2 := fun u90 => bW8_9 (u90, S.2)) (pt_bW8_9_0_bW8 S) (fun r89 u90 h => ?_)
        refine bs_nameS bW8_9 (fun S91 eS91 => ?_)
        replace h := h S91 eS91
        refine bs_pop C (bf_dk dd_L_law 422 rfl) rfl ?_
        refine bs_aload_n C (bf_dk dd_L_law 423 rfl) rfl ?_
        refine bs_aload_n C (bf_dk dd_L_law 424 rfl) rfl ?_
        refine bs_iload_n C (bf_dk dd_L_law 425 rfl) rfl ?_
        refine bs_iconst C (bf_dk dd_L_law 426 rfl) (1 : Int32) (by decide) ?_
        refine bs_iadd C (bf_dk dd_L_law 427 rfl) ?_
        obtain ⟨hi, h⟩ := h
        refine bs_sld C hX hW (bf_dk dd_L_law 428 rfl) hi ?_
        refine bs_aload_n C (bf_dk dd_L_law 429 rfl) rfl ?_
        refine bs_iload_n C (bf_dk dd_L_law 430 rfl) rfl ?_
        refine bs_iconst C (bf_dk dd_L_law 431 rfl) (2 : Int32) (by decide) ?_
        refine bs_iadd C (bf_dk dd_L_law 432 rfl) ?_
        obtain ⟨hi, h⟩ := h
        refine bs_sld C hX hW (bf_dk dd_L_law 433 rfl) hi ?_
        refine bs_aload_n C (bf_dk dd_L_law 434 rfl) rfl ?_
        refine bs_iload_n C (bf_dk dd_L_law 435 rfl) rfl ?_
        refine bs_iconst C (bf_dk dd_L_law 436 rfl) (3 : Int32) (by decide) ?_
        refine bs_iadd C (bf_dk dd_L_law 437 rfl) ?_
        obtain ⟨hi, h⟩ := h
        refine bs_sld C hX hW (bf_dk dd_L_law 438 rfl) hi ?_
        refine bs_aload_n C (bf_dk dd_L_law 439 rfl) rfl ?_
        refine bs_iload_n C (bf_dk dd_L_law 440 rfl) rfl ?_
        refine bs_iconst C (bf_dk dd_L_law 441 rfl) (4 : Int32) (by decide) ?_
        refine bs_iadd C (bf_dk dd_L_law 442 rfl) ?_
        obtain ⟨hi, h⟩ := h
        refine bs_sld C hX hW (bf_dk dd_L_law 443 rfl) hi ?_
        refine bs_aload_n C (bf_dk dd_L_law 444 rfl) rfl ?_
        refine bs_iload_n C (bf_dk dd_L_law 445 rfl) rfl ?_
        refine bs_iconst C (bf_dk dd_L_law 446 rfl) (5 : Int32) (by decide) ?_
        refine bs_iadd C (bf_dk dd_L_law 447 rfl) ?_
        obtain ⟨hi, h⟩ := h
        refine bs_sld C hX hW (bf_dk dd_L_law 448 rfl) hi ?_
        refine bs_aload_n C (bf_dk dd_L_law 449 rfl) rfl ?_
        refine bs_iload_n C (bf_dk dd_L_law 450 rfl) rfl ?_
        refine bs_bipush C (bf_dk dd_L_law 451 rfl) (6 : Int32) (by decide) ?_
        refine bs_iadd C (bf_dk dd_L_law 452 rfl) ?_
        obtain ⟨hi, h⟩ := h
        refine bs_sld C hX hW (bf_dk dd_L_law 453 rfl) hi ?_
        refine bs_callV_i (ps := [68, 69, 70, 71, 72, 73, 74, 75, 76, 77, 78, 79, 80, 81, 82, 83, 84, 85, 86, 87, 88]) (w := (bW8_9 S91)) C hR (c_X9_range _ _ _ _ _ S91.2 ((xs ((x3 + (1 : Int32))).toNatClampNeg)) ((xs ((x3 + (2 : Int32))).toNatClampNeg)) ((xs ((x3 + (3 : Int32))).toNatClampNeg)) ((xs ((x3 + (4 : Int32))).toNatClampNeg)) ((xs ((x3 + (5 : Int32))).toNatClampNeg)) ((xs ((x3 + (6 : Int32))).toNatClampNeg)) _ h) my_X9_range m_L_81 rfl cl_9 (ge_bW9_0 _) rfl (Nat.le_of_ble_eq_true rfl) (Nat.le_of_ble_eq_true rfl) (su_bW8_9_68_bW9 S91) rfl (st := []) (Nat.le_of_ble_eq_true rfl) (bf_dk dd_L_law 454 rfl) rfl (fun _ => rfl) (w2 := fun u93 => bW8_9 (S91.1, u93)) (pt_bW8_9_68_bW9 S91) (fun r92 u93 h => ?_)
        refine bs_nameS bW8_9 (fun S94 eS94 => ?_)
        replace h := h S94 eS94
        refine bs_pop C (bf_dk dd_L_law 455 rfl) rfl ?_
        refine bs_goto C (bf_dk dd_L_law 456 rfl) (tgt := 1745) rfl ?_
        exact bs_weak (bf_s1 (bf_s1 (bf_s1 (bf_s1 bf_s0)))) (t_L_law_1745 C hR hG hX hW S94 (x3) Q B18 hB18 h)
      · replace h := h.2.2.2.2.2.2.2.2.2.2.2.2.2.2.2.2.1 (bf_i32 c (by decide))
        refine bs_aload_n C (bf_dk dd_L_law 457 rfl) rfl ?_
        refine bs_aload_n C (bf_dk dd_L_law 458 rfl) rfl ?_
        refine bs_iload_n C (bf_dk dd_L_law 459 rfl) rfl ?_
        refine bs_iconst C (bf_dk dd_L_law 460 rfl) (1 : Int32) (by decide) ?_
        refine bs_iadd C (bf_dk dd_L_law 461 rfl) ?_
        obtain ⟨hi, h⟩ := h
        refine bs_sld C hX hW (bf_dk dd_L_law 462 rfl) hi ?_
        refine bs_aload_n C (bf_dk dd_L_law 463 rfl) rfl ?_
        refine bs_iload_n C (bf_dk dd_L_law 464 rfl) rfl ?_
        refine bs_iconst C (bf_dk dd_L_law 465 rfl) (2 : Int32) (by decide) ?_
        refine bs_iadd C (bf_dk dd_L_law 466 rfl) ?_
        obtain ⟨hi, h⟩ := h
        refine bs_sld C hX hW (bf_dk dd_L_law 467 rfl) hi ?_
        refine bs_aload_n C (bf_dk dd_L_law 468 rfl) rfl ?_
        refine bs_iload_n C (bf_dk dd_L_law 469 rfl) rfl ?_
        refine bs_iconst C (bf_dk dd_L_law 470 rfl) (3 : Int32) (by decide) ?_
        refine bs_iadd C (bf_dk dd_L_law 471 rfl) ?_
        obtain ⟨hi, h⟩ := h
        refine bs_sld C hX hW (bf_dk dd_L_law 472 rfl) hi ?_
        refine bs_aload_n C (bf_dk dd_L_law 473 rfl) rfl ?_
        refine bs_iload_n C (bf_dk dd_L_law 474 rfl) rfl ?_
        refine bs_iconst C (bf_dk dd_L_law 475 rfl) (4 : Int32) (by decide) ?_
        refine bs_iadd C (bf_dk dd_L_law 476 rfl) ?_
        obtain ⟨hi, h⟩ := h
        refine bs_sld C hX hW (bf_dk dd_L_law 477 rfl) hi ?_
        refine bs_aload_n C (bf_dk dd_L_law 478 rfl) rfl ?_
        refine bs_iload_n C (bf_dk dd_L_law 479 rfl) rfl ?_
        refine bs_iconst C (bf_dk dd_L_law 480 rfl) (5 : Int32) (by decide) ?_
        refine bs_iadd C (bf_dk dd_L_law 481 rfl) ?_
        obtain ⟨hi, h⟩ := h
        refine bs_sld C hX hW (bf_dk dd_L_law 482 rfl) hi ?_
        refine bs_aload_n C (bf_dk dd_L_law 483 rfl) rfl ?_
        refine bs_iload_n C (bf_dk dd_L_law 484 rfl) rfl ?_
        refine bs_bipush C (bf_dk dd_L_law 485 rfl) (6 : Int32) (by decide) ?_
        refine bs_iadd C (bf_dk dd_L_law 486 rfl) ?_
        obtain ⟨hi, h⟩ := h
        refine bs_sld C hX hW (bf_dk dd_L_law 487 rfl) hi ?_
        refine bs_pureV_i (ps := [0, 1, 2, 3, 4, 5, 6, 7, 8, 9, 10, 11, 12, 13, 14, 15, 16, 17, 18, 19, 20, 21, 22, 23, 24, 25, 26, 27, 28, 29, 30, 31, 32, 33, 34, 35, 36, 37, 38, 39, 40, 41, 42, 43, 44, 45, 46, 47, 48, 49, 50, 51, 52, 53, 54, 55, 56, 57, 58, 59, 60, 61, 62, 63, 64, 65, 66, 67]) (w := (bW8_9 S)) C hR (c_X8_meets _ _ _ _ _ S.1 ((xs ((x3 + (1 : Int32))).toNatClampNeg)) ((xs ((x3 + (2 : Int32))).toNatClampNeg)) ((xs ((x3 + (3 : Int32))).toNatClampNeg)) ((xs ((x3 + (4 : Int32))).toNatClampNeg)) ((xs ((x3 + (5 : Int32))).toNatClampNeg)) ((xs ((x3 + (6 : Int32))).toNatClampNeg)) _ h) my_X8_meets m_L_82 rfl cl_8 (ge_bW8_0 _) rfl (Nat.le_of_ble_eq_true rfl) (Nat.le_of_ble_eq_true rfl) (su_bW8_9_0_bW8 S) rfl (st := []) (Nat.le_of_ble_eq_true rfl) (bf_dk dd_L_law 488 rfl) rfl (fun _ => rfl) (fun r95 h => ?_)
        refine bs_pop C (bf_dk dd_L_law 489 rfl) rfl ?_
        refine bs_aload_n C (bf_dk dd_L_law 490 rfl) rfl ?_
        refine bs_aload_n C (bf_dk dd_L_law 491 rfl) rfl ?_
        refine bs_iload_n C (bf_dk dd_L_law 492 rfl) rfl ?_
        refine bs_iconst C (bf_dk dd_L_law 493 rfl) (1 : Int32) (by decide) ?_
        refine bs_iadd C (bf_dk dd_L_law 494 rfl) ?_
        obtain ⟨hi, h⟩ := h
        refine bs_sld C hX hW (bf_dk dd_L_law 495 rfl) hi ?_
        refine bs_aload_n C (bf_dk dd_L_law 496 rfl) rfl ?_
        refine bs_iload_n C (bf_dk dd_L_law 497 rfl) rfl ?_
        refine bs_iconst C (bf_dk dd_L_law 498 rfl) (2 : Int32) (by decide) ?_
        refine bs_iadd C (bf_dk dd_L_law 499 rfl) ?_
        obtain ⟨hi, h⟩ := h
        refine bs_sld C hX hW (bf_dk dd_L_law 500 rfl) hi ?_
        refine bs_aload_n C (bf_dk dd_L_law 501 rfl) rfl ?_
        refine bs_iload_n C (bf_dk dd_L_law 502 rfl) rfl ?_
        refine bs_iconst C (bf_dk dd_L_law 503 rfl) (3 : Int32) (by decide) ?_
        refine bs_iadd C (bf_dk dd_L_law 504 rfl) ?_
        obtain ⟨hi, h⟩ := h
        refine bs_sld C hX hW (bf_dk dd_L_law 505 rfl) hi ?_
        refine bs_aload_n C (bf_dk dd_L_law 506 rfl) rfl ?_
        refine bs_iload_n C (bf_dk dd_L_law 507 rfl) rfl ?_
        refine bs_iconst C (bf_dk dd_L_law 508 rfl) (4 : Int32) (by decide) ?_
        refine bs_iadd C (bf_dk dd_L_law 509 rfl) ?_
        obtain ⟨hi, h⟩ := h
        refine bs_sld C hX hW (bf_dk dd_L_law 510 rfl) hi ?_
        refine bs_aload_n C (bf_dk dd_L_law 511 rfl) rfl ?_
        refine bs_iload_n C (bf_dk dd_L_law 512 rfl) rfl ?_
        refine bs_iconst C (bf_dk dd_L_law 513 rfl) (5 : Int32) (by decide) ?_
        refine bs_iadd C (bf_dk dd_L_law 514 rfl) ?_
        obtain ⟨hi, h⟩ := h
        refine bs_sld C hX hW (bf_dk dd_L_law 515 rfl) hi ?_
        refine bs_aload_n C (bf_dk dd_L_law 516 rfl) rfl ?_
        refine bs_iload_n C (bf_dk dd_L_law 517 rfl) rfl ?_
        refine bs_bipush C (bf_dk dd_L_law 518 rfl) (6 : Int32) (by decide) ?_
        refine bs_iadd C (bf_dk dd_L_law 519 rfl) ?_
        obtain ⟨hi, h⟩ := h
        refine bs_sld C hX hW (bf_dk dd_L_law 520 rfl) hi ?_
        refine bs_callV_i (ps := [68, 69, 70, 71, 72, 73, 74, 75, 76, 77, 78, 79, 80, 81, 82, 83, 84, 85, 86, 87, 88]) (w := (bW8_9 S)) C hR (c_X9_meets _ _ _ _ _ S.2 ((xs ((x3 + (1 : Int32))).toNatClampNeg)) ((xs ((x3 + (2 : Int32))).toNatClampNeg)) ((xs ((x3 + (3 : Int32))).toNatClampNeg)) ((xs ((x3 + (4 : Int32))).toNatClampNeg)) ((xs ((x3 + (5 : Int32))).toNatClampNeg)) ((xs ((x3 + (6 : Int32))).toNatClampNeg)) _ h) my_X9_meets m_L_85 rfl cl_9 (ge_bW9_0 _) rfl (Nat.le_of_ble_eq_true rfl) (Nat.le_of_ble_eq_true rfl) (su_bW8_9_68_bW9 S) rfl (st := []) (Nat.le_of_ble_eq_true rfl) (bf_dk dd_L_law 521 rfl) rfl (fun _ => rfl) (w2 := fun u98 => bW8_9 (S.1, u98)) (pt_bW8_9_68_bW9 S) (fun r97 u98 h => ?_)
        refine bs_nameS bW8_9 (fun S99 eS99 => ?_)
        replace h := h S99 eS99
        refine bs_pop C (bf_dk dd_L_law 522 rfl) rfl ?_
        refine bs_goto C (bf_dk dd_L_law 523 rfl) (tgt := 1745) rfl ?_
        exact bs_weak (bf_s1 (bf_s1 (bf_s1 (bf_s1 bf_s0)))) (t_L_law_1745 C hR hG hX hW S99 (x3) Q B18 hB18 h)
      · replace h := h.2.2.2.2.2.2.2.2.2.2.2.2.2.2.2.2.2.1 (bf_i32 c (by decide))
        refine bs_aload_n C (bf_dk dd_L_law 524 rfl) rfl ?_
        refine bs_aload_n C (bf_dk dd_L_law 525 rfl) rfl ?_
        refine bs_iload_n C (bf_dk dd_L_law 526 rfl) rfl ?_
        refine bs_iconst C (bf_dk dd_L_law 527 rfl) (1 : Int32) (by decide) ?_
        refine bs_iadd C (bf_dk dd_L_law 528 rfl) ?_
        obtain ⟨hi, h⟩ := h
        refine bs_sld C hX hW (bf_dk dd_L_law 529 rfl) hi ?_
        refine bs_aload_n C (bf_dk dd_L_law 530 rfl) rfl ?_
        refine bs_iload_n C (bf_dk dd_L_law 531 rfl) rfl ?_
        refine bs_iconst C (bf_dk dd_L_law 532 rfl) (2 : Int32) (by decide) ?_
        refine bs_iadd C (bf_dk dd_L_law 533 rfl) ?_
        obtain ⟨hi, h⟩ := h
        refine bs_sld C hX hW (bf_dk dd_L_law 534 rfl) hi ?_
        refine bs_aload_n C (bf_dk dd_L_law 535 rfl) rfl ?_
        refine bs_iload_n C (bf_dk dd_L_law 536 rfl) rfl ?_
        refine bs_iconst C (bf_dk dd_L_law 537 rfl) (3 : Int32) (by decide) ?_
        refine bs_iadd C (bf_dk dd_L_law 538 rfl) ?_
        obtain ⟨hi, h⟩ := h
        refine bs_sld C hX hW (bf_dk dd_L_law 539 rfl) hi ?_
        refine bs_aload_n C (bf_dk dd_L_law 540 rfl) rfl ?_
        refine bs_iload_n C (bf_dk dd_L_law 541 rfl) rfl ?_
        refine bs_iconst C (bf_dk dd_L_law 542 rfl) (4 : Int32) (by decide) ?_
        refine bs_iadd C (bf_dk dd_L_law 543 rfl) ?_
        obtain ⟨hi, h⟩ := h
        refine bs_sld C hX hW (bf_dk dd_L_law 544 rfl) hi ?_
        refine bs_aload_n C (bf_dk dd_L_law 545 rfl) rfl ?_
        refine bs_iload_n C (bf_dk dd_L_law 546 rfl) rfl ?_
        refine bs_iconst C (bf_dk dd_L_law 547 rfl) (5 : Int32) (by decide) ?_
        refine bs_iadd C (bf_dk dd_L_law 548 rfl) ?_
        obtain ⟨hi, h⟩ := h
        refine bs_sld C hX hW (bf_dk dd_L_law 549 rfl) hi ?_
        refine bs_aload_n C (bf_dk dd_L_law 550 rfl) rfl ?_
        refine bs_iload_n C (bf_dk dd_L_law 551 rfl) rfl ?_
        refine bs_bipush C (bf_dk dd_L_law 552 rfl) (6 : Int32) (by decide) ?_
        refine bs_iadd C (bf_dk dd_L_law 553 rfl) ?_
        obtain ⟨hi, h⟩ := h
        refine bs_sld C hX hW (bf_dk dd_L_law 554 rfl) hi ?_
        refine bs_pureV_i (ps := [0, 1, 2, 3, 4, 5, 6, 7, 8, 9, 10, 11, 12, 13, 14, 15, 16, 17, 18, 19, 20, 21, 22, 23, 24, 25, 26, 27, 28, 29, 30, 31, 32, 33, 34, 35, 36, 37, 38, 39, 40, 41, 42, 43, 44, 45, 46, 47, 48, 49, 50, 51, 52, 53, 54, 55, 56, 57, 58, 59, 60, 61, 62, 63, 64, 65, 66, 67]) (w := (bW8_9 S)) C hR (c_X8_holds _ _ _ _ _ S.1 ((xs ((x3 + (1 : Int32))).toNatClampNeg)) ((xs ((x3 + (2 : Int32))).toNatClampNeg)) ((xs ((x3 + (3 : Int32))).toNatClampNeg)) ((xs ((x3 + (4 : Int32))).toNatClampNeg)) ((xs ((x3 + (5 : Int32))).toNatClampNeg)) ((xs ((x3 + (6 : Int32))).toNatClampNeg)) _ h) my_X8_holds m_L_86 rfl cl_8 (ge_bW8_0 _) rfl (Nat.le_of_ble_eq_true rfl) (Nat.le_of_ble_eq_true rfl) (su_bW8_9_0_bW8 S) rfl (st := []) (Nat.le_of_ble_eq_true rfl) (bf_dk dd_L_law 555 rfl) rfl (fun _ => rfl) (fun r100 h => ?_)
        refine bs_pop C (bf_dk dd_L_law 556 rfl) rfl ?_
        refine bs_aload_n C (bf_dk dd_L_law 557 rfl) rfl ?_
        refine bs_aload_n C (bf_dk dd_L_law 558 rfl) rfl ?_
        refine bs_iload_n C (bf_dk dd_L_law 559 rfl) rfl ?_
        refine bs_iconst C (bf_dk dd_L_law 560 rfl) (1 : Int32) (by decide) ?_
        refine bs_iadd C (bf_dk dd_L_law 561 rfl) ?_
        obtain ⟨hi, h⟩ := h
        refine bs_sld C hX hW (bf_dk dd_L_law 562 rfl) hi ?_
        refine bs_aload_n C (bf_dk dd_L_law 563 rfl) rfl ?_
        refine bs_iload_n C (bf_dk dd_L_law 564 rfl) rfl ?_
        refine bs_iconst C (bf_dk dd_L_law 565 rfl) (2 : Int32) (by decide) ?_
        refine bs_iadd C (bf_dk dd_L_law 566 rfl) ?_
        obtain ⟨hi, h⟩ := h
        refine bs_sld C hX hW (bf_dk dd_L_law 567 rfl) hi ?_
        refine bs_aload_n C (bf_dk dd_L_law 568 rfl) rfl ?_
        refine bs_iload_n C (bf_dk dd_L_law 569 rfl) rfl ?_
        refine bs_iconst C (bf_dk dd_L_law 570 rfl) (3 : Int32) (by decide) ?_
        refine bs_iadd C (bf_dk dd_L_law 571 rfl) ?_
        obtain ⟨hi, h⟩ := h
        refine bs_sld C hX hW (bf_dk dd_L_law 572 rfl) hi ?_
        refine bs_aload_n C (bf_dk dd_L_law 573 rfl) rfl ?_
        refine bs_iload_n C (bf_dk dd_L_law 574 rfl) rfl ?_
        refine bs_iconst C (bf_dk dd_L_law 575 rfl) (4 : Int32) (by decide) ?_
        refine bs_iadd C (bf_dk dd_L_law 576 rfl) ?_
        obtain ⟨hi, h⟩ := h
        refine bs_sld C hX hW (bf_dk dd_L_law 577 rfl) hi ?_
        refine bs_aload_n C (bf_dk dd_L_law 578 rfl) rfl ?_
        refine bs_iload_n C (bf_dk dd_L_law 579 rfl) rfl ?_
        refine bs_iconst C (bf_dk dd_L_law 580 rfl) (5 : Int32) (by decide) ?_
        refine bs_iadd C (bf_dk dd_L_law 581 rfl) ?_
        obtain ⟨hi, h⟩ := h
        refine bs_sld C hX hW (bf_dk dd_L_law 582 rfl) hi ?_
        refine bs_aload_n C (bf_dk dd_L_law 583 rfl) rfl ?_
        refine bs_iload_n C (bf_dk dd_L_law 584 rfl) rfl ?_
        refine bs_bipush C (bf_dk dd_L_law 585 rfl) (6 : Int32) (by decide) ?_
        refine bs_iadd C (bf_dk dd_L_law 586 rfl) ?_
        obtain ⟨hi, h⟩ := h
        refine bs_sld C hX hW (bf_dk dd_L_law 587 rfl) hi ?_
        refine bs_callV_i (ps := [68, 69, 70, 71, 72, 73, 74, 75, 76, 77, 78, 79, 80, 81, 82, 83, 84, 85, 86, 87, 88]) (w := (bW8_9 S)) C hR (c_X9_holds _ _ _ _ _ S.2 ((xs ((x3 + (1 : Int32))).toNatClampNeg)) ((xs ((x3 + (2 : Int32))).toNatClampNeg)) ((xs ((x3 + (3 : Int32))).toNatClampNeg)) ((xs ((x3 + (4 : Int32))).toNatClampNeg)) ((xs ((x3 + (5 : Int32))).toNatClampNeg)) ((xs ((x3 + (6 : Int32))).toNatClampNeg)) _ h) my_X9_holds m_L_89 rfl cl_9 (ge_bW9_0 _) rfl (Nat.le_of_ble_eq_true rfl) (Nat.le_of_ble_eq_true rfl) (su_bW8_9_68_bW9 S) rfl (st := []) (Nat.le_of_ble_eq_true rfl) (bf_dk dd_L_law 588 rfl) rfl (fun _ => rfl) (w2 := fun u103 => bW8_9 (S.1, u103)) (pt_bW8_9_68_bW9 S) (fun r102 u103 h => ?_)
        refine bs_nameS bW8_9 (fun S104 eS104 => ?_)
        replace h := h S104 eS104
        refine bs_pop C (bf_dk dd_L_law 589 rfl) rfl ?_
        refine bs_goto C (bf_dk dd_L_law 590 rfl) (tgt := 1745) rfl ?_
        exact bs_weak (bf_s1 (bf_s1 (bf_s1 (bf_s1 bf_s0)))) (t_L_law_1745 C hR hG hX hW S104 (x3) Q B18 hB18 h)
      · replace h := h.2.2.2.2.2.2.2.2.2.2.2.2.2.2.2.2.2.2.1 (bf_i32 c (by decide))
        refine bs_aload_n C (bf_dk dd_L_law 591 rfl) rfl ?_
        refine bs_aload_n C (bf_dk dd_L_law 592 rfl) rfl ?_
        refine bs_iload_n C (bf_dk dd_L_law 593 rfl) rfl ?_
        refine bs_iconst C (bf_dk dd_L_law 594 rfl) (1 : Int32) (by decide) ?_
        refine bs_iadd C (bf_dk dd_L_law 595 rfl) ?_
        obtain ⟨hi, h⟩ := h
        refine bs_sld C hX hW (bf_dk dd_L_law 596 rfl) hi ?_
        refine bs_aload_n C (bf_dk dd_L_law 597 rfl) rfl ?_
        refine bs_iload_n C (bf_dk dd_L_law 598 rfl) rfl ?_
        refine bs_iconst C (bf_dk dd_L_law 599 rfl) (2 : Int32) (by decide) ?_
        refine bs_iadd C (bf_dk dd_L_law 600 rfl) ?_
        obtain ⟨hi, h⟩ := h
        refine bs_sld C hX hW (bf_dk dd_L_law 601 rfl) hi ?_
        refine bs_aload_n C (bf_dk dd_L_law 602 rfl) rfl ?_
        refine bs_iload_n C (bf_dk dd_L_law 603 rfl) rfl ?_
        refine bs_iconst C (bf_dk dd_L_law 604 rfl) (3 : Int32) (by decide) ?_
        refine bs_iadd C (bf_dk dd_L_law 605 rfl) ?_
        obtain ⟨hi, h⟩ := h
        refine bs_sld C hX hW (bf_dk dd_L_law 606 rfl) hi ?_
        refine bs_pureV_i (ps := [0, 1, 2, 3, 4, 5, 6, 7, 8, 9, 10, 11, 12, 13, 14, 15, 16, 17, 18, 19, 20, 21, 22, 23, 24, 25, 26, 27, 28, 29, 30, 31, 32, 33, 34, 35, 36, 37, 38, 39, 40, 41, 42, 43, 44, 45, 46, 47, 48, 49, 50, 51, 52, 53, 54, 55, 56, 57, 58, 59, 60, 61, 62, 63, 64, 65, 66, 67]) (w := (bW8_9 S)) C hR (c_X8_seek _ _ _ _ _ S.1 ((xs ((x3 + (1 : Int32))).toNatClampNeg)) ((xs ((x3 + (2 : Int32))).toNatClampNeg)) ((xs ((x3 + (3 : Int32))).toNatClampNeg)) _ h) my_X8_seek m_L_90 rfl cl_8 (ge_bW8_0 _) rfl (Nat.le_of_ble_eq_true rfl) (Nat.le_of_ble_eq_true rfl) (su_bW8_9_0_bW8 S) rfl (st := []) (Nat.le_of_ble_eq_true rfl) (bf_dk dd_L_law 607 rfl) rfl (fun _ => rfl) (fun r105 h => ?_)
        refine bs_pop C (bf_dk dd_L_law 608 rfl) rfl ?_
        refine bs_aload_n C (bf_dk dd_L_law 609 rfl) rfl ?_
        refine bs_aload_n C (bf_dk dd_L_law 610 rfl) rfl ?_
        refine bs_iload_n C (bf_dk dd_L_law 611 rfl) rfl ?_
        refine bs_iconst C (bf_dk dd_L_law 612 rfl) (1 : Int32) (by decide) ?_
        refine bs_iadd C (bf_dk dd_L_law 613 rfl) ?_
        obtain ⟨hi, h⟩ := h
        refine bs_sld C hX hW (bf_dk dd_L_law 614 rfl) hi ?_
        refine bs_aload_n C (bf_dk dd_L_law 615 rfl) rfl ?_
        refine bs_iload_n C (bf_dk dd_L_law 616 rfl) rfl ?_
        refine bs_iconst C (bf_dk dd_L_law 617 rfl) (2 : Int32) (by decide) ?_
        refine bs_iadd C (bf_dk dd_L_law 618 rfl) ?_
        obtain ⟨hi, h⟩ := h
        refine bs_sld C hX hW (bf_dk dd_L_law 619 rfl) hi ?_
        refine bs_aload_n C (bf_dk dd_L_law 620 rfl) rfl ?_
        refine bs_iload_n C (bf_dk dd_L_law 621 rfl) rfl ?_
        refine bs_iconst C (bf_dk dd_L_law 622 rfl) (3 : Int32) (by decide) ?_
        refine bs_iadd C (bf_dk dd_L_law 623 rfl) ?_
        obtain ⟨hi, h⟩ := h
        refine bs_sld C hX hW (bf_dk dd_L_law 624 rfl) hi ?_
        refine bs_callV_i (ps := [68, 69, 70, 71, 72, 73, 74, 75, 76, 77, 78, 79, 80, 81, 82, 83, 84, 85, 86, 87, 88]) (w := (bW8_9 S)) C hR (c_X9_seek _ _ _ _ _ S.2 ((xs ((x3 + (1 : Int32))).toNatClampNeg)) ((xs ((x3 + (2 : Int32))).toNatClampNeg)) ((xs ((x3 + (3 : Int32))).toNatClampNeg)) _ h) my_X9_seek m_L_93 rfl cl_9 (ge_bW9_0 _) rfl (Nat.le_of_ble_eq_true rfl) (Nat.le_of_ble_eq_true rfl) (su_bW8_9_68_bW9 S) rfl (st := []) (Nat.le_of_ble_eq_true rfl) (bf_dk dd_L_law 625 rfl) rfl (fun _ => rfl) (w2 := fun u108 => bW8_9 (S.1, u108)) (pt_bW8_9_68_bW9 S) (fun r107 u108 h => ?_)
        refine bs_nameS bW8_9 (fun S109 eS109 => ?_)
        replace h := h S109 eS109
        refine bs_pop C (bf_dk dd_L_law 626 rfl) rfl ?_
        refine bs_goto C (bf_dk dd_L_law 627 rfl) (tgt := 1745) rfl ?_
        exact bs_weak (bf_s1 (bf_s1 (bf_s1 (bf_s1 bf_s0)))) (t_L_law_1745 C hR hG hX hW S109 (x3) Q B18 hB18 h)
      · replace h := h.2.2.2.2.2.2.2.2.2.2.2.2.2.2.2.2.2.2.2.1 (bf_i32 c (by decide))
        refine bs_aload_n C (bf_dk dd_L_law 628 rfl) rfl ?_
        refine bs_aload_n C (bf_dk dd_L_law 629 rfl) rfl ?_
        refine bs_iload_n C (bf_dk dd_L_law 630 rfl) rfl ?_
        refine bs_iconst C (bf_dk dd_L_law 631 rfl) (1 : Int32) (by decide) ?_
        refine bs_iadd C (bf_dk dd_L_law 632 rfl) ?_
        obtain ⟨hi, h⟩ := h
        refine bs_sld C hX hW (bf_dk dd_L_law 633 rfl) hi ?_
        refine bs_aload_n C (bf_dk dd_L_law 634 rfl) rfl ?_
        refine bs_iload_n C (bf_dk dd_L_law 635 rfl) rfl ?_
        refine bs_iconst C (bf_dk dd_L_law 636 rfl) (2 : Int32) (by decide) ?_
        refine bs_iadd C (bf_dk dd_L_law 637 rfl) ?_
        obtain ⟨hi, h⟩ := h
        refine bs_sld C hX hW (bf_dk dd_L_law 638 rfl) hi ?_
        refine bs_aload_n C (bf_dk dd_L_law 639 rfl) rfl ?_
        refine bs_iload_n C (bf_dk dd_L_law 640 rfl) rfl ?_
        refine bs_iconst C (bf_dk dd_L_law 641 rfl) (3 : Int32) (by decide) ?_
        refine bs_iadd C (bf_dk dd_L_law 642 rfl) ?_
        obtain ⟨hi, h⟩ := h
        refine bs_sld C hX hW (bf_dk dd_L_law 643 rfl) hi ?_
        refine bs_pureV_i (ps := [0, 1, 2, 3, 4, 5, 6, 7, 8, 9, 10, 11, 12, 13, 14, 15, 16, 17, 18, 19, 20, 21, 22, 23, 24, 25, 26, 27, 28, 29, 30, 31, 32, 33, 34, 35, 36, 37, 38, 39, 40, 41, 42, 43, 44, 45, 46, 47, 48, 49, 50, 51, 52, 53, 54, 55, 56, 57, 58, 59, 60, 61, 62, 63, 64, 65, 66, 67]) (w := (bW8_9 S)) C hR (c_X8_seekBack _ _ _ _ _ S.1 ((xs ((x3 + (1 : Int32))).toNatClampNeg)) ((xs ((x3 + (2 : Int32))).toNatClampNeg)) ((xs ((x3 + (3 : Int32))).toNatClampNeg)) _ h) my_X8_seekBack m_L_94 rfl cl_8 (ge_bW8_0 _) rfl (Nat.le_of_ble_eq_true rfl) (Nat.le_of_ble_eq_true rfl) (su_bW8_9_0_bW8 S) rfl (st := []) (Nat.le_of_ble_eq_true rfl) (bf_dk dd_L_law 644 rfl) rfl (fun _ => rfl) (fun r110 h => ?_)
        refine bs_pop C (bf_dk dd_L_law 645 rfl) rfl ?_
        refine bs_aload_n C (bf_dk dd_L_law 646 rfl) rfl ?_
        refine bs_aload_n C (bf_dk dd_L_law 647 rfl) rfl ?_
        refine bs_iload_n C (bf_dk dd_L_law 648 rfl) rfl ?_
        refine bs_iconst C (bf_dk dd_L_law 649 rfl) (1 : Int32) (by decide) ?_
        refine bs_iadd C (bf_dk dd_L_law 650 rfl) ?_
        obtain ⟨hi, h⟩ := h
        refine bs_sld C hX hW (bf_dk dd_L_law 651 rfl) hi ?_
        refine bs_aload_n C (bf_dk dd_L_law 652 rfl) rfl ?_
        refine bs_iload_n C (bf_dk dd_L_law 653 rfl) rfl ?_
        refine bs_iconst C (bf_dk dd_L_law 654 rfl) (2 : Int32) (by decide) ?_
        refine bs_iadd C (bf_dk dd_L_law 655 rfl) ?_
        obtain ⟨hi, h⟩ := h
        refine bs_sld C hX hW (bf_dk dd_L_law 656 rfl) hi ?_
        refine bs_aload_n C (bf_dk dd_L_law 657 rfl) rfl ?_
        refine bs_iload_n C (bf_dk dd_L_law 658 rfl) rfl ?_
        refine bs_iconst C (bf_dk dd_L_law 659 rfl) (3 : Int32) (by decide) ?_
        refine bs_iadd C (bf_dk dd_L_law 660 rfl) ?_
        obtain ⟨hi, h⟩ := h
        refine bs_sld C hX hW (bf_dk dd_L_law 661 rfl) hi ?_
        refine bs_callV_i (ps := [68, 69, 70, 71, 72, 73, 74, 75, 76, 77, 78, 79, 80, 81, 82, 83, 84, 85, 86, 87, 88]) (w := (bW8_9 S)) C hR (c_X9_seekBack _ _ _ _ _ S.2 ((xs ((x3 + (1 : Int32))).toNatClampNeg)) ((xs ((x3 + (2 : Int32))).toNatClampNeg)) ((xs ((x3 + (3 : Int32))).toNatClampNeg)) _ h) my_X9_seekBack m_L_97 rfl cl_9 (ge_bW9_0 _) rfl (Nat.le_of_ble_eq_true rfl) (Nat.le_of_ble_eq_true rfl) (su_bW8_9_68_bW9 S) rfl (st := []) (Nat.le_of_ble_eq_true rfl) (bf_dk dd_L_law 662 rfl) rfl (fun _ => rfl) (w2 := fun u113 => bW8_9 (S.1, u113)) (pt_bW8_9_68_bW9 S) (fun r112 u113 h => ?_)
        refine bs_nameS bW8_9 (fun S114 eS114 => ?_)
        replace h := h S114 eS114
        refine bs_pop C (bf_dk dd_L_law 663 rfl) rfl ?_
        refine bs_goto C (bf_dk dd_L_law 664 rfl) (tgt := 1745) rfl ?_
        exact bs_weak (bf_s1 (bf_s1 (bf_s1 (bf_s1 bf_s0)))) (t_L_law_1745 C hR hG hX hW S114 (x3) Q B18 hB18 h)
      · replace h := h.2.2.2.2.2.2.2.2.2.2.2.2.2.2.2.2.2.2.2.2.1 (bf_i32 c (by decide))
        refine bs_aload_n C (bf_dk dd_L_law 665 rfl) rfl ?_
        refine bs_aload_n C (bf_dk dd_L_law 666 rfl) rfl ?_
        refine bs_iload_n C (bf_dk dd_L_law 667 rfl) rfl ?_
        refine bs_iconst C (bf_dk dd_L_law 668 rfl) (1 : Int32) (by decide) ?_
        refine bs_iadd C (bf_dk dd_L_law 669 rfl) ?_
        obtain ⟨hi, h⟩ := h
        refine bs_sld C hX hW (bf_dk dd_L_law 670 rfl) hi ?_
        refine bs_aload_n C (bf_dk dd_L_law 671 rfl) rfl ?_
        refine bs_iload_n C (bf_dk dd_L_law 672 rfl) rfl ?_
        refine bs_iconst C (bf_dk dd_L_law 673 rfl) (2 : Int32) (by decide) ?_
        refine bs_iadd C (bf_dk dd_L_law 674 rfl) ?_
        obtain ⟨hi, h⟩ := h
        refine bs_sld C hX hW (bf_dk dd_L_law 675 rfl) hi ?_
        refine bs_pureV_i (ps := [0, 1, 2, 3, 4, 5, 6, 7, 8, 9, 10, 11, 12, 13, 14, 15, 16, 17, 18, 19, 20, 21, 22, 23, 24, 25, 26, 27, 28, 29, 30, 31, 32, 33, 34, 35, 36, 37, 38, 39, 40, 41, 42, 43, 44, 45, 46, 47, 48, 49, 50, 51, 52, 53, 54, 55, 56, 57, 58, 59, 60, 61, 62, 63, 64, 65, 66, 67]) (w := (bW8_9 S)) C hR (c_X8_leaf _ _ _ _ _ S.1 ((xs ((x3 + (1 : Int32))).toNatClampNeg)) ((xs ((x3 + (2 : Int32))).toNatClampNeg)) _ h) my_X8_leaf m_L_98 rfl cl_8 (ge_bW8_0 _) rfl (Nat.le_of_ble_eq_true rfl) (Nat.le_of_ble_eq_true rfl) (su_bW8_9_0_bW8 S) rfl (st := []) (Nat.le_of_ble_eq_true rfl) (bf_dk dd_L_law 676 rfl) rfl (fun _ => rfl) (fun r115 h => ?_)
        refine bs_pop C (bf_dk dd_L_law 677 rfl) rfl ?_
        refine bs_aload_n C (bf_dk dd_L_law 678 rfl) rfl ?_
        refine bs_aload_n C (bf_dk dd_L_law 679 rfl) rfl ?_
        refine bs_iload_n C (bf_dk dd_L_law 680 rfl) rfl ?_
        refine bs_iconst C (bf_dk dd_L_law 681 rfl) (1 : Int32) (by decide) ?_
        refine bs_iadd C (bf_dk dd_L_law 682 rfl) ?_
        obtain ⟨hi, h⟩ := h
        refine bs_sld C hX hW (bf_dk dd_L_law 683 rfl) hi ?_
        refine bs_aload_n C (bf_dk dd_L_law 684 rfl) rfl ?_
        refine bs_iload_n C (bf_dk dd_L_law 685 rfl) rfl ?_
        refine bs_iconst C (bf_dk dd_L_law 686 rfl) (2 : Int32) (by decide) ?_
        refine bs_iadd C (bf_dk dd_L_law 687 rfl) ?_
        obtain ⟨hi, h⟩ := h
        refine bs_sld C hX hW (bf_dk dd_L_law 688 rfl) hi ?_
        refine bs_callV_i (ps := [68, 69, 70, 71, 72, 73, 74, 75, 76, 77, 78, 79, 80, 81, 82, 83, 84, 85, 86, 87, 88]) (w := (bW8_9 S)) C hR (c_X9_leaf _ _ _ _ _ S.2 ((xs ((x3 + (1 : Int32))).toNatClampNeg)) ((xs ((x3 + (2 : Int32))).toNatClampNeg)) _ h) my_X9_leaf m_L_101 rfl cl_9 (ge_bW9_0 _) rfl (Nat.le_of_ble_eq_true rfl) (Nat.le_of_ble_eq_true rfl) (su_bW8_9_68_bW9 S) rfl (st := []) (Nat.le_of_ble_eq_true rfl) (bf_dk dd_L_law 689 rfl) rfl (fun _ => rfl) (w2 := fun u118 => bW8_9 (S.1, u118)) (pt_bW8_9_68_bW9 S) (fun r117 u118 h => ?_)
        refine bs_nameS bW8_9 (fun S119 eS119 => ?_)
        replace h := h S119 eS119
        refine bs_pop C (bf_dk dd_L_law 690 rfl) rfl ?_
        refine bs_goto C (bf_dk dd_L_law 691 rfl) (tgt := 1745) rfl ?_
        exact bs_weak (bf_s1 (bf_s1 (bf_s1 (bf_s1 bf_s0)))) (t_L_law_1745 C hR hG hX hW S119 (x3) Q B18 hB18 h)
      · replace h := h.2.2.2.2.2.2.2.2.2.2.2.2.2.2.2.2.2.2.2.2.2.1 (bf_i32 c (by decide))
        refine bs_aload_n C (bf_dk dd_L_law 692 rfl) rfl ?_
        refine bs_aload_n C (bf_dk dd_L_law 693 rfl) rfl ?_
        refine bs_iload_n C (bf_dk dd_L_law 694 rfl) rfl ?_
        refine bs_iconst C (bf_dk dd_L_law 695 rfl) (1 : Int32) (by decide) ?_
        refine bs_iadd C (bf_dk dd_L_law 696 rfl) ?_
        obtain ⟨hi, h⟩ := h
        refine bs_sld C hX hW (bf_dk dd_L_law 697 rfl) hi ?_
        refine bs_pureV_i (ps := [0, 1, 2, 3, 4, 5, 6, 7, 8, 9, 10, 11, 12, 13, 14, 15, 16, 17, 18, 19, 20, 21, 22, 23, 24, 25, 26, 27, 28, 29, 30, 31, 32, 33, 34, 35, 36, 37, 38, 39, 40, 41, 42, 43, 44, 45, 46, 47, 48, 49, 50, 51, 52, 53, 54, 55, 56, 57, 58, 59, 60, 61, 62, 63, 64, 65, 66, 67]) (w := (bW8_9 S)) C hR (c_X8_leafAt _ _ _ _ _ S.1 ((xs ((x3 + (1 : Int32))).toNatClampNeg)) _ h) my_X8_leafAt m_L_102 rfl cl_8 (ge_bW8_0 _) rfl (Nat.le_of_ble_eq_true rfl) (Nat.le_of_ble_eq_true rfl) (su_bW8_9_0_bW8 S) rfl (st := []) (Nat.le_of_ble_eq_true rfl) (bf_dk dd_L_law 698 rfl) rfl (fun _ => rfl) (fun r120 h => ?_)
        refine bs_pop C (bf_dk dd_L_law 699 rfl) rfl ?_
        refine bs_aload_n C (bf_dk dd_L_law 700 rfl) rfl ?_
        refine bs_aload_n C (bf_dk dd_L_law 701 rfl) rfl ?_
        refine bs_iload_n C (bf_dk dd_L_law 702 rfl) rfl ?_
        refine bs_iconst C (bf_dk dd_L_law 703 rfl) (1 : Int32) (by decide) ?_
        refine bs_iadd C (bf_dk dd_L_law 704 rfl) ?_
        obtain ⟨hi, h⟩ := h
        refine bs_sld C hX hW (bf_dk dd_L_law 705 rfl) hi ?_
        refine bs_callV_i (ps := [68, 69, 70, 71, 72, 73, 74, 75, 76, 77, 78, 79, 80, 81, 82, 83, 84, 85, 86, 87, 88]) (w := (bW8_9 S)) C hR (c_X9_leafAt _ _ _ _ _ S.2 ((xs ((x3 + (1 : Int32))).toNatClampNeg)) _ h) my_X9_leafAt m_L_105 rfl cl_9 (ge_bW9_0 _) rfl (Nat.le_of_ble_eq_true rfl) (Nat.le_of_ble_eq_true rfl) (su_bW8_9_68_bW9 S) rfl (st := []) (Nat.le_of_ble_eq_true rfl) (bf_dk dd_L_law 706 rfl) rfl (fun _ => rfl) (w2 := fun u123 => bW8_9 (S.1, u123)) (pt_bW8_9_68_bW9 S) (fun r122 u123 h => ?_)
        refine bs_nameS bW8_9 (fun S124 eS124 => ?_)
        replace h := h S124 eS124
        refine bs_pop C (bf_dk dd_L_law 707 rfl) rfl ?_
        refine bs_goto C (bf_dk dd_L_law 708 rfl) (tgt := 1745) rfl ?_
        exact bs_weak (bf_s1 (bf_s1 (bf_s1 (bf_s1 bf_s0)))) (t_L_law_1745 C hR hG hX hW S124 (x3) Q B18 hB18 h)
      · replace h := h.2.2.2.2.2.2.2.2.2.2.2.2.2.2.2.2.2.2.2.2.2.2.1 (bf_i32 c (by decide))
        refine bs_aload_n C (bf_dk dd_L_law 709 rfl) rfl ?_
        refine bs_aload_n C (bf_dk dd_L_law 710 rfl) rfl ?_
        refine bs_iload_n C (bf_dk dd_L_law 711 rfl) rfl ?_
        refine bs_iconst C (bf_dk dd_L_law 712 rfl) (1 : Int32) (by decide) ?_
        refine bs_iadd C (bf_dk dd_L_law 713 rfl) ?_
        obtain ⟨hi, h⟩ := h
        refine bs_sld C hX hW (bf_dk dd_L_law 714 rfl) hi ?_
        refine bs_aload_n C (bf_dk dd_L_law 715 rfl) rfl ?_
        refine bs_iload_n C (bf_dk dd_L_law 716 rfl) rfl ?_
        refine bs_iconst C (bf_dk dd_L_law 717 rfl) (2 : Int32) (by decide) ?_
        refine bs_iadd C (bf_dk dd_L_law 718 rfl) ?_
        obtain ⟨hi, h⟩ := h
        refine bs_sld C hX hW (bf_dk dd_L_law 719 rfl) hi ?_
        refine bs_pureV_i (ps := [0, 1, 2, 3, 4, 5, 6, 7, 8, 9, 10, 11, 12, 13, 14, 15, 16, 17, 18, 19, 20, 21, 22, 23, 24, 25, 26, 27, 28, 29, 30, 31, 32, 33, 34, 35, 36, 37, 38, 39, 40, 41, 42, 43, 44, 45, 46, 47, 48, 49, 50, 51, 52, 53, 54, 55, 56, 57, 58, 59, 60, 61, 62, 63, 64, 65, 66, 67]) (w := (bW8_9 S)) C hR (c_X8_node _ _ _ _ _ S.1 ((xs ((x3 + (1 : Int32))).toNatClampNeg)) ((xs ((x3 + (2 : Int32))).toNatClampNeg)) _ h) my_X8_node m_L_106 rfl cl_8 (ge_bW8_0 _) rfl (Nat.le_of_ble_eq_true rfl) (Nat.le_of_ble_eq_true rfl) (su_bW8_9_0_bW8 S) rfl (st := []) (Nat.le_of_ble_eq_true rfl) (bf_dk dd_L_law 720 rfl) rfl (fun _ => rfl) (fun r125 h => ?_)
        refine bs_pop C (bf_dk dd_L_law 721 rfl) rfl ?_
        refine bs_aload_n C (bf_dk dd_L_law 722 rfl) rfl ?_
        refine bs_aload_n C (bf_dk dd_L_law 723 rfl) rfl ?_
        refine bs_iload_n C (bf_dk dd_L_law 724 rfl) rfl ?_
        refine bs_iconst C (bf_dk dd_L_law 725 rfl) (1 : Int32) (by decide) ?_
        refine bs_iadd C (bf_dk dd_L_law 726 rfl) ?_
        obtain ⟨hi, h⟩ := h
        refine bs_sld C hX hW (bf_dk dd_L_law 727 rfl) hi ?_
        refine bs_aload_n C (bf_dk dd_L_law 728 rfl) rfl ?_
        refine bs_iload_n C (bf_dk dd_L_law 729 rfl) rfl ?_
        refine bs_iconst C (bf_dk dd_L_law 730 rfl) (2 : Int32) (by decide) ?_
        refine bs_iadd C (bf_dk dd_L_law 731 rfl) ?_
        obtain ⟨hi, h⟩ := h
        refine bs_sld C hX hW (bf_dk dd_L_law 732 rfl) hi ?_
        refine bs_callV_i (ps := [68, 69, 70, 71, 72, 73, 74, 75, 76, 77, 78, 79, 80, 81, 82, 83, 84, 85, 86, 87, 88]) (w := (bW8_9 S)) C hR (c_X9_node _ _ _ _ _ S.2 ((xs ((x3 + (1 : Int32))).toNatClampNeg)) ((xs ((x3 + (2 : Int32))).toNatClampNeg)) _ h) my_X9_node m_L_109 rfl cl_9 (ge_bW9_0 _) rfl (Nat.le_of_ble_eq_true rfl) (Nat.le_of_ble_eq_true rfl) (su_bW8_9_68_bW9 S) rfl (st := []) (Nat.le_of_ble_eq_true rfl) (bf_dk dd_L_law 733 rfl) rfl (fun _ => rfl) (w2 := fun u128 => bW8_9 (S.1, u128)) (pt_bW8_9_68_bW9 S) (fun r127 u128 h => ?_)
        refine bs_nameS bW8_9 (fun S129 eS129 => ?_)
        replace h := h S129 eS129
        refine bs_pop C (bf_dk dd_L_law 734 rfl) rfl ?_
        refine bs_goto C (bf_dk dd_L_law 735 rfl) (tgt := 1745) rfl ?_
        exact bs_weak (bf_s1 (bf_s1 (bf_s1 (bf_s1 bf_s0)))) (t_L_law_1745 C hR hG hX hW S129 (x3) Q B18 hB18 h)
      · replace h := h.2.2.2.2.2.2.2.2.2.2.2.2.2.2.2.2.2.2.2.2.2.2.2.1 (bf_i32 c (by decide))
        refine bs_aload_n C (bf_dk dd_L_law 736 rfl) rfl ?_
        refine bs_aload_n C (bf_dk dd_L_law 737 rfl) rfl ?_
        refine bs_iload_n C (bf_dk dd_L_law 738 rfl) rfl ?_
        refine bs_iconst C (bf_dk dd_L_law 739 rfl) (1 : Int32) (by decide) ?_
        refine bs_iadd C (bf_dk dd_L_law 740 rfl) ?_
        obtain ⟨hi, h⟩ := h
        refine bs_sld C hX hW (bf_dk dd_L_law 741 rfl) hi ?_
        refine bs_aload_n C (bf_dk dd_L_law 742 rfl) rfl ?_
        refine bs_iload_n C (bf_dk dd_L_law 743 rfl) rfl ?_
        refine bs_iconst C (bf_dk dd_L_law 744 rfl) (2 : Int32) (by decide) ?_
        refine bs_iadd C (bf_dk dd_L_law 745 rfl) ?_
        obtain ⟨hi, h⟩ := h
        refine bs_sld C hX hW (bf_dk dd_L_law 746 rfl) hi ?_
        refine bs_pureV_i (ps := [0, 1, 2, 3, 4, 5, 6, 7, 8, 9, 10, 11, 12, 13, 14, 15, 16, 17, 18, 19, 20, 21, 22, 23, 24, 25, 26, 27, 28, 29, 30, 31, 32, 33, 34, 35, 36, 37, 38, 39, 40, 41, 42, 43, 44, 45, 46, 47, 48, 49, 50, 51, 52, 53, 54, 55, 56, 57, 58, 59, 60, 61, 62, 63, 64, 65, 66, 67]) (w := (bW8_9 S)) C hR (c_X8_child _ _ _ _ _ S.1 ((xs ((x3 + (1 : Int32))).toNatClampNeg)) ((xs ((x3 + (2 : Int32))).toNatClampNeg)) _ h) my_X8_child m_L_110 rfl cl_8 (ge_bW8_0 _) rfl (Nat.le_of_ble_eq_true rfl) (Nat.le_of_ble_eq_true rfl) (su_bW8_9_0_bW8 S) rfl (st := []) (Nat.le_of_ble_eq_true rfl) (bf_dk dd_L_law 747 rfl) rfl (fun _ => rfl) (fun r130 h => ?_)
        refine bs_pop C (bf_dk dd_L_law 748 rfl) rfl ?_
        refine bs_aload_n C (bf_dk dd_L_law 749 rfl) rfl ?_
        refine bs_aload_n C (bf_dk dd_L_law 750 rfl) rfl ?_
        refine bs_iload_n C (bf_dk dd_L_law 751 rfl) rfl ?_
        refine bs_iconst C (bf_dk dd_L_law 752 rfl) (1 : Int32) (by decide) ?_
        refine bs_iadd C (bf_dk dd_L_law 753 rfl) ?_
        obtain ⟨hi, h⟩ := h
        refine bs_sld C hX hW (bf_dk dd_L_law 754 rfl) hi ?_
        refine bs_aload_n C (bf_dk dd_L_law 755 rfl) rfl ?_
        refine bs_iload_n C (bf_dk dd_L_law 756 rfl) rfl ?_
        refine bs_iconst C (bf_dk dd_L_law 757 rfl) (2 : Int32) (by decide) ?_
        refine bs_iadd C (bf_dk dd_L_law 758 rfl) ?_
        obtain ⟨hi, h⟩ := h
        refine bs_sld C hX hW (bf_dk dd_L_law 759 rfl) hi ?_
        refine bs_callV_i (ps := [68, 69, 70, 71, 72, 73, 74, 75, 76, 77, 78, 79, 80, 81, 82, 83, 84, 85, 86, 87, 88]) (w := (bW8_9 S)) C hR (c_X9_child _ _ _ _ _ S.2 ((xs ((x3 + (1 : Int32))).toNatClampNeg)) ((xs ((x3 + (2 : Int32))).toNatClampNeg)) _ h) my_X9_child m_L_113 rfl cl_9 (ge_bW9_0 _) rfl (Nat.le_of_ble_eq_true rfl) (Nat.le_of_ble_eq_true rfl) (su_bW8_9_68_bW9 S) rfl (st := []) (Nat.le_of_ble_eq_true rfl) (bf_dk dd_L_law 760 rfl) rfl (fun _ => rfl) (w2 := fun u133 => bW8_9 (S.1, u133)) (pt_bW8_9_68_bW9 S) (fun r132 u133 h => ?_)
        refine bs_nameS bW8_9 (fun S134 eS134 => ?_)
        replace h := h S134 eS134
        refine bs_pop C (bf_dk dd_L_law 761 rfl) rfl ?_
        refine bs_goto C (bf_dk dd_L_law 762 rfl) (tgt := 1745) rfl ?_
        exact bs_weak (bf_s1 (bf_s1 (bf_s1 (bf_s1 bf_s0)))) (t_L_law_1745 C hR hG hX hW S134 (x3) Q B18 hB18 h)
      · replace h := h.2.2.2.2.2.2.2.2.2.2.2.2.2.2.2.2.2.2.2.2.2.2.2.2.1 (bf_i32 c (by decide))
        refine bs_aload_n C (bf_dk dd_L_law 763 rfl) rfl ?_
        refine bs_aload_n C (bf_dk dd_L_law 764 rfl) rfl ?_
        refine bs_iload_n C (bf_dk dd_L_law 765 rfl) rfl ?_
        refine bs_iconst C (bf_dk dd_L_law 766 rfl) (1 : Int32) (by decide) ?_
        refine bs_iadd C (bf_dk dd_L_law 767 rfl) ?_
        obtain ⟨hi, h⟩ := h
        refine bs_sld C hX hW (bf_dk dd_L_law 768 rfl) hi ?_
        refine bs_aload_n C (bf_dk dd_L_law 769 rfl) rfl ?_
        refine bs_iload_n C (bf_dk dd_L_law 770 rfl) rfl ?_
        refine bs_iconst C (bf_dk dd_L_law 771 rfl) (2 : Int32) (by decide) ?_
        refine bs_iadd C (bf_dk dd_L_law 772 rfl) ?_
        obtain ⟨hi, h⟩ := h
        refine bs_sld C hX hW (bf_dk dd_L_law 773 rfl) hi ?_
        refine bs_pureV_i (ps := [0, 1, 2, 3, 4, 5, 6, 7, 8, 9, 10, 11, 12, 13, 14, 15, 16, 17, 18, 19, 20, 21, 22, 23, 24, 25, 26, 27, 28, 29, 30, 31, 32, 33, 34, 35, 36, 37, 38, 39, 40, 41, 42, 43, 44, 45, 46, 47, 48, 49, 50, 51, 52, 53, 54, 55, 56, 57, 58, 59, 60, 61, 62, 63, 64, 65, 66, 67]) (w := (bW8_9 S)) C hR (c_X8_level _ _ _ _ _ S.1 ((xs ((x3 + (1 : Int32))).toNatClampNeg)) ((xs ((x3 + (2 : Int32))).toNatClampNeg)) _ h) my_X8_level m_L_114 rfl cl_8 (ge_bW8_0 _) rfl (Nat.le_of_ble_eq_true rfl) (Nat.le_of_ble_eq_true rfl) (su_bW8_9_0_bW8 S) rfl (st := []) (Nat.le_of_ble_eq_true rfl) (bf_dk dd_L_law 774 rfl) rfl (fun _ => rfl) (fun r135 h => ?_)
        refine bs_pop C (bf_dk dd_L_law 775 rfl) rfl ?_
        refine bs_aload_n C (bf_dk dd_L_law 776 rfl) rfl ?_
        refine bs_aload_n C (bf_dk dd_L_law 777 rfl) rfl ?_
        refine bs_iload_n C (bf_dk dd_L_law 778 rfl) rfl ?_
        refine bs_iconst C (bf_dk dd_L_law 779 rfl) (1 : Int32) (by decide) ?_
        refine bs_iadd C (bf_dk dd_L_law 780 rfl) ?_
        obtain ⟨hi, h⟩ := h
        refine bs_sld C hX hW (bf_dk dd_L_law 781 rfl) hi ?_
        refine bs_aload_n C (bf_dk dd_L_law 782 rfl) rfl ?_
        refine bs_iload_n C (bf_dk dd_L_law 783 rfl) rfl ?_
        refine bs_iconst C (bf_dk dd_L_law 784 rfl) (2 : Int32) (by decide) ?_
        refine bs_iadd C (bf_dk dd_L_law 785 rfl) ?_
        obtain ⟨hi, h⟩ := h
        refine bs_sld C hX hW (bf_dk dd_L_law 786 rfl) hi ?_
        refine bs_callV_i (ps := [68, 69, 70, 71, 72, 73, 74, 75, 76, 77, 78, 79, 80, 81, 82, 83, 84, 85, 86, 87, 88]) (w := (bW8_9 S)) C hR (c_X9_level _ _ _ _ _ S.2 ((xs ((x3 + (1 : Int32))).toNatClampNeg)) ((xs ((x3 + (2 : Int32))).toNatClampNeg)) _ h) my_X9_level m_L_117 rfl cl_9 (ge_bW9_0 _) rfl (Nat.le_of_ble_eq_true rfl) (Nat.le_of_ble_eq_true rfl) (su_bW8_9_68_bW9 S) rfl (st := []) (Nat.le_of_ble_eq_true rfl) (bf_dk dd_L_law 787 rfl) rfl (fun _ => rfl) (w2 := fun u138 => bW8_9 (S.1, u138)) (pt_bW8_9_68_bW9 S) (fun r137 u138 h => ?_)
        refine bs_nameS bW8_9 (fun S139 eS139 => ?_)
        replace h := h S139 eS139
        refine bs_pop C (bf_dk dd_L_law 788 rfl) rfl ?_
        refine bs_goto C (bf_dk dd_L_law 789 rfl) (tgt := 1745) rfl ?_
        exact bs_weak (bf_s1 (bf_s1 (bf_s1 (bf_s1 bf_s0)))) (t_L_law_1745 C hR hG hX hW S139 (x3) Q B18 hB18 h)
      · replace h := h.2.2.2.2.2.2.2.2.2.2.2.2.2.2.2.2.2.2.2.2.2.2.2.2.2.1 (bf_i32 c (by decide))
        refine bs_aload_n C (bf_dk dd_L_law 790 rfl) rfl ?_
        refine bs_aload_n C (bf_dk dd_L_law 791 rfl) rfl ?_
        refine bs_iload_n C (bf_dk dd_L_law 792 rfl) rfl ?_
        refine bs_iconst C (bf_dk dd_L_law 793 rfl) (1 : Int32) (by decide) ?_
        refine bs_iadd C (bf_dk dd_L_law 794 rfl) ?_
        obtain ⟨hi, h⟩ := h
        refine bs_sld C hX hW (bf_dk dd_L_law 795 rfl) hi ?_
        refine bs_aload_n C (bf_dk dd_L_law 796 rfl) rfl ?_
        refine bs_iload_n C (bf_dk dd_L_law 797 rfl) rfl ?_
        refine bs_iconst C (bf_dk dd_L_law 798 rfl) (2 : Int32) (by decide) ?_
        refine bs_iadd C (bf_dk dd_L_law 799 rfl) ?_
        obtain ⟨hi, h⟩ := h
        refine bs_sld C hX hW (bf_dk dd_L_law 800 rfl) hi ?_
        refine bs_pureV_i (ps := [0, 1, 2, 3, 4, 5, 6, 7, 8, 9, 10, 11, 12, 13, 14, 15, 16, 17, 18, 19, 20, 21, 22, 23, 24, 25, 26, 27, 28, 29, 30, 31, 32, 33, 34, 35, 36, 37, 38, 39, 40, 41, 42, 43, 44, 45, 46, 47, 48, 49, 50, 51, 52, 53, 54, 55, 56, 57, 58, 59, 60, 61, 62, 63, 64, 65, 66, 67]) (w := (bW8_9 S)) C hR (c_X8_item _ _ _ _ _ S.1 ((xs ((x3 + (1 : Int32))).toNatClampNeg)) ((xs ((x3 + (2 : Int32))).toNatClampNeg)) _ h) my_X8_item m_L_118 rfl cl_8 (ge_bW8_0 _) rfl (Nat.le_of_ble_eq_true rfl) (Nat.le_of_ble_eq_true rfl) (su_bW8_9_0_bW8 S) rfl (st := []) (Nat.le_of_ble_eq_true rfl) (bf_dk dd_L_law 801 rfl) rfl (fun _ => rfl) (fun r140 h => ?_)
        refine bs_pop C (bf_dk dd_L_law 802 rfl) rfl ?_
        refine bs_aload_n C (bf_dk dd_L_law 803 rfl) rfl ?_
        refine bs_aload_n C (bf_dk dd_L_law 804 rfl) rfl ?_
        refine bs_iload_n C (bf_dk dd_L_law 805 rfl) rfl ?_
        refine bs_iconst C (bf_dk dd_L_law 806 rfl) (1 : Int32) (by decide) ?_
        refine bs_iadd C (bf_dk dd_L_law 807 rfl) ?_
        obtain ⟨hi, h⟩ := h
        refine bs_sld C hX hW (bf_dk dd_L_law 808 rfl) hi ?_
        refine bs_aload_n C (bf_dk dd_L_law 809 rfl) rfl ?_
        refine bs_iload_n C (bf_dk dd_L_law 810 rfl) rfl ?_
        refine bs_iconst C (bf_dk dd_L_law 811 rfl) (2 : Int32) (by decide) ?_
        refine bs_iadd C (bf_dk dd_L_law 812 rfl) ?_
        obtain ⟨hi, h⟩ := h
        refine bs_sld C hX hW (bf_dk dd_L_law 813 rfl) hi ?_
        refine bs_callV_i (ps := [68, 69, 70, 71, 72, 73, 74, 75, 76, 77, 78, 79, 80, 81, 82, 83, 84, 85, 86, 87, 88]) (w := (bW8_9 S)) C hR (c_X9_item _ _ _ _ _ S.2 ((xs ((x3 + (1 : Int32))).toNatClampNeg)) ((xs ((x3 + (2 : Int32))).toNatClampNeg)) _ h) my_X9_item m_L_121 rfl cl_9 (ge_bW9_0 _) rfl (Nat.le_of_ble_eq_true rfl) (Nat.le_of_ble_eq_true rfl) (su_bW8_9_68_bW9 S) rfl (st := []) (Nat.le_of_ble_eq_true rfl) (bf_dk dd_L_law 814 rfl) rfl (fun _ => rfl) (w2 := fun u143 => bW8_9 (S.1, u143)) (pt_bW8_9_68_bW9 S) (fun r142 u143 h => ?_)
        refine bs_nameS bW8_9 (fun S144 eS144 => ?_)
        replace h := h S144 eS144
        refine bs_pop C (bf_dk dd_L_law 815 rfl) rfl ?_
        refine bs_goto C (bf_dk dd_L_law 816 rfl) (tgt := 1745) rfl ?_
        exact bs_weak (bf_s1 (bf_s1 (bf_s1 (bf_s1 bf_s0)))) (t_L_law_1745 C hR hG hX hW S144 (x3) Q B18 hB18 h)
      · replace h := h.2.2.2.2.2.2.2.2.2.2.2.2.2.2.2.2.2.2.2.2.2.2.2.2.2.2.1 (bf_i32 c (by decide))
        refine bs_aload_n C (bf_dk dd_L_law 817 rfl) rfl ?_
        refine bs_aload_n C (bf_dk dd_L_law 818 rfl) rfl ?_
        refine bs_iload_n C (bf_dk dd_L_law 819 rfl) rfl ?_
        refine bs_iconst C (bf_dk dd_L_law 820 rfl) (1 : Int32) (by decide) ?_
        refine bs_iadd C (bf_dk dd_L_law 821 rfl) ?_
        obtain ⟨hi, h⟩ := h
        refine bs_sld C hX hW (bf_dk dd_L_law 822 rfl) hi ?_
        refine bs_pureV_i (ps := [0, 1, 2, 3, 4, 5, 6, 7, 8, 9, 10, 11, 12, 13, 14, 15, 16, 17, 18, 19, 20, 21, 22, 23, 24, 25, 26, 27, 28, 29, 30, 31, 32, 33, 34, 35, 36, 37, 38, 39, 40, 41, 42, 43, 44, 45, 46, 47, 48, 49, 50, 51, 52, 53, 54, 55, 56, 57, 58, 59, 60, 61, 62, 63, 64, 65, 66, 67]) (w := (bW8_9 S)) C hR (c_X8_bit _ _ _ _ _ S.1 ((xs ((x3 + (1 : Int32))).toNatClampNeg)) _ h) my_X8_bit m_L_122 rfl cl_8 (ge_bW8_0 _) rfl (Nat.le_of_ble_eq_true rfl) (Nat.le_of_ble_eq_true rfl) (su_bW8_9_0_bW8 S) rfl (st := []) (Nat.le_of_ble_eq_true rfl) (bf_dk dd_L_law 823 rfl) rfl (fun _ => rfl) (fun r145 h => ?_)
        refine bs_pop C (bf_dk dd_L_law 824 rfl) rfl ?_
        refine bs_aload_n C (bf_dk dd_L_law 825 rfl) rfl ?_
        refine bs_aload_n C (bf_dk dd_L_law 826 rfl) rfl ?_
        refine bs_iload_n C (bf_dk dd_L_law 827 rfl) rfl ?_
        refine bs_iconst C (bf_dk dd_L_law 828 rfl) (1 : Int32) (by decide) ?_
        refine bs_iadd C (bf_dk dd_L_law 829 rfl) ?_
        obtain ⟨hi, h⟩ := h
        refine bs_sld C hX hW (bf_dk dd_L_law 830 rfl) hi ?_
        refine bs_callV_i (ps := [68, 69, 70, 71, 72, 73, 74, 75, 76, 77, 78, 79, 80, 81, 82, 83, 84, 85, 86, 87, 88]) (w := (bW8_9 S)) C hR (c_X9_bit _ _ _ _ _ S.2 ((xs ((x3 + (1 : Int32))).toNatClampNeg)) _ h) my_X9_bit m_L_125 rfl cl_9 (ge_bW9_0 _) rfl (Nat.le_of_ble_eq_true rfl) (Nat.le_of_ble_eq_true rfl) (su_bW8_9_68_bW9 S) rfl (st := []) (Nat.le_of_ble_eq_true rfl) (bf_dk dd_L_law 831 rfl) rfl (fun _ => rfl) (w2 := fun u148 => bW8_9 (S.1, u148)) (pt_bW8_9_68_bW9 S) (fun r147 u148 h => ?_)
        refine bs_nameS bW8_9 (fun S149 eS149 => ?_)
        replace h := h S149 eS149
        refine bs_pop C (bf_dk dd_L_law 832 rfl) rfl ?_
        refine bs_goto C (bf_dk dd_L_law 833 rfl) (tgt := 1745) rfl ?_
        exact bs_weak (bf_s1 (bf_s1 (bf_s1 (bf_s1 bf_s0)))) (t_L_law_1745 C hR hG hX hW S149 (x3) Q B18 hB18 h)
      · replace h := h.2.2.2.2.2.2.2.2.2.2.2.2.2.2.2.2.2.2.2.2.2.2.2.2.2.2.2.1 (bf_i32 c (by decide))
        refine bs_aload_n C (bf_dk dd_L_law 834 rfl) rfl ?_
        refine bs_aload_n C (bf_dk dd_L_law 835 rfl) rfl ?_
        refine bs_iload_n C (bf_dk dd_L_law 836 rfl) rfl ?_
        refine bs_iconst C (bf_dk dd_L_law 837 rfl) (1 : Int32) (by decide) ?_
        refine bs_iadd C (bf_dk dd_L_law 838 rfl) ?_
        obtain ⟨hi, h⟩ := h
        refine bs_sld C hX hW (bf_dk dd_L_law 839 rfl) hi ?_
        refine bs_pureV_i (ps := [0, 1, 2, 3, 4, 5, 6, 7, 8, 9, 10, 11, 12, 13, 14, 15, 16, 17, 18, 19, 20, 21, 22, 23, 24, 25, 26, 27, 28, 29, 30, 31, 32, 33, 34, 35, 36, 37, 38, 39, 40, 41, 42, 43, 44, 45, 46, 47, 48, 49, 50, 51, 52, 53, 54, 55, 56, 57, 58, 59, 60, 61, 62, 63, 64, 65, 66, 67]) (w := (bW8_9 S)) C hR (c_X8_rank _ _ _ _ _ S.1 ((xs ((x3 + (1 : Int32))).toNatClampNeg)) _ h) my_X8_rank m_L_126 rfl cl_8 (ge_bW8_0 _) rfl (Nat.le_of_ble_eq_true rfl) (Nat.le_of_ble_eq_true rfl) (su_bW8_9_0_bW8 S) rfl (st := []) (Nat.le_of_ble_eq_true rfl) (bf_dk dd_L_law 840 rfl) rfl (fun _ => rfl) (fun r150 h => ?_)
        refine bs_pop C (bf_dk dd_L_law 841 rfl) rfl ?_
        refine bs_aload_n C (bf_dk dd_L_law 842 rfl) rfl ?_
        refine bs_aload_n C (bf_dk dd_L_law 843 rfl) rfl ?_
        refine bs_iload_n C (bf_dk dd_L_law 844 rfl) rfl ?_
        refine bs_iconst C (bf_dk dd_L_law 845 rfl) (1 : Int32) (by decide) ?_
        refine bs_iadd C (bf_dk dd_L_law 846 rfl) ?_
        obtain ⟨hi, h⟩ := h
        refine bs_sld C hX hW (bf_dk dd_L_law 847 rfl) hi ?_
        refine bs_callV_i (ps := [68, 69, 70, 71, 72, 73, 74, 75, 76, 77, 78, 79, 80, 81, 82, 83, 84, 85, 86, 87, 88]) (w := (bW8_9 S)) C hR (c_X9_rank _ _ _ _ _ S.2 ((xs ((x3 + (1 : Int32))).toNatClampNeg)) _ h) my_X9_rank m_L_129 rfl cl_9 (ge_bW9_0 _) rfl (Nat.le_of_ble_eq_true rfl) (Nat.le_of_ble_eq_true rfl) (su_bW8_9_68_bW9 S) rfl (st := []) (Nat.le_of_ble_eq_true rfl) (bf_dk dd_L_law 848 rfl) rfl (fun _ => rfl) (w2 := fun u153 => bW8_9 (S.1, u153)) (pt_bW8_9_68_bW9 S) (fun r152 u153 h => ?_)
        refine bs_nameS bW8_9 (fun S154 eS154 => ?_)
        replace h := h S154 eS154
        refine bs_pop C (bf_dk dd_L_law 849 rfl) rfl ?_
        refine bs_goto C (bf_dk dd_L_law 850 rfl) (tgt := 1745) rfl ?_
        exact bs_weak (bf_s1 (bf_s1 (bf_s1 (bf_s1 bf_s0)))) (t_L_law_1745 C hR hG hX hW S154 (x3) Q B18 hB18 h)
      · replace h := h.2.2.2.2.2.2.2.2.2.2.2.2.2.2.2.2.2.2.2.2.2.2.2.2.2.2.2.2.1 (bf_i32 c (by decide))
        refine bs_aload_n C (bf_dk dd_L_law 851 rfl) rfl ?_
        refine bs_aload_n C (bf_dk dd_L_law 852 rfl) rfl ?_
        refine bs_iload_n C (bf_dk dd_L_law 853 rfl) rfl ?_
        refine bs_iconst C (bf_dk dd_L_law 854 rfl) (1 : Int32) (by decide) ?_
        refine bs_iadd C (bf_dk dd_L_law 855 rfl) ?_
        obtain ⟨hi, h⟩ := h
        refine bs_sld C hX hW (bf_dk dd_L_law 856 rfl) hi ?_
        refine bs_pureV_i (ps := [0, 1, 2, 3, 4, 5, 6, 7, 8, 9, 10, 11, 12, 13, 14, 15, 16, 17, 18, 19, 20, 21, 22, 23, 24, 25, 26, 27, 28, 29, 30, 31, 32, 33, 34, 35, 36, 37, 38, 39, 40, 41, 42, 43, 44, 45, 46, 47, 48, 49, 50, 51, 52, 53, 54, 55, 56, 57, 58, 59, 60, 61, 62, 63, 64, 65, 66, 67]) (w := (bW8_9 S)) C hR (c_X8_select _ _ _ _ _ S.1 ((xs ((x3 + (1 : Int32))).toNatClampNeg)) _ h) my_X8_select m_L_130 rfl cl_8 (ge_bW8_0 _) rfl (Nat.le_of_ble_eq_true rfl) (Nat.le_of_ble_eq_true rfl) (su_bW8_9_0_bW8 S) rfl (st := []) (Nat.le_of_ble_eq_true rfl) (bf_dk dd_L_law 857 rfl) rfl (fun _ => rfl) (fun r155 h => ?_)
        refine bs_pop C (bf_dk dd_L_law 858 rfl) rfl ?_
        refine bs_aload_n C (bf_dk dd_L_law 859 rfl) rfl ?_
        refine bs_aload_n C (bf_dk dd_L_law 860 rfl) rfl ?_
        refine bs_iload_n C (bf_dk dd_L_law 861 rfl) rfl ?_
        refine bs_iconst C (bf_dk dd_L_law 862 rfl) (1 : Int32) (by decide) ?_
        refine bs_iadd C (bf_dk dd_L_law 863 rfl) ?_
        obtain ⟨hi, h⟩ := h
        refine bs_sld C hX hW (bf_dk dd_L_law 864 rfl) hi ?_
        refine bs_callV_i (ps := [68, 69, 70, 71, 72, 73, 74, 75, 76, 77, 78, 79, 80, 81, 82, 83, 84, 85, 86, 87, 88]) (w := (bW8_9 S)) C hR (c_X9_select _ _ _ _ _ S.2 ((xs ((x3 + (1 : Int32))).toNatClampNeg)) _ h) my_X9_select m_L_133 rfl cl_9 (ge_bW9_0 _) rfl (Nat.le_of_ble_eq_true rfl) (Nat.le_of_ble_eq_true rfl) (su_bW8_9_68_bW9 S) rfl (st := []) (Nat.le_of_ble_eq_true rfl) (bf_dk dd_L_law 865 rfl) rfl (fun _ => rfl) (w2 := fun u158 => bW8_9 (S.1, u158)) (pt_bW8_9_68_bW9 S) (fun r157 u158 h => ?_)
        refine bs_nameS bW8_9 (fun S159 eS159 => ?_)
        replace h := h S159 eS159
        refine bs_pop C (bf_dk dd_L_law 866 rfl) rfl ?_
        refine bs_goto C (bf_dk dd_L_law 867 rfl) (tgt := 1745) rfl ?_
        exact bs_weak (bf_s1 (bf_s1 (bf_s1 (bf_s1 bf_s0)))) (t_L_law_1745 C hR hG hX hW S159 (x3) Q B18 hB18 h)
      · replace h := h.2.2.2.2.2.2.2.2.2.2.2.2.2.2.2.2.2.2.2.2.2.2.2.2.2.2.2.2.2.1 (bf_i32 c (by decide))
        refine bs_aload_n C (bf_dk dd_L_law 868 rfl) rfl ?_
        refine bs_aload_n C (bf_dk dd_L_law 869 rfl) rfl ?_
        refine bs_iload_n C (bf_dk dd_L_law 870 rfl) rfl ?_
        refine bs_iconst C (bf_dk dd_L_law 871 rfl) (1 : Int32) (by decide) ?_
        refine bs_iadd C (bf_dk dd_L_law 872 rfl) ?_
        obtain ⟨hi, h⟩ := h
        refine bs_sld C hX hW (bf_dk dd_L_law 873 rfl) hi ?_
        refine bs_pureV_i (ps := [0, 1, 2, 3, 4, 5, 6, 7, 8, 9, 10, 11, 12, 13, 14, 15, 16, 17, 18, 19, 20, 21, 22, 23, 24, 25, 26, 27, 28, 29, 30, 31, 32, 33, 34, 35, 36, 37, 38, 39, 40, 41, 42, 43, 44, 45, 46, 47, 48, 49, 50, 51, 52, 53, 54, 55, 56, 57, 58, 59, 60, 61, 62, 63, 64, 65, 66, 67]) (w := (bW8_9 S)) C hR (c_X8_bits _ _ _ _ _ S.1 ((xs ((x3 + (1 : Int32))).toNatClampNeg)) _ h) my_X8_bits m_L_134 rfl cl_8 (ge_bW8_0 _) rfl (Nat.le_of_ble_eq_true rfl) (Nat.le_of_ble_eq_true rfl) (su_bW8_9_0_bW8 S) rfl (st := []) (Nat.le_of_ble_eq_true rfl) (bf_dk dd_L_law 874 rfl) rfl (fun _ => rfl) (fun r160 h => ?_)
        refine bs_pop C (bf_dk dd_L_law 875 rfl) rfl ?_
        refine bs_aload_n C (bf_dk dd_L_law 876 rfl) rfl ?_
        refine bs_aload_n C (bf_dk dd_L_law 877 rfl) rfl ?_
        refine bs_iload_n C (bf_dk dd_L_law 878 rfl) rfl ?_
        refine bs_iconst C (bf_dk dd_L_law 879 rfl) (1 : Int32) (by decide) ?_
        refine bs_iadd C (bf_dk dd_L_law 880 rfl) ?_
        obtain ⟨hi, h⟩ := h
        refine bs_sld C hX hW (bf_dk dd_L_law 881 rfl) hi ?_
        refine bs_callV_i (ps := [68, 69, 70, 71, 72, 73, 74, 75, 76, 77, 78, 79, 80, 81, 82, 83, 84, 85, 86, 87, 88]) (w := (bW8_9 S)) C hR (c_X9_bits _ _ _ _ _ S.2 ((xs ((x3 + (1 : Int32))).toNatClampNeg)) _ h) my_X9_bits m_L_137 rfl cl_9 (ge_bW9_0 _) rfl (Nat.le_of_ble_eq_true rfl) (Nat.le_of_ble_eq_true rfl) (su_bW8_9_68_bW9 S) rfl (st := []) (Nat.le_of_ble_eq_true rfl) (bf_dk dd_L_law 882 rfl) rfl (fun _ => rfl) (w2 := fun u163 => bW8_9 (S.1, u163)) (pt_bW8_9_68_bW9 S) (fun r162 u163 h => ?_)
        refine bs_nameS bW8_9 (fun S164 eS164 => ?_)
        replace h := h S164 eS164
        refine bs_pop C (bf_dk dd_L_law 883 rfl) rfl ?_
        refine bs_goto C (bf_dk dd_L_law 884 rfl) (tgt := 1745) rfl ?_
        exact bs_weak (bf_s1 (bf_s1 (bf_s1 (bf_s1 bf_s0)))) (t_L_law_1745 C hR hG hX hW S164 (x3) Q B18 hB18 h)
      · replace h := h.2.2.2.2.2.2.2.2.2.2.2.2.2.2.2.2.2.2.2.2.2.2.2.2.2.2.2.2.2.2.1 (bf_i32 c (by decide))
        refine bs_aload_n C (bf_dk dd_L_law 885 rfl) rfl ?_
        refine bs_aload_n C (bf_dk dd_L_law 886 rfl) rfl ?_
        refine bs_iload_n C (bf_dk dd_L_law 887 rfl) rfl ?_
        refine bs_iconst C (bf_dk dd_L_law 888 rfl) (1 : Int32) (by decide) ?_
        refine bs_iadd C (bf_dk dd_L_law 889 rfl) ?_
        obtain ⟨hi, h⟩ := h
        refine bs_sld C hX hW (bf_dk dd_L_law 890 rfl) hi ?_
        refine bs_pureV_i (ps := [0, 1, 2, 3, 4, 5, 6, 7, 8, 9, 10, 11, 12, 13, 14, 15, 16, 17, 18, 19, 20, 21, 22, 23, 24, 25, 26, 27, 28, 29, 30, 31, 32, 33, 34, 35, 36, 37, 38, 39, 40, 41, 42, 43, 44, 45, 46, 47, 48, 49, 50, 51, 52, 53, 54, 55, 56, 57, 58, 59, 60, 61, 62, 63, 64, 65, 66, 67]) (w := (bW8_9 S)) C hR (c_X8_least _ _ _ _ _ S.1 ((xs ((x3 + (1 : Int32))).toNatClampNeg)) _ h) my_X8_least m_L_138 rfl cl_8 (ge_bW8_0 _) rfl (Nat.le_of_ble_eq_true rfl) (Nat.le_of_ble_eq_true rfl) (su_bW8_9_0_bW8 S) rfl (st := []) (Nat.le_of_ble_eq_true rfl) (bf_dk dd_L_law 891 rfl) rfl (fun _ => rfl) (fun r165 h => ?_)
        refine bs_pop C (bf_dk dd_L_law 892 rfl) rfl ?_
        refine bs_aload_n C (bf_dk dd_L_law 893 rfl) rfl ?_
        refine bs_aload_n C (bf_dk dd_L_law 894 rfl) rfl ?_
        refine bs_iload_n C (bf_dk dd_L_law 895 rfl) rfl ?_
        refine bs_iconst C (bf_dk dd_L_law 896 rfl) (1 : Int32) (by decide) ?_
        refine bs_iadd C (bf_dk dd_L_law 897 rfl) ?_
        obtain ⟨hi, h⟩ := h
        refine bs_sld C hX hW (bf_dk dd_L_law 898 rfl) hi ?_
        refine bs_callV_i (ps := [68, 69, 70, 71, 72, 73, 74, 75, 76, 77, 78, 79, 80, 81, 82, 83, 84, 85, 86, 87, 88]) (w := (bW8_9 S)) C hR (c_X9_least _ _ _ _ _ S.2 ((xs ((x3 + (1 : Int32))).toNatClampNeg)) _ h) my_X9_least m_L_141 rfl cl_9 (ge_bW9_0 _) rfl (Nat.le_of_ble_eq_true rfl) (Nat.le_of_ble_eq_true rfl) (su_bW8_9_68_bW9 S) rfl (st := []) (Nat.le_of_ble_eq_true rfl) (bf_dk dd_L_law 899 rfl) rfl (fun _ => rfl) (w2 := fun u168 => bW8_9 (S.1, u168)) (pt_bW8_9_68_bW9 S) (fun r167 u168 h => ?_)
        refine bs_nameS bW8_9 (fun S169 eS169 => ?_)
        replace h := h S169 eS169
        refine bs_pop C (bf_dk dd_L_law 900 rfl) rfl ?_
        refine bs_goto C (bf_dk dd_L_law 901 rfl) (tgt := 1745) rfl ?_
        exact bs_weak (bf_s1 (bf_s1 (bf_s1 (bf_s1 bf_s0)))) (t_L_law_1745 C hR hG hX hW S169 (x3) Q B18 hB18 h)
      · replace h := h.2.2.2.2.2.2.2.2.2.2.2.2.2.2.2.2.2.2.2.2.2.2.2.2.2.2.2.2.2.2.2.1 (bf_i32 c (by decide))
        refine bs_aload_n C (bf_dk dd_L_law 902 rfl) rfl ?_
        refine bs_aload_n C (bf_dk dd_L_law 903 rfl) rfl ?_
        refine bs_iload_n C (bf_dk dd_L_law 904 rfl) rfl ?_
        refine bs_iconst C (bf_dk dd_L_law 905 rfl) (1 : Int32) (by decide) ?_
        refine bs_iadd C (bf_dk dd_L_law 906 rfl) ?_
        obtain ⟨hi, h⟩ := h
        refine bs_sld C hX hW (bf_dk dd_L_law 907 rfl) hi ?_
        refine bs_pureV_l (ps := [0, 1, 2, 3, 4, 5, 6, 7, 8, 9, 10, 11, 12, 13, 14, 15, 16, 17, 18, 19, 20, 21, 22, 23, 24, 25, 26, 27, 28, 29, 30, 31, 32, 33, 34, 35, 36, 37, 38, 39, 40, 41, 42, 43, 44, 45, 46, 47, 48, 49, 50, 51, 52, 53, 54, 55, 56, 57, 58, 59, 60, 61, 62, 63, 64, 65, 66, 67]) (w := (bW8_9 S)) C hR (c_X8_cover _ _ _ _ _ S.1 ((xs ((x3 + (1 : Int32))).toNatClampNeg)) _ h) my_X8_cover m_L_142 rfl cl_8 (ge_bW8_0 _) rfl (Nat.le_of_ble_eq_true rfl) (Nat.le_of_ble_eq_true rfl) (su_bW8_9_0_bW8 S) rfl (st := []) (Nat.le_of_ble_eq_true rfl) (bf_dk dd_L_law 908 rfl) rfl (fun _ => rfl) (fun r170 h => ?_)
        refine bs_pop2 C (bf_dk dd_L_law 909 rfl) rfl ?_
        refine bs_aload_n C (bf_dk dd_L_law 910 rfl) rfl ?_
        refine bs_aload_n C (bf_dk dd_L_law 911 rfl) rfl ?_
        refine bs_iload_n C (bf_dk dd_L_law 912 rfl) rfl ?_
        refine bs_iconst C (bf_dk dd_L_law 913 rfl) (1 : Int32) (by decide) ?_
        refine bs_iadd C (bf_dk dd_L_law 914 rfl) ?_
        obtain ⟨hi, h⟩ := h
        refine bs_sld C hX hW (bf_dk dd_L_law 915 rfl) hi ?_
        refine bs_callV_l (ps := [68, 69, 70, 71, 72, 73, 74, 75, 76, 77, 78, 79, 80, 81, 82, 83, 84, 85, 86, 87, 88]) (w := (bW8_9 S)) C hR (c_X9_cover _ _ _ _ _ S.2 ((xs ((x3 + (1 : Int32))).toNatClampNeg)) _ h) my_X9_cover m_L_146 rfl cl_9 (ge_bW9_0 _) rfl (Nat.le_of_ble_eq_true rfl) (Nat.le_of_ble_eq_true rfl) (su_bW8_9_68_bW9 S) rfl (st := []) (Nat.le_of_ble_eq_true rfl) (bf_dk dd_L_law 916 rfl) rfl (fun _ => rfl) (w2 := fun u173 => bW8_9 (S.1, u173)) (pt_bW8_9_68_bW9 S) (fun r172 u173 h => ?_)
        refine bs_nameS bW8_9 (fun S174 eS174 => ?_)
        replace h := h S174 eS174
        refine bs_pop2 C (bf_dk dd_L_law 917 rfl) rfl ?_
        refine bs_goto C (bf_dk dd_L_law 918 rfl) (tgt := 1745) rfl ?_
        exact bs_weak (bf_s1 (bf_s1 (bf_s1 (bf_s1 bf_s0)))) (t_L_law_1745 C hR hG hX hW S174 (x3) Q B18 hB18 h)
      · replace h := h.2.2.2.2.2.2.2.2.2.2.2.2.2.2.2.2.2.2.2.2.2.2.2.2.2.2.2.2.2.2.2.2.1 (bf_i32 c (by decide))
        refine bs_aload_n C (bf_dk dd_L_law 919 rfl) rfl ?_
        refine bs_aload_n C (bf_dk dd_L_law 920 rfl) rfl ?_
        refine bs_iload_n C (bf_dk dd_L_law 921 rfl) rfl ?_
        refine bs_iconst C (bf_dk dd_L_law 922 rfl) (1 : Int32) (by decide) ?_
        refine bs_iadd C (bf_dk dd_L_law 923 rfl) ?_
        obtain ⟨hi, h⟩ := h
        refine bs_sld C hX hW (bf_dk dd_L_law 924 rfl) hi ?_
        refine bs_pureV_l (ps := [0, 1, 2, 3, 4, 5, 6, 7, 8, 9, 10, 11, 12, 13, 14, 15, 16, 17, 18, 19, 20, 21, 22, 23, 24, 25, 26, 27, 28, 29, 30, 31, 32, 33, 34, 35, 36, 37, 38, 39, 40, 41, 42, 43, 44, 45, 46, 47, 48, 49, 50, 51, 52, 53, 54, 55, 56, 57, 58, 59, 60, 61, 62, 63, 64, 65, 66, 67]) (w := (bW8_9 S)) C hR (c_X8_loose _ _ _ _ _ S.1 ((xs ((x3 + (1 : Int32))).toNatClampNeg)) _ h) my_X8_loose m_L_147 rfl cl_8 (ge_bW8_0 _) rfl (Nat.le_of_ble_eq_true rfl) (Nat.le_of_ble_eq_true rfl) (su_bW8_9_0_bW8 S) rfl (st := []) (Nat.le_of_ble_eq_true rfl) (bf_dk dd_L_law 925 rfl) rfl (fun _ => rfl) (fun r175 h => ?_)
        refine bs_pop2 C (bf_dk dd_L_law 926 rfl) rfl ?_
        refine bs_aload_n C (bf_dk dd_L_law 927 rfl) rfl ?_
        refine bs_aload_n C (bf_dk dd_L_law 928 rfl) rfl ?_
        refine bs_iload_n C (bf_dk dd_L_law 929 rfl) rfl ?_
        refine bs_iconst C (bf_dk dd_L_law 930 rfl) (1 : Int32) (by decide) ?_
        refine bs_iadd C (bf_dk dd_L_law 931 rfl) ?_
        obtain ⟨hi, h⟩ := h
        refine bs_sld C hX hW (bf_dk dd_L_law 932 rfl) hi ?_
        refine bs_callV_l (ps := [68, 69, 70, 71, 72, 73, 74, 75, 76, 77, 78, 79, 80, 81, 82, 83, 84, 85, 86, 87, 88]) (w := (bW8_9 S)) C hR (c_X9_loose _ _ _ _ _ S.2 ((xs ((x3 + (1 : Int32))).toNatClampNeg)) _ h) my_X9_loose m_L_150 rfl cl_9 (ge_bW9_0 _) rfl (Nat.le_of_ble_eq_true rfl) (Nat.le_of_ble_eq_true rfl) (su_bW8_9_68_bW9 S) rfl (st := []) (Nat.le_of_ble_eq_true rfl) (bf_dk dd_L_law 933 rfl) rfl (fun _ => rfl) (w2 := fun u178 => bW8_9 (S.1, u178)) (pt_bW8_9_68_bW9 S) (fun r177 u178 h => ?_)
        refine bs_nameS bW8_9 (fun S179 eS179 => ?_)
        replace h := h S179 eS179
        refine bs_pop2 C (bf_dk dd_L_law 934 rfl) rfl ?_
        refine bs_goto C (bf_dk dd_L_law 935 rfl) (tgt := 1745) rfl ?_
        exact bs_weak (bf_s1 (bf_s1 (bf_s1 (bf_s1 bf_s0)))) (t_L_law_1745 C hR hG hX hW S179 (x3) Q B18 hB18 h)
      · replace h := h.2.2.2.2.2.2.2.2.2.2.2.2.2.2.2.2.2.2.2.2.2.2.2.2.2.2.2.2.2.2.2.2.2.1 (bf_i32 c (by decide))
        refine bs_aload_n C (bf_dk dd_L_law 936 rfl) rfl ?_
        refine bs_aload_n C (bf_dk dd_L_law 937 rfl) rfl ?_
        refine bs_iload_n C (bf_dk dd_L_law 938 rfl) rfl ?_
        refine bs_iconst C (bf_dk dd_L_law 939 rfl) (1 : Int32) (by decide) ?_
        refine bs_iadd C (bf_dk dd_L_law 940 rfl) ?_
        obtain ⟨hi, h⟩ := h
        refine bs_sld C hX hW (bf_dk dd_L_law 941 rfl) hi ?_
        refine bs_aload_n C (bf_dk dd_L_law 942 rfl) rfl ?_
        refine bs_iload_n C (bf_dk dd_L_law 943 rfl) rfl ?_
        refine bs_iconst C (bf_dk dd_L_law 944 rfl) (2 : Int32) (by decide) ?_
        refine bs_iadd C (bf_dk dd_L_law 945 rfl) ?_
        obtain ⟨hi, h⟩ := h
        refine bs_sld C hX hW (bf_dk dd_L_law 946 rfl) hi ?_
        refine bs_pureV_l (ps := [0, 1, 2, 3, 4, 5, 6, 7, 8, 9, 10, 11, 12, 13, 14, 15, 16, 17, 18, 19, 20, 21, 22, 23, 24, 25, 26, 27, 28, 29, 30, 31, 32, 33, 34, 35, 36, 37, 38, 39, 40, 41, 42, 43, 44, 45, 46, 47, 48, 49, 50, 51, 52, 53, 54, 55, 56, 57, 58, 59, 60, 61, 62, 63, 64, 65, 66, 67]) (w := (bW8_9 S)) C hR (c_X8_free _ _ _ _ _ S.1 ((xs ((x3 + (1 : Int32))).toNatClampNeg)) ((xs ((x3 + (2 : Int32))).toNatClampNeg)) _ h) my_X8_free m_L_151 rfl cl_8 (ge_bW8_0 _) rfl (Nat.le_of_ble_eq_true rfl) (Nat.le_of_ble_eq_true rfl) (su_bW8_9_0_bW8 S) rfl (st := []) (Nat.le_of_ble_eq_true rfl) (bf_dk dd_L_law 947 rfl) rfl (fun _ => rfl) (fun r180 h => ?_)
        refine bs_pop2 C (bf_dk dd_L_law 948 rfl) rfl ?_
        refine bs_aload_n C (bf_dk dd_L_law 949 rfl) rfl ?_
        refine bs_aload_n C (bf_dk dd_L_law 950 rfl) rfl ?_
        refine bs_iload_n C (bf_dk dd_L_law 951 rfl) rfl ?_
        refine bs_iconst C (bf_dk dd_L_law 952 rfl) (1 : Int32) (by decide) ?_
        refine bs_iadd C (bf_dk dd_L_law 953 rfl) ?_
        obtain ⟨hi, h⟩ := h
        refine bs_sld C hX hW (bf_dk dd_L_law 954 rfl) hi ?_
        refine bs_aload_n C (bf_dk dd_L_law 955 rfl) rfl ?_
        refine bs_iload_n C (bf_dk dd_L_law 956 rfl) rfl ?_
        refine bs_iconst C (bf_dk dd_L_law 957 rfl) (2 : Int32) (by decide) ?_
        refine bs_iadd C (bf_dk dd_L_law 958 rfl) ?_
        obtain ⟨hi, h⟩ := h
        refine bs_sld C hX hW (bf_dk dd_L_law 959 rfl) hi ?_
        refine bs_callV_l (ps := [68, 69, 70, 71, 72, 73, 74, 75, 76, 77, 78, 79, 80, 81, 82, 83, 84, 85, 86, 87, 88]) (w := (bW8_9 S)) C hR (c_X9_free _ _ _ _ _ S.2 ((xs ((x3 + (1 : Int32))).toNatClampNeg)) ((xs ((x3 + (2 : Int32))).toNatClampNeg)) _ h) my_X9_free m_L_155 rfl cl_9 (ge_bW9_0 _) rfl (Nat.le_of_ble_eq_true rfl) (Nat.le_of_ble_eq_true rfl) (su_bW8_9_68_bW9 S) rfl (st := []) (Nat.le_of_ble_eq_true rfl) (bf_dk dd_L_law 960 rfl) rfl (fun _ => rfl) (w2 := fun u183 => bW8_9 (S.1, u183)) (pt_bW8_9_68_bW9 S) (fun r182 u183 h => ?_)
        refine bs_nameS bW8_9 (fun S184 eS184 => ?_)
        replace h := h S184 eS184
        refine bs_pop2 C (bf_dk dd_L_law 961 rfl) rfl ?_
        refine bs_goto C (bf_dk dd_L_law 962 rfl) (tgt := 1745) rfl ?_
        exact bs_weak (bf_s1 (bf_s1 (bf_s1 (bf_s1 bf_s0)))) (t_L_law_1745 C hR hG hX hW S184 (x3) Q B18 hB18 h)
      · replace h := h.2.2.2.2.2.2.2.2.2.2.2.2.2.2.2.2.2.2.2.2.2.2.2.2.2.2.2.2.2.2.2.2.2.2.1 (bf_i32 c (by decide))
        refine bs_aload_n C (bf_dk dd_L_law 963 rfl) rfl ?_
        refine bs_aload_n C (bf_dk dd_L_law 964 rfl) rfl ?_
        refine bs_iload_n C (bf_dk dd_L_law 965 rfl) rfl ?_
        refine bs_iconst C (bf_dk dd_L_law 966 rfl) (1 : Int32) (by decide) ?_
        refine bs_iadd C (bf_dk dd_L_law 967 rfl) ?_
        obtain ⟨hi, h⟩ := h
        refine bs_sld C hX hW (bf_dk dd_L_law 968 rfl) hi ?_
        refine bs_aload_n C (bf_dk dd_L_law 969 rfl) rfl ?_
        refine bs_iload_n C (bf_dk dd_L_law 970 rfl) rfl ?_
        refine bs_iconst C (bf_dk dd_L_law 971 rfl) (2 : Int32) (by decide) ?_
        refine bs_iadd C (bf_dk dd_L_law 972 rfl) ?_
        obtain ⟨hi, h⟩ := h
        refine bs_sld C hX hW (bf_dk dd_L_law 973 rfl) hi ?_
        refine bs_aload_n C (bf_dk dd_L_law 974 rfl) rfl ?_
        refine bs_iload_n C (bf_dk dd_L_law 975 rfl) rfl ?_
        refine bs_iconst C (bf_dk dd_L_law 976 rfl) (3 : Int32) (by decide) ?_
        refine bs_iadd C (bf_dk dd_L_law 977 rfl) ?_
        obtain ⟨hi, h⟩ := h
        refine bs_sld C hX hW (bf_dk dd_L_law 978 rfl) hi ?_
        refine bs_aload_n C (bf_dk dd_L_law 979 rfl) rfl ?_
        refine bs_iload_n C (bf_dk dd_L_law 980 rfl) rfl ?_
        refine bs_iconst C (bf_dk dd_L_law 981 rfl) (4 : Int32) (by decide) ?_
        refine bs_iadd C (bf_dk dd_L_law 982 rfl) ?_
        obtain ⟨hi, h⟩ := h
        refine bs_sld C hX hW (bf_dk dd_L_law 983 rfl) hi ?_
        refine bs_pureV_i (ps := [0, 1, 2, 3, 4, 5, 6, 7, 8, 9, 10, 11, 12, 13, 14, 15, 16, 17, 18, 19, 20, 21, 22, 23, 24, 25, 26, 27, 28, 29, 30, 31, 32, 33, 34, 35, 36, 37, 38, 39, 40, 41, 42, 43, 44, 45, 46, 47, 48, 49, 50, 51, 52, 53, 54, 55, 56, 57, 58, 59, 60, 61, 62, 63, 64, 65, 66, 67]) (w := (bW8_9 S)) C hR (c_X8_spread _ _ _ _ _ S.1 ((xs ((x3 + (1 : Int32))).toNatClampNeg)) ((xs ((x3 + (2 : Int32))).toNatClampNeg)) ((xs ((x3 + (3 : Int32))).toNatClampNeg)) ((xs ((x3 + (4 : Int32))).toNatClampNeg)) _ h) my_X8_spread m_L_156 rfl cl_8 (ge_bW8_0 _) rfl (Nat.le_of_ble_eq_true rfl) (Nat.le_of_ble_eq_true rfl) (su_bW8_9_0_bW8 S) rfl (st := []) (Nat.le_of_ble_eq_true rfl) (bf_dk dd_L_law 984 rfl) rfl (fun _ => rfl) (fun r185 h => ?_)
        refine bs_pop C (bf_dk dd_L_law 985 rfl) rfl ?_
        refine bs_aload_n C (bf_dk dd_L_law 986 rfl) rfl ?_
        refine bs_aload_n C (bf_dk dd_L_law 987 rfl) rfl ?_
        refine bs_iload_n C (bf_dk dd_L_law 988 rfl) rfl ?_
        refine bs_iconst C (bf_dk dd_L_law 989 rfl) (1 : Int32) (by decide) ?_
        refine bs_iadd C (bf_dk dd_L_law 990 rfl) ?_
        obtain ⟨hi, h⟩ := h
        refine bs_sld C hX hW (bf_dk dd_L_law 991 rfl) hi ?_
        refine bs_aload_n C (bf_dk dd_L_law 992 rfl) rfl ?_
        refine bs_iload_n C (bf_dk dd_L_law 993 rfl) rfl ?_
        refine bs_iconst C (bf_dk dd_L_law 994 rfl) (2 : Int32) (by decide) ?_
        refine bs_iadd C (bf_dk dd_L_law 995 rfl) ?_
        obtain ⟨hi, h⟩ := h
        refine bs_sld C hX hW (bf_dk dd_L_law 996 rfl) hi ?_
        refine bs_aload_n C (bf_dk dd_L_law 997 rfl) rfl ?_
        refine bs_iload_n C (bf_dk dd_L_law 998 rfl) rfl ?_
        refine bs_iconst C (bf_dk dd_L_law 999 rfl) (3 : Int32) (by decide) ?_
        refine bs_iadd C (bf_dk dd_L_law 1000 rfl) ?_
        obtain ⟨hi, h⟩ := h
        refine bs_sld C hX hW (bf_dk dd_L_law 1001 rfl) hi ?_
        refine bs_aload_n C (bf_dk dd_L_law 1002 rfl) rfl ?_
        refine bs_iload_n C (bf_dk dd_L_law 1003 rfl) rfl ?_
        refine bs_iconst C (bf_dk dd_L_law 1004 rfl) (4 : Int32) (by decide) ?_
        refine bs_iadd C (bf_dk dd_L_law 1005 rfl) ?_
        obtain ⟨hi, h⟩ := h
        refine bs_sld C hX hW (bf_dk dd_L_law 1006 rfl) hi ?_
        refine bs_callV_i (ps := [68, 69, 70, 71, 72, 73, 74, 75, 76, 77, 78, 79, 80, 81, 82, 83, 84, 85, 86, 87, 88]) (w := (bW8_9 S)) C hR (c_X9_spread _ _ _ _ _ S.2 ((xs ((x3 + (1 : Int32))).toNatClampNeg)) ((xs ((x3 + (2 : Int32))).toNatClampNeg)) ((xs ((x3 + (3 : Int32))).toNatClampNeg)) ((xs ((x3 + (4 : Int32))).toNatClampNeg)) _ h) my_X9_spread m_L_159 rfl cl_9 (ge_bW9_0 _) rfl (Nat.le_of_ble_eq_true rfl) (Nat.le_of_ble_eq_true rfl) (su_bW8_9_68_bW9 S) rfl (st := []) (Nat.le_of_ble_eq_true rfl) (bf_dk dd_L_law 1007 rfl) rfl (fun _ => rfl) (w2 := fun u188 => bW8_9 (S.1, u188)) (pt_bW8_9_68_bW9 S) (fun r187 u188 h => ?_)
        refine bs_nameS bW8_9 (fun S189 eS189 => ?_)
        replace h := h S189 eS189
        refine bs_pop C (bf_dk dd_L_law 1008 rfl) rfl ?_
        refine bs_goto C (bf_dk dd_L_law 1009 rfl) (tgt := 1745) rfl ?_
        exact bs_weak (bf_s1 (bf_s1 (bf_s1 (bf_s1 bf_s0)))) (t_L_law_1745 C hR hG hX hW S189 (x3) Q B18 hB18 h)
      · replace h := h.2.2.2.2.2.2.2.2.2.2.2.2.2.2.2.2.2.2.2.2.2.2.2.2.2.2.2.2.2.2.2.2.2.2.2.1 (bf_i32 c (by decide))
        refine bs_aload_n C (bf_dk dd_L_law 1010 rfl) rfl ?_
        refine bs_aload_n C (bf_dk dd_L_law 1011 rfl) rfl ?_
        refine bs_iload_n C (bf_dk dd_L_law 1012 rfl) rfl ?_
        refine bs_iconst C (bf_dk dd_L_law 1013 rfl) (1 : Int32) (by decide) ?_
        refine bs_iadd C (bf_dk dd_L_law 1014 rfl) ?_
        obtain ⟨hi, h⟩ := h
        refine bs_sld C hX hW (bf_dk dd_L_law 1015 rfl) hi ?_
        refine bs_aload_n C (bf_dk dd_L_law 1016 rfl) rfl ?_
        refine bs_iload_n C (bf_dk dd_L_law 1017 rfl) rfl ?_
        refine bs_iconst C (bf_dk dd_L_law 1018 rfl) (2 : Int32) (by decide) ?_
        refine bs_iadd C (bf_dk dd_L_law 1019 rfl) ?_
        obtain ⟨hi, h⟩ := h
        refine bs_sld C hX hW (bf_dk dd_L_law 1020 rfl) hi ?_
        refine bs_aload_n C (bf_dk dd_L_law 1021 rfl) rfl ?_
        refine bs_iload_n C (bf_dk dd_L_law 1022 rfl) rfl ?_
        refine bs_iconst C (bf_dk dd_L_law 1023 rfl) (3 : Int32) (by decide) ?_
        refine bs_iadd C (bf_dk dd_L_law 1024 rfl) ?_
        obtain ⟨hi, h⟩ := h
        refine bs_sld C hX hW (bf_dk dd_L_law 1025 rfl) hi ?_
        refine bs_callV_i (ps := [0, 1, 2, 3, 4, 5, 6, 7, 8, 9, 10, 11, 12, 13, 14, 15, 16, 17, 18, 19, 20, 21, 22, 23, 24, 25, 26, 27, 28, 29, 30, 31, 32, 33, 34, 35, 36, 37, 38, 39, 40, 41, 42, 43, 44, 45, 46, 47, 48, 49, 50, 51, 52, 53, 54, 55, 56, 57, 58, 59, 60, 61, 62, 63, 64, 65, 66, 67]) (w := (bW8_9 S)) C hR (c_X8_question _ _ _ _ _ S.1 ((xs ((x3 + (1 : Int32))).toNatClampNeg)) ((xs ((x3 + (2 : Int32))).toNatClampNeg)) ((xs ((x3 + (3 : Int32))).toNatClampNeg)) _ h) my_X8_question m_L_160 rfl cl_8 (ge_bW8_0 _) rfl (Nat.le_of_ble_eq_true rfl) (Nat.le_of_ble_eq_true rfl) (su_bW8_9_0_bW8 S) rfl (st := []) (Nat.le_of_ble_eq_true rfl) (bf_dk dd_L_law 1026 rfl) rfl (fun _ => rfl) (w2 := fun u191 => bW8_9 (u191, S.2)) (pt_bW8_9_0_bW8 S) (fun r190 u191 h => ?_)
        refine bs_nameS bW8_9 (fun S192 eS192 => ?_)
        replace h := h S192 eS192
        refine bs_pop C (bf_dk dd_L_law 1027 rfl) rfl ?_
        refine bs_aload_n C (bf_dk dd_L_law 1028 rfl) rfl ?_
        refine bs_aload_n C (bf_dk dd_L_law 1029 rfl) rfl ?_
        refine bs_iload_n C (bf_dk dd_L_law 1030 rfl) rfl ?_
        refine bs_iconst C (bf_dk dd_L_law 1031 rfl) (1 : Int32) (by decide) ?_
        refine bs_iadd C (bf_dk dd_L_law 1032 rfl) ?_
        obtain ⟨hi, h⟩ := h
        refine bs_sld C hX hW (bf_dk dd_L_law 1033 rfl) hi ?_
        refine bs_aload_n C (bf_dk dd_L_law 1034 rfl) rfl ?_
        refine bs_iload_n C (bf_dk dd_L_law 1035 rfl) rfl ?_
        refine bs_iconst C (bf_dk dd_L_law 1036 rfl) (2 : Int32) (by decide) ?_
        refine bs_iadd C (bf_dk dd_L_law 1037 rfl) ?_
        obtain ⟨hi, h⟩ := h
        refine bs_sld C hX hW (bf_dk dd_L_law 1038 rfl) hi ?_
        refine bs_aload_n C (bf_dk dd_L_law 1039 rfl) rfl ?_
        refine bs_iload_n C (bf_dk dd_L_law 1040 rfl) rfl ?_
        refine bs_iconst C (bf_dk dd_L_law 1041 rfl) (3 : Int32) (by decide) ?_
        refine bs_iadd C (bf_dk dd_L_law 1042 rfl) ?_
        obtain ⟨hi, h⟩ := h
        refine bs_sld C hX hW (bf_dk dd_L_law 1043 rfl) hi ?_
        refine bs_callV_i (ps := [68, 69, 70, 71, 72, 73, 74, 75, 76, 77, 78, 79, 80, 81, 82, 83, 84, 85, 86, 87, 88]) (w := (bW8_9 S192)) C hR (c_X9_question _ _ _ _ _ S192.2 ((xs ((x3 + (1 : Int32))).toNatClampNeg)) ((xs ((x3 + (2 : Int32))).toNatClampNeg)) ((xs ((x3 + (3 : Int32))).toNatClampNeg)) _ h) my_X9_question m_L_163 rfl cl_9 (ge_bW9_0 _) rfl (Nat.le_of_ble_eq_true rfl) (Nat.le_of_ble_eq_true rfl) (su_bW8_9_68_bW9 S192) rfl (st := []) (Nat.le_of_ble_eq_true rfl) (bf_dk dd_L_law 1044 rfl) rfl (fun _ => rfl) (w2 := fun u194 => bW8_9 (S192.1, u194)) (pt_bW8_9_68_bW9 S192) (fun r193 u194 h => ?_)
        refine bs_nameS bW8_9 (fun S195 eS195 => ?_)
        replace h := h S195 eS195
        refine bs_pop C (bf_dk dd_L_law 1045 rfl) rfl ?_
        refine bs_goto C (bf_dk dd_L_law 1046 rfl) (tgt := 1745) rfl ?_
        exact bs_weak (bf_s1 (bf_s1 (bf_s1 (bf_s1 bf_s0)))) (t_L_law_1745 C hR hG hX hW S195 (x3) Q B18 hB18 h)
      · replace h := h.2.2.2.2.2.2.2.2.2.2.2.2.2.2.2.2.2.2.2.2.2.2.2.2.2.2.2.2.2.2.2.2.2.2.2.2.1 (bf_i32 c (by decide))
        refine bs_aload_n C (bf_dk dd_L_law 1047 rfl) rfl ?_
        refine bs_callV_i (ps := [0, 1, 2, 3, 4, 5, 6, 7, 8, 9, 10, 11, 12, 13, 14, 15, 16, 17, 18, 19, 20, 21, 22, 23, 24, 25, 26, 27, 28, 29, 30, 31, 32, 33, 34, 35, 36, 37, 38, 39, 40, 41, 42, 43, 44, 45, 46, 47, 48, 49, 50, 51, 52, 53, 54, 55, 56, 57, 58, 59, 60, 61, 62, 63, 64, 65, 66, 67]) (w := (bW8_9 S)) C hR (c_X8_forget _ _ _ _ _ S.1 _ h) my_X8_forget m_L_164 rfl cl_8 (ge_bW8_0 _) rfl (Nat.le_of_ble_eq_true rfl) (Nat.le_of_ble_eq_true rfl) (su_bW8_9_0_bW8 S) rfl (st := []) (Nat.le_of_ble_eq_true rfl) (bf_dk dd_L_law 1048 rfl) rfl (fun _ => rfl) (w2 := fun u197 => bW8_9 (u197, S.2)) (pt_bW8_9_0_bW8 S) (fun r196 u197 h => ?_)
        refine bs_nameS bW8_9 (fun S198 eS198 => ?_)
        replace h := h S198 eS198
        refine bs_pop C (bf_dk dd_L_law 1049 rfl) rfl ?_
        refine bs_aload_n C (bf_dk dd_L_law 1050 rfl) rfl ?_
        refine bs_callV_i (ps := [68, 69, 70, 71, 72, 73, 74, 75, 76, 77, 78, 79, 80, 81, 82, 83, 84, 85, 86, 87, 88]) (w := (bW8_9 S198)) C hR (c_X9_forget _ _ _ _ _ S198.2 _ h) my_X9_forget m_L_167 rfl cl_9 (ge_bW9_0 _) rfl (Nat.le_of_ble_eq_true rfl) (Nat.le_of_ble_eq_true rfl) (su_bW8_9_68_bW9 S198) rfl (st := []) (Nat.le_of_ble_eq_true rfl) (bf_dk dd_L_law 1051 rfl) rfl (fun _ => rfl) (w2 := fun u200 => bW8_9 (S198.1, u200)) (pt_bW8_9_68_bW9 S198) (fun r199 u200 h => ?_)
        refine bs_nameS bW8_9 (fun S201 eS201 => ?_)
        replace h := h S201 eS201
        refine bs_pop C (bf_dk dd_L_law 1052 rfl) rfl ?_
        refine bs_goto C (bf_dk dd_L_law 1053 rfl) (tgt := 1745) rfl ?_
        exact bs_weak (bf_s1 (bf_s1 (bf_s1 (bf_s1 bf_s0)))) (t_L_law_1745 C hR hG hX hW S201 (x3) Q B18 hB18 h)
      · replace h := h.2.2.2.2.2.2.2.2.2.2.2.2.2.2.2.2.2.2.2.2.2.2.2.2.2.2.2.2.2.2.2.2.2.2.2.2.2.1 (bf_i32 c (by decide))
        refine bs_aload_n C (bf_dk dd_L_law 1054 rfl) rfl ?_
        refine bs_aload_n C (bf_dk dd_L_law 1055 rfl) rfl ?_
        refine bs_iload_n C (bf_dk dd_L_law 1056 rfl) rfl ?_
        refine bs_iconst C (bf_dk dd_L_law 1057 rfl) (1 : Int32) (by decide) ?_
        refine bs_iadd C (bf_dk dd_L_law 1058 rfl) ?_
        obtain ⟨hi, h⟩ := h
        refine bs_sld C hX hW (bf_dk dd_L_law 1059 rfl) hi ?_
        refine bs_aload_n C (bf_dk dd_L_law 1060 rfl) rfl ?_
        refine bs_iload_n C (bf_dk dd_L_law 1061 rfl) rfl ?_
        refine bs_iconst C (bf_dk dd_L_law 1062 rfl) (2 : Int32) (by decide) ?_
        refine bs_iadd C (bf_dk dd_L_law 1063 rfl) ?_
        obtain ⟨hi, h⟩ := h
        refine bs_sld C hX hW (bf_dk dd_L_law 1064 rfl) hi ?_
        refine bs_callV_i (ps := [0, 1, 2, 3, 4, 5, 6, 7, 8, 9, 10, 11, 12, 13, 14, 15, 16, 17, 18, 19, 20, 21, 22, 23, 24, 25, 26, 27, 28, 29, 30, 31, 32, 33, 34, 35, 36, 37, 38, 39, 40, 41, 42, 43, 44, 45, 46, 47, 48, 49, 50, 51, 52, 53, 54, 55, 56, 57, 58, 59, 60, 61, 62, 63, 64, 65, 66, 67]) (w := (bW8_9 S)) C hR (c_X8_tuned _ _ _ _ _ S.1 ((xs ((x3 + (1 : Int32))).toNatClampNeg)) ((xs ((x3 + (2 : Int32))).toNatClampNeg)) _ h) my_X8_tuned m_L_168 rfl cl_8 (ge_bW8_0 _) rfl (Nat.le_of_ble_eq_true rfl) (Nat.le_of_ble_eq_true rfl) (su_bW8_9_0_bW8 S) rfl (st := []) (Nat.le_of_ble_eq_true rfl) (bf_dk dd_L_law 1065 rfl) rfl (fun _ => rfl) (w2 := fun u203 => bW8_9 (u203, S.2)) (pt_bW8_9_0_bW8 S) (fun r202 u203 h => ?_)
        refine bs_nameS bW8_9 (fun S204 eS204 => ?_)
        replace h := h S204 eS204
        refine bs_pop C (bf_dk dd_L_law 1066 rfl) rfl ?_
        refine bs_aload_n C (bf_dk dd_L_law 1067 rfl) rfl ?_
        refine bs_aload_n C (bf_dk dd_L_law 1068 rfl) rfl ?_
        refine bs_iload_n C (bf_dk dd_L_law 1069 rfl) rfl ?_
        refine bs_iconst C (bf_dk dd_L_law 1070 rfl) (1 : Int32) (by decide) ?_
        refine bs_iadd C (bf_dk dd_L_law 1071 rfl) ?_
        obtain ⟨hi, h⟩ := h
        refine bs_sld C hX hW (bf_dk dd_L_law 1072 rfl) hi ?_
        refine bs_aload_n C (bf_dk dd_L_law 1073 rfl) rfl ?_
        refine bs_iload_n C (bf_dk dd_L_law 1074 rfl) rfl ?_
        refine bs_iconst C (bf_dk dd_L_law 1075 rfl) (2 : Int32) (by decide) ?_
        refine bs_iadd C (bf_dk dd_L_law 1076 rfl) ?_
        obtain ⟨hi, h⟩ := h
        refine bs_sld C hX hW (bf_dk dd_L_law 1077 rfl) hi ?_
        refine bs_callV_i (ps := [68, 69, 70, 71, 72, 73, 74, 75, 76, 77, 78, 79, 80, 81, 82, 83, 84, 85, 86, 87, 88]) (w := (bW8_9 S204)) C hR (c_X9_tuned _ _ _ _ _ S204.2 ((xs ((x3 + (1 : Int32))).toNatClampNeg)) ((xs ((x3 + (2 : Int32))).toNatClampNeg)) _ h) my_X9_tuned m_L_171 rfl cl_9 (ge_bW9_0 _) rfl (Nat.le_of_ble_eq_true rfl) (Nat.le_of_ble_eq_true rfl) (su_bW8_9_68_bW9 S204) rfl (st := []) (Nat.le_of_ble_eq_true rfl) (bf_dk dd_L_law 1078 rfl) rfl (fun _ => rfl) (w2 := fun u206 => bW8_9 (S204.1, u206)) (pt_bW8_9_68_bW9 S204) (fun r205 u206 h => ?_)
        refine bs_nameS bW8_9 (fun S207 eS207 => ?_)
        replace h := h S207 eS207
        refine bs_pop C (bf_dk dd_L_law 1079 rfl) rfl ?_
        refine bs_goto C (bf_dk dd_L_law 1080 rfl) (tgt := 1745) rfl ?_
        exact bs_weak (bf_s1 (bf_s1 (bf_s1 (bf_s1 bf_s0)))) (t_L_law_1745 C hR hG hX hW S207 (x3) Q B18 hB18 h)
      · replace h := h.2.2.2.2.2.2.2.2.2.2.2.2.2.2.2.2.2.2.2.2.2.2.2.2.2.2.2.2.2.2.2.2.2.2.2.2.2.2.1 (bf_i32 c (by decide))
        refine bs_aload_n C (bf_dk dd_L_law 1081 rfl) rfl ?_
        refine bs_aload_n C (bf_dk dd_L_law 1082 rfl) rfl ?_
        refine bs_iload_n C (bf_dk dd_L_law 1083 rfl) rfl ?_
        refine bs_iconst C (bf_dk dd_L_law 1084 rfl) (1 : Int32) (by decide) ?_
        refine bs_iadd C (bf_dk dd_L_law 1085 rfl) ?_
        obtain ⟨hi, h⟩ := h
        refine bs_sld C hX hW (bf_dk dd_L_law 1086 rfl) hi ?_
        refine bs_aload_n C (bf_dk dd_L_law 1087 rfl) rfl ?_
        refine bs_iload_n C (bf_dk dd_L_law 1088 rfl) rfl ?_
        refine bs_iconst C (bf_dk dd_L_law 1089 rfl) (2 : Int32) (by decide) ?_
        refine bs_iadd C (bf_dk dd_L_law 1090 rfl) ?_
        obtain ⟨hi, h⟩ := h
        refine bs_sld C hX hW (bf_dk dd_L_law 1091 rfl) hi ?_
        refine bs_callV_i (ps := [0, 1, 2, 3, 4, 5, 6, 7, 8, 9, 10, 11, 12, 13, 14, 15, 16, 17, 18, 19, 20, 21, 22, 23, 24, 25, 26, 27, 28, 29, 30, 31, 32, 33, 34, 35, 36, 37, 38, 39, 40, 41, 42, 43, 44, 45, 46, 47, 48, 49, 50, 51, 52, 53, 54, 55, 56, 57, 58, 59, 60, 61, 62, 63, 64, 65, 66, 67]) (w := (bW8_9 S)) C hR (c_X8_storm _ _ _ _ _ S.1 ((xs ((x3 + (1 : Int32))).toNatClampNeg)) ((xs ((x3 + (2 : Int32))).toNatClampNeg)) _ h) my_X8_storm m_L_172 rfl cl_8 (ge_bW8_0 _) rfl (Nat.le_of_ble_eq_true rfl) (Nat.le_of_ble_eq_true rfl) (su_bW8_9_0_bW8 S) rfl (st := []) (Nat.le_of_ble_eq_true rfl) (bf_dk dd_L_law 1092 rfl) rfl (fun _ => rfl) (w2 := fun u209 => bW8_9 (u209, S.2)) (pt_bW8_9_0_bW8 S) (fun r208 u209 h => ?_)
        refine bs_nameS bW8_9 (fun S210 eS210 => ?_)
        replace h := h S210 eS210
        refine bs_pop C (bf_dk dd_L_law 1093 rfl) rfl ?_
        refine bs_aload_n C (bf_dk dd_L_law 1094 rfl) rfl ?_
        refine bs_aload_n C (bf_dk dd_L_law 1095 rfl) rfl ?_
        refine bs_iload_n C (bf_dk dd_L_law 1096 rfl) rfl ?_
        refine bs_iconst C (bf_dk dd_L_law 1097 rfl) (1 : Int32) (by decide) ?_
        refine bs_iadd C (bf_dk dd_L_law 1098 rfl) ?_
        obtain ⟨hi, h⟩ := h
        refine bs_sld C hX hW (bf_dk dd_L_law 1099 rfl) hi ?_
        refine bs_aload_n C (bf_dk dd_L_law 1100 rfl) rfl ?_
        refine bs_iload_n C (bf_dk dd_L_law 1101 rfl) rfl ?_
        refine bs_iconst C (bf_dk dd_L_law 1102 rfl) (2 : Int32) (by decide) ?_
        refine bs_iadd C (bf_dk dd_L_law 1103 rfl) ?_
        obtain ⟨hi, h⟩ := h
        refine bs_sld C hX hW (bf_dk dd_L_law 1104 rfl) hi ?_
        refine bs_callV_i (ps := [68, 69, 70, 71, 72, 73, 74, 75, 76, 77, 78, 79, 80, 81, 82, 83, 84, 85, 86, 87, 88]) (w := (bW8_9 S210)) C hR (c_X9_storm _ _ _ _ _ S210.2 ((xs ((x3 + (1 : Int32))).toNatClampNeg)) ((xs ((x3 + (2 : Int32))).toNatClampNeg)) _ h) my_X9_storm m_L_175 rfl cl_9 (ge_bW9_0 _) rfl (Nat.le_of_ble_eq_true rfl) (Nat.le_of_ble_eq_true rfl) (su_bW8_9_68_bW9 S210) rfl (st := []) (Nat.le_of_ble_eq_true rfl) (bf_dk dd_L_law 1105 rfl) rfl (fun _ => rfl) (w2 := fun u212 => bW8_9 (S210.1, u212)) (pt_bW8_9_68_bW9 S210) (fun r211 u212 h => ?_)
        refine bs_nameS bW8_9 (fun S213 eS213 => ?_)
        replace h := h S213 eS213
        refine bs_pop C (bf_dk dd_L_law 1106 rfl) rfl ?_
        refine bs_goto C (bf_dk dd_L_law 1107 rfl) (tgt := 1745) rfl ?_
        exact bs_weak (bf_s1 (bf_s1 (bf_s1 (bf_s1 bf_s0)))) (t_L_law_1745 C hR hG hX hW S213 (x3) Q B18 hB18 h)
      · replace h := h.2.2.2.2.2.2.2.2.2.2.2.2.2.2.2.2.2.2.2.2.2.2.2.2.2.2.2.2.2.2.2.2.2.2.2.2.2.2.2.1 (bf_i32 c (by decide))
        refine bs_aload_n C (bf_dk dd_L_law 1108 rfl) rfl ?_
        refine bs_aload_n C (bf_dk dd_L_law 1109 rfl) rfl ?_
        refine bs_iload_n C (bf_dk dd_L_law 1110 rfl) rfl ?_
        refine bs_iconst C (bf_dk dd_L_law 1111 rfl) (1 : Int32) (by decide) ?_
        refine bs_iadd C (bf_dk dd_L_law 1112 rfl) ?_
        obtain ⟨hi, h⟩ := h
        refine bs_sld C hX hW (bf_dk dd_L_law 1113 rfl) hi ?_
        refine bs_aload_n C (bf_dk dd_L_law 1114 rfl) rfl ?_
        refine bs_iload_n C (bf_dk dd_L_law 1115 rfl) rfl ?_
        refine bs_iconst C (bf_dk dd_L_law 1116 rfl) (2 : Int32) (by decide) ?_
        refine bs_iadd C (bf_dk dd_L_law 1117 rfl) ?_
        obtain ⟨hi, h⟩ := h
        refine bs_sld C hX hW (bf_dk dd_L_law 1118 rfl) hi ?_
        refine bs_aload_n C (bf_dk dd_L_law 1119 rfl) rfl ?_
        refine bs_iload_n C (bf_dk dd_L_law 1120 rfl) rfl ?_
        refine bs_iconst C (bf_dk dd_L_law 1121 rfl) (3 : Int32) (by decide) ?_
        refine bs_iadd C (bf_dk dd_L_law 1122 rfl) ?_
        obtain ⟨hi, h⟩ := h
        refine bs_sld C hX hW (bf_dk dd_L_law 1123 rfl) hi ?_
        refine bs_callV_i (ps := [0, 1, 2, 3, 4, 5, 6, 7, 8, 9, 10, 11, 12, 13, 14, 15, 16, 17, 18, 19, 20, 21, 22, 23, 24, 25, 26, 27, 28, 29, 30, 31, 32, 33, 34, 35, 36, 37, 38, 39, 40, 41, 42, 43, 44, 45, 46, 47, 48, 49, 50, 51, 52, 53, 54, 55, 56, 57, 58, 59, 60, 61, 62, 63, 64, 65, 66, 67]) (w := (bW8_9 S)) C hR (c_X8_stormRange _ _ _ _ _ S.1 ((xs ((x3 + (1 : Int32))).toNatClampNeg)) ((xs ((x3 + (2 : Int32))).toNatClampNeg)) ((xs ((x3 + (3 : Int32))).toNatClampNeg)) _ h) my_X8_stormRange m_L_176 rfl cl_8 (ge_bW8_0 _) rfl (Nat.le_of_ble_eq_true rfl) (Nat.le_of_ble_eq_true rfl) (su_bW8_9_0_bW8 S) rfl (st := []) (Nat.le_of_ble_eq_true rfl) (bf_dk dd_L_law 1124 rfl) rfl (fun _ => rfl) (w2 := fun u215 => bW8_9 (u215, S.2)) (pt_bW8_9_0_bW8 S) (fun r214 u215 h => ?_)
        refine bs_nameS bW8_9 (fun S216 eS216 => ?_)
        replace h := h S216 eS216
        refine bs_pop C (bf_dk dd_L_law 1125 rfl) rfl ?_
        refine bs_aload_n C (bf_dk dd_L_law 1126 rfl) rfl ?_
        refine bs_aload_n C (bf_dk dd_L_law 1127 rfl) rfl ?_
        refine bs_iload_n C (bf_dk dd_L_law 1128 rfl) rfl ?_
        refine bs_iconst C (bf_dk dd_L_law 1129 rfl) (1 : Int32) (by decide) ?_
        refine bs_iadd C (bf_dk dd_L_law 1130 rfl) ?_
        obtain ⟨hi, h⟩ := h
        refine bs_sld C hX hW (bf_dk dd_L_law 1131 rfl) hi ?_
        refine bs_aload_n C (bf_dk dd_L_law 1132 rfl) rfl ?_
        refine bs_iload_n C (bf_dk dd_L_law 1133 rfl) rfl ?_
        refine bs_iconst C (bf_dk dd_L_law 1134 rfl) (2 : Int32) (by decide) ?_
        refine bs_iadd C (bf_dk dd_L_law 1135 rfl) ?_
        obtain ⟨hi, h⟩ := h
        refine bs_sld C hX hW (bf_dk dd_L_law 1136 rfl) hi ?_
        refine bs_aload_n C (bf_dk dd_L_law 1137 rfl) rfl ?_
        refine bs_iload_n C (bf_dk dd_L_law 1138 rfl) rfl ?_
        refine bs_iconst C (bf_dk dd_L_law 1139 rfl) (3 : Int32) (by decide) ?_
        refine bs_iadd C (bf_dk dd_L_law 1140 rfl) ?_
        obtain ⟨hi, h⟩ := h
        refine bs_sld C hX hW (bf_dk dd_L_law 1141 rfl) hi ?_
        refine bs_callV_i (ps := [68, 69, 70, 71, 72, 73, 74, 75, 76, 77, 78, 79, 80, 81, 82, 83, 84, 85, 86, 87, 88]) (w := (bW8_9 S216)) C hR (c_X9_stormRange _ _ _ _ _ S216.2 ((xs ((x3 + (1 : Int32))).toNatClampNeg)) ((xs ((x3 + (2 : Int32))).toNatClampNeg)) ((xs ((x3 + (3 : Int32))).toNatClampNeg)) _ h) my_X9_stormRange m_L_179 rfl cl_9 (ge_bW9_0 _) rfl (Nat.le_of_ble_eq_true rfl) (Nat.le_of_ble_eq_true rfl) (su_bW8_9_68_bW9 S216) rfl (st := []) (Nat.le_of_ble_eq_true rfl) (bf_dk dd_L_law 1142 rfl) rfl (fun _ => rfl) (w2 := fun u218 => bW8_9 (S216.1, u218)) (pt_bW8_9_68_bW9 S216) (fun r217 u218 h => ?_)
        refine bs_nameS bW8_9 (fun S219 eS219 => ?_)
        replace h := h S219 eS219
        refine bs_pop C (bf_dk dd_L_law 1143 rfl) rfl ?_
        refine bs_goto C (bf_dk dd_L_law 1144 rfl) (tgt := 1745) rfl ?_
        exact bs_weak (bf_s1 (bf_s1 (bf_s1 (bf_s1 bf_s0)))) (t_L_law_1745 C hR hG hX hW S219 (x3) Q B18 hB18 h)
      · replace h := h.2.2.2.2.2.2.2.2.2.2.2.2.2.2.2.2.2.2.2.2.2.2.2.2.2.2.2.2.2.2.2.2.2.2.2.2.2.2.2.2.1 (bf_i32 c (by decide))
        refine bs_aload_n C (bf_dk dd_L_law 1145 rfl) rfl ?_
        refine bs_aload_n C (bf_dk dd_L_law 1146 rfl) rfl ?_
        refine bs_iload_n C (bf_dk dd_L_law 1147 rfl) rfl ?_
        refine bs_iconst C (bf_dk dd_L_law 1148 rfl) (1 : Int32) (by decide) ?_
        refine bs_iadd C (bf_dk dd_L_law 1149 rfl) ?_
        obtain ⟨hi, h⟩ := h
        refine bs_sld C hX hW (bf_dk dd_L_law 1150 rfl) hi ?_
        refine bs_pureV_i (ps := [0, 1, 2, 3, 4, 5, 6, 7, 8, 9, 10, 11, 12, 13, 14, 15, 16, 17, 18, 19, 20, 21, 22, 23, 24, 25, 26, 27, 28, 29, 30, 31, 32, 33, 34, 35, 36, 37, 38, 39, 40, 41, 42, 43, 44, 45, 46, 47, 48, 49, 50, 51, 52, 53, 54, 55, 56, 57, 58, 59, 60, 61, 62, 63, 64, 65, 66, 67]) (w := (bW8_9 S)) C hR (c_X8_account _ _ _ _ _ S.1 ((xs ((x3 + (1 : Int32))).toNatClampNeg)) _ h) my_X8_account m_L_180 rfl cl_8 (ge_bW8_0 _) rfl (Nat.le_of_ble_eq_true rfl) (Nat.le_of_ble_eq_true rfl) (su_bW8_9_0_bW8 S) rfl (st := []) (Nat.le_of_ble_eq_true rfl) (bf_dk dd_L_law 1151 rfl) rfl (fun _ => rfl) (fun r220 h => ?_)
        refine bs_pop C (bf_dk dd_L_law 1152 rfl) rfl ?_
        refine bs_aload_n C (bf_dk dd_L_law 1153 rfl) rfl ?_
        refine bs_aload_n C (bf_dk dd_L_law 1154 rfl) rfl ?_
        refine bs_iload_n C (bf_dk dd_L_law 1155 rfl) rfl ?_
        refine bs_iconst C (bf_dk dd_L_law 1156 rfl) (1 : Int32) (by decide) ?_
        refine bs_iadd C (bf_dk dd_L_law 1157 rfl) ?_
        obtain ⟨hi, h⟩ := h
        refine bs_sld C hX hW (bf_dk dd_L_law 1158 rfl) hi ?_
        refine bs_callV_i (ps := [68, 69, 70, 71, 72, 73, 74, 75, 76, 77, 78, 79, 80, 81, 82, 83, 84, 85, 86, 87, 88]) (w := (bW8_9 S)) C hR (c_X9_account _ _ _ _ _ S.2 ((xs ((x3 + (1 : Int32))).toNatClampNeg)) _ h) my_X9_account m_L_183 rfl cl_9 (ge_bW9_0 _) rfl (Nat.le_of_ble_eq_true rfl) (Nat.le_of_ble_eq_true rfl) (su_bW8_9_68_bW9 S) rfl (st := []) (Nat.le_of_ble_eq_true rfl) (bf_dk dd_L_law 1159 rfl) rfl (fun _ => rfl) (w2 := fun u223 => bW8_9 (S.1, u223)) (pt_bW8_9_68_bW9 S) (fun r222 u223 h => ?_)
        refine bs_nameS bW8_9 (fun S224 eS224 => ?_)
        replace h := h S224 eS224
        refine bs_pop C (bf_dk dd_L_law 1160 rfl) rfl ?_
        refine bs_goto C (bf_dk dd_L_law 1161 rfl) (tgt := 1745) rfl ?_
        exact bs_weak (bf_s1 (bf_s1 (bf_s1 (bf_s1 bf_s0)))) (t_L_law_1745 C hR hG hX hW S224 (x3) Q B18 hB18 h)
      · replace h := h.2.2.2.2.2.2.2.2.2.2.2.2.2.2.2.2.2.2.2.2.2.2.2.2.2.2.2.2.2.2.2.2.2.2.2.2.2.2.2.2.2.1 (bf_i32 c (by decide))
        refine bs_aload_n C (bf_dk dd_L_law 1162 rfl) rfl ?_
        refine bs_aload_n C (bf_dk dd_L_law 1163 rfl) rfl ?_
        refine bs_iload_n C (bf_dk dd_L_law 1164 rfl) rfl ?_
        refine bs_iconst C (bf_dk dd_L_law 1165 rfl) (1 : Int32) (by decide) ?_
        refine bs_iadd C (bf_dk dd_L_law 1166 rfl) ?_
        obtain ⟨hi, h⟩ := h
        refine bs_sld C hX hW (bf_dk dd_L_law 1167 rfl) hi ?_
        refine bs_pureV_i (ps := [0, 1, 2, 3, 4, 5, 6, 7, 8, 9, 10, 11, 12, 13, 14, 15, 16, 17, 18, 19, 20, 21, 22, 23, 24, 25, 26, 27, 28, 29, 30, 31, 32, 33, 34, 35, 36, 37, 38, 39, 40, 41, 42, 43, 44, 45, 46, 47, 48, 49, 50, 51, 52, 53, 54, 55, 56, 57, 58, 59, 60, 61, 62, 63, 64, 65, 66, 67]) (w := (bW8_9 S)) C hR (c_X8_since _ _ _ _ _ S.1 ((xs ((x3 + (1 : Int32))).toNatClampNeg)) _ h) my_X8_since m_L_184 rfl cl_8 (ge_bW8_0 _) rfl (Nat.le_of_ble_eq_true rfl) (Nat.le_of_ble_eq_true rfl) (su_bW8_9_0_bW8 S) rfl (st := []) (Nat.le_of_ble_eq_true rfl) (bf_dk dd_L_law 1168 rfl) rfl (fun _ => rfl) (fun r225 h => ?_)
        refine bs_pop C (bf_dk dd_L_law 1169 rfl) rfl ?_
        refine bs_aload_n C (bf_dk dd_L_law 1170 rfl) rfl ?_
        refine bs_aload_n C (bf_dk dd_L_law 1171 rfl) rfl ?_
        refine bs_iload_n C (bf_dk dd_L_law 1172 rfl) rfl ?_
        refine bs_iconst C (bf_dk dd_L_law 1173 rfl) (1 : Int32) (by decide) ?_
        refine bs_iadd C (bf_dk dd_L_law 1174 rfl) ?_
        obtain ⟨hi, h⟩ := h
        refine bs_sld C hX hW (bf_dk dd_L_law 1175 rfl) hi ?_
        refine bs_callV_i (ps := [68, 69, 70, 71, 72, 73, 74, 75, 76, 77, 78, 79, 80, 81, 82, 83, 84, 85, 86, 87, 88]) (w := (bW8_9 S)) C hR (c_X9_since _ _ _ _ _ S.2 ((xs ((x3 + (1 : Int32))).toNatClampNeg)) _ h) my_X9_since m_L_187 rfl cl_9 (ge_bW9_0 _) rfl (Nat.le_of_ble_eq_true rfl) (Nat.le_of_ble_eq_true rfl) (su_bW8_9_68_bW9 S) rfl (st := []) (Nat.le_of_ble_eq_true rfl) (bf_dk dd_L_law 1176 rfl) rfl (fun _ => rfl) (w2 := fun u228 => bW8_9 (S.1, u228)) (pt_bW8_9_68_bW9 S) (fun r227 u228 h => ?_)
        refine bs_nameS bW8_9 (fun S229 eS229 => ?_)
        replace h := h S229 eS229
        refine bs_pop C (bf_dk dd_L_law 1177 rfl) rfl ?_
        refine bs_goto C (bf_dk dd_L_law 1178 rfl) (tgt := 1745) rfl ?_
        exact bs_weak (bf_s1 (bf_s1 (bf_s1 (bf_s1 bf_s0)))) (t_L_law_1745 C hR hG hX hW S229 (x3) Q B18 hB18 h)
      · replace h := h.2.2.2.2.2.2.2.2.2.2.2.2.2.2.2.2.2.2.2.2.2.2.2.2.2.2.2.2.2.2.2.2.2.2.2.2.2.2.2.2.2.2.1 (bf_i32 c (by decide))
        refine bs_aload_n C (bf_dk dd_L_law 1179 rfl) rfl ?_
        refine bs_aload_n C (bf_dk dd_L_law 1180 rfl) rfl ?_
        refine bs_iload_n C (bf_dk dd_L_law 1181 rfl) rfl ?_
        refine bs_iconst C (bf_dk dd_L_law 1182 rfl) (1 : Int32) (by decide) ?_
        refine bs_iadd C (bf_dk dd_L_law 1183 rfl) ?_
        obtain ⟨hi, h⟩ := h
        refine bs_sld C hX hW (bf_dk dd_L_law 1184 rfl) hi ?_
        refine bs_callV_i (ps := [0, 1, 2, 3, 4, 5, 6, 7, 8, 9, 10, 11, 12, 13, 14, 15, 16, 17, 18, 19, 20, 21, 22, 23, 24, 25, 26, 27, 28, 29, 30, 31, 32, 33, 34, 35, 36, 37, 38, 39, 40, 41, 42, 43, 44, 45, 46, 47, 48, 49, 50, 51, 52, 53, 54, 55, 56, 57, 58, 59, 60, 61, 62, 63, 64, 65, 66, 67]) (w := (bW8_9 S)) C hR (c_X8_report _ _ _ _ _ S.1 ((xs ((x3 + (1 : Int32))).toNatClampNeg)) _ h) my_X8_report m_L_188 rfl cl_8 (ge_bW8_0 _) rfl (Nat.le_of_ble_eq_true rfl) (Nat.le_of_ble_eq_true rfl) (su_bW8_9_0_bW8 S) rfl (st := []) (Nat.le_of_ble_eq_true rfl) (bf_dk dd_L_law 1185 rfl) rfl (fun _ => rfl) (w2 := fun u231 => bW8_9 (u231, S.2)) (pt_bW8_9_0_bW8 S) (fun r230 u231 h => ?_)
        refine bs_nameS bW8_9 (fun S232 eS232 => ?_)
        replace h := h S232 eS232
        refine bs_pop C (bf_dk dd_L_law 1186 rfl) rfl ?_
        refine bs_aload_n C (bf_dk dd_L_law 1187 rfl) rfl ?_
        refine bs_aload_n C (bf_dk dd_L_law 1188 rfl) rfl ?_
        refine bs_iload_n C (bf_dk dd_L_law 1189 rfl) rfl ?_
        refine bs_iconst C (bf_dk dd_L_law 1190 rfl) (1 : Int32) (by decide) ?_
        refine bs_iadd C (bf_dk dd_L_law 1191 rfl) ?_
        obtain ⟨hi, h⟩ := h
        refine bs_sld C hX hW (bf_dk dd_L_law 1192 rfl) hi ?_
        refine bs_callV_i (ps := [68, 69, 70, 71, 72, 73, 74, 75, 76, 77, 78, 79, 80, 81, 82, 83, 84, 85, 86, 87, 88]) (w := (bW8_9 S232)) C hR (c_X9_report _ _ _ _ _ S232.2 ((xs ((x3 + (1 : Int32))).toNatClampNeg)) _ h) my_X9_report m_L_191 rfl cl_9 (ge_bW9_0 _) rfl (Nat.le_of_ble_eq_true rfl) (Nat.le_of_ble_eq_true rfl) (su_bW8_9_68_bW9 S232) rfl (st := []) (Nat.le_of_ble_eq_true rfl) (bf_dk dd_L_law 1193 rfl) rfl (fun _ => rfl) (w2 := fun u234 => bW8_9 (S232.1, u234)) (pt_bW8_9_68_bW9 S232) (fun r233 u234 h => ?_)
        refine bs_nameS bW8_9 (fun S235 eS235 => ?_)
        replace h := h S235 eS235
        refine bs_pop C (bf_dk dd_L_law 1194 rfl) rfl ?_
        refine bs_goto C (bf_dk dd_L_law 1195 rfl) (tgt := 1745) rfl ?_
        exact bs_weak (bf_s1 (bf_s1 (bf_s1 (bf_s1 bf_s0)))) (t_L_law_1745 C hR hG hX hW S235 (x3) Q B18 hB18 h)
      · replace h := h.2.2.2.2.2.2.2.2.2.2.2.2.2.2.2.2.2.2.2.2.2.2.2.2.2.2.2.2.2.2.2.2.2.2.2.2.2.2.2.2.2.2.2.1 (bf_i32 c (by decide))
        refine bs_aload_n C (bf_dk dd_L_law 1196 rfl) rfl ?_
        refine bs_aload_n C (bf_dk dd_L_law 1197 rfl) rfl ?_
        refine bs_iload_n C (bf_dk dd_L_law 1198 rfl) rfl ?_
        refine bs_iconst C (bf_dk dd_L_law 1199 rfl) (1 : Int32) (by decide) ?_
        refine bs_iadd C (bf_dk dd_L_law 1200 rfl) ?_
        obtain ⟨hi, h⟩ := h
        refine bs_sld C hX hW (bf_dk dd_L_law 1201 rfl) hi ?_
        refine bs_pureV_i (ps := [0, 1, 2, 3, 4, 5, 6, 7, 8, 9, 10, 11, 12, 13, 14, 15, 16, 17, 18, 19, 20, 21, 22, 23, 24, 25, 26, 27, 28, 29, 30, 31, 32, 33, 34, 35, 36, 37, 38, 39, 40, 41, 42, 43, 44, 45, 46, 47, 48, 49, 50, 51, 52, 53, 54, 55, 56, 57, 58, 59, 60, 61, 62, 63, 64, 65, 66, 67]) (w := (bW8_9 S)) C hR (c_X8_sign _ _ _ _ _ S.1 ((xs ((x3 + (1 : Int32))).toNatClampNeg)) _ h) my_X8_sign m_L_192 rfl cl_8 (ge_bW8_0 _) rfl (Nat.le_of_ble_eq_true rfl) (Nat.le_of_ble_eq_true rfl) (su_bW8_9_0_bW8 S) rfl (st := []) (Nat.le_of_ble_eq_true rfl) (bf_dk dd_L_law 1202 rfl) rfl (fun _ => rfl) (fun r236 h => ?_)
        refine bs_pop C (bf_dk dd_L_law 1203 rfl) rfl ?_
        refine bs_aload_n C (bf_dk dd_L_law 1204 rfl) rfl ?_
        refine bs_aload_n C (bf_dk dd_L_law 1205 rfl) rfl ?_
        refine bs_iload_n C (bf_dk dd_L_law 1206 rfl) rfl ?_
        refine bs_iconst C (bf_dk dd_L_law 1207 rfl) (1 : Int32) (by decide) ?_
        refine bs_iadd C (bf_dk dd_L_law 1208 rfl) ?_
        obtain ⟨hi, h⟩ := h
        refine bs_sld C hX hW (bf_dk dd_L_law 1209 rfl) hi ?_
        refine bs_callV_i (ps := [68, 69, 70, 71, 72, 73, 74, 75, 76, 77, 78, 79, 80, 81, 82, 83, 84, 85, 86, 87, 88]) (w := (bW8_9 S)) C hR (c_X9_sign _ _ _ _ _ S.2 ((xs ((x3 + (1 : Int32))).toNatClampNeg)) _ h) my_X9_sign m_L_195 rfl cl_9 (ge_bW9_0 _) rfl (Nat.le_of_ble_eq_true rfl) (Nat.le_of_ble_eq_true rfl) (su_bW8_9_68_bW9 S) rfl (st := []) (Nat.le_of_ble_eq_true rfl) (bf_dk dd_L_law 1210 rfl) rfl (fun _ => rfl) (w2 := fun u239 => bW8_9 (S.1, u239)) (pt_bW8_9_68_bW9 S) (fun r238 u239 h => ?_)
        refine bs_nameS bW8_9 (fun S240 eS240 => ?_)
        replace h := h S240 eS240
        refine bs_pop C (bf_dk dd_L_law 1211 rfl) rfl ?_
        refine bs_goto C (bf_dk dd_L_law 1212 rfl) (tgt := 1745) rfl ?_
        exact bs_weak (bf_s1 (bf_s1 (bf_s1 (bf_s1 bf_s0)))) (t_L_law_1745 C hR hG hX hW S240 (x3) Q B18 hB18 h)
      · replace h := h.2.2.2.2.2.2.2.2.2.2.2.2.2.2.2.2.2.2.2.2.2.2.2.2.2.2.2.2.2.2.2.2.2.2.2.2.2.2.2.2.2.2.2.2.1 (bf_i32 c (by decide))
        refine bs_aload_n C (bf_dk dd_L_law 1213 rfl) rfl ?_
        refine bs_aload_n C (bf_dk dd_L_law 1214 rfl) rfl ?_
        refine bs_iload_n C (bf_dk dd_L_law 1215 rfl) rfl ?_
        refine bs_iconst C (bf_dk dd_L_law 1216 rfl) (1 : Int32) (by decide) ?_
        refine bs_iadd C (bf_dk dd_L_law 1217 rfl) ?_
        obtain ⟨hi, h⟩ := h
        refine bs_sld C hX hW (bf_dk dd_L_law 1218 rfl) hi ?_
        refine bs_if_eq C (bf_dk dd_L_law 1219 rfl) (tgt := 1696) rfl (fun c => ?_) (fun c => ?_)
        · replace h := h.1 c
          refine bs_iconst C (bf_dk dd_L_law 1222 rfl) (0 : Int32) (by decide) ?_
          exact bs_weak (bf_s1 (bf_s1 (bf_s1 (bf_s1 bf_s0)))) (t_L_law_1697 C hR hG hX hW S (x3) ((0 : Int32)) Q B18 hB18 h)
        · replace h := h.2 c
          refine bs_iconst C (bf_dk dd_L_law 1220 rfl) (1 : Int32) (by decide) ?_
          refine bs_goto C (bf_dk dd_L_law 1221 rfl) (tgt := 1697) rfl ?_
          exact bs_weak (bf_s1 (bf_s1 (bf_s1 (bf_s1 bf_s0)))) (t_L_law_1697 C hR hG hX hW S (x3) ((1 : Int32)) Q B18 hB18 h)
      · replace h := h.2.2.2.2.2.2.2.2.2.2.2.2.2.2.2.2.2.2.2.2.2.2.2.2.2.2.2.2.2.2.2.2.2.2.2.2.2.2.2.2.2.2.2.2.2 (bf_i32 c (by decide))
        refine bs_aload_n C (bf_dk dd_L_law 1238 rfl) rfl ?_
        refine bs_aload_n C (bf_dk dd_L_law 1239 rfl) rfl ?_
        refine bs_iload_n C (bf_dk dd_L_law 1240 rfl) rfl ?_
        refine bs_iconst C (bf_dk dd_L_law 1241 rfl) (1 : Int32) (by decide) ?_
        refine bs_iadd C (bf_dk dd_L_law 1242 rfl) ?_
        obtain ⟨hi, h⟩ := h
        refine bs_sld C hX hW (bf_dk dd_L_law 1243 rfl) hi ?_
        refine bs_pureV_i (ps := [0, 1, 2, 3, 4, 5, 6, 7, 8, 9, 10, 11, 12, 13, 14, 15, 16, 17, 18, 19, 20, 21, 22, 23, 24, 25, 26, 27, 28, 29, 30, 31, 32, 33, 34, 35, 36, 37, 38, 39, 40, 41, 42, 43, 44, 45, 46, 47, 48, 49, 50, 51, 52, 53, 54, 55, 56, 57, 58, 59, 60, 61, 62, 63, 64, 65, 66, 67]) (w := (bW8_9 S)) C hR (c_X8_look _ _ _ _ _ S.1 ((xs ((x3 + (1 : Int32))).toNatClampNeg)) _ h) my_X8_look m_L_201 rfl cl_8 (ge_bW8_0 _) rfl (Nat.le_of_ble_eq_true rfl) (Nat.le_of_ble_eq_true rfl) (su_bW8_9_0_bW8 S) rfl (st := []) (Nat.le_of_ble_eq_true rfl) (bf_dk dd_L_law 1244 rfl) rfl (fun _ => rfl) (fun r241 h => ?_)
        refine bs_pop C (bf_dk dd_L_law 1245 rfl) rfl ?_
        refine bs_aload_n C (bf_dk dd_L_law 1246 rfl) rfl ?_
        refine bs_aload_n C (bf_dk dd_L_law 1247 rfl) rfl ?_
        refine bs_iload_n C (bf_dk dd_L_law 1248 rfl) rfl ?_
        refine bs_iconst C (bf_dk dd_L_law 1249 rfl) (1 : Int32) (by decide) ?_
        refine bs_iadd C (bf_dk dd_L_law 1250 rfl) ?_
        obtain ⟨hi, h⟩ := h
        refine bs_sld C hX hW (bf_dk dd_L_law 1251 rfl) hi ?_
        refine bs_callV_i (ps := [68, 69, 70, 71, 72, 73, 74, 75, 76, 77, 78, 79, 80, 81, 82, 83, 84, 85, 86, 87, 88]) (w := (bW8_9 S)) C hR (c_X9_look _ _ _ _ _ S.2 ((xs ((x3 + (1 : Int32))).toNatClampNeg)) _ h) my_X9_look m_L_204 rfl cl_9 (ge_bW9_0 _) rfl (Nat.le_of_ble_eq_true rfl) (Nat.le_of_ble_eq_true rfl) (su_bW8_9_68_bW9 S) rfl (st := []) (Nat.le_of_ble_eq_true rfl) (bf_dk dd_L_law 1252 rfl) rfl (fun _ => rfl) (w2 := fun u244 => bW8_9 (S.1, u244)) (pt_bW8_9_68_bW9 S) (fun r243 u244 h => ?_)
        refine bs_nameS bW8_9 (fun S245 eS245 => ?_)
        replace h := h S245 eS245
        refine bs_pop C (bf_dk dd_L_law 1253 rfl) rfl ?_
        refine bs_goto C (bf_dk dd_L_law 1254 rfl) (tgt := 1745) rfl ?_
        exact bs_weak (bf_s1 (bf_s1 (bf_s1 (bf_s1 bf_s0)))) (t_L_law_1745 C hR hG hX hW S245 (x3) Q B18 hB18 h)
def wp_L_law (L : Nat) (scr : Nat → Int32) (S : bT8 × bT9) (x3 : Int32) : Prop := ∃ I : Nat → Int32 → (bT8 × bT9) → Prop, (∃ n : Nat, I n x3 S) ∧ ∀ (n : Nat) (x3 : Int32) (S : bT8 × bT9), I n x3 S → wp_L_law_18b L scr S x3 () (fun x3 S => ∃ n2 : Nat, n2 < n ∧ I n2 x3 S)
theorem t_L_law {X : bf_X} (C : bf_C X R_law code 4 ret) (hR : bf_Rm X 13 494) (hG : bf_G (xA X) (xs X) (xs X).heap) {b : Nat} {L : Nat} {scr : Nat → Int32} (hX : va_X b L scr (xs X) (xs X).heap) (hW : bf_law X b) (S : bT8 × bT9) (x3 : Int32) (h : wp_L_law L scr S x3) : bf_A X (lw_Z (xb X) (xa X) (xs X)) 4 18 [some (.ref 1000), some (.ref 0), some (.ref 68), some (.int x3)] [] (bW8_9 S) := by
  obtain ⟨I, ⟨n0, h0⟩, hI⟩ := h
  have key : ∀ (n : Nat) (x3 : Int32) (S : bT8 × bT9), I n x3 S → bf_A X (lw_Z (xb X) (xa X) (xs X)) 4 18 [some (.ref 1000), some (.ref 0), some (.ref 68), some (.int x3)] [] (bW8_9 S) := by
    intro n
    induction n using Nat.strongRecOn with
    | _ n ih =>
      intro x3 S hi
      exact t_L_law_18b C hR hG hX hW S x3 () _ (fun x3 S hb => by obtain ⟨n2, hn, hi2⟩ := hb; exact ih n2 hn x3 S hi2) (hI n x3 S hi)
  exact key n0 x3 S h0
