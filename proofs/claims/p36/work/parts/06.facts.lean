theorem bf_c1 {w : Cond} (h : w ∈ tables_1_1) : w ∈ lw_tbl := List.mem_append_right _ (show w ∈ tables_1 from List.mem_append_left _ h)
theorem bf_c2 {w : Cond} (h : w ∈ tables_1_2) : w ∈ lw_tbl := List.mem_append_right _ (show w ∈ tables_1 from List.mem_append_right _ (List.mem_append_left _ h))
theorem bf_c3 {w : Cond} (h : w ∈ tables_1_3) : w ∈ lw_tbl := List.mem_append_right _ (show w ∈ tables_1 from List.mem_append_right _ (List.mem_append_right _ (List.mem_append_left _ h)))
theorem bf_c4 {w : Cond} (h : w ∈ tables_1_4) : w ∈ lw_tbl := List.mem_append_right _ (show w ∈ tables_1 from List.mem_append_right _ (List.mem_append_right _ (List.mem_append_right _ (List.mem_append_left _ h))))
theorem bf_c5 {w : Cond} (h : w ∈ tables_1_5) : w ∈ lw_tbl := List.mem_append_right _ (show w ∈ tables_1 from List.mem_append_right _ (List.mem_append_right _ (List.mem_append_right _ (List.mem_append_right _ (List.mem_append_left _ h)))))
theorem bf_c6 {w : Cond} (h : w ∈ tables_1_6) : w ∈ lw_tbl := List.mem_append_right _ (show w ∈ tables_1 from List.mem_append_right _ (List.mem_append_right _ (List.mem_append_right _ (List.mem_append_right _ (List.mem_append_right _ (List.mem_append_left _ h))))))
theorem bf_c7 {w : Cond} (h : w ∈ tables_1_7) : w ∈ lw_tbl := List.mem_append_right _ (show w ∈ tables_1 from List.mem_append_right _ (List.mem_append_right _ (List.mem_append_right _ (List.mem_append_right _ (List.mem_append_right _ (List.mem_append_right _ (List.mem_append_left _ h)))))))
theorem bf_c8 {w : Cond} (h : w ∈ tables_1_8) : w ∈ lw_tbl := List.mem_append_right _ (show w ∈ tables_1 from List.mem_append_right _ (List.mem_append_right _ (List.mem_append_right _ (List.mem_append_right _ (List.mem_append_right _ (List.mem_append_right _ (List.mem_append_right _ (h))))))))
theorem bf_f {t : List Cond} (ht : ∀ {w : Cond}, w ∈ t → w ∈ lw_tbl) (i : Nat) {w : Cond} (h : t[i]? = some w) (hg : goodWord w = true) : w ∈ lw_good := bf_gd (ht (List.mem_of_getElem? h)) hg
theorem bf_fN {t : List Cond} (ht : ∀ {w : Cond}, w ∈ t → w ∈ lw_tbl) (i : Nat) {w : Cond} (h : t[i]? = some w) : w ∈ lw_tbl := ht (List.mem_of_getElem? h)
theorem gw_methodLink {a b c} : goodWord (.methodLink a b c) = true := rfl
theorem gw_fieldLink {a b c d e} : goodWord (.fieldLink a b c d e) = true := rfl
theorem gw_constant {a b c} : goodWord (.constant a b c) = true := rfl
theorem gw_constantLong {a b c} : goodWord (.constantLong a b c) = true := rfl
theorem gw_classLink {a b c} : goodWord (.classLink a b c) = true := rfl
theorem gw_instantiable {a b} : goodWord (.instantiable a b) = true := rfl
theorem gw_code {a b c d} : goodWord (.code a b c d) = true := rfl
theorem gw_initialized {a} : goodWord (.initialized a) = true := rfl
theorem gw_instanceMethod {a} : goodWord (.instanceMethod a) = true := rfl
theorem gw_static {a} : goodWord (.static a) = true := rfl
theorem gw_selects {a b c} : goodWord (.selects a b c) = true := rfl
theorem bf_p1 {q : MethodName × Nat} (h : q ∈ lw_privs_1) : Cond.selects q.1.cls q.1 q.1 ∈ lw_good := bf_gd (List.mem_append_left _ (List.mem_map.mpr ⟨q, show q ∈ lw_privs from List.mem_append_left _ h, rfl⟩)) rfl
theorem bf_p2 {q : MethodName × Nat} (h : q ∈ lw_privs_2) : Cond.selects q.1.cls q.1 q.1 ∈ lw_good := bf_gd (List.mem_append_left _ (List.mem_map.mpr ⟨q, show q ∈ lw_privs from List.mem_append_right _ (List.mem_append_left _ h), rfl⟩)) rfl
theorem bf_p3 {q : MethodName × Nat} (h : q ∈ lw_privs_3) : Cond.selects q.1.cls q.1 q.1 ∈ lw_good := bf_gd (List.mem_append_left _ (List.mem_map.mpr ⟨q, show q ∈ lw_privs from List.mem_append_right _ (List.mem_append_right _ (List.mem_append_left _ h)), rfl⟩)) rfl
theorem bf_p4 {q : MethodName × Nat} (h : q ∈ lw_privs_4) : Cond.selects q.1.cls q.1 q.1 ∈ lw_good := bf_gd (List.mem_append_left _ (List.mem_map.mpr ⟨q, show q ∈ lw_privs from List.mem_append_right _ (List.mem_append_right _ (List.mem_append_right _ (List.mem_append_left _ h))), rfl⟩)) rfl
theorem bf_p5 {q : MethodName × Nat} (h : q ∈ lw_privs_5) : Cond.selects q.1.cls q.1 q.1 ∈ lw_good := bf_gd (List.mem_append_left _ (List.mem_map.mpr ⟨q, show q ∈ lw_privs from List.mem_append_right _ (List.mem_append_right _ (List.mem_append_right _ (List.mem_append_right _ (List.mem_append_left _ h)))), rfl⟩)) rfl
theorem bf_p6 {q : MethodName × Nat} (h : q ∈ lw_privs_6) : Cond.selects q.1.cls q.1 q.1 ∈ lw_good := bf_gd (List.mem_append_left _ (List.mem_map.mpr ⟨q, show q ∈ lw_privs from List.mem_append_right _ (List.mem_append_right _ (List.mem_append_right _ (List.mem_append_right _ (List.mem_append_right _ (List.mem_append_left _ h))))), rfl⟩)) rfl
theorem bf_p7 {q : MethodName × Nat} (h : q ∈ lw_privs_7) : Cond.selects q.1.cls q.1 q.1 ∈ lw_good := bf_gd (List.mem_append_left _ (List.mem_map.mpr ⟨q, show q ∈ lw_privs from List.mem_append_right _ (List.mem_append_right _ (List.mem_append_right _ (List.mem_append_right _ (List.mem_append_right _ (List.mem_append_right _ (List.mem_append_left _ h)))))), rfl⟩)) rfl
theorem bf_p8 {q : MethodName × Nat} (h : q ∈ lw_privs_8) : Cond.selects q.1.cls q.1 q.1 ∈ lw_good := bf_gd (List.mem_append_left _ (List.mem_map.mpr ⟨q, show q ∈ lw_privs from List.mem_append_right _ (List.mem_append_right _ (List.mem_append_right _ (List.mem_append_right _ (List.mem_append_right _ (List.mem_append_right _ (List.mem_append_right _ (h))))))), rfl⟩)) rfl
theorem bf_s0 {b : bf_V} : bf_sub [] b := trivial
theorem bf_s1 {v : Value} {a b : bf_V} (h : bf_sub a b) : bf_sub (some v :: a) (some v :: b) := ⟨rfl, h⟩
theorem bf_sn {x : Option Value} {a b : bf_V} (h : bf_sub a b) : bf_sub (none :: a) (x :: b) := h
theorem bf_en : ∀ (n : Nat), bf_sub (List.replicate n none) []
  | 0 => trivial
  | n + 1 => bf_en n
theorem bf_i32 {x v : Int32} {n : Int} (h : x.toInt = n) (hv : v.toInt = n) : x = v := Int32.toInt_inj.mp (h.trans hv.symm)
def bf_bool (v : Int32) : Prop := narrow .boolean (.int v) = .int v
def bf_ok (cc : ByteArray) (L : List (Nat × Instr × Nat × Nat)) : Bool := L.all (fun q => decide (decode cc q.1 = .ok (q.2.1, q.2.2.1)) && Nat.beq (q.1 + q.2.2.1) q.2.2.2)
theorem bf_dk {cc : ByteArray} {L : List (Nat × Instr × Nat × Nat)} (h : bf_ok cc L = true) (k : Nat) {pc n pc2 : Nat} {i : Instr} (hk : L[k]? = some (pc, i, n, pc2)) : bf_D cc pc i n pc2 := by
  have h1 := List.all_eq_true.mp h _ (List.mem_of_getElem? hk)
  simp only [Bool.and_eq_true, decide_eq_true_eq] at h1
  exact ⟨h1.1, Nat.eq_of_beq_eq_true h1.2⟩
theorem cl_0 : bf_cl[0]? = some (RX0, TX0, 3) := rfl
theorem la_0_0 : u_lay RX0 TX0 0 ∈ lw_good := bf_f bf_c1 49 rfl rfl
theorem la_0_1 : u_lay RX0 TX0 1 ∈ lw_good := bf_f bf_c1 51 rfl rfl
theorem la_0_2 : u_lay RX0 TX0 2 ∈ lw_good := bf_f bf_c1 53 rfl rfl
theorem in_0 : ∀ w ∈ u_ws RX0 TX0 3, w ∈ lw_good := by
  intro w hw
  obtain ⟨k, hk, rfl⟩ := List.mem_map.mp hw
  have hk := List.mem_range.mp hk
  match k, hk with
  | 0, _ => exact la_0_0
  | 1, _ => exact la_0_1
  | 2, _ => exact la_0_2
  | k + 3, h => omega
theorem cl_1 : bf_cl[1]? = some (RX1, TX1, 10) := rfl
theorem la_1_0 : u_lay RX1 TX1 0 ∈ lw_good := bf_f bf_c1 132 rfl rfl
theorem la_1_1 : u_lay RX1 TX1 1 ∈ lw_good := bf_f bf_c1 134 rfl rfl
theorem la_1_2 : u_lay RX1 TX1 2 ∈ lw_good := bf_f bf_c1 136 rfl rfl
theorem la_1_3 : u_lay RX1 TX1 3 ∈ lw_good := bf_f bf_c1 138 rfl rfl
theorem la_1_4 : u_lay RX1 TX1 4 ∈ lw_good := bf_f bf_c1 140 rfl rfl
theorem la_1_5 : u_lay RX1 TX1 5 ∈ lw_good := bf_f bf_c1 142 rfl rfl
theorem la_1_6 : u_lay RX1 TX1 6 ∈ lw_good := bf_f bf_c1 144 rfl rfl
theorem la_1_7 : u_lay RX1 TX1 7 ∈ lw_good := bf_f bf_c1 146 rfl rfl
theorem la_1_8 : u_lay RX1 TX1 8 ∈ lw_good := bf_f bf_c1 148 rfl rfl
theorem la_1_9 : u_lay RX1 TX1 9 ∈ lw_good := bf_f bf_c1 150 rfl rfl
theorem in_1 : ∀ w ∈ u_ws RX1 TX1 10, w ∈ lw_good := by
  intro w hw
  obtain ⟨k, hk, rfl⟩ := List.mem_map.mp hw
  have hk := List.mem_range.mp hk
  match k, hk with
  | 0, _ => exact la_1_0
  | 1, _ => exact la_1_1
  | 2, _ => exact la_1_2
  | 3, _ => exact la_1_3
  | 4, _ => exact la_1_4
  | 5, _ => exact la_1_5
  | 6, _ => exact la_1_6
  | 7, _ => exact la_1_7
  | 8, _ => exact la_1_8
  | 9, _ => exact la_1_9
  | k + 10, h => omega
theorem cl_2 : bf_cl[2]? = some (RX2, TX2, 5) := rfl
theorem la_2_0 : u_lay RX2 TX2 0 ∈ lw_good := bf_f bf_c1 92 rfl rfl
theorem la_2_1 : u_lay RX2 TX2 1 ∈ lw_good := bf_f bf_c1 94 rfl rfl
theorem la_2_2 : u_lay RX2 TX2 2 ∈ lw_good := bf_f bf_c1 96 rfl rfl
theorem la_2_3 : u_lay RX2 TX2 3 ∈ lw_good := bf_f bf_c1 98 rfl rfl
theorem la_2_4 : u_lay RX2 TX2 4 ∈ lw_good := bf_f bf_c1 100 rfl rfl
theorem in_2 : ∀ w ∈ u_ws RX2 TX2 5, w ∈ lw_good := by
  intro w hw
  obtain ⟨k, hk, rfl⟩ := List.mem_map.mp hw
  have hk := List.mem_range.mp hk
  match k, hk with
  | 0, _ => exact la_2_0
  | 1, _ => exact la_2_1
  | 2, _ => exact la_2_2
  | 3, _ => exact la_2_3
  | 4, _ => exact la_2_4
  | k + 5, h => omega
theorem cl_3 : bf_cl[3]? = some (RX3, TX3, 3) := rfl
theorem la_3_0 : u_lay RX3 TX3 0 ∈ lw_good := bf_f bf_c1 73 rfl rfl
theorem la_3_1 : u_lay RX3 TX3 1 ∈ lw_good := bf_f bf_c1 75 rfl rfl
theorem la_3_2 : u_lay RX3 TX3 2 ∈ lw_good := bf_f bf_c1 77 rfl rfl
theorem in_3 : ∀ w ∈ u_ws RX3 TX3 3, w ∈ lw_good := by
  intro w hw
  obtain ⟨k, hk, rfl⟩ := List.mem_map.mp hw
  have hk := List.mem_range.mp hk
  match k, hk with
  | 0, _ => exact la_3_0
  | 1, _ => exact la_3_1
  | 2, _ => exact la_3_2
  | k + 3, h => omega
theorem cl_4 : bf_cl[4]? = some (RX4, TX4, 2) := rfl
theorem la_4_0 : u_lay RX4 TX4 0 ∈ lw_good := bf_f bf_c2 30 rfl rfl
theorem la_4_1 : u_lay RX4 TX4 1 ∈ lw_good := bf_f bf_c2 32 rfl rfl
theorem in_4 : ∀ w ∈ u_ws RX4 TX4 2, w ∈ lw_good := by
  intro w hw
  obtain ⟨k, hk, rfl⟩ := List.mem_map.mp hw
  have hk := List.mem_range.mp hk
  match k, hk with
  | 0, _ => exact la_4_0
  | 1, _ => exact la_4_1
  | k + 2, h => omega
theorem cl_5 : bf_cl[5]? = some (RX5, TX5, 2) := rfl
theorem la_5_0 : u_lay RX5 TX5 0 ∈ lw_good := bf_f bf_c2 44 rfl rfl
theorem la_5_1 : u_lay RX5 TX5 1 ∈ lw_good := bf_f bf_c2 46 rfl rfl
theorem in_5 : ∀ w ∈ u_ws RX5 TX5 2, w ∈ lw_good := by
  intro w hw
  obtain ⟨k, hk, rfl⟩ := List.mem_map.mp hw
  have hk := List.mem_range.mp hk
  match k, hk with
  | 0, _ => exact la_5_0
  | 1, _ => exact la_5_1
  | k + 2, h => omega
theorem cl_6 : bf_cl[6]? = some (RX6, TX6, 19) := rfl
theorem la_6_0 : u_lay RX6 TX6 0 ∈ lw_good := bf_f bf_c1 192 rfl rfl
theorem la_6_1 : u_lay RX6 TX6 1 ∈ lw_good := bf_f bf_c1 194 rfl rfl
theorem la_6_2 : u_lay RX6 TX6 2 ∈ lw_good := bf_f bf_c1 196 rfl rfl
theorem la_6_3 : u_lay RX6 TX6 3 ∈ lw_good := bf_f bf_c1 198 rfl rfl
theorem la_6_4 : u_lay RX6 TX6 4 ∈ lw_good := bf_f bf_c1 200 rfl rfl
theorem la_6_5 : u_lay RX6 TX6 5 ∈ lw_good := bf_f bf_c1 202 rfl rfl
theorem la_6_6 : u_lay RX6 TX6 6 ∈ lw_good := bf_f bf_c1 204 rfl rfl
theorem la_6_7 : u_lay RX6 TX6 7 ∈ lw_good := bf_f bf_c1 206 rfl rfl
theorem la_6_8 : u_lay RX6 TX6 8 ∈ lw_good := bf_f bf_c1 208 rfl rfl
theorem la_6_9 : u_lay RX6 TX6 9 ∈ lw_good := bf_f bf_c1 210 rfl rfl
theorem la_6_10 : u_lay RX6 TX6 10 ∈ lw_good := bf_f bf_c1 212 rfl rfl
theorem la_6_11 : u_lay RX6 TX6 11 ∈ lw_good := bf_f bf_c1 214 rfl rfl
theorem la_6_12 : u_lay RX6 TX6 12 ∈ lw_good := bf_f bf_c1 216 rfl rfl
theorem la_6_13 : u_lay RX6 TX6 13 ∈ lw_good := bf_f bf_c1 218 rfl rfl
theorem la_6_14 : u_lay RX6 TX6 14 ∈ lw_good := bf_f bf_c1 220 rfl rfl
theorem la_6_15 : u_lay RX6 TX6 15 ∈ lw_good := bf_f bf_c1 222 rfl rfl
theorem la_6_16 : u_lay RX6 TX6 16 ∈ lw_good := bf_f bf_c1 224 rfl rfl
theorem la_6_17 : u_lay RX6 TX6 17 ∈ lw_good := bf_f bf_c1 226 rfl rfl
theorem la_6_18 : u_lay RX6 TX6 18 ∈ lw_good := bf_f bf_c1 228 rfl rfl
theorem in_6 : ∀ w ∈ u_ws RX6 TX6 19, w ∈ lw_good := by
  intro w hw
  obtain ⟨k, hk, rfl⟩ := List.mem_map.mp hw
  have hk := List.mem_range.mp hk
  match k, hk with
  | 0, _ => exact la_6_0
  | 1, _ => exact la_6_1
  | 2, _ => exact la_6_2
  | 3, _ => exact la_6_3
  | 4, _ => exact la_6_4
  | 5, _ => exact la_6_5
  | 6, _ => exact la_6_6
  | 7, _ => exact la_6_7
  | 8, _ => exact la_6_8
  | 9, _ => exact la_6_9
  | 10, _ => exact la_6_10
  | 11, _ => exact la_6_11
  | 12, _ => exact la_6_12
  | 13, _ => exact la_6_13
  | 14, _ => exact la_6_14
  | 15, _ => exact la_6_15
  | 16, _ => exact la_6_16
  | 17, _ => exact la_6_17
  | 18, _ => exact la_6_18
  | k + 19, h => omega
theorem cl_7 : bf_cl[7]? = some (RX7, TX7, 6) := rfl
theorem la_7_0 : u_lay RX7 TX7 0 ∈ lw_good := bf_f bf_c2 6 rfl rfl
theorem la_7_1 : u_lay RX7 TX7 1 ∈ lw_good := bf_f bf_c2 8 rfl rfl
theorem la_7_2 : u_lay RX7 TX7 2 ∈ lw_good := bf_f bf_c2 10 rfl rfl
theorem la_7_3 : u_lay RX7 TX7 3 ∈ lw_good := bf_f bf_c2 12 rfl rfl
theorem la_7_4 : u_lay RX7 TX7 4 ∈ lw_good := bf_f bf_c2 14 rfl rfl
theorem la_7_5 : u_lay RX7 TX7 5 ∈ lw_good := bf_f bf_c2 16 rfl rfl
theorem in_7 : ∀ w ∈ u_ws RX7 TX7 6, w ∈ lw_good := by
  intro w hw
  obtain ⟨k, hk, rfl⟩ := List.mem_map.mp hw
  have hk := List.mem_range.mp hk
  match k, hk with
  | 0, _ => exact la_7_0
  | 1, _ => exact la_7_1
  | 2, _ => exact la_7_2
  | 3, _ => exact la_7_3
  | 4, _ => exact la_7_4
  | 5, _ => exact la_7_5
  | k + 6, h => omega
theorem cl_8 : bf_cl[8]? = some (RX8, TX8, 10) := rfl
theorem la_8_0 : u_lay RX8 TX8 0 ∈ lw_good := bf_f bf_c2 193 rfl rfl
theorem la_8_1 : u_lay RX8 TX8 1 ∈ lw_good := bf_f bf_c2 195 rfl rfl
theorem la_8_2 : u_lay RX8 TX8 2 ∈ lw_good := bf_f bf_c2 197 rfl rfl
theorem la_8_3 : u_lay RX8 TX8 3 ∈ lw_good := bf_f bf_c2 199 rfl rfl
theorem la_8_4 : u_lay RX8 TX8 4 ∈ lw_good := bf_f bf_c2 201 rfl rfl
theorem la_8_5 : u_lay RX8 TX8 5 ∈ lw_good := bf_f bf_c2 203 rfl rfl
theorem la_8_6 : u_lay RX8 TX8 6 ∈ lw_good := bf_f bf_c2 205 rfl rfl
theorem la_8_7 : u_lay RX8 TX8 7 ∈ lw_good := bf_f bf_c2 207 rfl rfl
theorem la_8_8 : u_lay RX8 TX8 8 ∈ lw_good := bf_f bf_c2 209 rfl rfl
theorem la_8_9 : u_lay RX8 TX8 9 ∈ lw_good := bf_f bf_c2 211 rfl rfl
theorem in_8 : ∀ w ∈ u_ws RX8 TX8 10, w ∈ lw_good := by
  intro w hw
  obtain ⟨k, hk, rfl⟩ := List.mem_map.mp hw
  have hk := List.mem_range.mp hk
  match k, hk with
  | 0, _ => exact la_8_0
  | 1, _ => exact la_8_1
  | 2, _ => exact la_8_2
  | 3, _ => exact la_8_3
  | 4, _ => exact la_8_4
  | 5, _ => exact la_8_5
  | 6, _ => exact la_8_6
  | 7, _ => exact la_8_7
  | 8, _ => exact la_8_8
  | 9, _ => exact la_8_9
  | k + 10, h => omega
theorem cl_9 : bf_cl[9]? = some (RX9, TX9, 46) := rfl
theorem la_9_0 : u_lay RX9 TX9 0 ∈ lw_good := bf_f bf_c5 106 rfl rfl
theorem la_9_1 : u_lay RX9 TX9 1 ∈ lw_good := bf_f bf_c5 108 rfl rfl
theorem la_9_2 : u_lay RX9 TX9 2 ∈ lw_good := bf_f bf_c5 110 rfl rfl
theorem la_9_3 : u_lay RX9 TX9 3 ∈ lw_good := bf_f bf_c5 112 rfl rfl
theorem la_9_4 : u_lay RX9 TX9 4 ∈ lw_good := bf_f bf_c5 114 rfl rfl
theorem la_9_5 : u_lay RX9 TX9 5 ∈ lw_good := bf_f bf_c5 116 rfl rfl
theorem la_9_6 : u_lay RX9 TX9 6 ∈ lw_good := bf_f bf_c5 118 rfl rfl
theorem la_9_7 : u_lay RX9 TX9 7 ∈ lw_good := bf_f bf_c5 120 rfl rfl
theorem la_9_8 : u_lay RX9 TX9 8 ∈ lw_good := bf_f bf_c5 122 rfl rfl
theorem la_9_9 : u_lay RX9 TX9 9 ∈ lw_good := bf_f bf_c5 124 rfl rfl
theorem la_9_10 : u_lay RX9 TX9 10 ∈ lw_good := bf_f bf_c5 126 rfl rfl
theorem la_9_11 : u_lay RX9 TX9 11 ∈ lw_good := bf_f bf_c5 128 rfl rfl
theorem la_9_12 : u_lay RX9 TX9 12 ∈ lw_good := bf_f bf_c5 130 rfl rfl
theorem la_9_13 : u_lay RX9 TX9 13 ∈ lw_good := bf_f bf_c5 132 rfl rfl
theorem la_9_14 : u_lay RX9 TX9 14 ∈ lw_good := bf_f bf_c5 134 rfl rfl
theorem la_9_15 : u_lay RX9 TX9 15 ∈ lw_good := bf_f bf_c5 136 rfl rfl
theorem la_9_16 : u_lay RX9 TX9 16 ∈ lw_good := bf_f bf_c5 138 rfl rfl
theorem la_9_17 : u_lay RX9 TX9 17 ∈ lw_good := bf_f bf_c5 140 rfl rfl
theorem la_9_18 : u_lay RX9 TX9 18 ∈ lw_good := bf_f bf_c5 142 rfl rfl
theorem la_9_19 : u_lay RX9 TX9 19 ∈ lw_good := bf_f bf_c5 144 rfl rfl
theorem la_9_20 : u_lay RX9 TX9 20 ∈ lw_good := bf_f bf_c5 146 rfl rfl
theorem la_9_21 : u_lay RX9 TX9 21 ∈ lw_good := bf_f bf_c5 148 rfl rfl
theorem la_9_22 : u_lay RX9 TX9 22 ∈ lw_good := bf_f bf_c5 150 rfl rfl
theorem la_9_23 : u_lay RX9 TX9 23 ∈ lw_good := bf_f bf_c5 152 rfl rfl
theorem la_9_24 : u_lay RX9 TX9 24 ∈ lw_good := bf_f bf_c5 154 rfl rfl
theorem la_9_25 : u_lay RX9 TX9 25 ∈ lw_good := bf_f bf_c5 156 rfl rfl
theorem la_9_26 : u_lay RX9 TX9 26 ∈ lw_good := bf_f bf_c5 158 rfl rfl
theorem la_9_27 : u_lay RX9 TX9 27 ∈ lw_good := bf_f bf_c5 160 rfl rfl
theorem la_9_28 : u_lay RX9 TX9 28 ∈ lw_good := bf_f bf_c5 162 rfl rfl
theorem la_9_29 : u_lay RX9 TX9 29 ∈ lw_good := bf_f bf_c5 164 rfl rfl
theorem la_9_30 : u_lay RX9 TX9 30 ∈ lw_good := bf_f bf_c5 166 rfl rfl
theorem la_9_31 : u_lay RX9 TX9 31 ∈ lw_good := bf_f bf_c5 168 rfl rfl
theorem la_9_32 : u_lay RX9 TX9 32 ∈ lw_good := bf_f bf_c5 170 rfl rfl
theorem la_9_33 : u_lay RX9 TX9 33 ∈ lw_good := bf_f bf_c5 172 rfl rfl
theorem la_9_34 : u_lay RX9 TX9 34 ∈ lw_good := bf_f bf_c5 174 rfl rfl
theorem la_9_35 : u_lay RX9 TX9 35 ∈ lw_good := bf_f bf_c5 176 rfl rfl
theorem la_9_36 : u_lay RX9 TX9 36 ∈ lw_good := bf_f bf_c5 178 rfl rfl
theorem la_9_37 : u_lay RX9 TX9 37 ∈ lw_good := bf_f bf_c5 180 rfl rfl
theorem la_9_38 : u_lay RX9 TX9 38 ∈ lw_good := bf_f bf_c5 182 rfl rfl
theorem la_9_39 : u_lay RX9 TX9 39 ∈ lw_good := bf_f bf_c5 184 rfl rfl
theorem la_9_40 : u_lay RX9 TX9 40 ∈ lw_good := bf_f bf_c5 186 rfl rfl
theorem la_9_41 : u_lay RX9 TX9 41 ∈ lw_good := bf_f bf_c5 188 rfl rfl
theorem la_9_42 : u_lay RX9 TX9 42 ∈ lw_good := bf_f bf_c5 190 rfl rfl
theorem la_9_43 : u_lay RX9 TX9 43 ∈ lw_good := bf_f bf_c5 192 rfl rfl
theorem la_9_44 : u_lay RX9 TX9 44 ∈ lw_good := bf_f bf_c5 194 rfl rfl
theorem la_9_45 : u_lay RX9 TX9 45 ∈ lw_good := bf_f bf_c5 196 rfl rfl
theorem in_9 : ∀ w ∈ u_ws RX9 TX9 46, w ∈ lw_good := by
  intro w hw
  obtain ⟨k, hk, rfl⟩ := List.mem_map.mp hw
  have hk := List.mem_range.mp hk
  match k, hk with
  | 0, _ => exact la_9_0
  | 1, _ => exact la_9_1
  | 2, _ => exact la_9_2
  | 3, _ => exact la_9_3
  | 4, _ => exact la_9_4
  | 5, _ => exact la_9_5
  | 6, _ => exact la_9_6
  | 7, _ => exact la_9_7
  | 8, _ => exact la_9_8
  | 9, _ => exact la_9_9
  | 10, _ => exact la_9_10
  | 11, _ => exact la_9_11
  | 12, _ => exact la_9_12
  | 13, _ => exact la_9_13
  | 14, _ => exact la_9_14
  | 15, _ => exact la_9_15
  | 16, _ => exact la_9_16
  | 17, _ => exact la_9_17
  | 18, _ => exact la_9_18
  | 19, _ => exact la_9_19
  | 20, _ => exact la_9_20
  | 21, _ => exact la_9_21
  | 22, _ => exact la_9_22
  | 23, _ => exact la_9_23
  | 24, _ => exact la_9_24
  | 25, _ => exact la_9_25
  | 26, _ => exact la_9_26
  | 27, _ => exact la_9_27
  | 28, _ => exact la_9_28
  | 29, _ => exact la_9_29
  | 30, _ => exact la_9_30
  | 31, _ => exact la_9_31
  | 32, _ => exact la_9_32
  | 33, _ => exact la_9_33
  | 34, _ => exact la_9_34
  | 35, _ => exact la_9_35
  | 36, _ => exact la_9_36
  | 37, _ => exact la_9_37
  | 38, _ => exact la_9_38
  | 39, _ => exact la_9_39
  | 40, _ => exact la_9_40
  | 41, _ => exact la_9_41
  | 42, _ => exact la_9_42
  | 43, _ => exact la_9_43
  | 44, _ => exact la_9_44
  | 45, _ => exact la_9_45
  | k + 46, h => omega
theorem k_2_49 : Cond.constant RX2 49 (1664525 : Int32) ∈ lw_good := bf_f bf_c3 143 rfl gw_constant
theorem k_2_50 : Cond.constant RX2 50 (1013904223 : Int32) ∈ lw_good := bf_f bf_c3 144 rfl gw_constant
theorem k_5_19 : Cond.constant RX5 19 (1000000000 : Int32) ∈ lw_good := bf_f bf_c5 8 rfl gw_constant
theorem k_8_392 : Cond.constant RX8 392 (-100000000 : Int32) ∈ lw_good := bf_f bf_c5 53 rfl gw_constant
theorem k_8_440 : Cond.constant RX8 440 (16777619 : Int32) ∈ lw_good := bf_f bf_c2 94 rfl gw_constant
theorem k_9_303 : Cond.constant RX9 303 (16777619 : Int32) ∈ lw_good := bf_f bf_c6 168 rfl gw_constant
theorem k_9_458 : Cond.constant RX9 458 (-100000000 : Int32) ∈ lw_good := bf_f bf_c8 25 rfl gw_constant
theorem k_9_90 : Cond.constant RX9 90 (1664525 : Int32) ∈ lw_good := bf_f bf_c6 37 rfl gw_constant
theorem k_9_91 : Cond.constant RX9 91 (1013904223 : Int32) ∈ lw_good := bf_f bf_c6 38 rfl gw_constant
theorem k_1_124 : Cond.constantLong RX1 124 (-1 : Int64) ∈ lw_good := bf_f bf_c2 126 rfl gw_constantLong
theorem k_8_313 : Cond.constantLong RX8 313 (-1 : Int64) ∈ lw_good := bf_f bf_c2 107 rfl gw_constantLong
theorem k_8_436 : Cond.constantLong RX8 436 (4294967295 : Int64) ∈ lw_good := bf_f bf_c3 123 rfl gw_constantLong
theorem k_8_438 : Cond.constantLong RX8 438 (-9223372036854775808 : Int64) ∈ lw_good := bf_f bf_c3 98 rfl gw_constantLong
theorem k_9_104 : Cond.constantLong RX9 104 (-9223372036854775808 : Int64) ∈ lw_good := bf_f bf_c6 16 rfl gw_constantLong
theorem k_9_290 : Cond.constantLong RX9 290 (-1 : Int64) ∈ lw_good := bf_f bf_c6 155 rfl gw_constantLong
theorem k_9_92 : Cond.constantLong RX9 92 (4294967295 : Int64) ∈ lw_good := bf_f bf_c5 235 rfl gw_constantLong
theorem cpw : Cond.native arraycopyName ∈ lw_good ∧ Cond.static arraycopyName ∈ lw_good ∧ Cond.initialized "java/lang/System" ∈ lw_good := ⟨bf_f bf_c1 62 rfl rfl, bf_f bf_c1 61 rfl rfl, bf_f bf_c1 5 rfl rfl⟩
theorem f_0_15 : Cond.fieldLink RX0 15 "BeginningsFilter$Keys" "lengths" "[I" ∈ lw_good := bf_f bf_c1 44 rfl gw_fieldLink
theorem f_0_19 : Cond.fieldLink RX0 19 "BeginningsFilter$Keys" "count" "I" ∈ lw_good := bf_f bf_c1 45 rfl gw_fieldLink
theorem f_0_9 : Cond.fieldLink RX0 9 "BeginningsFilter$Keys" "bytes" "[J" ∈ lw_good := bf_f bf_c1 43 rfl gw_fieldLink
theorem f_1_12 : Cond.fieldLink RX1 12 "BeginningsFilter$Leaves" "owners" "LBeginningsFilter$Keys;" ∈ lw_good := bf_f bf_c1 111 rfl gw_fieldLink
theorem f_1_18 : Cond.fieldLink RX1 18 "BeginningsFilter$Leaves" "lows" "LBeginningsFilter$Keys;" ∈ lw_good := bf_f bf_c1 115 rfl gw_fieldLink
theorem f_1_21 : Cond.fieldLink RX1 21 "BeginningsFilter$Leaves" "highs" "LBeginningsFilter$Keys;" ∈ lw_good := bf_f bf_c1 117 rfl gw_fieldLink
theorem f_1_24 : Cond.fieldLink RX1 24 "BeginningsFilter$Leaves" "commons" "[I" ∈ lw_good := bf_f bf_c1 119 rfl gw_fieldLink
theorem f_1_28 : Cond.fieldLink RX1 28 "BeginningsFilter$Leaves" "lengths" "[I" ∈ lw_good := bf_f bf_c1 121 rfl gw_fieldLink
theorem f_1_31 : Cond.fieldLink RX1 31 "BeginningsFilter$Leaves" "hashes" "[I" ∈ lw_good := bf_f bf_c1 122 rfl gw_fieldLink
theorem f_1_34 : Cond.fieldLink RX1 34 "BeginningsFilter$Leaves" "nexts" "[I" ∈ lw_good := bf_f bf_c1 124 rfl gw_fieldLink
theorem f_1_37 : Cond.fieldLink RX1 37 "BeginningsFilter$Leaves" "hashBits" "I" ∈ lw_good := bf_f bf_c1 126 rfl gw_fieldLink
theorem f_1_41 : Cond.fieldLink RX1 41 "BeginningsFilter$Leaves" "realBits" "I" ∈ lw_good := bf_f bf_c1 128 rfl gw_fieldLink
theorem f_1_44 : Cond.fieldLink RX1 44 "BeginningsFilter$Leaves" "salt" "I" ∈ lw_good := bf_f bf_c1 130 rfl gw_fieldLink
theorem f_1_47 : Cond.fieldLink RX1 47 "BeginningsFilter$Plan" "mode" "I" ∈ lw_good := bf_f bf_c1 71 rfl gw_fieldLink
theorem f_1_52 : Cond.fieldLink RX1 52 "BeginningsFilter$Plan" "values" "[I" ∈ lw_good := bf_f bf_c1 67 rfl gw_fieldLink
theorem f_1_59 : Cond.fieldLink RX1 59 "BeginningsFilter$Plan" "members" "LBeginningsFilter$Keys;" ∈ lw_good := bf_f bf_c1 64 rfl gw_fieldLink
theorem f_1_66 : Cond.fieldLink RX1 66 "BeginningsFilter$Keys" "count" "I" ∈ lw_good := bf_f bf_c1 47 rfl gw_fieldLink
theorem f_2_12 : Cond.fieldLink RX2 12 "BeginningsFilter$Moment" "told" "LBeginningsFilter$Plan;" ∈ lw_good := bf_f bf_c1 82 rfl gw_fieldLink
theorem f_2_18 : Cond.fieldLink RX2 18 "BeginningsFilter$Moment" "built" "LBeginningsFilter$Plan;" ∈ lw_good := bf_f bf_c1 84 rfl gw_fieldLink
theorem f_2_24 : Cond.fieldLink RX2 24 "BeginningsFilter$Moment" "questions" "LBeginningsFilter$Keys;" ∈ lw_good := bf_f bf_c1 86 rfl gw_fieldLink
theorem f_2_28 : Cond.fieldLink RX2 28 "BeginningsFilter$Moment" "answers" "[I" ∈ lw_good := bf_f bf_c1 88 rfl gw_fieldLink
theorem f_2_32 : Cond.fieldLink RX2 32 "BeginningsFilter$Moment" "draws" "I" ∈ lw_good := bf_f bf_c1 90 rfl gw_fieldLink
theorem f_2_51 : Cond.fieldLink RX2 51 "BeginningsFilter$Plan" "values" "[I" ∈ lw_good := bf_f bf_c1 68 rfl gw_fieldLink
theorem f_3_12 : Cond.fieldLink RX3 12 "BeginningsFilter$Plan" "members" "LBeginningsFilter$Keys;" ∈ lw_good := bf_f bf_c1 63 rfl gw_fieldLink
theorem f_3_18 : Cond.fieldLink RX3 18 "BeginningsFilter$Plan" "values" "[I" ∈ lw_good := bf_f bf_c1 66 rfl gw_fieldLink
theorem f_3_22 : Cond.fieldLink RX3 22 "BeginningsFilter$Plan" "mode" "I" ∈ lw_good := bf_f bf_c1 70 rfl gw_fieldLink
theorem f_4_15 : Cond.fieldLink RX4 15 "BeginningsFilter$Tape" "count" "I" ∈ lw_good := bf_f bf_c2 28 rfl gw_fieldLink
theorem f_4_9 : Cond.fieldLink RX4 9 "BeginningsFilter$Tape" "octets" "[I" ∈ lw_good := bf_f bf_c2 27 rfl gw_fieldLink
theorem f_5_15 : Cond.fieldLink RX5 15 "BeginningsFilter$Text" "length" "I" ∈ lw_good := bf_f bf_c2 42 rfl gw_fieldLink
theorem f_5_9 : Cond.fieldLink RX5 9 "BeginningsFilter$Text" "signs" "[C" ∈ lw_good := bf_f bf_c2 41 rfl gw_fieldLink
theorem f_6_111 : Cond.fieldLink RX6 111 "BeginningsFilter$Leaves" "owners" "LBeginningsFilter$Keys;" ∈ lw_good := bf_f bf_c1 113 rfl gw_fieldLink
theorem f_6_15 : Cond.fieldLink RX6 15 "BeginningsFilter$Tree" "firstLeaves" "[I" ∈ lw_good := bf_f bf_c1 161 rfl gw_fieldLink
theorem f_6_18 : Cond.fieldLink RX6 18 "BeginningsFilter$Tree" "leafCounts" "[I" ∈ lw_good := bf_f bf_c1 163 rfl gw_fieldLink
theorem f_6_21 : Cond.fieldLink RX6 21 "BeginningsFilter$Tree" "edgeStarts" "[I" ∈ lw_good := bf_f bf_c1 165 rfl gw_fieldLink
theorem f_6_24 : Cond.fieldLink RX6 24 "BeginningsFilter$Tree" "edgeNodes" "[I" ∈ lw_good := bf_f bf_c1 166 rfl gw_fieldLink
theorem f_6_27 : Cond.fieldLink RX6 27 "BeginningsFilter$Tree" "edgeOctets" "[I" ∈ lw_good := bf_f bf_c1 168 rfl gw_fieldLink
theorem f_6_30 : Cond.fieldLink RX6 30 "BeginningsFilter$Tree" "edgeLeaves" "[I" ∈ lw_good := bf_f bf_c1 170 rfl gw_fieldLink
theorem f_6_33 : Cond.fieldLink RX6 33 "BeginningsFilter$Tree" "edgeChildren" "[I" ∈ lw_good := bf_f bf_c1 171 rfl gw_fieldLink
theorem f_6_36 : Cond.fieldLink RX6 36 "BeginningsFilter$Tree" "levelStarts" "[I" ∈ lw_good := bf_f bf_c1 172 rfl gw_fieldLink
theorem f_6_39 : Cond.fieldLink RX6 39 "BeginningsFilter$Tree" "places" "[I" ∈ lw_good := bf_f bf_c1 174 rfl gw_fieldLink
theorem f_6_42 : Cond.fieldLink RX6 42 "BeginningsFilter$Tree" "leavesByPlace" "[I" ∈ lw_good := bf_f bf_c1 176 rfl gw_fieldLink
theorem f_6_45 : Cond.fieldLink RX6 45 "BeginningsFilter$Tree" "leafNodes" "[I" ∈ lw_good := bf_f bf_c1 178 rfl gw_fieldLink
theorem f_6_48 : Cond.fieldLink RX6 48 "BeginningsFilter$Tree" "nodes" "I" ∈ lw_good := bf_f bf_c1 180 rfl gw_fieldLink
theorem f_6_52 : Cond.fieldLink RX6 52 "BeginningsFilter$Tree" "edges" "I" ∈ lw_good := bf_f bf_c1 182 rfl gw_fieldLink
theorem f_6_55 : Cond.fieldLink RX6 55 "BeginningsFilter$Tree" "children" "I" ∈ lw_good := bf_f bf_c1 183 rfl gw_fieldLink
theorem f_6_58 : Cond.fieldLink RX6 58 "BeginningsFilter$Tree" "levels" "I" ∈ lw_good := bf_f bf_c1 184 rfl gw_fieldLink
theorem f_6_61 : Cond.fieldLink RX6 61 "BeginningsFilter$Tree" "upper" "I" ∈ lw_good := bf_f bf_c1 186 rfl gw_fieldLink
theorem f_6_64 : Cond.fieldLink RX6 64 "BeginningsFilter$Tree" "upperNodes" "I" ∈ lw_good := bf_f bf_c1 188 rfl gw_fieldLink
theorem f_6_67 : Cond.fieldLink RX6 67 "BeginningsFilter$Tree" "itemStart" "I" ∈ lw_good := bf_f bf_c1 190 rfl gw_fieldLink
theorem f_6_9 : Cond.fieldLink RX6 9 "BeginningsFilter$Tree" "nodeLevels" "[I" ∈ lw_good := bf_f bf_c1 159 rfl gw_fieldLink
theorem f_7_15 : Cond.fieldLink RX7 15 "BeginningsFilter$Tuning" "likeNext" "[I" ∈ lw_good := bf_f bf_c1 238 rfl gw_fieldLink
theorem f_7_18 : Cond.fieldLink RX7 18 "BeginningsFilter$Tuning" "count" "I" ∈ lw_good := bf_f bf_c1 239 rfl gw_fieldLink
theorem f_7_22 : Cond.fieldLink RX7 22 "BeginningsFilter$Tuning" "hashBits" "I" ∈ lw_good := bf_f bf_c2 0 rfl gw_fieldLink
theorem f_7_25 : Cond.fieldLink RX7 25 "BeginningsFilter$Tuning" "realBits" "I" ∈ lw_good := bf_f bf_c2 2 rfl gw_fieldLink
theorem f_7_28 : Cond.fieldLink RX7 28 "BeginningsFilter$Tuning" "falsely" "I" ∈ lw_good := bf_f bf_c2 4 rfl gw_fieldLink
theorem f_7_31 : Cond.fieldLink RX7 31 "BeginningsFilter$Keys" "count" "I" ∈ lw_good := bf_f bf_c1 46 rfl gw_fieldLink
theorem f_7_58 : Cond.fieldLink RX7 58 "BeginningsFilter$Leaves" "owners" "LBeginningsFilter$Keys;" ∈ lw_good := bf_f bf_c1 112 rfl gw_fieldLink
theorem f_7_71 : Cond.fieldLink RX7 71 "BeginningsFilter$Leaves" "salt" "I" ∈ lw_good := bf_f bf_c1 131 rfl gw_fieldLink
theorem f_7_78 : Cond.fieldLink RX7 78 "BeginningsFilter$Leaves" "hashes" "[I" ∈ lw_good := bf_f bf_c1 123 rfl gw_fieldLink
theorem f_7_89 : Cond.fieldLink RX7 89 "BeginningsFilter$Leaves" "nexts" "[I" ∈ lw_good := bf_f bf_c1 125 rfl gw_fieldLink
theorem f_7_9 : Cond.fieldLink RX7 9 "BeginningsFilter$Tuning" "likeHash" "[I" ∈ lw_good := bf_f bf_c1 237 rfl gw_fieldLink
theorem f_8_110 : Cond.fieldLink RX8 110 "BeginningsFilter$Keys" "count" "I" ∈ lw_good := bf_f bf_c1 48 rfl gw_fieldLink
theorem f_8_12 : Cond.fieldLink RX8 12 "BeginningsFilter" "now" "LBeginningsFilter$Moment;" ∈ lw_good := bf_f bf_c2 183 rfl gw_fieldLink
theorem f_8_122 : Cond.fieldLink RX8 122 "BeginningsFilter$Plan" "values" "[I" ∈ lw_good := bf_f bf_c1 69 rfl gw_fieldLink
theorem f_8_125 : Cond.fieldLink RX8 125 "BeginningsFilter$Moment" "draws" "I" ∈ lw_good := bf_f bf_c1 91 rfl gw_fieldLink
theorem f_8_154 : Cond.fieldLink RX8 154 "BeginningsFilter$Moment" "built" "LBeginningsFilter$Plan;" ∈ lw_good := bf_f bf_c1 85 rfl gw_fieldLink
theorem f_8_16 : Cond.fieldLink RX8 16 "BeginningsFilter" "kept" "LBeginningsFilter$Moment;" ∈ lw_good := bf_f bf_c2 184 rfl gw_fieldLink
theorem f_8_163 : Cond.fieldLink RX8 163 "BeginningsFilter$Leaves" "owners" "LBeginningsFilter$Keys;" ∈ lw_good := bf_f bf_c1 114 rfl gw_fieldLink
theorem f_8_186 : Cond.fieldLink RX8 186 "BeginningsFilter$Leaves" "highs" "LBeginningsFilter$Keys;" ∈ lw_good := bf_f bf_c1 118 rfl gw_fieldLink
theorem f_8_19 : Cond.fieldLink RX8 19 "BeginningsFilter" "isKept" "Z" ∈ lw_good := bf_f bf_c2 185 rfl gw_fieldLink
theorem f_8_192 : Cond.fieldLink RX8 192 "BeginningsFilter$Leaves" "lows" "LBeginningsFilter$Keys;" ∈ lw_good := bf_f bf_c1 116 rfl gw_fieldLink
theorem f_8_210 : Cond.fieldLink RX8 210 "BeginningsFilter$Tree" "places" "[I" ∈ lw_good := bf_f bf_c1 175 rfl gw_fieldLink
theorem f_8_213 : Cond.fieldLink RX8 213 "BeginningsFilter$Tree" "leafNodes" "[I" ∈ lw_good := bf_f bf_c1 179 rfl gw_fieldLink
theorem f_8_216 : Cond.fieldLink RX8 216 "BeginningsFilter$Leaves" "commons" "[I" ∈ lw_good := bf_f bf_c1 120 rfl gw_fieldLink
theorem f_8_225 : Cond.fieldLink RX8 225 "BeginningsFilter$Tree" "leavesByPlace" "[I" ∈ lw_good := bf_f bf_c1 177 rfl gw_fieldLink
theorem f_8_228 : Cond.fieldLink RX8 228 "BeginningsFilter$Tree" "nodes" "I" ∈ lw_good := bf_f bf_c1 181 rfl gw_fieldLink
theorem f_8_231 : Cond.fieldLink RX8 231 "BeginningsFilter$Tree" "nodeLevels" "[I" ∈ lw_good := bf_f bf_c1 160 rfl gw_fieldLink
theorem f_8_244 : Cond.fieldLink RX8 244 "BeginningsFilter$Tree" "upperNodes" "I" ∈ lw_good := bf_f bf_c1 189 rfl gw_fieldLink
theorem f_8_247 : Cond.fieldLink RX8 247 "BeginningsFilter$Tree" "firstLeaves" "[I" ∈ lw_good := bf_f bf_c1 162 rfl gw_fieldLink
theorem f_8_250 : Cond.fieldLink RX8 250 "BeginningsFilter$Tree" "leafCounts" "[I" ∈ lw_good := bf_f bf_c1 164 rfl gw_fieldLink
theorem f_8_256 : Cond.fieldLink RX8 256 "BeginningsFilter$Tree" "levels" "I" ∈ lw_good := bf_f bf_c1 185 rfl gw_fieldLink
theorem f_8_259 : Cond.fieldLink RX8 259 "BeginningsFilter$Tree" "levelStarts" "[I" ∈ lw_good := bf_f bf_c1 173 rfl gw_fieldLink
theorem f_8_26 : Cond.fieldLink RX8 26 "BeginningsFilter" "leaves" "LBeginningsFilter$Leaves;" ∈ lw_good := bf_f bf_c2 186 rfl gw_fieldLink
theorem f_8_265 : Cond.fieldLink RX8 265 "BeginningsFilter$Tree" "upper" "I" ∈ lw_good := bf_f bf_c1 187 rfl gw_fieldLink
theorem f_8_274 : Cond.fieldLink RX8 274 "BeginningsFilter$Tree" "itemStart" "I" ∈ lw_good := bf_f bf_c1 191 rfl gw_fieldLink
theorem f_8_277 : Cond.fieldLink RX8 277 "BeginningsFilter$Tree" "edgeOctets" "[I" ∈ lw_good := bf_f bf_c1 169 rfl gw_fieldLink
theorem f_8_286 : Cond.fieldLink RX8 286 "BeginningsFilter$Tree" "edgeNodes" "[I" ∈ lw_good := bf_f bf_c1 167 rfl gw_fieldLink
theorem f_8_33 : Cond.fieldLink RX8 33 "BeginningsFilter" "tree" "LBeginningsFilter$Tree;" ∈ lw_good := bf_f bf_c2 187 rfl gw_fieldLink
theorem f_8_333 : Cond.fieldLink RX8 333 "BeginningsFilter$Moment" "questions" "LBeginningsFilter$Keys;" ∈ lw_good := bf_f bf_c1 87 rfl gw_fieldLink
theorem f_8_344 : Cond.fieldLink RX8 344 "BeginningsFilter$Tuning" "falsely" "I" ∈ lw_good := bf_f bf_c2 5 rfl gw_fieldLink
theorem f_8_347 : Cond.fieldLink RX8 347 "BeginningsFilter$Tuning" "hashBits" "I" ∈ lw_good := bf_f bf_c2 1 rfl gw_fieldLink
theorem f_8_350 : Cond.fieldLink RX8 350 "BeginningsFilter$Tuning" "realBits" "I" ∈ lw_good := bf_f bf_c2 3 rfl gw_fieldLink
theorem f_8_361 : Cond.fieldLink RX8 361 "BeginningsFilter$Moment" "answers" "[I" ∈ lw_good := bf_f bf_c1 89 rfl gw_fieldLink
theorem f_8_371 : Cond.fieldLink RX8 371 "BeginningsFilter$Text" "length" "I" ∈ lw_good := bf_f bf_c2 43 rfl gw_fieldLink
theorem f_8_386 : Cond.fieldLink RX8 386 "BeginningsFilter$Leaves" "hashBits" "I" ∈ lw_good := bf_f bf_c1 127 rfl gw_fieldLink
theorem f_8_387 : Cond.fieldLink RX8 387 "BeginningsFilter$Leaves" "realBits" "I" ∈ lw_good := bf_f bf_c1 129 rfl gw_fieldLink
theorem f_8_40 : Cond.fieldLink RX8 40 "BeginningsFilter" "tuning" "LBeginningsFilter$Tuning;" ∈ lw_good := bf_f bf_c2 188 rfl gw_fieldLink
theorem f_8_47 : Cond.fieldLink RX8 47 "BeginningsFilter" "trial" "LBeginningsFilter$Keys;" ∈ lw_good := bf_f bf_c2 189 rfl gw_fieldLink
theorem f_8_54 : Cond.fieldLink RX8 54 "BeginningsFilter" "tape" "LBeginningsFilter$Tape;" ∈ lw_good := bf_f bf_c2 190 rfl gw_fieldLink
theorem f_8_61 : Cond.fieldLink RX8 61 "BeginningsFilter" "text" "LBeginningsFilter$Text;" ∈ lw_good := bf_f bf_c2 191 rfl gw_fieldLink
theorem f_8_65 : Cond.fieldLink RX8 65 "BeginningsFilter" "chosenRow" "I" ∈ lw_good := bf_f bf_c2 192 rfl gw_fieldLink
theorem f_8_72 : Cond.fieldLink RX8 72 "BeginningsFilter$Tape" "count" "I" ∈ lw_good := bf_f bf_c2 29 rfl gw_fieldLink
theorem f_8_87 : Cond.fieldLink RX8 87 "BeginningsFilter$Moment" "told" "LBeginningsFilter$Plan;" ∈ lw_good := bf_f bf_c1 83 rfl gw_fieldLink
theorem f_8_91 : Cond.fieldLink RX8 91 "BeginningsFilter$Plan" "mode" "I" ∈ lw_good := bf_f bf_c1 72 rfl gw_fieldLink
theorem f_8_99 : Cond.fieldLink RX8 99 "BeginningsFilter$Plan" "members" "LBeginningsFilter$Keys;" ∈ lw_good := bf_f bf_c1 65 rfl gw_fieldLink
theorem f_9_13 : Cond.fieldLink RX9 13 "BeginningsFilterModel" "keys" "[J" ∈ lw_good := bf_f bf_c5 62 rfl gw_fieldLink
theorem f_9_132 : Cond.fieldLink RX9 132 "BeginningsFilterModel" "drawnLength" "I" ∈ lw_good := bf_f bf_c5 65 rfl gw_fieldLink
theorem f_9_135 : Cond.fieldLink RX9 135 "BeginningsFilterModel" "drawn" "J" ∈ lw_good := bf_f bf_c5 64 rfl gw_fieldLink
theorem f_9_146 : Cond.fieldLink RX9 146 "BeginningsFilterModel" "taped" "I" ∈ lw_good := bf_f bf_c5 67 rfl gw_fieldLink
theorem f_9_156 : Cond.fieldLink RX9 156 "BeginningsFilterModel" "chosen" "I" ∈ lw_good := bf_f bf_c5 69 rfl gw_fieldLink
theorem f_9_17 : Cond.fieldLink RX9 17 "BeginningsFilterModel" "lengths" "[I" ∈ lw_good := bf_f bf_c5 63 rfl gw_fieldLink
theorem f_9_184 : Cond.fieldLink RX9 184 "BeginningsFilterModel" "isLaid" "Z" ∈ lw_good := bf_f bf_c5 72 rfl gw_fieldLink
theorem f_9_192 : Cond.fieldLink RX9 192 "BeginningsFilterModel" "areNodesLaid" "Z" ∈ lw_good := bf_f bf_c5 80 rfl gw_fieldLink
theorem f_9_198 : Cond.fieldLink RX9 198 "BeginningsFilterModel" "nodeMany" "I" ∈ lw_good := bf_f bf_c5 76 rfl gw_fieldLink
theorem f_9_20 : Cond.fieldLink RX9 20 "BeginningsFilterModel" "tape" "[I" ∈ lw_good := bf_f bf_c5 66 rfl gw_fieldLink
theorem f_9_201 : Cond.fieldLink RX9 201 "BeginningsFilterModel" "levelMany" "I" ∈ lw_good := bf_f bf_c5 77 rfl gw_fieldLink
theorem f_9_213 : Cond.fieldLink RX9 213 "BeginningsFilterModel" "upper" "I" ∈ lw_good := bf_f bf_c5 78 rfl gw_fieldLink
theorem f_9_216 : Cond.fieldLink RX9 216 "BeginningsFilterModel" "upperNodes" "I" ∈ lw_good := bf_f bf_c5 79 rfl gw_fieldLink
theorem f_9_23 : Cond.fieldLink RX9 23 "BeginningsFilterModel" "names" "[I" ∈ lw_good := bf_f bf_c5 68 rfl gw_fieldLink
theorem f_9_247 : Cond.fieldLink RX9 247 "BeginningsFilterModel" "places" "I" ∈ lw_good := bf_f bf_c5 87 rfl gw_fieldLink
theorem f_9_250 : Cond.fieldLink RX9 250 "BeginningsFilterModel" "itemMany" "I" ∈ lw_good := bf_f bf_c5 84 rfl gw_fieldLink
theorem f_9_26 : Cond.fieldLink RX9 26 "BeginningsFilterModel" "common" "[I" ∈ lw_good := bf_f bf_c5 70 rfl gw_fieldLink
theorem f_9_271 : Cond.fieldLink RX9 271 "BeginningsFilterModel" "lowKey" "J" ∈ lw_good := bf_f bf_c5 88 rfl gw_fieldLink
theorem f_9_274 : Cond.fieldLink RX9 274 "BeginningsFilterModel" "lowLength" "I" ∈ lw_good := bf_f bf_c5 90 rfl gw_fieldLink
theorem f_9_277 : Cond.fieldLink RX9 277 "BeginningsFilterModel" "highKey" "J" ∈ lw_good := bf_f bf_c5 89 rfl gw_fieldLink
theorem f_9_280 : Cond.fieldLink RX9 280 "BeginningsFilterModel" "highLength" "I" ∈ lw_good := bf_f bf_c5 91 rfl gw_fieldLink
theorem f_9_29 : Cond.fieldLink RX9 29 "BeginningsFilterModel" "beginning" "[I" ∈ lw_good := bf_f bf_c5 71 rfl gw_fieldLink
theorem f_9_32 : Cond.fieldLink RX9 32 "BeginningsFilterModel" "nodeLevel" "[I" ∈ lw_good := bf_f bf_c5 73 rfl gw_fieldLink
theorem f_9_333 : Cond.fieldLink RX9 333 "BeginningsFilterModel" "fromKey" "J" ∈ lw_good := bf_f bf_c5 92 rfl gw_fieldLink
theorem f_9_336 : Cond.fieldLink RX9 336 "BeginningsFilterModel" "fromLength" "I" ∈ lw_good := bf_f bf_c5 94 rfl gw_fieldLink
theorem f_9_339 : Cond.fieldLink RX9 339 "BeginningsFilterModel" "toKey" "J" ∈ lw_good := bf_f bf_c5 93 rfl gw_fieldLink
theorem f_9_342 : Cond.fieldLink RX9 342 "BeginningsFilterModel" "toLength" "I" ∈ lw_good := bf_f bf_c5 95 rfl gw_fieldLink
theorem f_9_35 : Cond.fieldLink RX9 35 "BeginningsFilterModel" "nodeLeaf" "[I" ∈ lw_good := bf_f bf_c5 74 rfl gw_fieldLink
theorem f_9_38 : Cond.fieldLink RX9 38 "BeginningsFilterModel" "nodeLeaves" "[I" ∈ lw_good := bf_f bf_c5 75 rfl gw_fieldLink
theorem f_9_384 : Cond.fieldLink RX9 384 "BeginningsFilterModel" "oneMany" "I" ∈ lw_good := bf_f bf_c5 97 rfl gw_fieldLink
theorem f_9_390 : Cond.fieldLink RX9 390 "BeginningsFilterModel" "rowLong" "I" ∈ lw_good := bf_f bf_c5 98 rfl gw_fieldLink
theorem f_9_41 : Cond.fieldLink RX9 41 "BeginningsFilterModel" "itemNode" "[I" ∈ lw_good := bf_f bf_c5 81 rfl gw_fieldLink
theorem f_9_431 : Cond.fieldLink RX9 431 "BeginningsFilterModel" "signMany" "I" ∈ lw_good := bf_f bf_c5 101 rfl gw_fieldLink
theorem f_9_44 : Cond.fieldLink RX9 44 "BeginningsFilterModel" "itemByte" "[I" ∈ lw_good := bf_f bf_c5 82 rfl gw_fieldLink
theorem f_9_449 : Cond.fieldLink RX9 449 "BeginningsFilterModel" "hasImage" "Z" ∈ lw_good := bf_f bf_c5 102 rfl gw_fieldLink
theorem f_9_47 : Cond.fieldLink RX9 47 "BeginningsFilterModel" "itemChild" "[I" ∈ lw_good := bf_f bf_c5 83 rfl gw_fieldLink
theorem f_9_50 : Cond.fieldLink RX9 50 "BeginningsFilterModel" "placeOf" "[I" ∈ lw_good := bf_f bf_c5 85 rfl gw_fieldLink
theorem f_9_53 : Cond.fieldLink RX9 53 "BeginningsFilterModel" "leafOfPlace" "[I" ∈ lw_good := bf_f bf_c5 86 rfl gw_fieldLink
theorem f_9_56 : Cond.fieldLink RX9 56 "BeginningsFilterModel" "ones" "[I" ∈ lw_good := bf_f bf_c5 96 rfl gw_fieldLink
theorem f_9_59 : Cond.fieldLink RX9 59 "BeginningsFilterModel" "laidFor" "I" ∈ lw_good := bf_f bf_c5 99 rfl gw_fieldLink
theorem f_9_63 : Cond.fieldLink RX9 63 "BeginningsFilterModel" "signs" "[I" ∈ lw_good := bf_f bf_c5 100 rfl gw_fieldLink
theorem f_9_66 : Cond.fieldLink RX9 66 "BeginningsFilterModel" "images" "[I" ∈ lw_good := bf_f bf_c5 103 rfl gw_fieldLink
theorem f_9_69 : Cond.fieldLink RX9 69 "BeginningsFilterModel" "keyImages" "[J" ∈ lw_good := bf_f bf_c5 104 rfl gw_fieldLink
theorem f_9_7 : Cond.fieldLink RX9 7 "BeginningsFilterModel" "now" "[I" ∈ lw_good := bf_f bf_c5 61 rfl gw_fieldLink
theorem f_9_72 : Cond.fieldLink RX9 72 "BeginningsFilterModel" "lengthImages" "[I" ∈ lw_good := bf_f bf_c5 105 rfl gw_fieldLink
theorem f_9_75 : Cond.fieldLink RX9 75 "BeginningsFilterModel" "told" "I" ∈ lw_good := bf_f bf_c5 60 rfl gw_fieldLink
theorem m_0_23 : Cond.methodLink RX0 23 yX0_counted ∈ lw_good := bf_f bf_c3 89 rfl gw_methodLink
theorem m_0_27 : Cond.methodLink RX0 27 yX0_bytesAt ∈ lw_good := bf_f bf_c3 93 rfl gw_methodLink
theorem m_0_31 : Cond.methodLink RX0 31 yX0_lengthAt ∈ lw_good := bf_f bf_c3 94 rfl gw_methodLink
theorem m_0_39 : Cond.methodLink RX0 39 yX0_ahead ∈ lw_good := bf_f bf_c3 85 rfl gw_methodLink
theorem m_0_43 : Cond.methodLink RX0 43 arraycopyName ∈ lw_good := bf_f bf_c2 65 rfl gw_methodLink
theorem m_0_49 : Cond.methodLink RX0 49 yX0_numberOf ∈ lw_good := bf_f bf_c4 227 rfl gw_methodLink
theorem m_1_105 : Cond.methodLink RX1 105 yX1_lengthAt ∈ lw_good := bf_f bf_c2 100 rfl gw_methodLink
theorem m_1_109 : Cond.methodLink RX1 109 yX1_isEnded ∈ lw_good := bf_f bf_c2 108 rfl gw_methodLink
theorem m_1_113 : Cond.methodLink RX1 113 yX0_append ∈ lw_good := bf_f bf_c2 112 rfl gw_methodLink
theorem m_1_117 : Cond.methodLink RX1 117 yX1_nextAt ∈ lw_good := bf_f bf_c2 116 rfl gw_methodLink
theorem m_1_132 : Cond.methodLink RX1 132 yX0_upTo ∈ lw_good := bf_f bf_c3 182 rfl gw_methodLink
theorem m_1_138 : Cond.methodLink RX1 138 yX1_possibleAt ∈ lw_good := bf_f bf_c3 178 rfl gw_methodLink
theorem m_1_141 : Cond.methodLink RX1 141 yX1_hashAt ∈ lw_good := bf_f bf_c3 190 rfl gw_methodLink
theorem m_1_144 : Cond.methodLink RX1 144 yX0_ahead ∈ lw_good := bf_f bf_c3 219 rfl gw_methodLink
theorem m_1_62 : Cond.methodLink RX1 62 yX0_copyFrom ∈ lw_good := bf_f bf_c2 61 rfl gw_methodLink
theorem m_1_69 : Cond.methodLink RX1 69 yX1_cut ∈ lw_good := bf_f bf_c2 66 rfl gw_methodLink
theorem m_1_73 : Cond.methodLink RX1 73 yX1_bound ∈ lw_good := bf_f bf_c2 96 rfl gw_methodLink
theorem m_1_76 : Cond.methodLink RX1 76 yX0_bytesAt ∈ lw_good := bf_f bf_c2 70 rfl gw_methodLink
theorem m_1_80 : Cond.methodLink RX1 80 yX0_lengthAt ∈ lw_good := bf_f bf_c2 74 rfl gw_methodLink
theorem m_1_88 : Cond.methodLink RX1 88 Lib.Math.max.name ∈ lw_good := bf_f bf_c2 87 rfl gw_methodLink
theorem m_1_94 : Cond.methodLink RX1 94 Lib.Math.min.name ∈ lw_good := bf_f bf_c2 90 rfl gw_methodLink
theorem m_2_36 : Cond.methodLink RX2 36 yX3_copyFrom ∈ lw_good := bf_f bf_c5 38 rfl gw_methodLink
theorem m_2_40 : Cond.methodLink RX2 40 yX0_copyFrom ∈ lw_good := bf_f bf_c5 39 rfl gw_methodLink
theorem m_2_43 : Cond.methodLink RX2 43 arraycopyName ∈ lw_good := bf_f bf_c5 40 rfl gw_methodLink
theorem m_2_58 : Cond.methodLink RX2 58 yX2_draw ∈ lw_good := bf_f bf_c3 150 rfl gw_methodLink
theorem m_3_29 : Cond.methodLink RX3 29 arraycopyName ∈ lw_good := bf_f bf_c1 60 rfl gw_methodLink
theorem m_3_35 : Cond.methodLink RX3 35 yX0_copyFrom ∈ lw_good := bf_f bf_c3 160 rfl gw_methodLink
theorem m_4_37 : Cond.methodLink RX4 37 yX4_keyAt ∈ lw_good := bf_f bf_c3 76 rfl gw_methodLink
theorem m_4_41 : Cond.methodLink RX4 41 yX0_numberOf ∈ lw_good := bf_f bf_c3 81 rfl gw_methodLink
theorem m_4_47 : Cond.methodLink RX4 47 yX0_insert ∈ lw_good := bf_f bf_c3 99 rfl gw_methodLink
theorem m_5_20 : Cond.methodLink RX5 20 yX5_put ∈ lw_good := bf_f bf_c5 9 rfl gw_methodLink
theorem m_5_24 : Cond.methodLink RX5 24 yX5_putHalf ∈ lw_good := bf_f bf_c5 18 rfl gw_methodLink
theorem m_6_104 : Cond.methodLink RX6 104 yX1_lengthAt ∈ lw_good := bf_f bf_c2 144 rfl gw_methodLink
theorem m_6_107 : Cond.methodLink RX6 107 yX1_isEnded ∈ lw_good := bf_f bf_c2 145 rfl gw_methodLink
theorem m_6_115 : Cond.methodLink RX6 115 yX0_bytesAt ∈ lw_good := bf_f bf_c2 146 rfl gw_methodLink
theorem m_6_124 : Cond.methodLink RX6 124 yX6_addNode ∈ lw_good := bf_f bf_c2 148 rfl gw_methodLink
theorem m_6_128 : Cond.methodLink RX6 128 yX6_findEdgesOf ∈ lw_good := bf_f bf_c2 156 rfl gw_methodLink
theorem m_6_131 : Cond.methodLink RX6 131 yX6_addEdge ∈ lw_good := bf_f bf_c2 161 rfl gw_methodLink
theorem m_6_139 : Cond.methodLink RX6 139 yX6_bitsBy ∈ lw_good := bf_f bf_c2 174 rfl gw_methodLink
theorem m_6_142 : Cond.methodLink RX6 142 yX6_edgesAmong ∈ lw_good := bf_f bf_c2 178 rfl gw_methodLink
theorem m_6_145 : Cond.methodLink RX6 145 yX6_isEnd ∈ lw_good := bf_f bf_c4 27 rfl gw_methodLink
theorem m_6_148 : Cond.methodLink RX6 148 yX6_endsAmong ∈ lw_good := bf_f bf_c4 23 rfl gw_methodLink
theorem m_6_151 : Cond.methodLink RX6 151 yX6_hasChild ∈ lw_good := bf_f bf_c4 35 rfl gw_methodLink
theorem m_6_154 : Cond.methodLink RX6 154 yX6_isOfItems ∈ lw_good := bf_f bf_c4 84 rfl gw_methodLink
theorem m_6_157 : Cond.methodLink RX6 157 yX6_items ∈ lw_good := bf_f bf_c4 75 rfl gw_methodLink
theorem m_6_160 : Cond.methodLink RX6 160 yX6_lastEdgeOf ∈ lw_good := bf_f bf_c4 80 rfl gw_methodLink
theorem m_6_163 : Cond.methodLink RX6 163 yX6_firstEdgeOf ∈ lw_good := bf_f bf_c4 87 rfl gw_methodLink
theorem m_6_166 : Cond.methodLink RX6 166 yX6_oneOf ∈ lw_good := bf_f bf_c4 91 rfl gw_methodLink
theorem m_6_70 : Cond.methodLink RX6 70 yX6_findNodes ∈ lw_good := bf_f bf_c2 132 rfl gw_methodLink
theorem m_6_74 : Cond.methodLink RX6 74 yX6_findEdges ∈ lw_good := bf_f bf_c2 152 rfl gw_methodLink
theorem m_6_77 : Cond.methodLink RX6 77 yX6_findPlaces ∈ lw_good := bf_f bf_c2 166 rfl gw_methodLink
theorem m_6_80 : Cond.methodLink RX6 80 yX6_upperBy ∈ lw_good := bf_f bf_c2 170 rfl gw_methodLink
theorem m_6_84 : Cond.methodLink RX6 84 Lib.Math.min.name ∈ lw_good := bf_f bf_c2 182 rfl gw_methodLink
theorem m_6_94 : Cond.methodLink RX6 94 yX6_findNodesOf ∈ lw_good := bf_f bf_c2 136 rfl gw_methodLink
theorem m_6_98 : Cond.methodLink RX6 98 yX1_count ∈ lw_good := bf_f bf_c2 140 rfl gw_methodLink
theorem m_7_34 : Cond.methodLink RX7 34 Lib.Math.min.name ∈ lw_good := bf_f bf_c4 178 rfl gw_methodLink
theorem m_7_40 : Cond.methodLink RX7 40 yX0_bytesAt ∈ lw_good := bf_f bf_c4 179 rfl gw_methodLink
theorem m_7_44 : Cond.methodLink RX7 44 yX0_lengthAt ∈ lw_good := bf_f bf_c4 180 rfl gw_methodLink
theorem m_7_48 : Cond.methodLink RX7 48 yX7_compare ∈ lw_good := bf_f bf_c4 181 rfl gw_methodLink
theorem m_7_52 : Cond.methodLink RX7 52 yX7_falseBy ∈ lw_good := bf_f bf_c4 202 rfl gw_methodLink
theorem m_7_55 : Cond.methodLink RX7 55 Lib.Math.max.name ∈ lw_good := bf_f bf_c4 206 rfl gw_methodLink
theorem m_7_64 : Cond.methodLink RX7 64 yX0_numberOf ∈ lw_good := bf_f bf_c4 185 rfl gw_methodLink
theorem m_7_68 : Cond.methodLink RX7 68 yX1_beginningOf ∈ lw_good := bf_f bf_c4 186 rfl gw_methodLink
theorem m_7_85 : Cond.methodLink RX7 85 yX1_lengthAt ∈ lw_good := bf_f bf_c4 192 rfl gw_methodLink
theorem m_7_92 : Cond.methodLink RX7 92 yX7_zerosFromLowest ∈ lw_good := bf_f bf_c4 194 rfl gw_methodLink
theorem m_7_95 : Cond.methodLink RX7 95 yX7_zerosFromHighest ∈ lw_good := bf_f bf_c4 198 rfl gw_methodLink
theorem m_8_102 : Cond.methodLink RX8 102 yX0_copyFrom ∈ lw_good := bf_f bf_c3 68 rfl gw_methodLink
theorem m_8_106 : Cond.methodLink RX8 106 yX4_readInto ∈ lw_good := bf_f bf_c3 69 rfl gw_methodLink
theorem m_8_115 : Cond.methodLink RX8 115 yX8_at ∈ lw_good := bf_f bf_c2 127 rfl gw_methodLink
theorem m_8_128 : Cond.methodLink RX8 128 yX8_isLength ∈ lw_good := bf_f bf_c3 119 rfl gw_methodLink
theorem m_8_132 : Cond.methodLink RX8 132 yX8_keyOf ∈ lw_good := bf_f bf_c3 120 rfl gw_methodLink
theorem m_8_136 : Cond.methodLink RX8 136 yX0_insert ∈ lw_good := bf_f bf_c3 125 rfl gw_methodLink
theorem m_8_140 : Cond.methodLink RX8 140 yX0_numberOf ∈ lw_good := bf_f bf_c3 130 rfl gw_methodLink
theorem m_8_143 : Cond.methodLink RX8 143 yX0_drop ∈ lw_good := bf_f bf_c3 131 rfl gw_methodLink
theorem m_8_146 : Cond.methodLink RX8 146 yX2_draw ∈ lw_good := bf_f bf_c3 139 rfl gw_methodLink
theorem m_8_150 : Cond.methodLink RX8 150 yX2_drawBytes ∈ lw_good := bf_f bf_c3 145 rfl gw_methodLink
theorem m_8_157 : Cond.methodLink RX8 157 yX3_copyFrom ∈ lw_good := bf_f bf_c3 156 rfl gw_methodLink
theorem m_8_160 : Cond.methodLink RX8 160 yX1_count ∈ lw_good := bf_f bf_c3 161 rfl gw_methodLink
theorem m_8_166 : Cond.methodLink RX8 166 yX8_askKey ∈ lw_good := bf_f bf_c3 170 rfl gw_methodLink
theorem m_8_169 : Cond.methodLink RX8 169 yX1_possibleAt ∈ lw_good := bf_f bf_c3 202 rfl gw_methodLink
theorem m_8_172 : Cond.methodLink RX8 172 yX8_isRange ∈ lw_good := bf_f bf_c3 207 rfl gw_methodLink
theorem m_8_176 : Cond.methodLink RX8 176 yX8_askRange ∈ lw_good := bf_f bf_c3 211 rfl gw_methodLink
theorem m_8_180 : Cond.methodLink RX8 180 yX1_met ∈ lw_good := bf_f bf_c3 215 rfl gw_methodLink
theorem m_8_183 : Cond.methodLink RX8 183 yX1_held ∈ lw_good := bf_f bf_c3 230 rfl gw_methodLink
theorem m_8_189 : Cond.methodLink RX8 189 yX0_ahead ∈ lw_good := bf_f bf_c3 221 rfl gw_methodLink
theorem m_8_195 : Cond.methodLink RX8 195 yX0_upTo ∈ lw_good := bf_f bf_c3 220 rfl gw_methodLink
theorem m_8_198 : Cond.methodLink RX8 198 yX1_lengthAt ∈ lw_good := bf_f bf_c4 6 rfl gw_methodLink
theorem m_8_201 : Cond.methodLink RX8 201 yX1_isEnded ∈ lw_good := bf_f bf_c4 7 rfl gw_methodLink
theorem m_8_204 : Cond.methodLink RX8 204 yX1_hashAt ∈ lw_good := bf_f bf_c4 8 rfl gw_methodLink
theorem m_8_207 : Cond.methodLink RX8 207 yX1_nextAt ∈ lw_good := bf_f bf_c4 9 rfl gw_methodLink
theorem m_8_219 : Cond.methodLink RX8 219 yX0_bytesAt ∈ lw_good := bf_f bf_c4 10 rfl gw_methodLink
theorem m_8_222 : Cond.methodLink RX8 222 yX8_octetAt ∈ lw_good := bf_f bf_c2 84 rfl gw_methodLink
theorem m_8_234 : Cond.methodLink RX8 234 yX6_branches ∈ lw_good := bf_f bf_c4 19 rfl gw_methodLink
theorem m_8_238 : Cond.methodLink RX8 238 yX6_childrenOf ∈ lw_good := bf_f bf_c4 31 rfl gw_methodLink
theorem m_8_241 : Cond.methodLink RX8 241 yX6_endsAmong ∈ lw_good := bf_f bf_c4 39 rfl gw_methodLink
theorem m_8_253 : Cond.methodLink RX8 253 yX6_goneAlong ∈ lw_good := bf_f bf_c4 44 rfl gw_methodLink
theorem m_8_262 : Cond.methodLink RX8 262 yX1_ofLevel ∈ lw_good := bf_f bf_c4 52 rfl gw_methodLink
theorem m_8_268 : Cond.methodLink RX8 268 yX6_edgesAmong ∈ lw_good := bf_f bf_c4 56 rfl gw_methodLink
theorem m_8_271 : Cond.methodLink RX8 271 yX6_items ∈ lw_good := bf_f bf_c4 61 rfl gw_methodLink
theorem m_8_280 : Cond.methodLink RX8 280 yX6_isEnd ∈ lw_good := bf_f bf_c4 65 rfl gw_methodLink
theorem m_8_283 : Cond.methodLink RX8 283 yX6_hasChild ∈ lw_good := bf_f bf_c4 66 rfl gw_methodLink
theorem m_8_289 : Cond.methodLink RX8 289 yX6_rowLength ∈ lw_good := bf_f bf_c4 71 rfl gw_methodLink
theorem m_8_292 : Cond.methodLink RX8 292 yX6_onesAhead ∈ lw_good := bf_f bf_c4 76 rfl gw_methodLink
theorem m_8_295 : Cond.methodLink RX8 295 yX6_placeOfOne ∈ lw_good := bf_f bf_c4 103 rfl gw_methodLink
theorem m_8_298 : Cond.methodLink RX8 298 yX6_bitsBy ∈ lw_good := bf_f bf_c4 111 rfl gw_methodLink
theorem m_8_301 : Cond.methodLink RX8 301 yX1_tailBits ∈ lw_good := bf_f bf_c4 112 rfl gw_methodLink
theorem m_8_304 : Cond.methodLink RX8 304 yX0_allBytes ∈ lw_good := bf_f bf_c4 116 rfl gw_methodLink
theorem m_8_307 : Cond.methodLink RX8 307 yX8_isCounted ∈ lw_good := bf_f bf_c4 128 rfl gw_methodLink
theorem m_8_310 : Cond.methodLink RX8 310 yX1_covered ∈ lw_good := bf_f bf_c4 131 rfl gw_methodLink
theorem m_8_315 : Cond.methodLink RX8 315 yX0_ofLength ∈ lw_good := bf_f bf_c4 145 rfl gw_methodLink
theorem m_8_318 : Cond.methodLink RX8 318 yX0_lengthAt ∈ lw_good := bf_f bf_c4 153 rfl gw_methodLink
theorem m_8_319 : Cond.methodLink RX8 319 yX8_countUpTo ∈ lw_good := bf_f bf_c4 154 rfl gw_methodLink
theorem m_8_323 : Cond.methodLink RX8 323 yX8_countAhead ∈ lw_good := bf_f bf_c4 155 rfl gw_methodLink
theorem m_8_326 : Cond.methodLink RX8 326 yX8_octetTo ∈ lw_good := bf_f bf_c4 160 rfl gw_methodLink
theorem m_8_330 : Cond.methodLink RX8 330 yX1_verdictOf ∈ lw_good := bf_f bf_c3 174 rfl gw_methodLink
theorem m_8_336 : Cond.methodLink RX8 336 yX0_append ∈ lw_good := bf_f bf_c4 165 rfl gw_methodLink
theorem m_8_340 : Cond.methodLink RX8 340 yX7_tune ∈ lw_good := bf_f bf_c4 174 rfl gw_methodLink
theorem m_8_353 : Cond.methodLink RX8 353 yX8_front ∈ lw_good := bf_f bf_c3 124 rfl gw_methodLink
theorem m_8_356 : Cond.methodLink RX8 356 Lib.Math.min.name ∈ lw_good := bf_f bf_c2 81 rfl gw_methodLink
theorem m_8_364 : Cond.methodLink RX8 364 yX0_notIn ∈ lw_good := bf_f bf_c4 223 rfl gw_methodLink
theorem m_8_368 : Cond.methodLink RX8 368 yX8_newOnesThatMayBe ∈ lw_good := bf_f bf_c4 228 rfl gw_methodLink
theorem m_8_374 : Cond.methodLink RX8 374 yX8_tellFilter ∈ lw_good := bf_f bf_c4 236 rfl gw_methodLink
theorem m_8_377 : Cond.methodLink RX8 377 yX8_tellLeaf ∈ lw_good := bf_f bf_c5 10 rfl gw_methodLink
theorem m_8_380 : Cond.methodLink RX8 380 yX5_signAt ∈ lw_good := bf_f bf_c5 26 rfl gw_methodLink
theorem m_8_383 : Cond.methodLink RX8 383 yX2_copyFrom ∈ lw_good := bf_f bf_c5 34 rfl gw_methodLink
theorem m_8_388 : Cond.methodLink RX8 388 yX1_allEnded ∈ lw_good := bf_f bf_c5 45 rfl gw_methodLink
theorem m_8_391 : Cond.methodLink RX8 391 yX1_allBytes ∈ lw_good := bf_f bf_c5 49 rfl gw_methodLink
theorem m_8_393 : Cond.methodLink RX8 393 yX1_make ∈ lw_good := bf_f bf_c2 54 rfl gw_methodLink
theorem m_8_396 : Cond.methodLink RX8 396 yX6_make ∈ lw_good := bf_f bf_c2 128 rfl gw_methodLink
theorem m_8_399 : Cond.methodLink RX8 399 yX2_note ∈ lw_good := bf_f bf_c3 194 rfl gw_methodLink
theorem m_8_403 : Cond.methodLink RX8 403 yX5_put ∈ lw_good := bf_f bf_c5 0 rfl gw_methodLink
theorem m_8_407 : Cond.methodLink RX8 407 yX5_putNumber ∈ lw_good := bf_f bf_c5 4 rfl gw_methodLink
theorem m_8_410 : Cond.methodLink RX8 410 yX5_putOctet ∈ lw_good := bf_f bf_c5 14 rfl gw_methodLink
theorem m_8_433 : Cond.methodLink RX8 433 yX8_order ∈ lw_good := bf_f bf_c3 210 rfl gw_methodLink
theorem m_8_69 : Cond.methodLink RX8 69 yX8_rebuild ∈ lw_good := bf_f bf_c2 50 rfl gw_methodLink
theorem m_8_75 : Cond.methodLink RX8 75 yX4_putFour ∈ lw_good := bf_f bf_c2 218 rfl gw_methodLink
theorem m_9_106 : Cond.methodLink RX9 106 yX9_isLess ∈ lw_good := bf_f bf_c6 12 rfl gw_methodLink
theorem m_9_110 : Cond.methodLink RX9 110 yX9_lessMany ∈ lw_good := bf_f bf_c6 8 rfl gw_methodLink
theorem m_9_114 : Cond.methodLink RX9 114 yX9_find ∈ lw_good := bf_f bf_c6 4 rfl gw_methodLink
theorem m_9_117 : Cond.methodLink RX9 117 yX9_isKey ∈ lw_good := bf_f bf_c5 223 rfl gw_methodLink
theorem m_9_121 : Cond.methodLink RX9 121 yX9_keyOf ∈ lw_good := bf_f bf_c5 227 rfl gw_methodLink
theorem m_9_125 : Cond.methodLink RX9 125 yX9_comes ∈ lw_good := bf_f bf_c6 0 rfl gw_methodLink
theorem m_9_129 : Cond.methodLink RX9 129 yX9_draw ∈ lw_good := bf_f bf_c6 33 rfl gw_methodLink
theorem m_9_139 : Cond.methodLink RX9 139 yX9_settingOf ∈ lw_good := bf_f bf_c6 39 rfl gw_methodLink
theorem m_9_142 : Cond.methodLink RX9 142 yX9_draws ∈ lw_good := bf_f bf_c6 29 rfl gw_methodLink
theorem m_9_149 : Cond.methodLink RX9 149 yX9_types ∈ lw_good := bf_f bf_c6 47 rfl gw_methodLink
theorem m_9_152 : Cond.methodLink RX9 152 yX9_named ∈ lw_good := bf_f bf_c6 59 rfl gw_methodLink
theorem m_9_159 : Cond.methodLink RX9 159 yX9_tapedKey ∈ lw_good := bf_f bf_c6 79 rfl gw_methodLink
theorem m_9_163 : Cond.methodLink RX9 163 yX9_areKeys ∈ lw_good := bf_f bf_c6 71 rfl gw_methodLink
theorem m_9_166 : Cond.methodLink RX9 166 yX9_newMany ∈ lw_good := bf_f bf_c6 75 rfl gw_methodLink
theorem m_9_169 : Cond.methodLink RX9 169 yX9_comingFrom ∈ lw_good := bf_f bf_c6 83 rfl gw_methodLink
theorem m_9_172 : Cond.methodLink RX9 172 yX9_laysBeginnings ∈ lw_good := bf_f bf_c6 123 rfl gw_methodLink
theorem m_9_175 : Cond.methodLink RX9 175 yX9_lengthOf ∈ lw_good := bf_f bf_c6 131 rfl gw_methodLink
theorem m_9_178 : Cond.methodLink RX9 178 yX9_key ∈ lw_good := bf_f bf_c6 135 rfl gw_methodLink
theorem m_9_181 : Cond.methodLink RX9 181 yX9_byteOf ∈ lw_good := bf_f bf_c6 139 rfl gw_methodLink
theorem m_9_188 : Cond.methodLink RX9 188 yX9_alike ∈ lw_good := bf_f bf_c6 127 rfl gw_methodLink
theorem m_9_195 : Cond.methodLink RX9 195 yX9_isAlike ∈ lw_good := bf_f bf_c6 237 rfl gw_methodLink
theorem m_9_204 : Cond.methodLink RX9 204 yX9_firstLike ∈ lw_good := bf_f bf_c6 233 rfl gw_methodLink
theorem m_9_207 : Cond.methodLink RX9 207 yX9_manyLike ∈ lw_good := bf_f bf_c7 1 rfl gw_methodLink
theorem m_9_210 : Cond.methodLink RX9 210 yX9_upperBy ∈ lw_good := bf_f bf_c7 5 rfl gw_methodLink
theorem m_9_219 : Cond.methodLink RX9 219 yX9_laysItems ∈ lw_good := bf_f bf_c7 37 rfl gw_methodLink
theorem m_9_222 : Cond.methodLink RX9 222 yX9_lastOf ∈ lw_good := bf_f bf_c7 25 rfl gw_methodLink
theorem m_9_225 : Cond.methodLink RX9 225 yX9_isBranch ∈ lw_good := bf_f bf_c7 29 rfl gw_methodLink
theorem m_9_228 : Cond.methodLink RX9 228 yX9_childAt ∈ lw_good := bf_f bf_c7 53 rfl gw_methodLink
theorem m_9_231 : Cond.methodLink RX9 231 yX9_branchMany ∈ lw_good := bf_f bf_c7 21 rfl gw_methodLink
theorem m_9_234 : Cond.methodLink RX9 234 yX9_isNodeEnd ∈ lw_good := bf_f bf_c7 33 rfl gw_methodLink
theorem m_9_237 : Cond.methodLink RX9 237 yX9_bitsOf ∈ lw_good := bf_f bf_c7 17 rfl gw_methodLink
theorem m_9_241 : Cond.methodLink RX9 241 yX9_bitsAbove ∈ lw_good := bf_f bf_c7 9 rfl gw_methodLink
theorem m_9_244 : Cond.methodLink RX9 244 yX9_bitsBelow ∈ lw_good := bf_f bf_c7 13 rfl gw_methodLink
theorem m_9_253 : Cond.methodLink RX9 253 yX9_places ∈ lw_good := bf_f bf_c7 45 rfl gw_methodLink
theorem m_9_255 : Cond.methodLink RX9 255 yX9_laysItem ∈ lw_good := bf_f bf_c7 49 rfl gw_methodLink
theorem m_9_259 : Cond.methodLink RX9 259 yX9_laysNode ∈ lw_good := bf_f bf_c7 41 rfl gw_methodLink
theorem m_9_262 : Cond.methodLink RX9 262 yX9_laysNodes ∈ lw_good := bf_f bf_c6 229 rfl gw_methodLink
theorem m_9_265 : Cond.methodLink RX9 265 yX9_nodes ∈ lw_good := bf_f bf_c7 77 rfl gw_methodLink
theorem m_9_268 : Cond.methodLink RX9 268 yX9_leaves ∈ lw_good := bf_f bf_c6 119 rfl gw_methodLink
theorem m_9_283 : Cond.methodLink RX9 283 yX9_isEnded ∈ lw_good := bf_f bf_c6 147 rfl gw_methodLink
theorem m_9_286 : Cond.methodLink RX9 286 yX9_nextOf ∈ lw_good := bf_f bf_c6 151 rfl gw_methodLink
theorem m_9_292 : Cond.methodLink RX9 292 yX9_bounds ∈ lw_good := bf_f bf_c6 143 rfl gw_methodLink
theorem m_9_296 : Cond.methodLink RX9 296 yX9_isAhead ∈ lw_good := bf_f bf_c6 156 rfl gw_methodLink
theorem m_9_300 : Cond.methodLink RX9 300 yX9_isBehind ∈ lw_good := bf_f bf_c6 160 rfl gw_methodLink
theorem m_9_304 : Cond.methodLink RX9 304 yX9_leafFor ∈ lw_good := bf_f bf_c6 115 rfl gw_methodLink
theorem m_9_307 : Cond.methodLink RX9 307 yX9_hash ∈ lw_good := bf_f bf_c6 164 rfl gw_methodLink
theorem m_9_310 : Cond.methodLink RX9 310 yX9_hashBits ∈ lw_good := bf_f bf_c6 103 rfl gw_methodLink
theorem m_9_313 : Cond.methodLink RX9 313 yX9_nextBits ∈ lw_good := bf_f bf_c6 107 rfl gw_methodLink
theorem m_9_316 : Cond.methodLink RX9 316 yX9_mayBe ∈ lw_good := bf_f bf_c6 111 rfl gw_methodLink
theorem m_9_320 : Cond.methodLink RX9 320 yX9_mayNow ∈ lw_good := bf_f bf_c6 99 rfl gw_methodLink
theorem m_9_323 : Cond.methodLink RX9 323 yX9_isOfFilter ∈ lw_good := bf_f bf_c6 169 rfl gw_methodLink
theorem m_9_326 : Cond.methodLink RX9 326 yX9_counts ∈ lw_good := bf_f bf_c6 173 rfl gw_methodLink
theorem m_9_330 : Cond.methodLink RX9 330 yX9_asks ∈ lw_good := bf_f bf_c6 95 rfl gw_methodLink
theorem m_9_345 : Cond.methodLink RX9 345 yX9_isSure ∈ lw_good := bf_f bf_c6 197 rfl gw_methodLink
theorem m_9_349 : Cond.methodLink RX9 349 yX9_isMet ∈ lw_good := bf_f bf_c6 201 rfl gw_methodLink
theorem m_9_352 : Cond.methodLink RX9 352 yX9_rangeMany ∈ lw_good := bf_f bf_c6 193 rfl gw_methodLink
theorem m_9_356 : Cond.methodLink RX9 356 yX9_ranges ∈ lw_good := bf_f bf_c6 185 rfl gw_methodLink
theorem m_9_360 : Cond.methodLink RX9 360 yX9_asksRange ∈ lw_good := bf_f bf_c6 189 rfl gw_methodLink
theorem m_9_363 : Cond.methodLink RX9 363 yX9_isLeaf ∈ lw_good := bf_f bf_c6 225 rfl gw_methodLink
theorem m_9_366 : Cond.methodLink RX9 366 yX9_hashOf ∈ lw_good := bf_f bf_c7 57 rfl gw_methodLink
theorem m_9_369 : Cond.methodLink RX9 369 yX9_nodeOf ∈ lw_good := bf_f bf_c7 61 rfl gw_methodLink
theorem m_9_372 : Cond.methodLink RX9 372 yX9_isNode ∈ lw_good := bf_f bf_c7 73 rfl gw_methodLink
theorem m_9_375 : Cond.methodLink RX9 375 yX9_kidMany ∈ lw_good := bf_f bf_c7 81 rfl gw_methodLink
theorem m_9_378 : Cond.methodLink RX9 378 yX9_leavesAt ∈ lw_good := bf_f bf_c7 93 rfl gw_methodLink
theorem m_9_381 : Cond.methodLink RX9 381 yX9_levelOf ∈ lw_good := bf_f bf_c7 97 rfl gw_methodLink
theorem m_9_387 : Cond.methodLink RX9 387 yX9_one ∈ lw_good := bf_f bf_c7 117 rfl gw_methodLink
theorem m_9_393 : Cond.methodLink RX9 393 yX9_onesOfNode ∈ lw_good := bf_f bf_c7 113 rfl gw_methodLink
theorem m_9_396 : Cond.methodLink RX9 396 yX9_isOne ∈ lw_good := bf_f bf_c7 121 rfl gw_methodLink
theorem m_9_399 : Cond.methodLink RX9 399 yX9_laysOnes ∈ lw_good := bf_f bf_c7 109 rfl gw_methodLink
theorem m_9_402 : Cond.methodLink RX9 402 yX9_onesAhead ∈ lw_good := bf_f bf_c7 125 rfl gw_methodLink
theorem m_9_405 : Cond.methodLink RX9 405 yX9_tailBits ∈ lw_good := bf_f bf_c7 141 rfl gw_methodLink
theorem m_9_408 : Cond.methodLink RX9 408 yX9_keyBits ∈ lw_good := bf_f bf_c7 145 rfl gw_methodLink
theorem m_9_411 : Cond.methodLink RX9 411 yX9_lessKeys ∈ lw_good := bf_f bf_c7 165 rfl gw_methodLink
theorem m_9_415 : Cond.methodLink RX9 415 yX9_notMoreKeys ∈ lw_good := bf_f bf_c7 161 rfl gw_methodLink
theorem m_9_418 : Cond.methodLink RX9 418 yX9_coverOf ∈ lw_good := bf_f bf_c7 157 rfl gw_methodLink
theorem m_9_421 : Cond.methodLink RX9 421 yX9_powerOf ∈ lw_good := bf_f bf_c7 177 rfl gw_methodLink
theorem m_9_424 : Cond.methodLink RX9 424 yX9_wrongBy ∈ lw_good := bf_f bf_c7 197 rfl gw_methodLink
theorem m_9_427 : Cond.methodLink RX9 427 yX9_lackMany ∈ lw_good := bf_f bf_c7 217 rfl gw_methodLink
theorem m_9_434 : Cond.methodLink RX9 434 yX9_says ∈ lw_good := bf_f bf_c7 229 rfl gw_methodLink
theorem m_9_437 : Cond.methodLink RX9 437 yX9_saysNumber ∈ lw_good := bf_f bf_c7 233 rfl gw_methodLink
theorem m_9_440 : Cond.methodLink RX9 440 yX9_saysHex ∈ lw_good := bf_f bf_c8 1 rfl gw_methodLink
theorem m_9_443 : Cond.methodLink RX9 443 yX9_reportsAll ∈ lw_good := bf_f bf_c7 225 rfl gw_methodLink
theorem m_9_446 : Cond.methodLink RX9 446 yX9_reportsLeaf ∈ lw_good := bf_f bf_c7 237 rfl gw_methodLink
theorem m_9_452 : Cond.methodLink RX9 452 yX9_endedMany ∈ lw_good := bf_f bf_c8 17 rfl gw_methodLink
theorem m_9_455 : Cond.methodLink RX9 455 yX9_beginningBytes ∈ lw_good := bf_f bf_c8 21 rfl gw_methodLink
theorem m_9_78 : Cond.methodLink RX9 78 yX9_firstOf ∈ lw_good := bf_f bf_c5 211 rfl gw_methodLink
theorem m_9_82 : Cond.methodLink RX9 82 yX9_isIn ∈ lw_good := bf_f bf_c5 207 rfl gw_methodLink
theorem m_9_86 : Cond.methodLink RX9 86 yX9_canSet ∈ lw_good := bf_f bf_c5 203 rfl gw_methodLink
theorem m_9_94 : Cond.methodLink RX9 94 yX9_low ∈ lw_good := bf_f bf_c5 231 rfl gw_methodLink
theorem m_9_98 : Cond.methodLink RX9 98 yX9_cut ∈ lw_good := bf_f bf_c5 236 rfl gw_methodLink
theorem m_0_35 : Cond.methodLinkNest RX0 35 yX8_order "BeginningsFilter" ∈ lw_tbl := bf_fN bf_c3 95 rfl
theorem m_1_101 : Cond.methodLinkNest RX1 101 yX8_octetAt "BeginningsFilter" ∈ lw_tbl := bf_fN bf_c2 95 rfl
theorem m_1_106 : Cond.methodLinkNest RX1 106 yX8_front "BeginningsFilter" ∈ lw_tbl := bf_fN bf_c2 104 rfl
theorem m_1_120 : Cond.methodLinkNest RX1 120 yX8_octetTo "BeginningsFilter" ∈ lw_tbl := bf_fN bf_c2 123 rfl
theorem m_1_126 : Cond.methodLinkNest RX1 126 yX8_lowest "BeginningsFilter" ∈ lw_tbl := bf_fN bf_c3 187 rfl
theorem m_1_129 : Cond.methodLinkNest RX1 129 yX8_highest "BeginningsFilter" ∈ lw_tbl := bf_fN bf_c2 120 rfl
theorem m_1_135 : Cond.methodLinkNest RX1 135 yX8_order "BeginningsFilter" ∈ lw_tbl := bf_fN bf_c3 186 rfl
theorem m_1_147 : Cond.methodLinkNest RX1 147 yX8_countUpTo "BeginningsFilter" ∈ lw_tbl := bf_fN bf_c4 135 rfl
theorem m_1_151 : Cond.methodLinkNest RX1 151 yX8_countAhead "BeginningsFilter" ∈ lw_tbl := bf_fN bf_c4 138 rfl
theorem m_1_55 : Cond.methodLinkNest RX1 55 yX8_at "BeginningsFilter" ∈ lw_tbl := bf_fN bf_c2 58 rfl
theorem m_1_84 : Cond.methodLinkNest RX1 84 yX8_alike "BeginningsFilter" ∈ lw_tbl := bf_fN bf_c2 78 rfl
theorem m_1_97 : Cond.methodLinkNest RX1 97 yX8_mixed "BeginningsFilter" ∈ lw_tbl := bf_fN bf_c2 91 rfl
theorem m_2_54 : Cond.methodLinkNest RX2 54 yX8_at "BeginningsFilter" ∈ lw_tbl := bf_fN bf_c3 149 rfl
theorem m_2_62 : Cond.methodLinkNest RX2 62 yX8_octetTo "BeginningsFilter" ∈ lw_tbl := bf_fN bf_c3 151 rfl
theorem m_4_29 : Cond.methodLinkNest RX4 29 yX8_at "BeginningsFilter" ∈ lw_tbl := bf_fN bf_c3 49 rfl
theorem m_4_33 : Cond.methodLinkNest RX4 33 yX8_isLength "BeginningsFilter" ∈ lw_tbl := bf_fN bf_c3 73 rfl
theorem m_4_50 : Cond.methodLinkNest RX4 50 yX8_octetTo "BeginningsFilter" ∈ lw_tbl := bf_fN bf_c3 80 rfl
theorem m_6_121 : Cond.methodLinkNest RX6 121 yX8_front "BeginningsFilter" ∈ lw_tbl := bf_fN bf_c2 147 rfl
theorem m_6_135 : Cond.methodLinkNest RX6 135 yX8_octetAt "BeginningsFilter" ∈ lw_tbl := bf_fN bf_c2 165 rfl
theorem m_6_90 : Cond.methodLinkNest RX6 90 yX8_at "BeginningsFilter" ∈ lw_tbl := bf_fN bf_c2 160 rfl
theorem m_7_101 : Cond.methodLinkNest RX7 101 yX8_highest "BeginningsFilter" ∈ lw_tbl := bf_fN bf_c4 201 rfl
theorem m_7_74 : Cond.methodLinkNest RX7 74 yX8_mixed "BeginningsFilter" ∈ lw_tbl := bf_fN bf_c4 190 rfl
theorem m_7_81 : Cond.methodLinkNest RX7 81 yX8_at "BeginningsFilter" ∈ lw_tbl := bf_fN bf_c4 191 rfl
theorem m_7_86 : Cond.methodLinkNest RX7 86 yX8_octetAt "BeginningsFilter" ∈ lw_tbl := bf_fN bf_c4 193 rfl
theorem m_7_98 : Cond.methodLinkNest RX7 98 yX8_lowest "BeginningsFilter" ∈ lw_tbl := bf_fN bf_c4 197 rfl
theorem ma_max : Cond.static Lib.Math.max.name ∈ lw_good ∧ Cond.initialized "java/lang/Math" ∈ lw_good ∧ Cond.code Lib.Math.max.name Lib.Math.max.code 2 (some .int) ∈ lw_good := ⟨bf_f bf_c2 88 rfl rfl, bf_f bf_c1 11 rfl rfl, bf_f bf_c2 89 rfl rfl⟩
theorem ma_min : Cond.static Lib.Math.min.name ∈ lw_good ∧ Cond.initialized "java/lang/Math" ∈ lw_good ∧ Cond.code Lib.Math.min.name Lib.Math.min.code 2 (some .int) ∈ lw_good := ⟨bf_f bf_c2 82 rfl rfl, bf_f bf_c1 11 rfl rfl, bf_f bf_c2 83 rfl rfl⟩
theorem my_X0_ahead : bf_MV yX0_ahead cX0_ahead 4 (some .int) 2 := ⟨⟨bf_f bf_c3 88 rfl gw_code, bf_f bf_c1 4 rfl gw_initialized, by decide +kernel⟩, bf_f bf_c3 86 rfl gw_instanceMethod, bf_f bf_c3 87 rfl gw_selects⟩
theorem my_X0_allBytes : bf_MV yX0_allBytes cX0_allBytes 3 (some .int) 0 := ⟨⟨bf_f bf_c4 119 rfl gw_code, bf_f bf_c1 4 rfl gw_initialized, by decide +kernel⟩, bf_f bf_c4 117 rfl gw_instanceMethod, bf_f bf_c4 118 rfl gw_selects⟩
theorem my_X0_append : bf_MV yX0_append cX0_append 4 none 2 := ⟨⟨bf_f bf_c2 115 rfl gw_code, bf_f bf_c1 4 rfl gw_initialized, by decide +kernel⟩, bf_f bf_c2 113 rfl gw_instanceMethod, bf_f bf_c2 114 rfl gw_selects⟩
theorem my_X0_bytesAt : bf_MV yX0_bytesAt cX0_bytesAt 2 (some .long) 1 := ⟨⟨bf_f bf_c2 73 rfl gw_code, bf_f bf_c1 4 rfl gw_initialized, by decide +kernel⟩, bf_f bf_c2 71 rfl gw_instanceMethod, bf_f bf_c2 72 rfl gw_selects⟩
theorem my_X0_copyFrom : bf_MV yX0_copyFrom cX0_copyFrom 2 none 1 := ⟨⟨bf_f bf_c2 64 rfl gw_code, bf_f bf_c1 4 rfl gw_initialized, by decide +kernel⟩, bf_f bf_c2 62 rfl gw_instanceMethod, bf_f bf_c2 63 rfl gw_selects⟩
theorem my_X0_counted : bf_MV yX0_counted cX0_counted 8 (some .int) 3 := ⟨⟨bf_f bf_c3 92 rfl gw_code, bf_f bf_c1 4 rfl gw_initialized, by decide +kernel⟩, bf_f bf_c3 91 rfl gw_instanceMethod, bf_p1 (q := (yX0_counted, 3)) (List.mem_of_getElem? (i := 12) rfl)⟩
theorem my_X0_drop : bf_MV yX0_drop cX0_drop 3 none 1 := ⟨⟨bf_f bf_c3 134 rfl gw_code, bf_f bf_c1 4 rfl gw_initialized, by decide +kernel⟩, bf_f bf_c3 132 rfl gw_instanceMethod, bf_f bf_c3 133 rfl gw_selects⟩
theorem my_X0_insert : bf_MV yX0_insert cX0_insert 6 (some .int) 2 := ⟨⟨bf_f bf_c3 102 rfl gw_code, bf_f bf_c1 4 rfl gw_initialized, by decide +kernel⟩, bf_f bf_c3 100 rfl gw_instanceMethod, bf_f bf_c3 101 rfl gw_selects⟩
theorem my_X0_lengthAt : bf_MV yX0_lengthAt cX0_lengthAt 2 (some .int) 1 := ⟨⟨bf_f bf_c2 77 rfl gw_code, bf_f bf_c1 4 rfl gw_initialized, by decide +kernel⟩, bf_f bf_c2 75 rfl gw_instanceMethod, bf_f bf_c2 76 rfl gw_selects⟩
theorem my_X0_notIn : bf_MV yX0_notIn cX0_notIn 4 (some .int) 1 := ⟨⟨bf_f bf_c4 226 rfl gw_code, bf_f bf_c1 4 rfl gw_initialized, by decide +kernel⟩, bf_f bf_c4 224 rfl gw_instanceMethod, bf_f bf_c4 225 rfl gw_selects⟩
theorem my_X0_numberOf : bf_MV yX0_numberOf cX0_numberOf 5 (some .int) 2 := ⟨⟨bf_f bf_c3 84 rfl gw_code, bf_f bf_c1 4 rfl gw_initialized, by decide +kernel⟩, bf_f bf_c3 82 rfl gw_instanceMethod, bf_f bf_c3 83 rfl gw_selects⟩
theorem my_X0_ofLength : bf_MV yX0_ofLength cX0_ofLength 4 (some .int) 1 := ⟨⟨bf_f bf_c4 148 rfl gw_code, bf_f bf_c1 4 rfl gw_initialized, by decide +kernel⟩, bf_f bf_c4 146 rfl gw_instanceMethod, bf_f bf_c4 147 rfl gw_selects⟩
theorem my_X0_upTo : bf_MV yX0_upTo cX0_upTo 4 (some .int) 2 := ⟨⟨bf_f bf_c3 185 rfl gw_code, bf_f bf_c1 4 rfl gw_initialized, by decide +kernel⟩, bf_f bf_c3 183 rfl gw_instanceMethod, bf_f bf_c3 184 rfl gw_selects⟩
theorem my_X1_allBytes : bf_MV yX1_allBytes cX1_allBytes 3 (some .int) 0 := ⟨⟨bf_f bf_c5 52 rfl gw_code, bf_f bf_c1 6 rfl gw_initialized, by decide +kernel⟩, bf_f bf_c5 50 rfl gw_instanceMethod, bf_f bf_c5 51 rfl gw_selects⟩
theorem my_X1_allEnded : bf_MV yX1_allEnded cX1_allEnded 3 (some .int) 0 := ⟨⟨bf_f bf_c5 48 rfl gw_code, bf_f bf_c1 6 rfl gw_initialized, by decide +kernel⟩, bf_f bf_c5 46 rfl gw_instanceMethod, bf_f bf_c5 47 rfl gw_selects⟩
theorem my_X1_beginningOf : bf_MV yX1_beginningOf cX1_beginningOf 6 (some .int) 2 := ⟨⟨bf_f bf_c4 189 rfl gw_code, bf_f bf_c1 6 rfl gw_initialized, by decide +kernel⟩, bf_f bf_c4 187 rfl gw_instanceMethod, bf_f bf_c4 188 rfl gw_selects⟩
theorem my_X1_bound : bf_MV yX1_bound cX1_bound 7 none 1 := ⟨⟨bf_f bf_c2 99 rfl gw_code, bf_f bf_c1 6 rfl gw_initialized, by decide +kernel⟩, bf_f bf_c2 98 rfl gw_instanceMethod, bf_p1 (q := (yX1_bound, 10)) (List.mem_of_getElem? (i := 2) rfl)⟩
theorem my_X1_count : bf_MV yX1_count cX1_count 1 (some .int) 0 := ⟨⟨bf_f bf_c2 143 rfl gw_code, bf_f bf_c1 6 rfl gw_initialized, by decide +kernel⟩, bf_f bf_c2 141 rfl gw_instanceMethod, bf_f bf_c2 142 rfl gw_selects⟩
theorem my_X1_covered : bf_MV yX1_covered cX1_covered 5 (some .long) 1 := ⟨⟨bf_f bf_c4 134 rfl gw_code, bf_f bf_c1 6 rfl gw_initialized, by decide +kernel⟩, bf_f bf_c4 132 rfl gw_instanceMethod, bf_f bf_c4 133 rfl gw_selects⟩
theorem my_X1_cut : bf_MV yX1_cut cX1_cut 6 none 1 := ⟨⟨bf_f bf_c2 69 rfl gw_code, bf_f bf_c1 6 rfl gw_initialized, by decide +kernel⟩, bf_f bf_c2 68 rfl gw_instanceMethod, bf_p1 (q := (yX1_cut, 10)) (List.mem_of_getElem? (i := 1) rfl)⟩
theorem my_X1_hashAt : bf_MV yX1_hashAt cX1_hashAt 2 (some .int) 1 := ⟨⟨bf_f bf_c3 193 rfl gw_code, bf_f bf_c1 6 rfl gw_initialized, by decide +kernel⟩, bf_f bf_c3 191 rfl gw_instanceMethod, bf_f bf_c3 192 rfl gw_selects⟩
theorem my_X1_held : bf_MV yX1_held cX1_held 7 (some .int) 4 := ⟨⟨bf_f bf_c3 233 rfl gw_code, bf_f bf_c1 6 rfl gw_initialized, by decide +kernel⟩, bf_f bf_c3 231 rfl gw_instanceMethod, bf_f bf_c3 232 rfl gw_selects⟩
theorem my_X1_isEnded : bf_MV yX1_isEnded cX1_isEnded 2 (some .boolean) 1 := ⟨⟨bf_f bf_c2 111 rfl gw_code, bf_f bf_c1 6 rfl gw_initialized, by decide +kernel⟩, bf_f bf_c2 109 rfl gw_instanceMethod, bf_f bf_c2 110 rfl gw_selects⟩
theorem my_X1_lengthAt : bf_MV yX1_lengthAt cX1_lengthAt 2 (some .int) 1 := ⟨⟨bf_f bf_c2 103 rfl gw_code, bf_f bf_c1 6 rfl gw_initialized, by decide +kernel⟩, bf_f bf_c2 101 rfl gw_instanceMethod, bf_f bf_c2 102 rfl gw_selects⟩
theorem my_X1_make : bf_MV yX1_make cX1_make 5 none 1 := ⟨⟨bf_f bf_c2 57 rfl gw_code, bf_f bf_c1 6 rfl gw_initialized, by decide +kernel⟩, bf_f bf_c2 55 rfl gw_instanceMethod, bf_f bf_c2 56 rfl gw_selects⟩
theorem my_X1_met : bf_MV yX1_met cX1_met 7 (some .int) 4 := ⟨⟨bf_f bf_c3 218 rfl gw_code, bf_f bf_c1 6 rfl gw_initialized, by decide +kernel⟩, bf_f bf_c3 216 rfl gw_instanceMethod, bf_f bf_c3 217 rfl gw_selects⟩
theorem my_X1_nextAt : bf_MV yX1_nextAt cX1_nextAt 2 (some .int) 1 := ⟨⟨bf_f bf_c2 119 rfl gw_code, bf_f bf_c1 6 rfl gw_initialized, by decide +kernel⟩, bf_f bf_c2 117 rfl gw_instanceMethod, bf_f bf_c2 118 rfl gw_selects⟩
theorem my_X1_ofLevel : bf_MV yX1_ofLevel cX1_ofLevel 4 (some .int) 1 := ⟨⟨bf_f bf_c4 55 rfl gw_code, bf_f bf_c1 6 rfl gw_initialized, by decide +kernel⟩, bf_f bf_c4 53 rfl gw_instanceMethod, bf_f bf_c4 54 rfl gw_selects⟩
theorem my_X1_possibleAt : bf_MV yX1_possibleAt cX1_possibleAt 6 (some .int) 2 := ⟨⟨bf_f bf_c3 181 rfl gw_code, bf_f bf_c1 6 rfl gw_initialized, by decide +kernel⟩, bf_f bf_c3 179 rfl gw_instanceMethod, bf_f bf_c3 180 rfl gw_selects⟩
theorem my_X1_tailBits : bf_MV yX1_tailBits cX1_tailBits 1 (some .int) 0 := ⟨⟨bf_f bf_c4 115 rfl gw_code, bf_f bf_c1 6 rfl gw_initialized, by decide +kernel⟩, bf_f bf_c4 113 rfl gw_instanceMethod, bf_f bf_c4 114 rfl gw_selects⟩
theorem my_X1_verdictOf : bf_MV yX1_verdictOf cX1_verdictOf 5 (some .int) 2 := ⟨⟨bf_f bf_c3 177 rfl gw_code, bf_f bf_c1 6 rfl gw_initialized, by decide +kernel⟩, bf_f bf_c3 175 rfl gw_instanceMethod, bf_f bf_c3 176 rfl gw_selects⟩
theorem my_X2_copyFrom : bf_MV yX2_copyFrom cX2_copyFrom 2 none 1 := ⟨⟨bf_f bf_c5 37 rfl gw_code, bf_f bf_c1 2 rfl gw_initialized, by decide +kernel⟩, bf_f bf_c5 35 rfl gw_instanceMethod, bf_f bf_c5 36 rfl gw_selects⟩
theorem my_X2_draw : bf_MV yX2_draw cX2_draw 2 (some .int) 1 := ⟨⟨bf_f bf_c3 142 rfl gw_code, bf_f bf_c1 2 rfl gw_initialized, by decide +kernel⟩, bf_f bf_c3 140 rfl gw_instanceMethod, bf_f bf_c3 141 rfl gw_selects⟩
theorem my_X2_drawBytes : bf_MV yX2_drawBytes cX2_drawBytes 5 (some .long) 1 := ⟨⟨bf_f bf_c3 148 rfl gw_code, bf_f bf_c1 2 rfl gw_initialized, by decide +kernel⟩, bf_f bf_c3 146 rfl gw_instanceMethod, bf_f bf_c3 147 rfl gw_selects⟩
theorem my_X2_note : bf_MV yX2_note cX2_note 3 none 2 := ⟨⟨bf_f bf_c3 197 rfl gw_code, bf_f bf_c1 2 rfl gw_initialized, by decide +kernel⟩, bf_f bf_c3 195 rfl gw_instanceMethod, bf_f bf_c3 196 rfl gw_selects⟩
theorem my_X3_copyFrom : bf_MV yX3_copyFrom cX3_copyFrom 2 none 1 := ⟨⟨bf_f bf_c3 159 rfl gw_code, bf_f bf_c1 3 rfl gw_initialized, by decide +kernel⟩, bf_f bf_c3 157 rfl gw_instanceMethod, bf_f bf_c3 158 rfl gw_selects⟩
theorem my_X4_keyAt : bf_MV yX4_keyAt cX4_keyAt 6 (some .long) 2 := ⟨⟨bf_f bf_c3 79 rfl gw_code, bf_f bf_c1 9 rfl gw_initialized, by decide +kernel⟩, bf_f bf_c3 78 rfl gw_instanceMethod, bf_p1 (q := (yX4_keyAt, 2)) (List.mem_of_getElem? (i := 11) rfl)⟩
theorem my_X4_putFour : bf_MV yX4_putFour cX4_putFour 3 none 1 := ⟨⟨bf_f bf_c2 221 rfl gw_code, bf_f bf_c1 9 rfl gw_initialized, by decide +kernel⟩, bf_f bf_c2 219 rfl gw_instanceMethod, bf_f bf_c2 220 rfl gw_selects⟩
theorem my_X4_readInto : bf_MV yX4_readInto cX4_readInto 6 (some .boolean) 1 := ⟨⟨bf_f bf_c3 72 rfl gw_code, bf_f bf_c1 9 rfl gw_initialized, by decide +kernel⟩, bf_f bf_c3 70 rfl gw_instanceMethod, bf_f bf_c3 71 rfl gw_selects⟩
theorem my_X5_put : bf_MV yX5_put cX5_put 2 none 1 := ⟨⟨bf_f bf_c5 3 rfl gw_code, bf_f bf_c1 10 rfl gw_initialized, by decide +kernel⟩, bf_f bf_c5 1 rfl gw_instanceMethod, bf_f bf_c5 2 rfl gw_selects⟩
theorem my_X5_putHalf : bf_MV yX5_putHalf cX5_putHalf 2 none 1 := ⟨⟨bf_f bf_c5 21 rfl gw_code, bf_f bf_c1 10 rfl gw_initialized, by decide +kernel⟩, bf_f bf_c5 20 rfl gw_instanceMethod, bf_p2 (q := (yX5_putHalf, 2)) (List.mem_of_getElem? (i := 7) rfl)⟩
theorem my_X5_putNumber : bf_MV yX5_putNumber cX5_putNumber 3 none 1 := ⟨⟨bf_f bf_c5 7 rfl gw_code, bf_f bf_c1 10 rfl gw_initialized, by decide +kernel⟩, bf_f bf_c5 5 rfl gw_instanceMethod, bf_f bf_c5 6 rfl gw_selects⟩
theorem my_X5_putOctet : bf_MV yX5_putOctet cX5_putOctet 2 none 1 := ⟨⟨bf_f bf_c5 17 rfl gw_code, bf_f bf_c1 10 rfl gw_initialized, by decide +kernel⟩, bf_f bf_c5 15 rfl gw_instanceMethod, bf_f bf_c5 16 rfl gw_selects⟩
theorem my_X5_signAt : bf_MV yX5_signAt cX5_signAt 2 (some .int) 1 := ⟨⟨bf_f bf_c5 29 rfl gw_code, bf_f bf_c1 10 rfl gw_initialized, by decide +kernel⟩, bf_f bf_c5 27 rfl gw_instanceMethod, bf_f bf_c5 28 rfl gw_selects⟩
theorem my_X6_addEdge : bf_MV yX6_addEdge cX6_addEdge 4 none 3 := ⟨⟨bf_f bf_c2 164 rfl gw_code, bf_f bf_c1 7 rfl gw_initialized, by decide +kernel⟩, bf_f bf_c2 163 rfl gw_instanceMethod, bf_p1 (q := (yX6_addEdge, 19)) (List.mem_of_getElem? (i := 8) rfl)⟩
theorem my_X6_addNode : bf_MV yX6_addNode cX6_addNode 3 none 2 := ⟨⟨bf_f bf_c2 151 rfl gw_code, bf_f bf_c1 7 rfl gw_initialized, by decide +kernel⟩, bf_f bf_c2 150 rfl gw_instanceMethod, bf_p1 (q := (yX6_addNode, 19)) (List.mem_of_getElem? (i := 5) rfl)⟩
theorem my_X6_bitsBy : bf_MV yX6_bitsBy cX6_bitsBy 3 (some .int) 1 := ⟨⟨bf_f bf_c2 177 rfl gw_code, bf_f bf_c1 7 rfl gw_initialized, by decide +kernel⟩, bf_f bf_c2 175 rfl gw_instanceMethod, bf_f bf_c2 176 rfl gw_selects⟩
theorem my_X6_branches : bf_MV yX6_branches cX6_branches 3 (some .int) 2 := ⟨⟨bf_f bf_c4 22 rfl gw_code, bf_f bf_c1 7 rfl gw_initialized, by decide +kernel⟩, bf_f bf_c4 20 rfl gw_instanceMethod, bf_f bf_c4 21 rfl gw_selects⟩
theorem my_X6_childrenOf : bf_MV yX6_childrenOf cX6_childrenOf 4 (some .int) 1 := ⟨⟨bf_f bf_c4 34 rfl gw_code, bf_f bf_c1 7 rfl gw_initialized, by decide +kernel⟩, bf_f bf_c4 32 rfl gw_instanceMethod, bf_f bf_c4 33 rfl gw_selects⟩
theorem my_X6_edgesAmong : bf_MV yX6_edgesAmong cX6_edgesAmong 3 (some .int) 2 := ⟨⟨bf_f bf_c2 181 rfl gw_code, bf_f bf_c1 7 rfl gw_initialized, by decide +kernel⟩, bf_f bf_c2 179 rfl gw_instanceMethod, bf_f bf_c2 180 rfl gw_selects⟩
theorem my_X6_endsAmong : bf_MV yX6_endsAmong cX6_endsAmong 5 (some .int) 2 := ⟨⟨bf_f bf_c4 26 rfl gw_code, bf_f bf_c1 7 rfl gw_initialized, by decide +kernel⟩, bf_f bf_c4 24 rfl gw_instanceMethod, bf_f bf_c4 25 rfl gw_selects⟩
theorem my_X6_findEdges : bf_MV yX6_findEdges cX6_findEdges 3 none 1 := ⟨⟨bf_f bf_c2 155 rfl gw_code, bf_f bf_c1 7 rfl gw_initialized, by decide +kernel⟩, bf_f bf_c2 154 rfl gw_instanceMethod, bf_p1 (q := (yX6_findEdges, 19)) (List.mem_of_getElem? (i := 6) rfl)⟩
theorem my_X6_findEdgesOf : bf_MV yX6_findEdgesOf cX6_findEdgesOf 10 none 2 := ⟨⟨bf_f bf_c2 159 rfl gw_code, bf_f bf_c1 7 rfl gw_initialized, by decide +kernel⟩, bf_f bf_c2 158 rfl gw_instanceMethod, bf_p1 (q := (yX6_findEdgesOf, 19)) (List.mem_of_getElem? (i := 7) rfl)⟩
theorem my_X6_findNodes : bf_MV yX6_findNodes cX6_findNodes 3 none 1 := ⟨⟨bf_f bf_c2 135 rfl gw_code, bf_f bf_c1 7 rfl gw_initialized, by decide +kernel⟩, bf_f bf_c2 134 rfl gw_instanceMethod, bf_p1 (q := (yX6_findNodes, 19)) (List.mem_of_getElem? (i := 3) rfl)⟩
theorem my_X6_findNodesOf : bf_MV yX6_findNodesOf cX6_findNodesOf 8 none 2 := ⟨⟨bf_f bf_c2 139 rfl gw_code, bf_f bf_c1 7 rfl gw_initialized, by decide +kernel⟩, bf_f bf_c2 138 rfl gw_instanceMethod, bf_p1 (q := (yX6_findNodesOf, 19)) (List.mem_of_getElem? (i := 4) rfl)⟩
theorem my_X6_findPlaces : bf_MV yX6_findPlaces cX6_findPlaces 4 none 0 := ⟨⟨bf_f bf_c2 169 rfl gw_code, bf_f bf_c1 7 rfl gw_initialized, by decide +kernel⟩, bf_f bf_c2 168 rfl gw_instanceMethod, bf_p1 (q := (yX6_findPlaces, 19)) (List.mem_of_getElem? (i := 9) rfl)⟩
theorem my_X6_firstEdgeOf : bf_MV yX6_firstEdgeOf cX6_firstEdgeOf 2 (some .int) 1 := ⟨⟨bf_f bf_c4 90 rfl gw_code, bf_f bf_c1 7 rfl gw_initialized, by decide +kernel⟩, bf_f bf_c4 89 rfl gw_instanceMethod, bf_p2 (q := (yX6_firstEdgeOf, 19)) (List.mem_of_getElem? (i := 0) rfl)⟩
theorem my_X6_goneAlong : bf_MV yX6_goneAlong cX6_goneAlong 4 (some .int) 2 := ⟨⟨bf_f bf_c4 47 rfl gw_code, bf_f bf_c1 7 rfl gw_initialized, by decide +kernel⟩, bf_f bf_c4 45 rfl gw_instanceMethod, bf_f bf_c4 46 rfl gw_selects⟩
theorem my_X6_hasChild : bf_MV yX6_hasChild cX6_hasChild 2 (some .boolean) 1 := ⟨⟨bf_f bf_c4 38 rfl gw_code, bf_f bf_c1 7 rfl gw_initialized, by decide +kernel⟩, bf_f bf_c4 36 rfl gw_instanceMethod, bf_f bf_c4 37 rfl gw_selects⟩
theorem my_X6_isEnd : bf_MV yX6_isEnd cX6_isEnd 2 (some .boolean) 1 := ⟨⟨bf_f bf_c4 30 rfl gw_code, bf_f bf_c1 7 rfl gw_initialized, by decide +kernel⟩, bf_f bf_c4 28 rfl gw_instanceMethod, bf_f bf_c4 29 rfl gw_selects⟩
theorem my_X6_isOfItems : bf_MS yX6_isOfItems cX6_isOfItems 1 (some .boolean) 1 := ⟨⟨bf_f bf_c4 86 rfl gw_code, bf_f bf_c1 7 rfl gw_initialized, by decide +kernel⟩, bf_f bf_c4 85 rfl gw_static⟩
theorem my_X6_items : bf_MV yX6_items cX6_items 1 (some .int) 0 := ⟨⟨bf_f bf_c4 64 rfl gw_code, bf_f bf_c1 7 rfl gw_initialized, by decide +kernel⟩, bf_f bf_c4 62 rfl gw_instanceMethod, bf_f bf_c4 63 rfl gw_selects⟩
theorem my_X6_lastEdgeOf : bf_MV yX6_lastEdgeOf cX6_lastEdgeOf 2 (some .int) 1 := ⟨⟨bf_f bf_c4 83 rfl gw_code, bf_f bf_c1 7 rfl gw_initialized, by decide +kernel⟩, bf_f bf_c4 82 rfl gw_instanceMethod, bf_p1 (q := (yX6_lastEdgeOf, 19)) (List.mem_of_getElem? (i := 15) rfl)⟩
theorem my_X6_make : bf_MV yX6_make cX6_make 4 none 3 := ⟨⟨bf_f bf_c2 131 rfl gw_code, bf_f bf_c1 7 rfl gw_initialized, by decide +kernel⟩, bf_f bf_c2 129 rfl gw_instanceMethod, bf_f bf_c2 130 rfl gw_selects⟩
theorem my_X6_oneOf : bf_MV yX6_oneOf cX6_oneOf 4 (some .int) 2 := ⟨⟨bf_f bf_c4 94 rfl gw_code, bf_f bf_c1 7 rfl gw_initialized, by decide +kernel⟩, bf_f bf_c4 93 rfl gw_instanceMethod, bf_p2 (q := (yX6_oneOf, 19)) (List.mem_of_getElem? (i := 1) rfl)⟩
theorem my_X6_onesAhead : bf_MV yX6_onesAhead cX6_onesAhead 7 (some .int) 2 := ⟨⟨bf_f bf_c4 79 rfl gw_code, bf_f bf_c1 7 rfl gw_initialized, by decide +kernel⟩, bf_f bf_c4 77 rfl gw_instanceMethod, bf_f bf_c4 78 rfl gw_selects⟩
theorem my_X6_placeOfOne : bf_MV yX6_placeOfOne cX6_placeOfOne 7 (some .int) 2 := ⟨⟨bf_f bf_c4 106 rfl gw_code, bf_f bf_c1 7 rfl gw_initialized, by decide +kernel⟩, bf_f bf_c4 104 rfl gw_instanceMethod, bf_f bf_c4 105 rfl gw_selects⟩
theorem my_X6_rowLength : bf_MV yX6_rowLength cX6_rowLength 2 (some .int) 1 := ⟨⟨bf_f bf_c4 74 rfl gw_code, bf_f bf_c1 7 rfl gw_initialized, by decide +kernel⟩, bf_f bf_c4 72 rfl gw_instanceMethod, bf_f bf_c4 73 rfl gw_selects⟩
theorem my_X6_upperBy : bf_MV yX6_upperBy cX6_upperBy 5 (some .int) 1 := ⟨⟨bf_f bf_c2 173 rfl gw_code, bf_f bf_c1 7 rfl gw_initialized, by decide +kernel⟩, bf_f bf_c2 172 rfl gw_instanceMethod, bf_p1 (q := (yX6_upperBy, 19)) (List.mem_of_getElem? (i := 10) rfl)⟩
theorem my_X7_compare : bf_MV yX7_compare cX7_compare 9 none 4 := ⟨⟨bf_f bf_c4 184 rfl gw_code, bf_f bf_c1 8 rfl gw_initialized, by decide +kernel⟩, bf_f bf_c4 183 rfl gw_instanceMethod, bf_p2 (q := (yX7_compare, 6)) (List.mem_of_getElem? (i := 2) rfl)⟩
theorem my_X7_falseBy : bf_MV yX7_falseBy cX7_falseBy 5 (some .int) 2 := ⟨⟨bf_f bf_c4 205 rfl gw_code, bf_f bf_c1 8 rfl gw_initialized, by decide +kernel⟩, bf_f bf_c4 204 rfl gw_instanceMethod, bf_p2 (q := (yX7_falseBy, 6)) (List.mem_of_getElem? (i := 3) rfl)⟩
theorem my_X7_tune : bf_MV yX7_tune cX7_tune 7 none 3 := ⟨⟨bf_f bf_c4 177 rfl gw_code, bf_f bf_c1 8 rfl gw_initialized, by decide +kernel⟩, bf_f bf_c4 175 rfl gw_instanceMethod, bf_f bf_c4 176 rfl gw_selects⟩
theorem my_X7_zerosFromHighest : bf_MS yX7_zerosFromHighest cX7_zerosFromHighest 2 (some .int) 1 := ⟨⟨bf_f bf_c4 200 rfl gw_code, bf_f bf_c1 8 rfl gw_initialized, by decide +kernel⟩, bf_f bf_c4 199 rfl gw_static⟩
theorem my_X7_zerosFromLowest : bf_MS yX7_zerosFromLowest cX7_zerosFromLowest 2 (some .int) 1 := ⟨⟨bf_f bf_c4 196 rfl gw_code, bf_f bf_c1 8 rfl gw_initialized, by decide +kernel⟩, bf_f bf_c4 195 rfl gw_static⟩
theorem my_X8_alike : bf_MS yX8_alike cX8_alike 8 (some .int) 4 := ⟨⟨bf_f bf_c2 80 rfl gw_code, bf_f bf_c1 1 rfl gw_initialized, by decide +kernel⟩, bf_f bf_c2 79 rfl gw_static⟩
theorem my_X8_askKey : bf_MV yX8_askKey cX8_askKey 5 (some .int) 2 := ⟨⟨bf_f bf_c3 173 rfl gw_code, bf_f bf_c1 1 rfl gw_initialized, by decide +kernel⟩, bf_f bf_c3 172 rfl gw_instanceMethod, bf_p1 (q := (yX8_askKey, 10)) (List.mem_of_getElem? (i := 13) rfl)⟩
theorem my_X8_askRange : bf_MV yX8_askRange cX8_askRange 9 (some .int) 4 := ⟨⟨bf_f bf_c3 214 rfl gw_code, bf_f bf_c1 1 rfl gw_initialized, by decide +kernel⟩, bf_f bf_c3 213 rfl gw_instanceMethod, bf_p1 (q := (yX8_askRange, 10)) (List.mem_of_getElem? (i := 14) rfl)⟩
theorem my_X8_at : bf_MS yX8_at cX8_at 2 (some .int) 2 := ⟨⟨bf_f bf_c2 60 rfl gw_code, bf_f bf_c1 1 rfl gw_initialized, by decide +kernel⟩, bf_f bf_c2 59 rfl gw_static⟩
theorem my_X8_countAhead : bf_MS yX8_countAhead cX8_countAhead 4 (some .long) 3 := ⟨⟨bf_f bf_c4 140 rfl gw_code, bf_f bf_c1 1 rfl gw_initialized, by decide +kernel⟩, bf_f bf_c4 139 rfl gw_static⟩
theorem my_X8_countUpTo : bf_MS yX8_countUpTo cX8_countUpTo 4 (some .long) 3 := ⟨⟨bf_f bf_c4 137 rfl gw_code, bf_f bf_c1 1 rfl gw_initialized, by decide +kernel⟩, bf_f bf_c4 136 rfl gw_static⟩
theorem my_X8_front : bf_MS yX8_front cX8_front 1 (some .long) 1 := ⟨⟨bf_f bf_c2 106 rfl gw_code, bf_f bf_c1 1 rfl gw_initialized, by decide +kernel⟩, bf_f bf_c2 105 rfl gw_static⟩
theorem my_X8_highest : bf_MS yX8_highest cX8_highest 2 (some .int) 2 := ⟨⟨bf_f bf_c2 122 rfl gw_code, bf_f bf_c1 1 rfl gw_initialized, by decide +kernel⟩, bf_f bf_c2 121 rfl gw_static⟩
theorem my_X8_isCounted : bf_MS yX8_isCounted cX8_isCounted 1 (some .boolean) 1 := ⟨⟨bf_f bf_c4 130 rfl gw_code, bf_f bf_c1 1 rfl gw_initialized, by decide +kernel⟩, bf_f bf_c4 129 rfl gw_static⟩
theorem my_X8_isLength : bf_MS yX8_isLength cX8_isLength 1 (some .boolean) 1 := ⟨⟨bf_f bf_c3 75 rfl gw_code, bf_f bf_c1 1 rfl gw_initialized, by decide +kernel⟩, bf_f bf_c3 74 rfl gw_static⟩
theorem my_X8_isRange : bf_MS yX8_isRange cX8_isRange 6 (some .boolean) 6 := ⟨⟨bf_f bf_c3 209 rfl gw_code, bf_f bf_c1 1 rfl gw_initialized, by decide +kernel⟩, bf_f bf_c3 208 rfl gw_static⟩
theorem my_X8_keyOf : bf_MS yX8_keyOf cX8_keyOf 3 (some .long) 3 := ⟨⟨bf_f bf_c3 122 rfl gw_code, bf_f bf_c1 1 rfl gw_initialized, by decide +kernel⟩, bf_f bf_c3 121 rfl gw_static⟩
theorem my_X8_lowest : bf_MS yX8_lowest cX8_lowest 2 (some .int) 2 := ⟨⟨bf_f bf_c3 189 rfl gw_code, bf_f bf_c1 1 rfl gw_initialized, by decide +kernel⟩, bf_f bf_c3 188 rfl gw_static⟩
theorem my_X8_mixed : bf_MS yX8_mixed cX8_mixed 6 (some .int) 3 := ⟨⟨bf_f bf_c2 93 rfl gw_code, bf_f bf_c1 1 rfl gw_initialized, by decide +kernel⟩, bf_f bf_c2 92 rfl gw_static⟩
theorem my_X8_newOnesThatMayBe : bf_MV yX8_newOnesThatMayBe cX8_newOnesThatMayBe 4 (some .int) 0 := ⟨⟨bf_f bf_c4 231 rfl gw_code, bf_f bf_c1 1 rfl gw_initialized, by decide +kernel⟩, bf_f bf_c4 230 rfl gw_instanceMethod, bf_p2 (q := (yX8_newOnesThatMayBe, 10)) (List.mem_of_getElem? (i := 4) rfl)⟩
theorem my_X8_octetAt : bf_MS yX8_octetAt cX8_octetAt 3 (some .int) 2 := ⟨⟨bf_f bf_c2 86 rfl gw_code, bf_f bf_c1 1 rfl gw_initialized, by decide +kernel⟩, bf_f bf_c2 85 rfl gw_static⟩
theorem my_X8_octetTo : bf_MS yX8_octetTo cX8_octetTo 2 (some .long) 2 := ⟨⟨bf_f bf_c2 125 rfl gw_code, bf_f bf_c1 1 rfl gw_initialized, by decide +kernel⟩, bf_f bf_c2 124 rfl gw_static⟩
theorem my_X8_order : bf_MS yX8_order cX8_order 6 (some .int) 4 := ⟨⟨bf_f bf_c3 97 rfl gw_code, bf_f bf_c1 1 rfl gw_initialized, by decide +kernel⟩, bf_f bf_c3 96 rfl gw_static⟩
theorem my_X8_rebuild : bf_MV yX8_rebuild cX8_rebuild 1 none 0 := ⟨⟨bf_f bf_c2 53 rfl gw_code, bf_f bf_c1 1 rfl gw_initialized, by decide +kernel⟩, bf_f bf_c2 52 rfl gw_instanceMethod, bf_p1 (q := (yX8_rebuild, 10)) (List.mem_of_getElem? (i := 0) rfl)⟩
theorem my_X8_tellFilter : bf_MV yX8_tellFilter cX8_tellFilter 4 none 0 := ⟨⟨bf_f bf_c4 239 rfl gw_code, bf_f bf_c1 1 rfl gw_initialized, by decide +kernel⟩, bf_f bf_c4 238 rfl gw_instanceMethod, bf_p2 (q := (yX8_tellFilter, 10)) (List.mem_of_getElem? (i := 5) rfl)⟩
theorem my_X8_tellLeaf : bf_MV yX8_tellLeaf cX8_tellLeaf 5 none 1 := ⟨⟨bf_f bf_c5 13 rfl gw_code, bf_f bf_c1 1 rfl gw_initialized, by decide +kernel⟩, bf_f bf_c5 12 rfl gw_instanceMethod, bf_p2 (q := (yX8_tellLeaf, 10)) (List.mem_of_getElem? (i := 6) rfl)⟩
theorem my_X9_alike : bf_MV yX9_alike cX9_alike 4 (some .int) 2 := ⟨⟨bf_f bf_c6 130 rfl gw_code, bf_f bf_c1 12 rfl gw_initialized, by decide +kernel⟩, bf_f bf_c6 129 rfl gw_instanceMethod, bf_p4 (q := (yX9_alike, 46)) (List.mem_of_getElem? (i := 4) rfl)⟩
theorem my_X9_areKeys : bf_MV yX9_areKeys cX9_areKeys 3 (some .boolean) 1 := ⟨⟨bf_f bf_c6 74 rfl gw_code, bf_f bf_c1 12 rfl gw_initialized, by decide +kernel⟩, bf_f bf_c6 73 rfl gw_instanceMethod, bf_p3 (q := (yX9_areKeys, 46)) (List.mem_of_getElem? (i := 8) rfl)⟩
theorem my_X9_asks : bf_MV yX9_asks cX9_asks 5 (some .int) 2 := ⟨⟨bf_f bf_c6 98 rfl gw_code, bf_f bf_c1 12 rfl gw_initialized, by decide +kernel⟩, bf_f bf_c6 97 rfl gw_instanceMethod, bf_p3 (q := (yX9_asks, 46)) (List.mem_of_getElem? (i := 12) rfl)⟩
theorem my_X9_asksRange : bf_MV yX9_asksRange cX9_asksRange 4 (some .int) 0 := ⟨⟨bf_f bf_c6 192 rfl gw_code, bf_f bf_c1 12 rfl gw_initialized, by decide +kernel⟩, bf_f bf_c6 191 rfl gw_instanceMethod, bf_p5 (q := (yX9_asksRange, 46)) (List.mem_of_getElem? (i := 1) rfl)⟩
theorem my_X9_beginningBytes : bf_MV yX9_beginningBytes cX9_beginningBytes 3 (some .int) 0 := ⟨⟨bf_f bf_c8 24 rfl gw_code, bf_f bf_c1 12 rfl gw_initialized, by decide +kernel⟩, bf_f bf_c8 23 rfl gw_instanceMethod, bf_p8 (q := (yX9_beginningBytes, 46)) (List.mem_of_getElem? (i := 1) rfl)⟩
theorem my_X9_bitsAbove : bf_MV yX9_bitsAbove cX9_bitsAbove 4 (some .int) 1 := ⟨⟨bf_f bf_c7 12 rfl gw_code, bf_f bf_c1 12 rfl gw_initialized, by decide +kernel⟩, bf_f bf_c7 11 rfl gw_instanceMethod, bf_p5 (q := (yX9_bitsAbove, 46)) (List.mem_of_getElem? (i := 11) rfl)⟩
theorem my_X9_bitsBelow : bf_MV yX9_bitsBelow cX9_bitsBelow 4 (some .int) 1 := ⟨⟨bf_f bf_c7 16 rfl gw_code, bf_f bf_c1 12 rfl gw_initialized, by decide +kernel⟩, bf_f bf_c7 15 rfl gw_instanceMethod, bf_p5 (q := (yX9_bitsBelow, 46)) (List.mem_of_getElem? (i := 12) rfl)⟩
theorem my_X9_bitsOf : bf_MV yX9_bitsOf cX9_bitsOf 3 (some .int) 2 := ⟨⟨bf_f bf_c7 20 rfl gw_code, bf_f bf_c1 12 rfl gw_initialized, by decide +kernel⟩, bf_f bf_c7 19 rfl gw_instanceMethod, bf_p5 (q := (yX9_bitsOf, 46)) (List.mem_of_getElem? (i := 13) rfl)⟩
theorem my_X9_bounds : bf_MV yX9_bounds cX9_bounds 6 none 2 := ⟨⟨bf_f bf_c6 146 rfl gw_code, bf_f bf_c1 12 rfl gw_initialized, by decide +kernel⟩, bf_f bf_c6 145 rfl gw_instanceMethod, bf_p4 (q := (yX9_bounds, 46)) (List.mem_of_getElem? (i := 8) rfl)⟩
theorem my_X9_branchMany : bf_MV yX9_branchMany cX9_branchMany 4 (some .int) 1 := ⟨⟨bf_f bf_c7 24 rfl gw_code, bf_f bf_c1 12 rfl gw_initialized, by decide +kernel⟩, bf_f bf_c7 23 rfl gw_instanceMethod, bf_p5 (q := (yX9_branchMany, 46)) (List.mem_of_getElem? (i := 14) rfl)⟩
theorem my_X9_byteOf : bf_MV yX9_byteOf cX9_byteOf 4 (some .int) 2 := ⟨⟨bf_f bf_c6 142 rfl gw_code, bf_f bf_c1 12 rfl gw_initialized, by decide +kernel⟩, bf_f bf_c6 141 rfl gw_instanceMethod, bf_p4 (q := (yX9_byteOf, 46)) (List.mem_of_getElem? (i := 7) rfl)⟩
theorem my_X9_canSet : bf_MV yX9_canSet cX9_canSet 3 (some .boolean) 2 := ⟨⟨bf_f bf_c5 206 rfl gw_code, bf_f bf_c1 12 rfl gw_initialized, by decide +kernel⟩, bf_f bf_c5 205 rfl gw_instanceMethod, bf_p2 (q := (yX9_canSet, 46)) (List.mem_of_getElem? (i := 8) rfl)⟩
theorem my_X9_childAt : bf_MV yX9_childAt cX9_childAt 5 (some .int) 2 := ⟨⟨bf_f bf_c7 56 rfl gw_code, bf_f bf_c1 12 rfl gw_initialized, by decide +kernel⟩, bf_f bf_c7 55 rfl gw_instanceMethod, bf_p6 (q := (yX9_childAt, 46)) (List.mem_of_getElem? (i := 6) rfl)⟩
theorem my_X9_comes : bf_MV yX9_comes cX9_comes 6 (some .int) 2 := ⟨⟨bf_f bf_c6 3 rfl gw_code, bf_f bf_c1 12 rfl gw_initialized, by decide +kernel⟩, bf_f bf_c6 2 rfl gw_instanceMethod, bf_p2 (q := (yX9_comes, 46)) (List.mem_of_getElem? (i := 15) rfl)⟩
theorem my_X9_comingFrom : bf_MV yX9_comingFrom cX9_comingFrom 4 (some .int) 1 := ⟨⟨bf_f bf_c6 86 rfl gw_code, bf_f bf_c1 12 rfl gw_initialized, by decide +kernel⟩, bf_f bf_c6 85 rfl gw_instanceMethod, bf_p3 (q := (yX9_comingFrom, 46)) (List.mem_of_getElem? (i := 11) rfl)⟩
theorem my_X9_counts : bf_MV yX9_counts cX9_counts 4 (some .int) 3 := ⟨⟨bf_f bf_c6 176 rfl gw_code, bf_f bf_c1 12 rfl gw_initialized, by decide +kernel⟩, bf_f bf_c6 175 rfl gw_instanceMethod, bf_p4 (q := (yX9_counts, 46)) (List.mem_of_getElem? (i := 15) rfl)⟩
theorem my_X9_coverOf : bf_MV yX9_coverOf cX9_coverOf 5 (some .long) 1 := ⟨⟨bf_f bf_c7 160 rfl gw_code, bf_f bf_c1 12 rfl gw_initialized, by decide +kernel⟩, bf_f bf_c7 159 rfl gw_instanceMethod, bf_p7 (q := (yX9_coverOf, 46)) (List.mem_of_getElem? (i := 5) rfl)⟩
theorem my_X9_cut : bf_MV yX9_cut cX9_cut 4 (some .long) 2 := ⟨⟨bf_f bf_c5 239 rfl gw_code, bf_f bf_c1 12 rfl gw_initialized, by decide +kernel⟩, bf_f bf_c5 238 rfl gw_instanceMethod, bf_p2 (q := (yX9_cut, 46)) (List.mem_of_getElem? (i := 14) rfl)⟩
theorem my_X9_draw : bf_MV yX9_draw cX9_draw 2 (some .int) 1 := ⟨⟨bf_f bf_c6 36 rfl gw_code, bf_f bf_c1 12 rfl gw_initialized, by decide +kernel⟩, bf_f bf_c6 35 rfl gw_instanceMethod, bf_p3 (q := (yX9_draw, 46)) (List.mem_of_getElem? (i := 4) rfl)⟩
theorem my_X9_draws : bf_MV yX9_draws cX9_draws 3 none 1 := ⟨⟨bf_f bf_c6 32 rfl gw_code, bf_f bf_c1 12 rfl gw_initialized, by decide +kernel⟩, bf_f bf_c6 31 rfl gw_instanceMethod, bf_p3 (q := (yX9_draws, 46)) (List.mem_of_getElem? (i := 3) rfl)⟩
theorem my_X9_endedMany : bf_MV yX9_endedMany cX9_endedMany 3 (some .int) 0 := ⟨⟨bf_f bf_c8 20 rfl gw_code, bf_f bf_c1 12 rfl gw_initialized, by decide +kernel⟩, bf_f bf_c8 19 rfl gw_instanceMethod, bf_p8 (q := (yX9_endedMany, 46)) (List.mem_of_getElem? (i := 0) rfl)⟩
theorem my_X9_find : bf_MV yX9_find cX9_find 7 (some .int) 4 := ⟨⟨bf_f bf_c6 7 rfl gw_code, bf_f bf_c1 12 rfl gw_initialized, by decide +kernel⟩, bf_f bf_c6 6 rfl gw_instanceMethod, bf_p3 (q := (yX9_find, 46)) (List.mem_of_getElem? (i := 0) rfl)⟩
theorem my_X9_firstLike : bf_MV yX9_firstLike cX9_firstLike 4 (some .int) 2 := ⟨⟨bf_f bf_c6 236 rfl gw_code, bf_f bf_c1 12 rfl gw_initialized, by decide +kernel⟩, bf_f bf_c6 235 rfl gw_instanceMethod, bf_p5 (q := (yX9_firstLike, 46)) (List.mem_of_getElem? (i := 7) rfl)⟩
theorem my_X9_firstOf : bf_MV yX9_firstOf cX9_firstOf 2 (some .int) 1 := ⟨⟨bf_f bf_c5 214 rfl gw_code, bf_f bf_c1 12 rfl gw_initialized, by decide +kernel⟩, bf_f bf_c5 213 rfl gw_instanceMethod, bf_p2 (q := (yX9_firstOf, 46)) (List.mem_of_getElem? (i := 10) rfl)⟩
theorem my_X9_hash : bf_MV yX9_hash cX9_hash 7 (some .int) 3 := ⟨⟨bf_f bf_c6 167 rfl gw_code, bf_f bf_c1 12 rfl gw_initialized, by decide +kernel⟩, bf_f bf_c6 166 rfl gw_instanceMethod, bf_p4 (q := (yX9_hash, 46)) (List.mem_of_getElem? (i := 13) rfl)⟩
theorem my_X9_hashBits : bf_MV yX9_hashBits cX9_hashBits 1 (some .int) 0 := ⟨⟨bf_f bf_c6 106 rfl gw_code, bf_f bf_c1 12 rfl gw_initialized, by decide +kernel⟩, bf_f bf_c6 105 rfl gw_instanceMethod, bf_p3 (q := (yX9_hashBits, 46)) (List.mem_of_getElem? (i := 14) rfl)⟩
theorem my_X9_hashOf : bf_MV yX9_hashOf cX9_hashOf 2 (some .int) 1 := ⟨⟨bf_f bf_c7 60 rfl gw_code, bf_f bf_c1 12 rfl gw_initialized, by decide +kernel⟩, bf_f bf_c7 59 rfl gw_instanceMethod, bf_p6 (q := (yX9_hashOf, 46)) (List.mem_of_getElem? (i := 7) rfl)⟩
theorem my_X9_isAhead : bf_MV yX9_isAhead cX9_isAhead 4 (some .boolean) 2 := ⟨⟨bf_f bf_c6 159 rfl gw_code, bf_f bf_c1 12 rfl gw_initialized, by decide +kernel⟩, bf_f bf_c6 158 rfl gw_instanceMethod, bf_p4 (q := (yX9_isAhead, 46)) (List.mem_of_getElem? (i := 11) rfl)⟩
theorem my_X9_isAlike : bf_MV yX9_isAlike cX9_isAlike 4 (some .boolean) 3 := ⟨⟨bf_f bf_c7 0 rfl gw_code, bf_f bf_c1 12 rfl gw_initialized, by decide +kernel⟩, bf_f bf_c6 239 rfl gw_instanceMethod, bf_p5 (q := (yX9_isAlike, 46)) (List.mem_of_getElem? (i := 8) rfl)⟩
theorem my_X9_isBehind : bf_MV yX9_isBehind cX9_isBehind 4 (some .boolean) 2 := ⟨⟨bf_f bf_c6 163 rfl gw_code, bf_f bf_c1 12 rfl gw_initialized, by decide +kernel⟩, bf_f bf_c6 162 rfl gw_instanceMethod, bf_p4 (q := (yX9_isBehind, 46)) (List.mem_of_getElem? (i := 12) rfl)⟩
theorem my_X9_isBranch : bf_MV yX9_isBranch cX9_isBranch 4 (some .boolean) 2 := ⟨⟨bf_f bf_c7 32 rfl gw_code, bf_f bf_c1 12 rfl gw_initialized, by decide +kernel⟩, bf_f bf_c7 31 rfl gw_instanceMethod, bf_p6 (q := (yX9_isBranch, 46)) (List.mem_of_getElem? (i := 0) rfl)⟩
theorem my_X9_isEnded : bf_MV yX9_isEnded cX9_isEnded 2 (some .boolean) 1 := ⟨⟨bf_f bf_c6 150 rfl gw_code, bf_f bf_c1 12 rfl gw_initialized, by decide +kernel⟩, bf_f bf_c6 149 rfl gw_instanceMethod, bf_p4 (q := (yX9_isEnded, 46)) (List.mem_of_getElem? (i := 9) rfl)⟩
theorem my_X9_isIn : bf_MV yX9_isIn cX9_isIn 4 (some .boolean) 3 := ⟨⟨bf_f bf_c5 210 rfl gw_code, bf_f bf_c1 12 rfl gw_initialized, by decide +kernel⟩, bf_f bf_c5 209 rfl gw_instanceMethod, bf_p2 (q := (yX9_isIn, 46)) (List.mem_of_getElem? (i := 9) rfl)⟩
theorem my_X9_isKey : bf_MV yX9_isKey cX9_isKey 2 (some .boolean) 1 := ⟨⟨bf_f bf_c5 226 rfl gw_code, bf_f bf_c1 12 rfl gw_initialized, by decide +kernel⟩, bf_f bf_c5 225 rfl gw_instanceMethod, bf_p2 (q := (yX9_isKey, 46)) (List.mem_of_getElem? (i := 11) rfl)⟩
theorem my_X9_isLeaf : bf_MV yX9_isLeaf cX9_isLeaf 2 (some .boolean) 1 := ⟨⟨bf_f bf_c6 228 rfl gw_code, bf_f bf_c1 12 rfl gw_initialized, by decide +kernel⟩, bf_f bf_c6 227 rfl gw_instanceMethod, bf_p5 (q := (yX9_isLeaf, 46)) (List.mem_of_getElem? (i := 5) rfl)⟩
theorem my_X9_isLess : bf_MV yX9_isLess cX9_isLess 7 (some .boolean) 4 := ⟨⟨bf_f bf_c6 15 rfl gw_code, bf_f bf_c1 12 rfl gw_initialized, by decide +kernel⟩, bf_f bf_c6 14 rfl gw_instanceMethod, bf_p3 (q := (yX9_isLess, 46)) (List.mem_of_getElem? (i := 2) rfl)⟩
theorem my_X9_isMet : bf_MV yX9_isMet cX9_isMet 1 (some .boolean) 0 := ⟨⟨bf_f bf_c6 204 rfl gw_code, bf_f bf_c1 12 rfl gw_initialized, by decide +kernel⟩, bf_f bf_c6 203 rfl gw_instanceMethod, bf_p5 (q := (yX9_isMet, 46)) (List.mem_of_getElem? (i := 4) rfl)⟩
theorem my_X9_isNode : bf_MV yX9_isNode cX9_isNode 2 (some .boolean) 1 := ⟨⟨bf_f bf_c7 76 rfl gw_code, bf_f bf_c1 12 rfl gw_initialized, by decide +kernel⟩, bf_f bf_c7 75 rfl gw_instanceMethod, bf_p6 (q := (yX9_isNode, 46)) (List.mem_of_getElem? (i := 9) rfl)⟩
theorem my_X9_isNodeEnd : bf_MV yX9_isNodeEnd cX9_isNodeEnd 2 (some .boolean) 1 := ⟨⟨bf_f bf_c7 36 rfl gw_code, bf_f bf_c1 12 rfl gw_initialized, by decide +kernel⟩, bf_f bf_c7 35 rfl gw_instanceMethod, bf_p6 (q := (yX9_isNodeEnd, 46)) (List.mem_of_getElem? (i := 1) rfl)⟩
theorem my_X9_isOfFilter : bf_MV yX9_isOfFilter cX9_isOfFilter 4 (some .boolean) 2 := ⟨⟨bf_f bf_c6 172 rfl gw_code, bf_f bf_c1 12 rfl gw_initialized, by decide +kernel⟩, bf_f bf_c6 171 rfl gw_instanceMethod, bf_p4 (q := (yX9_isOfFilter, 46)) (List.mem_of_getElem? (i := 14) rfl)⟩
theorem my_X9_isOne : bf_MV yX9_isOne cX9_isOne 2 (some .boolean) 1 := ⟨⟨bf_f bf_c7 124 rfl gw_code, bf_f bf_c1 12 rfl gw_initialized, by decide +kernel⟩, bf_f bf_c7 123 rfl gw_instanceMethod, bf_p7 (q := (yX9_isOne, 46)) (List.mem_of_getElem? (i := 1) rfl)⟩
theorem my_X9_isSure : bf_MV yX9_isSure cX9_isSure 1 (some .boolean) 0 := ⟨⟨bf_f bf_c6 200 rfl gw_code, bf_f bf_c1 12 rfl gw_initialized, by decide +kernel⟩, bf_f bf_c6 199 rfl gw_instanceMethod, bf_p5 (q := (yX9_isSure, 46)) (List.mem_of_getElem? (i := 3) rfl)⟩
theorem my_X9_key : bf_MV yX9_key cX9_key 2 (some .long) 1 := ⟨⟨bf_f bf_c6 138 rfl gw_code, bf_f bf_c1 12 rfl gw_initialized, by decide +kernel⟩, bf_f bf_c6 137 rfl gw_instanceMethod, bf_p4 (q := (yX9_key, 46)) (List.mem_of_getElem? (i := 6) rfl)⟩
theorem my_X9_keyBits : bf_MV yX9_keyBits cX9_keyBits 3 (some .int) 0 := ⟨⟨bf_f bf_c7 148 rfl gw_code, bf_f bf_c1 12 rfl gw_initialized, by decide +kernel⟩, bf_f bf_c7 147 rfl gw_instanceMethod, bf_p7 (q := (yX9_keyBits, 46)) (List.mem_of_getElem? (i := 4) rfl)⟩
theorem my_X9_keyOf : bf_MV yX9_keyOf cX9_keyOf 4 (some .long) 3 := ⟨⟨bf_f bf_c5 230 rfl gw_code, bf_f bf_c1 12 rfl gw_initialized, by decide +kernel⟩, bf_f bf_c5 229 rfl gw_instanceMethod, bf_p2 (q := (yX9_keyOf, 46)) (List.mem_of_getElem? (i := 12) rfl)⟩
theorem my_X9_kidMany : bf_MV yX9_kidMany cX9_kidMany 4 (some .int) 1 := ⟨⟨bf_f bf_c7 84 rfl gw_code, bf_f bf_c1 12 rfl gw_initialized, by decide +kernel⟩, bf_f bf_c7 83 rfl gw_instanceMethod, bf_p6 (q := (yX9_kidMany, 46)) (List.mem_of_getElem? (i := 11) rfl)⟩
theorem my_X9_lackMany : bf_MV yX9_lackMany cX9_lackMany 8 (some .int) 5 := ⟨⟨bf_f bf_c7 220 rfl gw_code, bf_f bf_c1 12 rfl gw_initialized, by decide +kernel⟩, bf_f bf_c7 219 rfl gw_instanceMethod, bf_p7 (q := (yX9_lackMany, 46)) (List.mem_of_getElem? (i := 10) rfl)⟩
theorem my_X9_lastOf : bf_MV yX9_lastOf cX9_lastOf 2 (some .int) 1 := ⟨⟨bf_f bf_c7 28 rfl gw_code, bf_f bf_c1 12 rfl gw_initialized, by decide +kernel⟩, bf_f bf_c7 27 rfl gw_instanceMethod, bf_p5 (q := (yX9_lastOf, 46)) (List.mem_of_getElem? (i := 15) rfl)⟩
theorem my_X9_laysBeginnings : bf_MV yX9_laysBeginnings cX9_laysBeginnings 4 none 0 := ⟨⟨bf_f bf_c6 126 rfl gw_code, bf_f bf_c1 12 rfl gw_initialized, by decide +kernel⟩, bf_f bf_c6 125 rfl gw_instanceMethod, bf_p4 (q := (yX9_laysBeginnings, 46)) (List.mem_of_getElem? (i := 3) rfl)⟩
theorem my_X9_laysItem : bf_MV yX9_laysItem cX9_laysItem 4 none 3 := ⟨⟨bf_f bf_c7 52 rfl gw_code, bf_f bf_c1 12 rfl gw_initialized, by decide +kernel⟩, bf_f bf_c7 51 rfl gw_instanceMethod, bf_p6 (q := (yX9_laysItem, 46)) (List.mem_of_getElem? (i := 5) rfl)⟩
theorem my_X9_laysItems : bf_MV yX9_laysItems cX9_laysItems 2 none 0 := ⟨⟨bf_f bf_c7 40 rfl gw_code, bf_f bf_c1 12 rfl gw_initialized, by decide +kernel⟩, bf_f bf_c7 39 rfl gw_instanceMethod, bf_p6 (q := (yX9_laysItems, 46)) (List.mem_of_getElem? (i := 2) rfl)⟩
theorem my_X9_laysNode : bf_MV yX9_laysNode cX9_laysNode 5 none 1 := ⟨⟨bf_f bf_c7 44 rfl gw_code, bf_f bf_c1 12 rfl gw_initialized, by decide +kernel⟩, bf_f bf_c7 43 rfl gw_instanceMethod, bf_p6 (q := (yX9_laysNode, 46)) (List.mem_of_getElem? (i := 3) rfl)⟩
theorem my_X9_laysNodes : bf_MV yX9_laysNodes cX9_laysNodes 4 none 0 := ⟨⟨bf_f bf_c6 232 rfl gw_code, bf_f bf_c1 12 rfl gw_initialized, by decide +kernel⟩, bf_f bf_c6 231 rfl gw_instanceMethod, bf_p5 (q := (yX9_laysNodes, 46)) (List.mem_of_getElem? (i := 6) rfl)⟩
theorem my_X9_laysOnes : bf_MV yX9_laysOnes cX9_laysOnes 2 none 0 := ⟨⟨bf_f bf_c7 112 rfl gw_code, bf_f bf_c1 12 rfl gw_initialized, by decide +kernel⟩, bf_f bf_c7 111 rfl gw_instanceMethod, bf_p6 (q := (yX9_laysOnes, 46)) (List.mem_of_getElem? (i := 14) rfl)⟩
theorem my_X9_leafFor : bf_MV yX9_leafFor cX9_leafFor 6 (some .int) 3 := ⟨⟨bf_f bf_c6 118 rfl gw_code, bf_f bf_c1 12 rfl gw_initialized, by decide +kernel⟩, bf_f bf_c6 117 rfl gw_instanceMethod, bf_p4 (q := (yX9_leafFor, 46)) (List.mem_of_getElem? (i := 1) rfl)⟩
theorem my_X9_leaves : bf_MV yX9_leaves cX9_leaves 1 (some .int) 0 := ⟨⟨bf_f bf_c6 122 rfl gw_code, bf_f bf_c1 12 rfl gw_initialized, by decide +kernel⟩, bf_f bf_c6 121 rfl gw_instanceMethod, bf_p4 (q := (yX9_leaves, 46)) (List.mem_of_getElem? (i := 2) rfl)⟩
theorem my_X9_leavesAt : bf_MV yX9_leavesAt cX9_leavesAt 4 (some .int) 1 := ⟨⟨bf_f bf_c7 96 rfl gw_code, bf_f bf_c1 12 rfl gw_initialized, by decide +kernel⟩, bf_f bf_c7 95 rfl gw_instanceMethod, bf_p6 (q := (yX9_leavesAt, 46)) (List.mem_of_getElem? (i := 12) rfl)⟩
theorem my_X9_lengthOf : bf_MV yX9_lengthOf cX9_lengthOf 2 (some .int) 1 := ⟨⟨bf_f bf_c6 134 rfl gw_code, bf_f bf_c1 12 rfl gw_initialized, by decide +kernel⟩, bf_f bf_c6 133 rfl gw_instanceMethod, bf_p4 (q := (yX9_lengthOf, 46)) (List.mem_of_getElem? (i := 5) rfl)⟩
theorem my_X9_lessKeys : bf_MV yX9_lessKeys cX9_lessKeys 7 (some .long) 3 := ⟨⟨bf_f bf_c7 168 rfl gw_code, bf_f bf_c1 12 rfl gw_initialized, by decide +kernel⟩, bf_f bf_c7 167 rfl gw_instanceMethod, bf_p7 (q := (yX9_lessKeys, 46)) (List.mem_of_getElem? (i := 7) rfl)⟩
theorem my_X9_lessMany : bf_MV yX9_lessMany cX9_lessMany 7 (some .int) 4 := ⟨⟨bf_f bf_c6 11 rfl gw_code, bf_f bf_c1 12 rfl gw_initialized, by decide +kernel⟩, bf_f bf_c6 10 rfl gw_instanceMethod, bf_p3 (q := (yX9_lessMany, 46)) (List.mem_of_getElem? (i := 1) rfl)⟩
theorem my_X9_levelOf : bf_MV yX9_levelOf cX9_levelOf 5 (some .int) 2 := ⟨⟨bf_f bf_c7 100 rfl gw_code, bf_f bf_c1 12 rfl gw_initialized, by decide +kernel⟩, bf_f bf_c7 99 rfl gw_instanceMethod, bf_p6 (q := (yX9_levelOf, 46)) (List.mem_of_getElem? (i := 13) rfl)⟩
theorem my_X9_low : bf_MV yX9_low cX9_low 2 (some .long) 1 := ⟨⟨bf_f bf_c5 234 rfl gw_code, bf_f bf_c1 12 rfl gw_initialized, by decide +kernel⟩, bf_f bf_c5 233 rfl gw_instanceMethod, bf_p2 (q := (yX9_low, 46)) (List.mem_of_getElem? (i := 13) rfl)⟩
theorem my_X9_manyLike : bf_MV yX9_manyLike cX9_manyLike 4 (some .int) 2 := ⟨⟨bf_f bf_c7 4 rfl gw_code, bf_f bf_c1 12 rfl gw_initialized, by decide +kernel⟩, bf_f bf_c7 3 rfl gw_instanceMethod, bf_p5 (q := (yX9_manyLike, 46)) (List.mem_of_getElem? (i := 9) rfl)⟩
theorem my_X9_mayBe : bf_MV yX9_mayBe cX9_mayBe 7 (some .boolean) 4 := ⟨⟨bf_f bf_c6 114 rfl gw_code, bf_f bf_c1 12 rfl gw_initialized, by decide +kernel⟩, bf_f bf_c6 113 rfl gw_instanceMethod, bf_p4 (q := (yX9_mayBe, 46)) (List.mem_of_getElem? (i := 0) rfl)⟩
theorem my_X9_mayNow : bf_MV yX9_mayNow cX9_mayNow 4 (some .boolean) 2 := ⟨⟨bf_f bf_c6 102 rfl gw_code, bf_f bf_c1 12 rfl gw_initialized, by decide +kernel⟩, bf_f bf_c6 101 rfl gw_instanceMethod, bf_p3 (q := (yX9_mayNow, 46)) (List.mem_of_getElem? (i := 13) rfl)⟩
theorem my_X9_named : bf_MV yX9_named cX9_named 5 (some .int) 0 := ⟨⟨bf_f bf_c6 62 rfl gw_code, bf_f bf_c1 12 rfl gw_initialized, by decide +kernel⟩, bf_f bf_c6 61 rfl gw_instanceMethod, bf_p3 (q := (yX9_named, 46)) (List.mem_of_getElem? (i := 7) rfl)⟩
theorem my_X9_newMany : bf_MV yX9_newMany cX9_newMany 6 (some .int) 1 := ⟨⟨bf_f bf_c6 78 rfl gw_code, bf_f bf_c1 12 rfl gw_initialized, by decide +kernel⟩, bf_f bf_c6 77 rfl gw_instanceMethod, bf_p3 (q := (yX9_newMany, 46)) (List.mem_of_getElem? (i := 9) rfl)⟩
theorem my_X9_nextBits : bf_MV yX9_nextBits cX9_nextBits 1 (some .int) 0 := ⟨⟨bf_f bf_c6 110 rfl gw_code, bf_f bf_c1 12 rfl gw_initialized, by decide +kernel⟩, bf_f bf_c6 109 rfl gw_instanceMethod, bf_p3 (q := (yX9_nextBits, 46)) (List.mem_of_getElem? (i := 15) rfl)⟩
theorem my_X9_nextOf : bf_MV yX9_nextOf cX9_nextOf 5 (some .int) 3 := ⟨⟨bf_f bf_c6 154 rfl gw_code, bf_f bf_c1 12 rfl gw_initialized, by decide +kernel⟩, bf_f bf_c6 153 rfl gw_instanceMethod, bf_p4 (q := (yX9_nextOf, 46)) (List.mem_of_getElem? (i := 10) rfl)⟩
theorem my_X9_nodeOf : bf_MV yX9_nodeOf cX9_nodeOf 4 (some .int) 1 := ⟨⟨bf_f bf_c7 64 rfl gw_code, bf_f bf_c1 12 rfl gw_initialized, by decide +kernel⟩, bf_f bf_c7 63 rfl gw_instanceMethod, bf_p6 (q := (yX9_nodeOf, 46)) (List.mem_of_getElem? (i := 8) rfl)⟩
theorem my_X9_nodes : bf_MV yX9_nodes cX9_nodes 1 (some .int) 0 := ⟨⟨bf_f bf_c7 80 rfl gw_code, bf_f bf_c1 12 rfl gw_initialized, by decide +kernel⟩, bf_f bf_c7 79 rfl gw_instanceMethod, bf_p6 (q := (yX9_nodes, 46)) (List.mem_of_getElem? (i := 10) rfl)⟩
theorem my_X9_notMoreKeys : bf_MV yX9_notMoreKeys cX9_notMoreKeys 5 (some .long) 3 := ⟨⟨bf_f bf_c7 164 rfl gw_code, bf_f bf_c1 12 rfl gw_initialized, by decide +kernel⟩, bf_f bf_c7 163 rfl gw_instanceMethod, bf_p7 (q := (yX9_notMoreKeys, 46)) (List.mem_of_getElem? (i := 6) rfl)⟩
theorem my_X9_one : bf_MV yX9_one cX9_one 2 none 1 := ⟨⟨bf_f bf_c7 120 rfl gw_code, bf_f bf_c1 12 rfl gw_initialized, by decide +kernel⟩, bf_f bf_c7 119 rfl gw_instanceMethod, bf_p7 (q := (yX9_one, 46)) (List.mem_of_getElem? (i := 0) rfl)⟩
theorem my_X9_onesAhead : bf_MV yX9_onesAhead cX9_onesAhead 3 (some .int) 1 := ⟨⟨bf_f bf_c7 128 rfl gw_code, bf_f bf_c1 12 rfl gw_initialized, by decide +kernel⟩, bf_f bf_c7 127 rfl gw_instanceMethod, bf_p7 (q := (yX9_onesAhead, 46)) (List.mem_of_getElem? (i := 2) rfl)⟩
theorem my_X9_onesOfNode : bf_MV yX9_onesOfNode cX9_onesOfNode 3 none 1 := ⟨⟨bf_f bf_c7 116 rfl gw_code, bf_f bf_c1 12 rfl gw_initialized, by decide +kernel⟩, bf_f bf_c7 115 rfl gw_instanceMethod, bf_p6 (q := (yX9_onesOfNode, 46)) (List.mem_of_getElem? (i := 15) rfl)⟩
theorem my_X9_places : bf_MV yX9_places cX9_places 2 none 1 := ⟨⟨bf_f bf_c7 48 rfl gw_code, bf_f bf_c1 12 rfl gw_initialized, by decide +kernel⟩, bf_f bf_c7 47 rfl gw_instanceMethod, bf_p6 (q := (yX9_places, 46)) (List.mem_of_getElem? (i := 4) rfl)⟩
theorem my_X9_powerOf : bf_MV yX9_powerOf cX9_powerOf 2 (some .long) 1 := ⟨⟨bf_f bf_c7 180 rfl gw_code, bf_f bf_c1 12 rfl gw_initialized, by decide +kernel⟩, bf_f bf_c7 179 rfl gw_instanceMethod, bf_p7 (q := (yX9_powerOf, 46)) (List.mem_of_getElem? (i := 8) rfl)⟩
theorem my_X9_rangeMany : bf_MV yX9_rangeMany cX9_rangeMany 4 (some .int) 1 := ⟨⟨bf_f bf_c6 196 rfl gw_code, bf_f bf_c1 12 rfl gw_initialized, by decide +kernel⟩, bf_f bf_c6 195 rfl gw_instanceMethod, bf_p5 (q := (yX9_rangeMany, 46)) (List.mem_of_getElem? (i := 2) rfl)⟩
theorem my_X9_ranges : bf_MV yX9_ranges cX9_ranges 7 (some .boolean) 6 := ⟨⟨bf_f bf_c6 188 rfl gw_code, bf_f bf_c1 12 rfl gw_initialized, by decide +kernel⟩, bf_f bf_c6 187 rfl gw_instanceMethod, bf_p5 (q := (yX9_ranges, 46)) (List.mem_of_getElem? (i := 0) rfl)⟩
theorem my_X9_reportsAll : bf_MV yX9_reportsAll cX9_reportsAll 2 none 0 := ⟨⟨bf_f bf_c7 228 rfl gw_code, bf_f bf_c1 12 rfl gw_initialized, by decide +kernel⟩, bf_f bf_c7 227 rfl gw_instanceMethod, bf_p7 (q := (yX9_reportsAll, 46)) (List.mem_of_getElem? (i := 11) rfl)⟩
theorem my_X9_reportsLeaf : bf_MV yX9_reportsLeaf cX9_reportsLeaf 3 none 1 := ⟨⟨bf_f bf_c8 0 rfl gw_code, bf_f bf_c1 12 rfl gw_initialized, by decide +kernel⟩, bf_f bf_c7 239 rfl gw_instanceMethod, bf_p7 (q := (yX9_reportsLeaf, 46)) (List.mem_of_getElem? (i := 14) rfl)⟩
theorem my_X9_says : bf_MV yX9_says cX9_says 2 none 1 := ⟨⟨bf_f bf_c7 232 rfl gw_code, bf_f bf_c1 12 rfl gw_initialized, by decide +kernel⟩, bf_f bf_c7 231 rfl gw_instanceMethod, bf_p7 (q := (yX9_says, 46)) (List.mem_of_getElem? (i := 12) rfl)⟩
theorem my_X9_saysHex : bf_MV yX9_saysHex cX9_saysHex 2 none 1 := ⟨⟨bf_f bf_c8 4 rfl gw_code, bf_f bf_c1 12 rfl gw_initialized, by decide +kernel⟩, bf_f bf_c8 3 rfl gw_instanceMethod, bf_p7 (q := (yX9_saysHex, 46)) (List.mem_of_getElem? (i := 15) rfl)⟩
theorem my_X9_saysNumber : bf_MV yX9_saysNumber cX9_saysNumber 2 none 1 := ⟨⟨bf_f bf_c7 236 rfl gw_code, bf_f bf_c1 12 rfl gw_initialized, by decide +kernel⟩, bf_f bf_c7 235 rfl gw_instanceMethod, bf_p7 (q := (yX9_saysNumber, 46)) (List.mem_of_getElem? (i := 13) rfl)⟩
theorem my_X9_settingOf : bf_MV yX9_settingOf cX9_settingOf 2 (some .int) 1 := ⟨⟨bf_f bf_c6 42 rfl gw_code, bf_f bf_c1 12 rfl gw_initialized, by decide +kernel⟩, bf_f bf_c6 41 rfl gw_instanceMethod, bf_p3 (q := (yX9_settingOf, 46)) (List.mem_of_getElem? (i := 5) rfl)⟩
theorem my_X9_tailBits : bf_MV yX9_tailBits cX9_tailBits 1 (some .int) 0 := ⟨⟨bf_f bf_c7 144 rfl gw_code, bf_f bf_c1 12 rfl gw_initialized, by decide +kernel⟩, bf_f bf_c7 143 rfl gw_instanceMethod, bf_p7 (q := (yX9_tailBits, 46)) (List.mem_of_getElem? (i := 3) rfl)⟩
theorem my_X9_tapedKey : bf_MV yX9_tapedKey cX9_tapedKey 6 (some .long) 2 := ⟨⟨bf_f bf_c6 82 rfl gw_code, bf_f bf_c1 12 rfl gw_initialized, by decide +kernel⟩, bf_f bf_c6 81 rfl gw_instanceMethod, bf_p3 (q := (yX9_tapedKey, 46)) (List.mem_of_getElem? (i := 10) rfl)⟩
theorem my_X9_types : bf_MV yX9_types cX9_types 3 none 1 := ⟨⟨bf_f bf_c6 50 rfl gw_code, bf_f bf_c1 12 rfl gw_initialized, by decide +kernel⟩, bf_f bf_c6 49 rfl gw_instanceMethod, bf_p3 (q := (yX9_types, 46)) (List.mem_of_getElem? (i := 6) rfl)⟩
theorem my_X9_upperBy : bf_MV yX9_upperBy cX9_upperBy 3 (some .int) 1 := ⟨⟨bf_f bf_c7 8 rfl gw_code, bf_f bf_c1 12 rfl gw_initialized, by decide +kernel⟩, bf_f bf_c7 7 rfl gw_instanceMethod, bf_p5 (q := (yX9_upperBy, 46)) (List.mem_of_getElem? (i := 10) rfl)⟩
theorem my_X9_wrongBy : bf_MV yX9_wrongBy cX9_wrongBy 8 (some .int) 2 := ⟨⟨bf_f bf_c7 200 rfl gw_code, bf_f bf_c1 12 rfl gw_initialized, by decide +kernel⟩, bf_f bf_c7 199 rfl gw_instanceMethod, bf_p7 (q := (yX9_wrongBy, 46)) (List.mem_of_getElem? (i := 9) rfl)⟩
