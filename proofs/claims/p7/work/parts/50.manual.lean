/-! METHODS PROVED BY HAND: set (static arrays), mode and row (String constants) -/
def bf_sp (k : Nat) (T4 : bT4) : Prop := b4g_count T4 = nI (bf_slen.getD k 0) ∧ ∀ j : Nat, j < bf_slen.getD k 0 → b4g_octets T4 j = (bf_sbyt.getD k []).getD j 0
def bf_is (lo n : Nat) (T4 : bT4) (r : Int32) : Prop := (∃ k : Nat, k < n ∧ r = nI k ∧ bf_sp (lo + k) T4 ∧ ∀ j : Nat, k < j → j < n → ¬ bf_sp (lo + j) T4) ∨ (r = -1 ∧ ∀ k : Nat, k < n → ¬ bf_sp (lo + k) T4)
def bf_at6 (f : List Int32) (i : Int32) : Int32 := if i < 0 then -1 else if (6 : Int32) ≤ i then -1 else f.getD i.toNatClampNeg 0
def wp_X8_set (S : bT8) (a1 a2 : Int32) (Q : Int32 → bT8 → Prop) : Prop :=
  (a1 < 0 ∨ (6 : Int32) ≤ a1 ∨ a2 < bf_at6 bf_least a1 ∨ bf_at6 bf_most a1 < a2 → Q 0 S) ∧
  (¬ a1 < 0 → ¬ (6 : Int32) ≤ a1 → ¬ a2 < bf_at6 bf_least a1 → ¬ bf_at6 bf_most a1 < a2 → vp_in a1 6 ∧ ∀ S2 : bT8, S2 = (b8s_now S (b2s_told (b8g_now S) (b3s_values (b2g_told (b8g_now S)) (upd (b3g_values (b2g_told (b8g_now S))) a1.toNatClampNeg a2)))) → Q 1 S2)
def wp_X8_mode (S : bT8) (Q : Int32 → bT8 → Prop) : Prop :=
  ∀ r : Int32, bf_is 0 4 (b8g_tape S) r → ∀ S1 : bT8, S1 = b8s_tape S (b4s_count (b8g_tape S) 0) → (r = -1 → Q r S1) ∧ (¬ r = -1 → ∀ S2 : bT8, S2 = b8s_now S1 (b2s_told (b8g_now S1) (b3s_mode (b2g_told (b8g_now S1)) r)) → Q r S2)
def wp_X8_row (S : bT8) (Q : Int32 → bT8 → Prop) : Prop :=
  ∀ r : Int32, bf_is 4 6 (b8g_tape S) r → ∀ S1 : bT8, S1 = b8s_tape S (b4s_count (b8g_tape S) 0) → (r = -1 → Q r S1) ∧ (¬ r = -1 → ∀ S2 : bT8, S2 = b8s_chosenRow S1 r → Q r S2)
/-- at() on an array that lies outside every world -/
theorem c_at_ext (l : Launch) (t sz : Nat) (f : List Int32) (i : Int32) : Met l yX8_at (bf_ws yX8_at cX8_at 2 (some .int)) (bf_rm 0 0) (fun v U => v = ([.ref t, .int i] : List Value).toArray ∧ U.heap.size = sz ∧ va_T .int t 6 (fun j => .int (f.getD j 0)) (fun q => sz ≤ q) U U.heap) (va_Qi (fun (r : Int32) (_ : Unit) => r = bf_at6 f i) (fun _ _ => True) (fun q => sz ≤ q)) 0 0 (fun q => sz ≤ q) := by
  refine Met.ofW (cc := cX8_at) (maxL := 2) (ret := (some .int)) (by decide) rfl ?_
  intro p e s m args below meth c s₁ B hml hv
  obtain ⟨rfl, rfl, hT⟩ := hv
  have hx := B.exec
  have hb := B.bytes
  have hr := B.returns
  have hlocks := B.notSynchronized
  have hS : va_S (fun q : Nat => s.heap.size ≤ q) s.heap s.heap [] := va_S.rf
  have hl := lv_entry ([.ref t, .int i]) (n := 2) (Nat.le_of_ble_eq_true rfl)
  rw [lg_entry_eq]
  generalize (lg_sl ([.ref t, .int i]) ++ List.replicate (2 - (lg_sl ([.ref t, .int i])).length) Slot.unset).toArray = ls at hl ⊢
  have hl : lv_has ls 2 [(0, .ref t), (1, .int i)] := hl
  have hend : ∀ v : Int32, v = bf_at6 f i → W p l e (headSpec (bf_ws yX8_at cX8_at 2 (some .int)) (bf_rm 0 0)).room s m ([.ref t, .int i] : List Value).toArray below meth c s.heap [] 0 0 (MQ below (va_Qi (fun (r : Int32) (_ : Unit) => r = bf_at6 f i) (fun _ _ => True) (fun q => s.heap.size ≤ q)) ([.ref t, .int i] : List Value).toArray s 0 0 (fun q => s.heap.size ≤ q)) (F0 m 17 ls [.int v]) := by
    intro v hv
    exact W.iret (v := v) hx hb hr (fun t2 ht hW => ⟨⟨v, (), rfl, hv, trivial⟩, hS.F ht⟩) hS.2.2 (bf_dk dd_X8_at 11 rfl).1
  refine lv_iload_n hx hb (bf_dk dd_X8_at 0 rfl).1 rfl (lv_at hl 1 rfl) ?_
  refine lv_if_lt (tgt := 16) hx hb (bf_dk dd_X8_at 1 rfl).1 (by decide) (fun c1 => ?_) (fun c1 => ?_)
  · refine lv_iconst (v := -1) hx hb (bf_dk dd_X8_at 10 rfl).1 (by decide) ?_
    exact hend (-1) (by unfold bf_at6; rw [if_pos c1])
  · refine lv_iload_n hx hb (bf_dk dd_X8_at 2 rfl).1 rfl (lv_at hl 1 rfl) ?_
    refine lv_aload_n hx hb (bf_dk dd_X8_at 3 rfl).1 rfl (lv_at hl 0 rfl) ?_
    refine va_tlen (v := 6) hx hb hT hS (by decide) (bf_dk dd_X8_at 4 rfl).1 ?_
    refine lv_icmp_ge (tgt := 16) hx hb (bf_dk dd_X8_at 5 rfl).1 (by decide) (fun c2 => ?_) (fun c2 => ?_)
    · refine lv_iconst (v := -1) hx hb (bf_dk dd_X8_at 10 rfl).1 (by decide) ?_
      exact hend (-1) (by unfold bf_at6; rw [if_neg c1, if_pos c2])
    · refine lv_aload_n hx hb (bf_dk dd_X8_at 6 rfl).1 rfl (lv_at hl 0 rfl) ?_
      refine lv_iload_n hx hb (bf_dk dd_X8_at 7 rfl).1 rfl (lv_at hl 1 rfl) ?_
      have hin : vp_in i 6 := by
        intro h
        rcases h with h | h
        · exact c1 h
        · apply c2
          have h0 : (0 : Int) ≤ i.toInt := by
            have := Int32.not_lt.mp c1
            simpa using Int32.le_iff_toInt_le.mp this
          have h1 : (i.toNatClampNeg : Int) = i.toInt := Int.toNat_of_nonneg h0
          rw [Int32.le_iff_toInt_le]
          show (6 : Int) ≤ i.toInt
          omega
      refine va_ti hx hb hT hS hin rfl (bf_dk dd_X8_at 8 rfl).1 ?_
      refine lv_goto (tgt := 17) hx hb (bf_dk dd_X8_at 9 rfl).1 (by decide) ?_
      exact hend _ (by unfold bf_at6; rw [if_neg c1, if_neg c2])
/-- getstatic; iload_1; at(..) -/
theorem bs_atst {X : bf_X} {Q : State → Prop} {nL : Nat} {ret : Option FieldType} {cc : ByteArray} (C : bf_C X RX8 cc nL ret) {fr0 lo0 : Nat} (hR : bf_Rm X fr0 lo0) {nm : String} {f : List Int32} (hG : bf_Ga nm f (xA X) (xs X) (xs X).heap) {i : Int32} {k pc pc1 pc2 pc3 : Nat} {lv : bf_V} {st : List Value} {w : bf_W} (hd0 : bf_D cc pc (.getstatic k) 3 pc1) (hd1 : bf_D cc pc1 (.iload_n 1) 1 pc2) (hd2 : bf_D cc pc2 (.invokestatic 115) 3 pc3) (hl1 : lv[1]? = some (some (.int i))) (hlk : Cond.fieldLink RX8 k "BeginningsFilter" nm "[I" ∈ lw_good) (hfr : 1 ≤ fr0) (hlo : 21 ≤ lo0) (hroom : (st.map fun v => v.category).sum ≤ 8) (kk : bf_A X Q nL pc3 lv (.int (bf_at6 f i) :: st) w) : bf_A X Q nL pc lv st w := by
  intro H locs ls hP hD hS hL
  obtain ⟨hd0, rfl⟩ := hd0
  obtain ⟨hd1, rfl⟩ := hd1
  obtain ⟨hd2, rfl⟩ := hd2
  obtain ⟨t, hZ, hT⟩ := hG
  have hRR : (bf_rm 0 0).frames + 1 ≤ (xR X).frames ∧ 8 + (2 + 11) + (bf_rm 0 0).locals ≤ (xR X).locals := ⟨Nat.le_trans hfr hR.1, Nat.le_trans hlo hR.2.1⟩
  refine va_gets (ref := "BeginningsFilter") C.1 C.2.1 hZ hS C.2.2.2.1 (C.2.2.2.2.1 _ hlk) (fun _ h => h) hd0 ?_
  refine lv_iload_n C.1 C.2.1 hd1 rfl (hL.2.2 1 _ hl1) ?_
  have hTk := hT.kept hS.2.1
  have hT2 : va_T .int t 6 (fun j => .int (f.getD j 0)) (fun q => H.size ≤ q) (xs X) H := by
    obtain ⟨cell, h1, h2, h3, h4, h5, h6, h7⟩ := hTk
    exact ⟨cell, h1, h2, h3, h4, h5, h6, Nat.not_le.mpr (Array.getElem?_eq_some_iff.mp h1).1⟩
  have hrun := va_runS (As := [.ref t, .int i]) (rest := st.map (bf_cv (xal X))) (locs := locs) (e := xe X) (below := xb X) (meth := xh X) (g := F0 (xm X) (pc + 3 + 1) ls (.int i :: .ref t :: st.map (bf_cv (xal X)))) (l := xl X) ⟨C.1, C.2.1, C.2.2.1, C.2.2.2.1, C.2.2.2.2.1⟩ (c_at_ext (xl X) t H.size f i) ⟨callB_of 2 C.2.2.2.2.1 (bf_goodIn my_X8_at.1) rfl rfl rfl (C.2.2.2.2.1 _ my_X8_at.1.2.1) (C.2.2.2.2.1 _ m_8_115) my_X8_at.1.2.2 hRR, C.2.2.2.2.1 _ my_X8_at.2⟩ ⟨fun a U g mk h => ⟨h.1, h.2.1, h.2.2.moved (Vm.Alike.refl U.vm)⟩, fun U hU hW => ⟨rfl, by rw [hU], by rw [hU]; exact hT2.moved hW.alike⟩⟩ rfl rfl hL.1 rfl (lv_room (by rw [bf_rest]; exact hroom)) hd2 ⟨hR.2.2.1, hR.2.2.2⟩
  refine va_calli hrun hS (fun q hq h => absurd hq (Nat.not_lt.mpr h)) (fun q h => C.2.2.2.2.2.2.2.2.2 q (Nat.le_trans hS.1 h)) (fun r u t2 H1 locs1 ht hvm hw hB hz1 hk1 hS1 => ?_)
  subst hw
  exact kk H1 locs1 ls (fun k q hq => (hP k q hq).kept (hk1 q.1 (hP k q hq).lt (Nat.not_le.mpr (hP k q hq).lt))) hD hS1 hL
theorem c_X8_set (l : Launch) (dC : Nat → ClassId) (dI : Nat → Nat → Nat) (ac : Nat → ClassId) (al : Nat → Nat) (S : bT8) (a1 : Int32) (a2 : Int32) (Q : Int32 → bT8 → Prop) (h : wp_X8_set S a1 a2 Q) : bf_MG l yX8_set cX8_set 3 (some .boolean) 1 21 dC dI ac al [.ref 0, .int a1, .int a2] (bW8 S) (bf_Ki dC dI ac al bW8 Q) := by
  refine bf_startG [some (.ref 0), some (.int a1), some (.int a2)] (by decide) (Nat.le_of_ble_eq_true rfl) (bf_s1 (bf_s1 (bf_s1 bf_s0))) ?_
  intro X hl C hR e1 e2 e3 e4 hG
  subst e1; subst e2; subst e3; subst e4
  have hF : (a1 < 0 ∨ (6 : Int32) ≤ a1 ∨ a2 < bf_at6 bf_least a1 ∨ bf_at6 bf_most a1 < a2) → bf_A X (bf_Q X (bf_Ki (xdC X) (xdI X) (xac X) (xal X) bW8 Q)) 3 32 [some (.ref 0), some (.int a1), some (.int a2)] [] (bW8 S) := by
    intro hc
    refine bs_iconst C (bf_dk dd_X8_set 15 rfl) (0 : Int32) (by decide) ?_
    exact bs_zret (u := S) C (bf_dk dd_X8_set 16 rfl) rfl rfl (h.1 hc)
  refine bs_iload_n C (bf_dk dd_X8_set 0 rfl) rfl ?_
  refine bs_if_lt C (bf_dk dd_X8_set 1 rfl) (tgt := 32) rfl (fun c1 => hF (Or.inl c1)) (fun c1 => ?_)
  refine bs_iload_n C (bf_dk dd_X8_set 2 rfl) rfl ?_
  refine bs_bipush C (bf_dk dd_X8_set 3 rfl) (6 : Int32) (by decide) ?_
  refine bs_icmp_ge C (bf_dk dd_X8_set 4 rfl) (tgt := 32) rfl (fun c2 => hF (Or.inr (Or.inl c2))) (fun c2 => ?_)
  refine bs_iload_n C (bf_dk dd_X8_set 5 rfl) rfl ?_
  refine bs_atst C hR hG.2.1 (bf_dk dd_X8_set 6 rfl) (bf_dk dd_X8_set 7 rfl) (bf_dk dd_X8_set 8 rfl) rfl f_8_111 (Nat.le_of_ble_eq_true rfl) (Nat.le_of_ble_eq_true rfl) (Nat.le_of_ble_eq_true rfl) ?_
  refine bs_icmp_lt C (bf_dk dd_X8_set 9 rfl) (tgt := 32) rfl (fun c3 => hF (Or.inr (Or.inr (Or.inl c3)))) (fun c3 => ?_)
  refine bs_iload_n C (bf_dk dd_X8_set 10 rfl) rfl ?_
  refine bs_atst C hR hG.2.2.1 (bf_dk dd_X8_set 11 rfl) (bf_dk dd_X8_set 12 rfl) (bf_dk dd_X8_set 13 rfl) rfl f_8_119 (Nat.le_of_ble_eq_true rfl) (Nat.le_of_ble_eq_true rfl) (Nat.le_of_ble_eq_true rfl) ?_
  refine bs_icmp_le C (bf_dk dd_X8_set 14 rfl) (tgt := 34) rfl (fun c4 => ?_) (fun c4 => hF (Or.inr (Or.inr (Or.inr (Int32.not_le.mp c4)))))
  obtain ⟨hin, hq⟩ := h.2 c1 c2 c3 (Int32.not_lt.mpr c4)
  refine bs_aload_n C (bf_dk dd_X8_set 17 rfl) rfl ?_
  refine bs_get C (bf_dk dd_X8_set 18 rfl) cl_8 in_8 0 (Nat.le_of_ble_eq_true rfl) rfl f_8_12 (ge_bW8_0 S) rfl ?_
  refine bs_get C (bf_dk dd_X8_set 19 rfl) cl_2 in_2 0 (Nat.le_of_ble_eq_true rfl) rfl f_8_87 (ge_bW8_1 S) rfl ?_
  refine bs_get C (bf_dk dd_X8_set 20 rfl) cl_3 in_3 1 (Nat.le_of_ble_eq_true rfl) rfl f_8_122 (ge_bW8_2 S) rfl ?_
  refine bs_iload_n C (bf_dk dd_X8_set 21 rfl) rfl ?_
  refine bs_iload_n C (bf_dk dd_X8_set 22 rfl) rfl ?_
  refine bs_iast C (bf_dk dd_X8_set 23 rfl) (ge_bW8_6 S) hin (ar_bW8_6 S _) ?_
  refine bs_iconst C (bf_dk dd_X8_set 24 rfl) (1 : Int32) (by decide) ?_
  exact bs_zret (u := (b8s_now S (b2s_told (b8g_now S) (b3s_values (b2g_told (b8g_now S)) (upd (b3g_values (b2g_told (b8g_now S))) a1.toNatClampNeg a2))))) C (bf_dk dd_X8_set 25 rfl) rfl rfl (hq _ rfl)
theorem c_X8_mode (l : Launch) (dC : Nat → ClassId) (dI : Nat → Nat → Nat) (ac : Nat → ClassId) (al : Nat → Nat) (S : bT8) (Q : Int32 → bT8 → Prop) (h : wp_X8_mode S Q) : bf_MG l yX8_mode cX8_mode 3 (some .int) 5 107 dC dI ac al [.ref 0] (bW8 S) (bf_Ki dC dI ac al bW8 Q) := by
  sorry
theorem c_X8_row (l : Launch) (dC : Nat → ClassId) (dI : Nat → Nat → Nat) (ac : Nat → ClassId) (al : Nat → Nat) (S : bT8) (Q : Int32 → bT8 → Prop) (h : wp_X8_row S Q) : bf_MG l yX8_row cX8_row 3 (some .int) 5 107 dC dI ac al [.ref 0] (bW8 S) (bf_Ki dC dI ac al bW8 Q) := by
  sorry

