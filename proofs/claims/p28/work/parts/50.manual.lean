/-- at() on an array that lies outside every world -/
theorem c_at_ext (l : Launch) (t sz : Nat) (f : List Int32) (i : Int32) : Met l yX8_at (bf_ws yX8_at cX8_at 2 (some .int)) (bf_rm 0 0) (fun v U => v = ([.ref t, .int i] : List Value).toArray ∧ U.heap.size = sz ∧ va_T .int t 6 (fun j => .int (f.getD j 0)) (fun q => sz ≤ q) U U.heap) (va_Qi (fun (r : Int32) (_ : Unit) => r = bf_at6 f i) (fun _ _ => True) (fun q => sz ≤ q)) 0 0 (fun q => sz ≤ q) := by
  refine Met.ofW (cc := cX8_at) (maxL := 2) (ret := (some .int)) (by decide) rfl ?_
  intro p e s m args below meth c s₁ B hml hv
  obtain ⟨rfl, rfl, hT⟩ := hv
  have hx := B.exec
  have hb := B.bytes
  have hr := B.returns
  have hlocks := B.notSynchronized
  have hS : va_S (fun q : Nat => s.heap.size ≤ q) s.heap s.heap [] := va_S.rf
  have hl := lv_entry ([.ref t, .int i]) (n := 2) (Nat.le_of_ble_eq_true rfl)
  rw [lg_entry_eq]
  generalize (lg_sl ([.ref t, .int i]) ++ List.replicate (2 - (lg_sl ([.ref t, .int i])).length) Slot.unset).toArray = ls at hl ⊢
  have hl : lv_has ls 2 [(0, .ref t), (1, .int i)] := hl
  have hend : ∀ v : Int32, v = bf_at6 f i → W p l e (headSpec (bf_ws yX8_at cX8_at 2 (some .int)) (bf_rm 0 0)).room s m ([.ref t, .int i] : List Value).toArray below meth c s.heap [] 0 0 (MQ below (va_Qi (fun (r : Int32) (_ : Unit) => r = bf_at6 f i) (fun _ _ => True) (fun q => s.heap.size ≤ q)) ([.ref t, .int i] : List Value).toArray s 0 0 (fun q => s.heap.size ≤ q)) (F0 m 17 ls [.int v]) := by
    intro v hv
    exact W.iret (v := v) hx hb hr (fun t2 ht hW => ⟨⟨v, (), rfl, hv, trivial⟩, hS.F ht⟩) hS.2.2 (bf_dk dd_X8_at 11 rfl).1
  refine lv_iload_n hx hb (bf_dk dd_X8_at 0 rfl).1 rfl (lv_at hl 1 rfl) ?_
  refine lv_if_lt (tgt := 16) hx hb (bf_dk dd_X8_at 1 rfl).1 (by decide) (fun c1 => ?_) (fun c1 => ?_)
  · refine lv_iconst (v := -1) hx hb (bf_dk dd_X8_at 10 rfl).1 (by decide) ?_
    exact hend (-1) (by unfold bf_at6; rw [if_pos c1])
  · refine lv_iload_n hx hb (bf_dk dd_X8_at 2 rfl).1 rfl (lv_at hl 1 rfl) ?_
    refine lv_aload_n hx hb (bf_dk dd_X8_at 3 rfl).1 rfl (lv_at hl 0 rfl) ?_
    refine va_tlen (v := 6) hx hb hT hS (by decide) (bf_dk dd_X8_at 4 rfl).1 ?_
    refine lv_icmp_ge (tgt := 16) hx hb (bf_dk dd_X8_at 5 rfl).1 (by decide) (fun c2 => ?_) (fun c2 => ?_)
    · refine lv_iconst (v := -1) hx hb (bf_dk dd_X8_at 10 rfl).1 (by decide) ?_
      exact hend (-1) (by unfold bf_at6; rw [if_neg c1, if_pos c2])
    · refine lv_aload_n hx hb (bf_dk dd_X8_at 6 rfl).1 rfl (lv_at hl 0 rfl) ?_
      refine lv_iload_n hx hb (bf_dk dd_X8_at 7 rfl).1 rfl (lv_at hl 1 rfl) ?_
      have hin : vp_in i 6 := by
        intro h
        rcases h with h | h
        · exact c1 h
        · apply c2
          have h0 : (0 : Int) ≤ i.toInt := by
            have := Int32.not_lt.mp c1
            simpa using Int32.le_iff_toInt_le.mp this
          have h1 : (i.toNatClampNeg : Int) = i.toInt := Int.toNat_of_nonneg h0
          rw [Int32.le_iff_toInt_le]
          show (6 : Int) ≤ i.toInt
          omega
      refine va_ti hx hb hT hS hin rfl (bf_dk dd_X8_at 8 rfl).1 ?_
      refine lv_goto (tgt := 17) hx hb (bf_dk dd_X8_at 9 rfl).1 (by decide) ?_
      exact hend _ (by unfold bf_at6; rw [if_neg c1, if_neg c2])
/-- getstatic; iload_1; at(..) -/
theorem bs_atst {X : bf_X} {Q : State → Prop} {nL : Nat} {ret : Option FieldType} {cc : ByteArray} (C : bf_C X RX8 cc nL ret) {fr0 lo0 : Nat} (hR : bf_Rm X fr0 lo0) {nm : String} {f : List Int32} (hG : bf_Ga nm f (xA X) (xs X) (xs X).heap) {i : Int32} {k pc pc1 pc2 pc3 : Nat} {lv : bf_V} {st : List Value} {w : bf_W} (hd0 : bf_D cc pc (.getstatic k) 3 pc1) (hd1 : bf_D cc pc1 (.iload_n 1) 1 pc2) (hd2 : bf_D cc pc2 (.invokestatic 115) 3 pc3) (hl1 : lv[1]? = some (some (.int i))) (hlk : Cond.fieldLink RX8 k "BeginningsFilter" nm "[I" ∈ lw_good) (hfr : 1 ≤ fr0) (hlo : 21 ≤ lo0) (hroom : (st.map fun v => v.category).sum ≤ 8) (kk : bf_A X Q nL pc3 lv (.int (bf_at6 f i) :: st) w) : bf_A X Q nL pc lv st w := by
  intro H locs ls hP hD hS hL
  obtain ⟨hd0, rfl⟩ := hd0
  obtain ⟨hd1, rfl⟩ := hd1
  obtain ⟨hd2, rfl⟩ := hd2
  obtain ⟨t, hZ, hT⟩ := hG
  have hRR : (bf_rm 0 0).frames + 1 ≤ (xR X).frames ∧ 8 + (2 + 11) + (bf_rm 0 0).locals ≤ (xR X).locals := ⟨Nat.le_trans hfr hR.1, Nat.le_trans hlo hR.2.1⟩
  refine va_gets (ref := "BeginningsFilter") C.1 C.2.1 hZ hS C.2.2.2.1 (C.2.2.2.2.1 _ hlk) (fun _ h => h) hd0 ?_
  refine lv_iload_n C.1 C.2.1 hd1 rfl (hL.2.2 1 _ hl1) ?_
  have hTk := hT.kept hS.2.1
  have hT2 : va_T .int t 6 (fun j => .int (f.getD j 0)) (fun q => H.size ≤ q) (xs X) H := by
    obtain ⟨cell, h1, h2, h3, h4, h5, h6, h7⟩ := hTk
    exact ⟨cell, h1, h2, h3, h4, h5, h6, Nat.not_le.mpr (Array.getElem?_eq_some_iff.mp h1).1⟩
  have hrun := va_runS (As := [.ref t, .int i]) (rest := st.map (bf_cv (xal X))) (locs := locs) (e := xe X) (below := xb X) (meth := xh X) (g := F0 (xm X) (pc + 3 + 1) ls (.int i :: .ref t :: st.map (bf_cv (xal X)))) (l := xl X) ⟨C.1, C.2.1, C.2.2.1, C.2.2.2.1, C.2.2.2.2.1⟩ (c_at_ext (xl X) t H.size f i) ⟨callB_of 2 C.2.2.2.2.1 (bf_goodIn my_X8_at.1) rfl rfl rfl (C.2.2.2.2.1 _ my_X8_at.1.2.1) (C.2.2.2.2.1 _ m_8_115) my_X8_at.1.2.2 hRR, C.2.2.2.2.1 _ my_X8_at.2⟩ ⟨fun a U g mk h => ⟨h.1, h.2.1, h.2.2.moved (Vm.Alike.refl U.vm)⟩, fun U hU hW => ⟨rfl, by rw [hU], by rw [hU]; exact hT2.moved hW.alike⟩⟩ rfl rfl hL.1 rfl (lv_room (by rw [bf_rest]; exact hroom)) hd2 ⟨hR.2.2.1, hR.2.2.2⟩
  refine va_calli hrun hS (fun q hq h => absurd hq (Nat.not_lt.mpr h)) (fun q h => C.2.2.2.2.2.2.2.2.2 q (Nat.le_trans hS.1 h)) (fun r u t2 H1 locs1 ht hvm hw hB hz1 hk1 hS1 => ?_)
  subst hw
  exact kk H1 locs1 ls (fun k q hq => (hP k q hq).kept (hk1 q.1 (hP k q hq).lt (Nat.not_le.mpr (hP k q hq).lt))) hD hS1 hL
theorem c_X8_set (l : Launch) (dC : Nat → ClassId) (dI : Nat → Nat → Nat) (ac : Nat → ClassId) (al : Nat → Nat) (S : bT8) (a1 : Int32) (a2 : Int32) (Q : Int32 → bT8 → Prop) (h : wp_X8_set S a1 a2 Q) : bf_MG l yX8_set cX8_set 3 (some .boolean) 1 21 dC dI ac al [.ref 0, .int a1, .int a2] (bW8 S) (bf_Ki dC dI ac al bW8 Q) := by
  refine bf_startG [some (.ref 0), some (.int a1), some (.int a2)] (by decide) (Nat.le_of_ble_eq_true rfl) (bf_s1 (bf_s1 (bf_s1 bf_s0))) ?_
  intro X hl C hR e1 e2 e3 e4 hG
  subst e1; subst e2; subst e3; subst e4
  have hF : (a1 < 0 ∨ (6 : Int32) ≤ a1 ∨ a2 < bf_at6 bf_least a1 ∨ bf_at6 bf_most a1 < a2) → bf_A X (bf_Q X (bf_Ki (xdC X) (xdI X) (xac X) (xal X) bW8 Q)) 3 32 [some (.ref 0), some (.int a1), some (.int a2)] [] (bW8 S) := by
    intro hc
    refine bs_iconst C (bf_dk dd_X8_set 15 rfl) (0 : Int32) (by decide) ?_
    exact bs_zret (u := S) C (bf_dk dd_X8_set 16 rfl) rfl rfl (h.1 hc)
  refine bs_iload_n C (bf_dk dd_X8_set 0 rfl) rfl ?_
  refine bs_if_lt C (bf_dk dd_X8_set 1 rfl) (tgt := 32) rfl (fun c1 => hF (Or.inl c1)) (fun c1 => ?_)
  refine bs_iload_n C (bf_dk dd_X8_set 2 rfl) rfl ?_
  refine bs_bipush C (bf_dk dd_X8_set 3 rfl) (6 : Int32) (by decide) ?_
  refine bs_icmp_ge C (bf_dk dd_X8_set 4 rfl) (tgt := 32) rfl (fun c2 => hF (Or.inr (Or.inl c2))) (fun c2 => ?_)
  refine bs_iload_n C (bf_dk dd_X8_set 5 rfl) rfl ?_
  refine bs_atst C hR hG.2.1 (bf_dk dd_X8_set 6 rfl) (bf_dk dd_X8_set 7 rfl) (bf_dk dd_X8_set 8 rfl) rfl f_8_111 (Nat.le_of_ble_eq_true rfl) (Nat.le_of_ble_eq_true rfl) (Nat.le_of_ble_eq_true rfl) ?_
  refine bs_icmp_lt C (bf_dk dd_X8_set 9 rfl) (tgt := 32) rfl (fun c3 => hF (Or.inr (Or.inr (Or.inl c3)))) (fun c3 => ?_)
  refine bs_iload_n C (bf_dk dd_X8_set 10 rfl) rfl ?_
  refine bs_atst C hR hG.2.2.1 (bf_dk dd_X8_set 11 rfl) (bf_dk dd_X8_set 12 rfl) (bf_dk dd_X8_set 13 rfl) rfl f_8_119 (Nat.le_of_ble_eq_true rfl) (Nat.le_of_ble_eq_true rfl) (Nat.le_of_ble_eq_true rfl) ?_
  refine bs_icmp_le C (bf_dk dd_X8_set 14 rfl) (tgt := 34) rfl (fun c4 => ?_) (fun c4 => hF (Or.inr (Or.inr (Or.inr (Int32.not_le.mp c4)))))
  obtain ⟨hin, hq⟩ := h.2 c1 c2 c3 (Int32.not_lt.mpr c4)
  refine bs_aload_n C (bf_dk dd_X8_set 17 rfl) rfl ?_
  refine bs_get C (bf_dk dd_X8_set 18 rfl) cl_8 in_8 0 (Nat.le_of_ble_eq_true rfl) rfl f_8_12 (ge_bW8_0 S) rfl ?_
  refine bs_get C (bf_dk dd_X8_set 19 rfl) cl_2 in_2 0 (Nat.le_of_ble_eq_true rfl) rfl f_8_87 (ge_bW8_1 S) rfl ?_
  refine bs_get C (bf_dk dd_X8_set 20 rfl) cl_3 in_3 1 (Nat.le_of_ble_eq_true rfl) rfl f_8_122 (ge_bW8_2 S) rfl ?_
  refine bs_iload_n C (bf_dk dd_X8_set 21 rfl) rfl ?_
  refine bs_iload_n C (bf_dk dd_X8_set 22 rfl) rfl ?_
  refine bs_iast C (bf_dk dd_X8_set 23 rfl) (ge_bW8_6 S) hin (ar_bW8_6 S _) ?_
  refine bs_iconst C (bf_dk dd_X8_set 24 rfl) (1 : Int32) (by decide) ?_
  exact bs_zret (u := (b8s_now S (b2s_told (b8g_now S) (b3s_values (b2g_told (b8g_now S)) (upd (b3g_values (b2g_told (b8g_now S))) a1.toNatClampNeg a2))))) C (bf_dk dd_X8_set 25 rfl) rfl rfl (hq _ rfl)
theorem bf_is_zero (lo : Nat) (T : bT4) : bf_is lo 0 T (-1) := Or.inr ⟨rfl, fun k hk => absurd hk (by omega)⟩
theorem bf_is_yes {lo k : Nat} {T : bT4} (h : bf_sp (lo + k) T) : bf_is lo (k + 1) T (nI k) := Or.inl ⟨k, by omega, rfl, h, fun j h1 h2 => absurd h2 (by omega)⟩
theorem bf_is_no {lo k : Nat} {T : bT4} {r : Int32} (hi : bf_is lo k T r) (h : ¬ bf_sp (lo + k) T) : bf_is lo (k + 1) T r := by
  rcases hi with ⟨i, h1, h2, h3, h4⟩ | ⟨h1, h2⟩
  · refine Or.inl ⟨i, by omega, h2, h3, fun j g1 g2 => ?_⟩
    rcases Nat.lt_or_ge j k with q | q
    · exact h4 j g1 q
    · have e : j = k := by omega
      rw [e]; exact h
  · refine Or.inr ⟨h1, fun j g => ?_⟩
    rcases Nat.lt_or_ge j k with q | q
    · exact h2 j q
    · have e : j = k := by omega
      rw [e]; exact h

theorem bs_sp_modeName {X : bf_X} {Q : State → Prop} {nL : Nat} {ret : Option FieldType} {cc : ByteArray} (C : bf_C X RX8 cc nL ret) {fr0 lo0 : Nat} (hR : bf_Rm X fr0 lo0) (hG : bf_G (xA X) (xs X) (xs X).heap) (S : bT8) {k : Nat} (hk : k < 4) {pc pc1 pc2 pc3 : Nat} {lv : bf_V} (hd0 : bf_D cc pc (.iload_n 2) 1 pc1) (hd1 : bf_D cc pc1 (.invokestatic 79) 3 pc2) (hd2 : bf_D cc pc2 (.invokevirtual 83) 3 pc3) (hl2 : lv[2]? = some (some (.int (nI k)))) (hfr : 4 + 1 ≤ fr0) (hlo : 8 + (3 + 11) + 85 ≤ lo0) (kk : ∀ r : Int32, ((r = 1 ∧ bf_sp (0 + k) (b8g_tape S)) ∨ (r = 0 ∧ ¬ bf_sp (0 + k) (b8g_tape S))) → bf_A X Q nL pc3 lv [.int r] (bW8 S)) : bf_A X Q nL pc lv [.ref 64] (bW8 S) := by
  intro H locs ls hP hD hS hL
  obtain ⟨hd0, rfl⟩ := hd0
  obtain ⟨hd1, rfl⟩ := hd1
  obtain ⟨hd2, rfl⟩ := hd2
  obtain ⟨-, -, -, ⟨adK, adV, hK1, hR1⟩, hz1, hz2⟩ := hG
  have hO : bf_O adK adV (xA X) (xs X) (xs X).heap := ⟨hK1, hz1, hz2⟩
  have hk10 : 0 + k < 10 := by omega
  have hRR0 : (bf_rm 0 0).frames + 1 ≤ (xR X).frames ∧ 8 + (1 + 11) + (bf_rm 0 0).locals ≤ (xR X).locals := ⟨Nat.le_trans (Nat.le_trans (Nat.le_of_ble_eq_true rfl) hfr) hR.1, Nat.le_trans (Nat.le_trans (Nat.le_of_ble_eq_true rfl) hlo) hR.2.1⟩
  have hRR : (bf_rm 4 85).frames + 1 ≤ (xR X).frames ∧ 8 + (3 + 11) + (bf_rm 4 85).locals ≤ (xR X).locals := ⟨Nat.le_trans hfr hR.1, Nat.le_trans hlo hR.2.1⟩
  refine lv_iload_n C.1 C.2.1 hd0 rfl (hL.2.2 2 _ hl2) ?_
  refine va_callr (va_runS (As := [.int (nI k)]) (rest := [.ref (xal X 64)]) ⟨C.1, C.2.1, C.2.2.1, C.2.2.2.1, C.2.2.2.2.1⟩ (c_modeName (xl X) adK k hk H.size) ⟨callB_of 1 C.2.2.2.2.1 (bf_goodIn my_X8_modeName.1) rfl rfl rfl (C.2.2.2.2.1 _ my_X8_modeName.1.2.1) (C.2.2.2.2.1 _ m_8_79) my_X8_modeName.1.2.2 hRR0, C.2.2.2.2.1 _ my_X8_modeName.2⟩ ⟨bf_PN_blind _ _ _, fun U hU hW => ⟨rfl, by rw [hU], fun i hi => (hR1 i hi).warm hW⟩⟩ rfl rfl hL.1 rfl (lv_room (Nat.le_of_ble_eq_true rfl)) hd1 ⟨hR.2.2.1, hR.2.2.2⟩) hS (fun q hq h => absurd hq (Nat.not_lt.mpr h)) (fun q h => C.2.2.2.2.2.2.2.2.2 q (Nat.le_trans hS.1 h)) (fun u ra t H1 locs1 ht hvm hw hB hz1 hk1 hS1 => ?_)
  have hra : ra = adK (0 + k) := hB
  subst hra
  have hP1 : va_P (xdC X, xdI X) bf_cl (bf_cw (xac X) (xal X) (bW8 S)) H1 := fun k q hq => (hP k q hq).kept (hk1 q.1 (hP k q hq).lt (Nat.not_le.mpr (hP k q hq).lt))
  obtain ⟨al2, hal⟩ : ∃ al2 : Nat → Nat, al2 = fun j => if j = 1000 then adK (0 + k) else bf_alc (xal X) [64, 65] j := ⟨_, rfl⟩
  have h1000 : al2 1000 = adK (0 + k) := by rw [hal]; rfl
  have hcw : ∀ T : bT4, bf_cw (xac X) al2 (bW4 T) = bf_cw (xac X) (bf_alc (xal X) [64, 65]) (bW4 T) := fun T => by rw [hal]; rfl
  have hsub := su_bW8_64_bW4 S
  have hPc : va_P (xdC X, xdI X) bf_cl (bf_cw (xac X) al2 (bW4 (b8g_tape S))) H1 := by
    rw [hcw]
    exact hP1.sub [64, 65] (by
      have h := hsub.conc (ac := xac X) (al := xal X)
      have h2 : ([64, 65] : List Nat).filterMap (fun i => (bf_cw (xac X) (xal X) (bW8 S))[i]?) = (([64, 65] : List Nat).map (fun i => (bf_cw (xac X) (xal X) (bW8 S))[i]?)).filterMap id := by rw [List.filterMap_map]; rfl
      rw [h2, h, List.filterMap_map]
      simp [Function.comp_def])
  have hDc : va_D (xA X) (bf_cw (xac X) al2 (bW4 (b8g_tape S))) := by
    rw [hcw]
    exact hD.sub [64, 65] rfl hsub.conc
  have hFc : ∀ q, bf_fr (xac X) al2 (bW4 (b8g_tape S)) H1.size q → xA X q := by
    intro q hq
    rcases hq with ⟨j, e, hj⟩ | hq
    · exact hDc.2 j (q, e) hj
    · exact C.2.2.2.2.2.2.2.2.2 q (Nat.le_trans hS1.1 hq)
  have h64 : al2 0 = xal X 64 := by rw [hal]; rfl
  have hrun := va_runV (As := [.ref (adK (0 + k))]) (b := xal X 64) (rest := []) (locs := locs1) (e := xe X) (below := xb X) (meth := xh X) (l := xl X) (g := F0 (xm X) (pc + 1 + 3) ls [.ref (adK (0 + k)), .ref (xal X 64)]) ⟨C.1, C.2.1, C.2.2.1, C.2.2.2.1, C.2.2.2.2.1⟩ (c_X4_spells (xl X) (xdC X) (xdI X) (xac X) al2 adK adV (b8g_tape S) (0 + k) hk10 h1000 H1.size) ⟨callB_of 1 C.2.2.2.2.1 (bf_goodIn my_X4_spells.1) rfl rfl rfl (C.2.2.2.2.1 _ my_X4_spells.1.2.1) (C.2.2.2.2.1 _ m_8_83) my_X4_spells.1.2.2 hRR, C.2.2.2.2.1 _ my_X4_spells.2.1, C.2.2.2.2.1 _ my_X4_spells.2.2⟩ ⟨fun a U g mk h => ⟨bf_blind _ _ _ _ _ _ _ a U g mk h.1, h.2.1.moved (Vm.Alike.refl U.vm), h.2.2.1.moved (Vm.Alike.refl U.vm), h.2.2.2.moved (Vm.Alike.refl U.vm)⟩, by rw [← h64]; exact va_recv C.2.2.2.2.2.1 hPc cl_4 (bf_cw_some (ge_bW4_0 (b8g_tape S))), fun U hU hW => ⟨⟨by rw [← h1000, ← h64]; rfl, by rw [hU], by rw [hU]; exact hPc, va_K.moved hW.alike C.2.2.2.2.2.1, hDc.weaken (fun _ _ _ _ => trivial), C.2.2.2.2.2.2.1.warm hW⟩, by rw [hU]; exact hO.at hS1 hFc hW.alike⟩⟩ rfl rfl hL.1 rfl (lv_room (Nat.le_of_ble_eq_true rfl)) hd2 ⟨hR.2.2.1, hR.2.2.2⟩
  refine va_calli hrun hS1 (fun q _ h => hFc q h) hFc (fun r u2 t2 H2 locs2 ht2 hvm2 hw2 hB2 hz2 hk2 hS2 => ?_)
  obtain ⟨rfl, hw2⟩ := hw2
  obtain ⟨hP2, hK2, hD2⟩ := hB2
  rw [ht2, hcw] at hP2
  unfold bf_fr at hk2
  rw [hcw] at hk2
  have hP3 := bf_back hP1 hD hsub rfl rfl hk2 hP2
  rw [bf_put_self hsub] at hP3
  exact kk r hw2 H2 locs2 ls hP3 hD hS2 hL
theorem bs_sp_rowName {X : bf_X} {Q : State → Prop} {nL : Nat} {ret : Option FieldType} {cc : ByteArray} (C : bf_C X RX8 cc nL ret) {fr0 lo0 : Nat} (hR : bf_Rm X fr0 lo0) (hG : bf_G (xA X) (xs X) (xs X).heap) (S : bT8) {k : Nat} (hk : k < 6) {pc pc1 pc2 pc3 : Nat} {lv : bf_V} (hd0 : bf_D cc pc (.iload_n 2) 1 pc1) (hd1 : bf_D cc pc1 (.invokestatic 96) 3 pc2) (hd2 : bf_D cc pc2 (.invokevirtual 83) 3 pc3) (hl2 : lv[2]? = some (some (.int (nI k)))) (hfr : 4 + 1 ≤ fr0) (hlo : 8 + (3 + 11) + 85 ≤ lo0) (kk : ∀ r : Int32, ((r = 1 ∧ bf_sp (4 + k) (b8g_tape S)) ∨ (r = 0 ∧ ¬ bf_sp (4 + k) (b8g_tape S))) → bf_A X Q nL pc3 lv [.int r] (bW8 S)) : bf_A X Q nL pc lv [.ref 64] (bW8 S) := by
  intro H locs ls hP hD hS hL
  obtain ⟨hd0, rfl⟩ := hd0
  obtain ⟨hd1, rfl⟩ := hd1
  obtain ⟨hd2, rfl⟩ := hd2
  obtain ⟨-, -, -, ⟨adK, adV, hK1, hR1⟩, hz1, hz2⟩ := hG
  have hO : bf_O adK adV (xA X) (xs X) (xs X).heap := ⟨hK1, hz1, hz2⟩
  have hk10 : 4 + k < 10 := by omega
  have hRR0 : (bf_rm 0 0).frames + 1 ≤ (xR X).frames ∧ 8 + (1 + 11) + (bf_rm 0 0).locals ≤ (xR X).locals := ⟨Nat.le_trans (Nat.le_trans (Nat.le_of_ble_eq_true rfl) hfr) hR.1, Nat.le_trans (Nat.le_trans (Nat.le_of_ble_eq_true rfl) hlo) hR.2.1⟩
  have hRR : (bf_rm 4 85).frames + 1 ≤ (xR X).frames ∧ 8 + (3 + 11) + (bf_rm 4 85).locals ≤ (xR X).locals := ⟨Nat.le_trans hfr hR.1, Nat.le_trans hlo hR.2.1⟩
  refine lv_iload_n C.1 C.2.1 hd0 rfl (hL.2.2 2 _ hl2) ?_
  refine va_callr (va_runS (As := [.int (nI k)]) (rest := [.ref (xal X 64)]) ⟨C.1, C.2.1, C.2.2.1, C.2.2.2.1, C.2.2.2.2.1⟩ (c_rowName (xl X) adK k hk H.size) ⟨callB_of 1 C.2.2.2.2.1 (bf_goodIn my_X8_rowName.1) rfl rfl rfl (C.2.2.2.2.1 _ my_X8_rowName.1.2.1) (C.2.2.2.2.1 _ m_8_96) my_X8_rowName.1.2.2 hRR0, C.2.2.2.2.1 _ my_X8_rowName.2⟩ ⟨bf_PN_blind _ _ _, fun U hU hW => ⟨rfl, by rw [hU], fun i hi => (hR1 i hi).warm hW⟩⟩ rfl rfl hL.1 rfl (lv_room (Nat.le_of_ble_eq_true rfl)) hd1 ⟨hR.2.2.1, hR.2.2.2⟩) hS (fun q hq h => absurd hq (Nat.not_lt.mpr h)) (fun q h => C.2.2.2.2.2.2.2.2.2 q (Nat.le_trans hS.1 h)) (fun u ra t H1 locs1 ht hvm hw hB hz1 hk1 hS1 => ?_)
  have hra : ra = adK (4 + k) := hB
  subst hra
  have hP1 : va_P (xdC X, xdI X) bf_cl (bf_cw (xac X) (xal X) (bW8 S)) H1 := fun k q hq => (hP k q hq).kept (hk1 q.1 (hP k q hq).lt (Nat.not_le.mpr (hP k q hq).lt))
  obtain ⟨al2, hal⟩ : ∃ al2 : Nat → Nat, al2 = fun j => if j = 1000 then adK (4 + k) else bf_alc (xal X) [64, 65] j := ⟨_, rfl⟩
  have h1000 : al2 1000 = adK (4 + k) := by rw [hal]; rfl
  have hcw : ∀ T : bT4, bf_cw (xac X) al2 (bW4 T) = bf_cw (xac X) (bf_alc (xal X) [64, 65]) (bW4 T) := fun T => by rw [hal]; rfl
  have hsub := su_bW8_64_bW4 S
  have hPc : va_P (xdC X, xdI X) bf_cl (bf_cw (xac X) al2 (bW4 (b8g_tape S))) H1 := by
    rw [hcw]
    exact hP1.sub [64, 65] (by
      have h := hsub.conc (ac := xac X) (al := xal X)
      have h2 : ([64, 65] : List Nat).filterMap (fun i => (bf_cw (xac X) (xal X) (bW8 S))[i]?) = (([64, 65] : List Nat).map (fun i => (bf_cw (xac X) (xal X) (bW8 S))[i]?)).filterMap id := by rw [List.filterMap_map]; rfl
      rw [h2, h, List.filterMap_map]
      simp [Function.comp_def])
  have hDc : va_D (xA X) (bf_cw (xac X) al2 (bW4 (b8g_tape S))) := by
    rw [hcw]
    exact hD.sub [64, 65] rfl hsub.conc
  have hFc : ∀ q, bf_fr (xac X) al2 (bW4 (b8g_tape S)) H1.size q → xA X q := by
    intro q hq
    rcases hq with ⟨j, e, hj⟩ | hq
    · exact hDc.2 j (q, e) hj
    · exact C.2.2.2.2.2.2.2.2.2 q (Nat.le_trans hS1.1 hq)
  have h64 : al2 0 = xal X 64 := by rw [hal]; rfl
  have hrun := va_runV (As := [.ref (adK (4 + k))]) (b := xal X 64) (rest := []) (locs := locs1) (e := xe X) (below := xb X) (meth := xh X) (l := xl X) (g := F0 (xm X) (pc + 1 + 3) ls [.ref (adK (4 + k)), .ref (xal X 64)]) ⟨C.1, C.2.1, C.2.2.1, C.2.2.2.1, C.2.2.2.2.1⟩ (c_X4_spells (xl X) (xdC X) (xdI X) (xac X) al2 adK adV (b8g_tape S) (4 + k) hk10 h1000 H1.size) ⟨callB_of 1 C.2.2.2.2.1 (bf_goodIn my_X4_spells.1) rfl rfl rfl (C.2.2.2.2.1 _ my_X4_spells.1.2.1) (C.2.2.2.2.1 _ m_8_83) my_X4_spells.1.2.2 hRR, C.2.2.2.2.1 _ my_X4_spells.2.1, C.2.2.2.2.1 _ my_X4_spells.2.2⟩ ⟨fun a U g mk h => ⟨bf_blind _ _ _ _ _ _ _ a U g mk h.1, h.2.1.moved (Vm.Alike.refl U.vm), h.2.2.1.moved (Vm.Alike.refl U.vm), h.2.2.2.moved (Vm.Alike.refl U.vm)⟩, by rw [← h64]; exact va_recv C.2.2.2.2.2.1 hPc cl_4 (bf_cw_some (ge_bW4_0 (b8g_tape S))), fun U hU hW => ⟨⟨by rw [← h1000, ← h64]; rfl, by rw [hU], by rw [hU]; exact hPc, va_K.moved hW.alike C.2.2.2.2.2.1, hDc.weaken (fun _ _ _ _ => trivial), C.2.2.2.2.2.2.1.warm hW⟩, by rw [hU]; exact hO.at hS1 hFc hW.alike⟩⟩ rfl rfl hL.1 rfl (lv_room (Nat.le_of_ble_eq_true rfl)) hd2 ⟨hR.2.2.1, hR.2.2.2⟩
  refine va_calli hrun hS1 (fun q _ h => hFc q h) hFc (fun r u2 t2 H2 locs2 ht2 hvm2 hw2 hB2 hz2 hk2 hS2 => ?_)
  obtain ⟨rfl, hw2⟩ := hw2
  obtain ⟨hP2, hK2, hD2⟩ := hB2
  rw [ht2, hcw] at hP2
  unfold bf_fr at hk2
  rw [hcw] at hk2
  have hP3 := bf_back hP1 hD hsub rfl rfl hk2 hP2
  rw [bf_put_self hsub] at hP3
  exact kk r hw2 H2 locs2 ls hP3 hD hS2 hL
theorem c_X8_mode (l : Launch) (dC : Nat → ClassId) (dI : Nat → Nat → Nat) (ac : Nat → ClassId) (al : Nat → Nat) (S : bT8) (Q : Int32 → bT8 → Prop) (h : wp_X8_mode S Q) : bf_MG l yX8_mode cX8_mode 3 (some .int) 5 107 dC dI ac al [.ref 0] (bW8 S) (bf_Ki dC dI ac al bW8 Q) := by
  refine bf_startG [some (.ref 0), none, none] (by decide) (Nat.le_of_ble_eq_true rfl) (bf_s1 (bf_en 2)) ?_
  intro X hl C hR e1 e2 e3 e4 hG
  subst e1; subst e2; subst e3; subst e4
  refine bs_iconst C (bf_dk dd_X8_mode 0 rfl) (-1 : Int32) (by decide) ?_
  refine bs_istore_n C (bf_dk dd_X8_mode 1 rfl) rfl (Nat.le_of_ble_eq_true rfl) (Nat.le_of_ble_eq_true rfl) (lv2 := [some (.ref 0), some (.int (-1 : Int32)), none]) rfl ?_
  refine bs_iconst C (bf_dk dd_X8_mode 2 rfl) (0 : Int32) (by decide) ?_
  refine bs_istore_n C (bf_dk dd_X8_mode 3 rfl) rfl (Nat.le_of_ble_eq_true rfl) (Nat.le_of_ble_eq_true rfl) (lv2 := [some (.ref 0), some (.int (-1 : Int32)), some (.int (nI 0))]) rfl ?_
  have key : ∀ (d k : Nat) (f : Int32), k + d = 4 → bf_is 0 k (b8g_tape S) f → bf_A X (bf_Q X (bf_Ki (xdC X) (xdI X) (xac X) (xal X) bW8 Q)) 3 4 [some (.ref 0), some (.int f), some (.int (nI k))] [] (bW8 S) := by
    intro d
    induction d with
    | zero =>
      intro k f hk hi
      have hk4 : k = 4 := by omega
      subst hk4
      refine bs_iload_n C (bf_dk dd_X8_mode 4 rfl) rfl ?_
      refine bs_iconst C (bf_dk dd_X8_mode 5 rfl) (4 : Int32) (by decide) ?_
      refine bs_icmp_ge C (bf_dk dd_X8_mode 6 rfl) (tgt := 31) rfl (fun _ => ?_) (fun c2 => absurd (by decide) c2)
      refine bs_aload_n C (bf_dk dd_X8_mode 17 rfl) rfl ?_
      refine bs_get C (bf_dk dd_X8_mode 18 rfl) cl_8 in_8 7 (Nat.le_of_ble_eq_true rfl) rfl f_8_54 (ge_bW8_0 S) rfl ?_
      refine bs_iconst C (bf_dk dd_X8_mode 19 rfl) (0 : Int32) (by decide) ?_
      refine bs_put C (bf_dk dd_X8_mode 20 rfl) tyX4_ok nmX4 cl_4 in_4 1 (Nat.le_of_ble_eq_true rfl) rfl f_8_72 rfl (ge_bW8_64 S) (Nat.le_of_ble_eq_true rfl) rfl rfl (pu_bW8_64_1 S 0) ?_
      refine bs_nameS bW8 (fun S1 eS1 => ?_)
      have hq := h f hi S1 eS1
      refine bs_iload_n C (bf_dk dd_X8_mode 21 rfl) rfl ?_
      refine bs_iconst C (bf_dk dd_X8_mode 22 rfl) (-1 : Int32) (by decide) ?_
      refine bs_icmp_eq C (bf_dk dd_X8_mode 23 rfl) (tgt := 55) rfl (fun c3 => ?_) (fun c3 => ?_)
      · refine bs_iload_n C (bf_dk dd_X8_mode 29 rfl) rfl ?_
        exact bs_iret (u := S1) C (bf_dk dd_X8_mode 30 rfl) rfl (hq.1 c3)
      · refine bs_aload_n C (bf_dk dd_X8_mode 24 rfl) rfl ?_
        refine bs_get C (bf_dk dd_X8_mode 25 rfl) cl_8 in_8 0 (Nat.le_of_ble_eq_true rfl) rfl f_8_12 (ge_bW8_0 S1) rfl ?_
        refine bs_get C (bf_dk dd_X8_mode 26 rfl) cl_2 in_2 0 (Nat.le_of_ble_eq_true rfl) rfl f_8_87 (ge_bW8_1 S1) rfl ?_
        refine bs_iload_n C (bf_dk dd_X8_mode 27 rfl) rfl ?_
        refine bs_put C (bf_dk dd_X8_mode 28 rfl) tyX3_ok nmX3 cl_3 in_3 2 (Nat.le_of_ble_eq_true rfl) rfl f_8_91 rfl (ge_bW8_2 S1) (Nat.le_of_ble_eq_true rfl) rfl rfl (pu_bW8_2_2 S1 f) ?_
        refine bs_nameS bW8 (fun S2 eS2 => ?_)
        refine bs_iload_n C (bf_dk dd_X8_mode 29 rfl) rfl ?_
        exact bs_iret (u := S2) C (bf_dk dd_X8_mode 30 rfl) rfl (hq.2 c3 S2 eS2)
    | succ d ih =>
      intro k f hk hi
      have hkl : k < 4 := by omega
      refine bs_iload_n C (bf_dk dd_X8_mode 4 rfl) rfl ?_
      refine bs_iconst C (bf_dk dd_X8_mode 5 rfl) (4 : Int32) (by decide) ?_
      refine bs_icmp_ge C (bf_dk dd_X8_mode 6 rfl) (tgt := 31) rfl (fun c2 => absurd (show nI 4 ≤ nI k from c2) (nI_ge hkl (by decide))) (fun _ => ?_)
      refine bs_aload_n C (bf_dk dd_X8_mode 7 rfl) rfl ?_
      refine bs_get C (bf_dk dd_X8_mode 8 rfl) cl_8 in_8 7 (Nat.le_of_ble_eq_true rfl) rfl f_8_54 (ge_bW8_0 S) rfl ?_
      refine bs_sp_modeName C hR hG S hkl (bf_dk dd_X8_mode 9 rfl) (bf_dk dd_X8_mode 10 rfl) (bf_dk dd_X8_mode 11 rfl) rfl (Nat.le_of_ble_eq_true rfl) (Nat.le_of_ble_eq_true rfl) (fun r hr => ?_)
      have hstep : ∀ f2 : Int32, bf_is 0 (k + 1) (b8g_tape S) f2 → bf_A X (bf_Q X (bf_Ki (xdC X) (xdI X) (xac X) (xal X) bW8 Q)) 3 25 [some (.ref 0), some (.int f2), some (.int (nI k))] [] (bW8 S) := by
        intro f2 hi2
        refine bs_iinc C (bf_dk dd_X8_mode 15 rfl) (nI (k + 1)) rfl (nI_succ k).symm (Nat.le_of_ble_eq_true rfl) (Nat.le_of_ble_eq_true rfl) (lv2 := [some (.ref 0), some (.int f2), some (.int (nI (k + 1)))]) rfl ?_
        refine bs_goto C (bf_dk dd_X8_mode 16 rfl) (tgt := 4) rfl ?_
        exact ih (k + 1) f2 (by omega) hi2
      rcases hr with ⟨rfl, hsp⟩ | ⟨rfl, hsp⟩
      · refine bs_if_eq C (bf_dk dd_X8_mode 12 rfl) (tgt := 25) rfl (fun c3 => absurd c3 (by decide)) (fun _ => ?_)
        refine bs_iload_n C (bf_dk dd_X8_mode 13 rfl) rfl ?_
        refine bs_istore_n C (bf_dk dd_X8_mode 14 rfl) rfl (Nat.le_of_ble_eq_true rfl) (Nat.le_of_ble_eq_true rfl) (lv2 := [some (.ref 0), some (.int (nI k)), some (.int (nI k))]) rfl ?_
        exact hstep _ (bf_is_yes hsp)
      · refine bs_if_eq C (bf_dk dd_X8_mode 12 rfl) (tgt := 25) rfl (fun _ => ?_) (fun c3 => absurd rfl c3)
        exact hstep _ (bf_is_no hi hsp)
  exact key 4 0 (-1) (by decide) (bf_is_zero 0 (b8g_tape S))
theorem c_X8_row (l : Launch) (dC : Nat → ClassId) (dI : Nat → Nat → Nat) (ac : Nat → ClassId) (al : Nat → Nat) (S : bT8) (Q : Int32 → bT8 → Prop) (h : wp_X8_row S Q) : bf_MG l yX8_row cX8_row 3 (some .int) 5 107 dC dI ac al [.ref 0] (bW8 S) (bf_Ki dC dI ac al bW8 Q) := by
  refine bf_startG [some (.ref 0), none, none] (by decide) (Nat.le_of_ble_eq_true rfl) (bf_s1 (bf_en 2)) ?_
  intro X hl C hR e1 e2 e3 e4 hG
  subst e1; subst e2; subst e3; subst e4
  refine bs_iconst C (bf_dk dd_X8_row 0 rfl) (-1 : Int32) (by decide) ?_
  refine bs_istore_n C (bf_dk dd_X8_row 1 rfl) rfl (Nat.le_of_ble_eq_true rfl) (Nat.le_of_ble_eq_true rfl) (lv2 := [some (.ref 0), some (.int (-1 : Int32)), none]) rfl ?_
  refine bs_iconst C (bf_dk dd_X8_row 2 rfl) (0 : Int32) (by decide) ?_
  refine bs_istore_n C (bf_dk dd_X8_row 3 rfl) rfl (Nat.le_of_ble_eq_true rfl) (Nat.le_of_ble_eq_true rfl) (lv2 := [some (.ref 0), some (.int (-1 : Int32)), some (.int (nI 0))]) rfl ?_
  have key : ∀ (d k : Nat) (f : Int32), k + d = 6 → bf_is 4 k (b8g_tape S) f → bf_A X (bf_Q X (bf_Ki (xdC X) (xdI X) (xac X) (xal X) bW8 Q)) 3 4 [some (.ref 0), some (.int f), some (.int (nI k))] [] (bW8 S) := by
    intro d
    induction d with
    | zero =>
      intro k f hk hi
      have hk4 : k = 6 := by omega
      subst hk4
      refine bs_iload_n C (bf_dk dd_X8_row 4 rfl) rfl ?_
      refine bs_bipush C (bf_dk dd_X8_row 5 rfl) (6 : Int32) (by decide) ?_
      refine bs_icmp_ge C (bf_dk dd_X8_row 6 rfl) (tgt := 32) rfl (fun _ => ?_) (fun c2 => absurd (by decide) c2)
      refine bs_aload_n C (bf_dk dd_X8_row 17 rfl) rfl ?_
      refine bs_get C (bf_dk dd_X8_row 18 rfl) cl_8 in_8 7 (Nat.le_of_ble_eq_true rfl) rfl f_8_54 (ge_bW8_0 S) rfl ?_
      refine bs_iconst C (bf_dk dd_X8_row 19 rfl) (0 : Int32) (by decide) ?_
      refine bs_put C (bf_dk dd_X8_row 20 rfl) tyX4_ok nmX4 cl_4 in_4 1 (Nat.le_of_ble_eq_true rfl) rfl f_8_72 rfl (ge_bW8_64 S) (Nat.le_of_ble_eq_true rfl) rfl rfl (pu_bW8_64_1 S 0) ?_
      refine bs_nameS bW8 (fun S1 eS1 => ?_)
      have hq := h f hi S1 eS1
      refine bs_iload_n C (bf_dk dd_X8_row 21 rfl) rfl ?_
      refine bs_iconst C (bf_dk dd_X8_row 22 rfl) (-1 : Int32) (by decide) ?_
      refine bs_icmp_eq C (bf_dk dd_X8_row 23 rfl) (tgt := 50) rfl (fun c3 => ?_) (fun c3 => ?_)
      · refine bs_iload_n C (bf_dk dd_X8_row 27 rfl) rfl ?_
        exact bs_iret (u := S1) C (bf_dk dd_X8_row 28 rfl) rfl (hq.1 c3)
      · refine bs_aload_n C (bf_dk dd_X8_row 24 rfl) rfl ?_
        refine bs_iload_n C (bf_dk dd_X8_row 25 rfl) rfl ?_
        refine bs_put C (bf_dk dd_X8_row 26 rfl) tyX8_ok nmX8 cl_8 in_8 9 (Nat.le_of_ble_eq_true rfl) rfl f_8_65 rfl (ge_bW8_0 S1) (Nat.le_of_ble_eq_true rfl) rfl rfl (pu_bW8_0_9 S1 f) ?_
        refine bs_nameS bW8 (fun S2 eS2 => ?_)
        refine bs_iload_n C (bf_dk dd_X8_row 27 rfl) rfl ?_
        exact bs_iret (u := S2) C (bf_dk dd_X8_row 28 rfl) rfl (hq.2 c3 S2 eS2)
    | succ d ih =>
      intro k f hk hi
      have hkl : k < 6 := by omega
      refine bs_iload_n C (bf_dk dd_X8_row 4 rfl) rfl ?_
      refine bs_bipush C (bf_dk dd_X8_row 5 rfl) (6 : Int32) (by decide) ?_
      refine bs_icmp_ge C (bf_dk dd_X8_row 6 rfl) (tgt := 32) rfl (fun c2 => absurd (show nI 6 ≤ nI k from c2) (nI_ge hkl (by decide))) (fun _ => ?_)
      refine bs_aload_n C (bf_dk dd_X8_row 7 rfl) rfl ?_
      refine bs_get C (bf_dk dd_X8_row 8 rfl) cl_8 in_8 7 (Nat.le_of_ble_eq_true rfl) rfl f_8_54 (ge_bW8_0 S) rfl ?_
      refine bs_sp_rowName C hR hG S hkl (bf_dk dd_X8_row 9 rfl) (bf_dk dd_X8_row 10 rfl) (bf_dk dd_X8_row 11 rfl) rfl (Nat.le_of_ble_eq_true rfl) (Nat.le_of_ble_eq_true rfl) (fun r hr => ?_)
      have hstep : ∀ f2 : Int32, bf_is 4 (k + 1) (b8g_tape S) f2 → bf_A X (bf_Q X (bf_Ki (xdC X) (xdI X) (xac X) (xal X) bW8 Q)) 3 26 [some (.ref 0), some (.int f2), some (.int (nI k))] [] (bW8 S) := by
        intro f2 hi2
        refine bs_iinc C (bf_dk dd_X8_row 15 rfl) (nI (k + 1)) rfl (nI_succ k).symm (Nat.le_of_ble_eq_true rfl) (Nat.le_of_ble_eq_true rfl) (lv2 := [some (.ref 0), some (.int f2), some (.int (nI (k + 1)))]) rfl ?_
        refine bs_goto C (bf_dk dd_X8_row 16 rfl) (tgt := 4) rfl ?_
        exact ih (k + 1) f2 (by omega) hi2
      rcases hr with ⟨rfl, hsp⟩ | ⟨rfl, hsp⟩
      · refine bs_if_eq C (bf_dk dd_X8_row 12 rfl) (tgt := 26) rfl (fun c3 => absurd c3 (by decide)) (fun _ => ?_)
        refine bs_iload_n C (bf_dk dd_X8_row 13 rfl) rfl ?_
        refine bs_istore_n C (bf_dk dd_X8_row 14 rfl) rfl (Nat.le_of_ble_eq_true rfl) (Nat.le_of_ble_eq_true rfl) (lv2 := [some (.ref 0), some (.int (nI k)), some (.int (nI k))]) rfl ?_
        exact hstep _ (bf_is_yes hsp)
      · refine bs_if_eq C (bf_dk dd_X8_row 12 rfl) (tgt := 26) rfl (fun _ => ?_) (fun c3 => absurd rfl c3)
        exact hstep _ (bf_is_no hi hsp)
  exact key 6 0 (-1) (by decide) (bf_is_zero 4 (b8g_tape S))

