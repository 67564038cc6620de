section BFLW
variable {p : Program} {l : Launch} {e : Env} {R : Room} {s : State} {m : MethodId} {args : Array Value} {below : List Frame} {meth : Method} {c : Code} {H : Heap} {locs : List Loc} {cells slots : Nat} {Q : State → Prop} {cc : ByteArray} {pc : Nat} {ls : Array Slot} {rest : List Value}
theorem bf_ldcwS (hexec : p.tables.exec = Jvm.exec) (hb : c.code = cc) {own tx : String} {index q : Nat} (hown : s.vm.findClass own = some m.cls) (hZ : vk_R own index tx q s) (hdg : decode cc pc = .ok (.ldc_w index, 3))
    (k : W p l e R s m args below meth c H locs cells slots Q (F0 m (pc + 3) ls (.ref q :: rest))) : W p l e R s m args below meth c H locs cells slots Q (F0 m pc ls rest) := by
  intro T hT X
  obtain ⟨t, a1, b1⟩ := k T hT X
  exact ⟨t, X.ldcStringW hexec hown (text := tx) (a := q) hZ.1 hZ.2 (g := F0 m pc ls rest) rfl (by rw [hb]; exact hdg) t a1, b1⟩
end BFLW
def bf_PN (avs : List Value) (adK : Nat → Nat) (sz : Nat) : Array Value → State → Prop := fun v U => v = avs.toArray ∧ U.heap.size = sz ∧ ∀ i : Nat, i < 10 → vk_R "BeginningsFilter" (bf_sidx.getD i 0) (bf_stxt.getD i "") (adK i) U
theorem bf_PN_blind (avs : List Value) (adK : Nat → Nat) (sz : Nat) : FrameBlind (bf_PN avs adK sz) := fun a U g mk h => ⟨h.1, h.2.1, fun i hi => (h.2.2 i hi).same rfl⟩
theorem c_modeName (l : Launch) (adK : Nat → Nat) (k : Nat) (hk : k < 4) (sz : Nat) : Met l yX8_modeName (bf_ws yX8_modeName cX8_modeName 1 (some (.object "java/lang/String"))) (bf_rm 0 0) (bf_PN [.int (nI k)] adK sz) (va_Qr (fun (_ : Unit) => True) (fun _ a _ => a = adK (0 + k)) (fun q => sz ≤ q)) 0 0 (fun q => sz ≤ q) := by
  refine Met.ofW (cc := cX8_modeName) (maxL := 1) (ret := (some (.object "java/lang/String"))) (by decide) rfl ?_
  intro p e s m args below meth c s₁ B hml hv
  obtain ⟨rfl, rfl, hO⟩ := hv
  have hown : s.vm.findClass "BeginningsFilter" = some m.cls := findClass_of_methodNamed B.named
  have hlocks := B.notSynchronized
  have hS : va_S (fun q : Nat => s.heap.size ≤ q) s.heap s.heap [] := va_S.rf
  have hl := lv_entry ([.int (nI k)]) (n := 1) (Nat.le_of_ble_eq_true rfl)
  rw [lg_entry_eq]
  generalize (lg_sl ([.int (nI k)]) ++ List.replicate (1 - (lg_sl ([.int (nI k)])).length) Slot.unset).toArray = ls at hl ⊢
  have hl : lv_has ls 1 [(0, .int (nI k))] := hl
  refine lv_iload_n B.exec B.bytes (bf_dk dd_X8_modeName 0 rfl).1 rfl (lv_at hl 0 rfl) ?_
  match k, hk with
  | 0, _ =>
    refine lv_tableIn (tgt := 28) B.exec B.bytes (bf_dk dd_X8_modeName 1 rfl).1 (by decide) (by decide) rfl (by decide) ?_
    refine bf_ldcwS B.exec B.bytes hown (hO 0 (by decide)) (bf_dk dd_X8_modeName 2 rfl).1 ?_
    exact W.aret (v := .ref (adK 0)) B.exec B.bytes B.returns (Or.inl ⟨_, rfl⟩) (Or.inr ⟨_, rfl⟩) (fun t ht hW => ⟨⟨(), adK 0, rfl, trivial, rfl⟩, hS.F ht⟩) hS.2.2 (bf_dk dd_X8_modeName 3 rfl).1 hlocks
  | 1, _ =>
    refine lv_tableIn (tgt := 32) B.exec B.bytes (bf_dk dd_X8_modeName 1 rfl).1 (by decide) (by decide) rfl (by decide) ?_
    refine bf_ldcwS B.exec B.bytes hown (hO 1 (by decide)) (bf_dk dd_X8_modeName 4 rfl).1 ?_
    exact W.aret (v := .ref (adK 1)) B.exec B.bytes B.returns (Or.inl ⟨_, rfl⟩) (Or.inr ⟨_, rfl⟩) (fun t ht hW => ⟨⟨(), adK 1, rfl, trivial, rfl⟩, hS.F ht⟩) hS.2.2 (bf_dk dd_X8_modeName 5 rfl).1 hlocks
  | 2, _ =>
    refine lv_tableIn (tgt := 36) B.exec B.bytes (bf_dk dd_X8_modeName 1 rfl).1 (by decide) (by decide) rfl (by decide) ?_
    refine bf_ldcwS B.exec B.bytes hown (hO 2 (by decide)) (bf_dk dd_X8_modeName 6 rfl).1 ?_
    exact W.aret (v := .ref (adK 2)) B.exec B.bytes B.returns (Or.inl ⟨_, rfl⟩) (Or.inr ⟨_, rfl⟩) (fun t ht hW => ⟨⟨(), adK 2, rfl, trivial, rfl⟩, hS.F ht⟩) hS.2.2 (bf_dk dd_X8_modeName 7 rfl).1 hlocks
  | 3, _ =>
    refine lv_tableOut (tgt := 40) B.exec B.bytes (bf_dk dd_X8_modeName 1 rfl).1 (by decide) (by decide) ?_
    refine bf_ldcwS B.exec B.bytes hown (hO 3 (by decide)) (bf_dk dd_X8_modeName 8 rfl).1 ?_
    exact W.aret (v := .ref (adK 3)) B.exec B.bytes B.returns (Or.inl ⟨_, rfl⟩) (Or.inr ⟨_, rfl⟩) (fun t ht hW => ⟨⟨(), adK 3, rfl, trivial, rfl⟩, hS.F ht⟩) hS.2.2 (bf_dk dd_X8_modeName 9 rfl).1 hlocks
  | k + 4, h => omega
theorem c_rowName (l : Launch) (adK : Nat → Nat) (k : Nat) (hk : k < 6) (sz : Nat) : Met l yX8_rowName (bf_ws yX8_rowName cX8_rowName 1 (some (.object "java/lang/String"))) (bf_rm 0 0) (bf_PN [.int (nI k)] adK sz) (va_Qr (fun (_ : Unit) => True) (fun _ a _ => a = adK (4 + k)) (fun q => sz ≤ q)) 0 0 (fun q => sz ≤ q) := by
  refine Met.ofW (cc := cX8_rowName) (maxL := 1) (ret := (some (.object "java/lang/String"))) (by decide) rfl ?_
  intro p e s m args below meth c s₁ B hml hv
  obtain ⟨rfl, rfl, hO⟩ := hv
  have hown : s.vm.findClass "BeginningsFilter" = some m.cls := findClass_of_methodNamed B.named
  have hlocks := B.notSynchronized
  have hS : va_S (fun q : Nat => s.heap.size ≤ q) s.heap s.heap [] := va_S.rf
  have hl := lv_entry ([.int (nI k)]) (n := 1) (Nat.le_of_ble_eq_true rfl)
  rw [lg_entry_eq]
  generalize (lg_sl ([.int (nI k)]) ++ List.replicate (1 - (lg_sl ([.int (nI k)])).length) Slot.unset).toArray = ls at hl ⊢
  have hl : lv_has ls 1 [(0, .int (nI k))] := hl
  refine lv_iload_n B.exec B.bytes (bf_dk dd_X8_rowName 0 rfl).1 rfl (lv_at hl 0 rfl) ?_
  match k, hk with
  | 0, _ =>
    refine lv_tableIn (tgt := 36) B.exec B.bytes (bf_dk dd_X8_rowName 1 rfl).1 (by decide) (by decide) rfl (by decide) ?_
    refine bf_ldcwS B.exec B.bytes hown (hO 4 (by decide)) (bf_dk dd_X8_rowName 2 rfl).1 ?_
    exact W.aret (v := .ref (adK 4)) B.exec B.bytes B.returns (Or.inl ⟨_, rfl⟩) (Or.inr ⟨_, rfl⟩) (fun t ht hW => ⟨⟨(), adK 4, rfl, trivial, rfl⟩, hS.F ht⟩) hS.2.2 (bf_dk dd_X8_rowName 3 rfl).1 hlocks
  | 1, _ =>
    refine lv_tableIn (tgt := 40) B.exec B.bytes (bf_dk dd_X8_rowName 1 rfl).1 (by decide) (by decide) rfl (by decide) ?_
    refine bf_ldcwS B.exec B.bytes hown (hO 5 (by decide)) (bf_dk dd_X8_rowName 4 rfl).1 ?_
    exact W.aret (v := .ref (adK 5)) B.exec B.bytes B.returns (Or.inl ⟨_, rfl⟩) (Or.inr ⟨_, rfl⟩) (fun t ht hW => ⟨⟨(), adK 5, rfl, trivial, rfl⟩, hS.F ht⟩) hS.2.2 (bf_dk dd_X8_rowName 5 rfl).1 hlocks
  | 2, _ =>
    refine lv_tableIn (tgt := 44) B.exec B.bytes (bf_dk dd_X8_rowName 1 rfl).1 (by decide) (by decide) rfl (by decide) ?_
    refine bf_ldcwS B.exec B.bytes hown (hO 6 (by decide)) (bf_dk dd_X8_rowName 6 rfl).1 ?_
    exact W.aret (v := .ref (adK 6)) B.exec B.bytes B.returns (Or.inl ⟨_, rfl⟩) (Or.inr ⟨_, rfl⟩) (fun t ht hW => ⟨⟨(), adK 6, rfl, trivial, rfl⟩, hS.F ht⟩) hS.2.2 (bf_dk dd_X8_rowName 7 rfl).1 hlocks
  | 3, _ =>
    refine lv_tableIn (tgt := 48) B.exec B.bytes (bf_dk dd_X8_rowName 1 rfl).1 (by decide) (by decide) rfl (by decide) ?_
    refine bf_ldcwS B.exec B.bytes hown (hO 7 (by decide)) (bf_dk dd_X8_rowName 8 rfl).1 ?_
    exact W.aret (v := .ref (adK 7)) B.exec B.bytes B.returns (Or.inl ⟨_, rfl⟩) (Or.inr ⟨_, rfl⟩) (fun t ht hW => ⟨⟨(), adK 7, rfl, trivial, rfl⟩, hS.F ht⟩) hS.2.2 (bf_dk dd_X8_rowName 9 rfl).1 hlocks
  | 4, _ =>
    refine lv_tableIn (tgt := 52) B.exec B.bytes (bf_dk dd_X8_rowName 1 rfl).1 (by decide) (by decide) rfl (by decide) ?_
    refine bf_ldcwS B.exec B.bytes hown (hO 8 (by decide)) (bf_dk dd_X8_rowName 10 rfl).1 ?_
    exact W.aret (v := .ref (adK 8)) B.exec B.bytes B.returns (Or.inl ⟨_, rfl⟩) (Or.inr ⟨_, rfl⟩) (fun t ht hW => ⟨⟨(), adK 8, rfl, trivial, rfl⟩, hS.F ht⟩) hS.2.2 (bf_dk dd_X8_rowName 11 rfl).1 hlocks
  | 5, _ =>
    refine lv_tableOut (tgt := 56) B.exec B.bytes (bf_dk dd_X8_rowName 1 rfl).1 (by decide) (by decide) ?_
    refine bf_ldcwS B.exec B.bytes hown (hO 9 (by decide)) (bf_dk dd_X8_rowName 12 rfl).1 ?_
    exact W.aret (v := .ref (adK 9)) B.exec B.bytes B.returns (Or.inl ⟨_, rfl⟩) (Or.inr ⟨_, rfl⟩) (fun t ht hW => ⟨⟨(), adK 9, rfl, trivial, rfl⟩, hS.F ht⟩) hS.2.2 (bf_dk dd_X8_rowName 13 rfl).1 hlocks
  | k + 6, h => omega
theorem bs_strlen {X : bf_X} {Q : State → Prop} {nL : Nat} {ret : Option FieldType} {cc : ByteArray} (C : bf_C X RX4 cc nL ret) {fr0 lo0 : Nat} (hR : bf_Rm X fr0 lo0) {adK adV : Nat → Nat} (hO : bf_O adK adV (xA X) (xs X) (xs X).heap) {k : Nat} (hk : k < 10) (ha : xal X 1000 = adK k) {pc pc2 : Nat} {lv : bf_V} {st : List Value} {w : bf_W} (hd : bf_D cc pc (.invokevirtual 19) 3 pc2) (hfr : 1 + 1 ≤ fr0) (hlo : 8 + (1 + 11) + 20 ≤ lo0) (hroom : (st.map fun v => v.category).sum ≤ 8) (kk : bf_A X Q nL pc2 lv (.int (nI (bf_slen.getD k 0)) :: st) w) : bf_A X Q nL pc lv (.ref 1000 :: st) w := by
  intro H locs ls hP hD hS hL
  obtain ⟨hd, rfl⟩ := hd
  have hRR : (bf_rm 1 20).frames + 1 ≤ (xR X).frames ∧ 8 + (1 + 11) + (bf_rm 1 20).locals ≤ (xR X).locals := ⟨Nat.le_trans hfr hR.1, Nat.le_trans hlo hR.2.1⟩
  have hrun := va_runV (As := []) (b := adK k) (rest := st.map (bf_cv (xal X))) (locs := locs) (e := xe X) (below := xb X) (meth := xh X) (l := xl X) (g := F0 (xm X) pc ls (.ref (adK k) :: st.map (bf_cv (xal X)))) ⟨C.1, C.2.1, C.2.2.1, C.2.2.2.1, C.2.2.2.2.1⟩ (cj_length_c (xl X) adK adV k hk H.size) ⟨callB_of 0 C.2.2.2.2.1 (bf_goodIn mj_length.1) rfl rfl rfl (C.2.2.2.2.1 _ mj_length.1.2.1) (C.2.2.2.2.1 _ lj_len) mj_length.1.2.2 hRR, C.2.2.2.2.1 _ mj_length.2.1, C.2.2.2.2.1 _ mj_length.2.2⟩ ⟨bf_PO_blind _ _ _ _, vk_recv hO.1 hk hS, fun U hU hW => ⟨rfl, by rw [hU], by rw [hU]; exact hO.at hS (fun q h => C.2.2.2.2.2.2.2.2.2 q (Nat.le_trans hS.1 h)) hW.alike⟩⟩ rfl rfl hL.1 rfl (lv_room (by rw [bf_rest]; exact hroom)) hd ⟨hR.2.2.1, hR.2.2.2⟩
  have hg := va_calli hrun hS (fun q hq h => absurd hq (Nat.not_lt.mpr h)) (fun q h => C.2.2.2.2.2.2.2.2.2 q (Nat.le_trans hS.1 h)) (Q := Q) (fun r u t H1 locs1 ht hvm hw hB hz1 hk1 hS1 => by
    subst hw
    exact kk H1 locs1 ls (fun k q hq => (hP k q hq).kept (hk1 q.1 (hP k q hq).lt (Nat.not_le.mpr (hP k q hq).lt))) hD hS1 hL)
  rw [← ha] at hg
  exact hg
theorem bs_strch {X : bf_X} {Q : State → Prop} {nL : Nat} {ret : Option FieldType} {cc : ByteArray} (C : bf_C X RX4 cc nL ret) {fr0 lo0 : Nat} (hR : bf_Rm X fr0 lo0) {adK adV : Nat → Nat} (hO : bf_O adK adV (xA X) (xs X) (xs X).heap) {k : Nat} (hk : k < 10) {j : Nat} (hj : j < bf_slen.getD k 0) (ha : xal X 1000 = adK k) {pc pc2 : Nat} {lv : bf_V} {st : List Value} {w : bf_W} (hd : bf_D cc pc (.invokevirtual 25) 3 pc2) (hfr : 3 + 1 ≤ fr0) (hlo : 8 + (2 + 11) + 64 ≤ lo0) (hroom : (st.map fun v => v.category).sum ≤ 8) (kk : bf_A X Q nL pc2 lv (.int ((bf_sbyt.getD k []).getD j 0) :: st) w) : bf_A X Q nL pc lv (.int (nI j) :: .ref 1000 :: st) w := by
  intro H locs ls hP hD hS hL
  obtain ⟨hd, rfl⟩ := hd
  have hRR : (bf_rm 3 64).frames + 1 ≤ (xR X).frames ∧ 8 + (2 + 11) + (bf_rm 3 64).locals ≤ (xR X).locals := ⟨Nat.le_trans hfr hR.1, Nat.le_trans hlo hR.2.1⟩
  have hrun := va_runV (As := [.int (nI j)]) (b := adK k) (rest := st.map (bf_cv (xal X))) (locs := locs) (e := xe X) (below := xb X) (meth := xh X) (l := xl X) (g := F0 (xm X) pc ls (.int (nI j) :: .ref (adK k) :: st.map (bf_cv (xal X)))) ⟨C.1, C.2.1, C.2.2.1, C.2.2.2.1, C.2.2.2.2.1⟩ (cj_charAt_c (xl X) adK adV k hk j hj H.size) ⟨callB_of 1 C.2.2.2.2.1 (bf_goodIn mj_charAt.1) rfl rfl rfl (C.2.2.2.2.1 _ mj_charAt.1.2.1) (C.2.2.2.2.1 _ lj_ch) mj_charAt.1.2.2 hRR, C.2.2.2.2.1 _ mj_charAt.2.1, C.2.2.2.2.1 _ mj_charAt.2.2⟩ ⟨bf_PO_blind _ _ _ _, vk_recv hO.1 hk hS, fun U hU hW => ⟨rfl, by rw [hU], by rw [hU]; exact hO.at hS (fun q h => C.2.2.2.2.2.2.2.2.2 q (Nat.le_trans hS.1 h)) hW.alike⟩⟩ rfl rfl hL.1 rfl (lv_room (by rw [bf_rest]; exact hroom)) hd ⟨hR.2.2.1, hR.2.2.2⟩
  have hg := va_calli hrun hS (fun q hq h => absurd hq (Nat.not_lt.mpr h)) (fun q h => C.2.2.2.2.2.2.2.2.2 q (Nat.le_trans hS.1 h)) (Q := Q) (fun r u t H1 locs1 ht hvm hw hB hz1 hk1 hS1 => by
    subst hw
    exact kk H1 locs1 ls (fun k q hq => (hP k q hq).kept (hk1 q.1 (hP k q hq).lt (Nat.not_le.mpr (hP k q hq).lt))) hD hS1 hL)
  rw [← ha] at hg
  exact hg
theorem wp_at_lt {N j : Nat} {f : Nat → Int32} {Q : Int32 → Prop} (hj : j < N) (hN : N < 2 ^ 31) (h : Q (f j)) : wp_X8_at N f (nI j) Q := by
  unfold wp_X8_at
  refine ⟨fun c => absurd c (nI_pos (by omega)), fun _ => ⟨fun c => absurd c (nI_ge hj hN), fun _ => ⟨vp_in_nI hj hN, ?_⟩⟩⟩
  rw [nI_clamp (by omega)]
  exact h
theorem bf_sl6 : ∀ k, k < 10 → bf_slen.getD k 0 ≤ 6 := by decide

theorem c_X4_spells (l : Launch) (dC : Nat → ClassId) (dI : Nat → Nat → Nat) (ac : Nat → ClassId) (al adK adV : Nat → Nat) (S : bT4) (k : Nat) (hk : k < 10) (h1000 : al 1000 = adK k) (sz : Nat) : Met l yX4_spells (bf_ws yX4_spells cX4_spells 3 (some .boolean)) (bf_rm 4 85) (fun v U => bf_Pre dC dI ac al sz [.ref 0, .ref 1000] (bW4 S) v U ∧ bf_O adK adV (bf_fr ac al (bW4 S) sz) U U.heap) (bf_Ki dC dI ac al bW4 (fun r u => u = S ∧ ((r = 1 ∧ bf_sp k S) ∨ (r = 0 ∧ ¬ bf_sp k S))) (bf_fr ac al (bW4 S) sz)) 0 0 (bf_fr ac al (bW4 S) sz) := by
  refine Met.ofW (cc := cX4_spells) (maxL := 3) (ret := (some .boolean)) (by decide) rfl ?_
  intro p e s m args below meth c s₁ B hml hv
  obtain ⟨⟨rfl, rfl, hP, hK, hD0, hN⟩, hO⟩ := hv
  have hts := atoms_spec (ws := bf_ws yX4_spells cX4_spells 3 (some .boolean)) B.pre
  have hD := hD0.self (sz := s.heap.size)
  obtain ⟨X, hXe⟩ : ∃ X : bf_X, X = (p, l, e, bf_rm 4 85, s, m, (([.ref 0, .ref 1000] : List Value).map (bf_cv al)).toArray, below, meth, c, dC, dI, ac, al, va_A (bf_cw ac al (bW4 S)) s.heap.size, 0, 0) := ⟨_, rfl⟩
  have C : bf_C X RX4 cX4_spells 3 (some .boolean) := by
    subst hXe
    exact ⟨B.exec, B.bytes, hml, findClass_of_methodNamed B.named, fun q hq => hts q (List.mem_cons_of_mem _ hq), hK, hN, B.returns, B.notSynchronized, fun q h => Or.inr h⟩
  have hR : bf_Rm X 4 85 := by subst hXe; exact ⟨Nat.le_refl _, Nat.le_refl _, Nat.le_refl _, Nat.le_refl _⟩
  have hOX : bf_O adK adV (xA X) (xs X) (xs X).heap := by subst hXe; exact hO
  have haX : xal X 1000 = adK k := by subst hXe; exact h1000
  have hA : bf_A X (bf_Zi X bW4 (fun r u => u = S ∧ ((r = 1 ∧ bf_sp k S) ∨ (r = 0 ∧ ¬ bf_sp k S)))) 3 0 [some (.ref 0), some (.ref 1000), none] [] (bW4 S) := by
    have h6 := bf_sl6 k hk
    refine bs_aload_n C (bf_dk dd_X4_spells 0 rfl) rfl ?_
    refine bs_strlen C hR hOX hk haX (bf_dk dd_X4_spells 1 rfl) (Nat.le_of_ble_eq_true rfl) (Nat.le_of_ble_eq_true rfl) (Nat.le_of_ble_eq_true rfl) ?_
    refine bs_aload_n C (bf_dk dd_X4_spells 2 rfl) rfl ?_
    refine bs_get C (bf_dk dd_X4_spells 3 rfl) cl_4 in_4 1 (Nat.le_of_ble_eq_true rfl) rfl f_4_15 (ge_bW4_0 S) rfl ?_
    refine bs_icmp_eq C (bf_dk dd_X4_spells 4 rfl) (tgt := 13) rfl (fun hc => ?_) (fun hc => ?_)
    · refine bs_iconst C (bf_dk dd_X4_spells 7 rfl) (0 : Int32) (by decide) ?_
      refine bs_istore_n C (bf_dk dd_X4_spells 8 rfl) rfl (Nat.le_of_ble_eq_true rfl) (Nat.le_of_ble_eq_true rfl) (lv2 := [some (.ref 0), some (.ref 1000), some (.int (nI 0))]) rfl ?_
      have key : ∀ (d j : Nat), j + d = bf_slen.getD k 0 → (∀ i, i < j → b4g_octets S i = (bf_sbyt.getD k []).getD i 0) → bf_A X (bf_Zi X bW4 (fun r u => u = S ∧ ((r = 1 ∧ bf_sp k S) ∨ (r = 0 ∧ ¬ bf_sp k S)))) 3 15 [some (.ref 0), some (.ref 1000), some (.int (nI j))] [] (bW4 S) := by
        intro d
        induction d with
        | zero =>
          intro j hj hi
          refine bs_iload_n C (bf_dk dd_X4_spells 9 rfl) rfl ?_
          refine bs_aload_n C (bf_dk dd_X4_spells 10 rfl) rfl ?_
          refine bs_get C (bf_dk dd_X4_spells 11 rfl) cl_4 in_4 1 (Nat.le_of_ble_eq_true rfl) rfl f_4_15 (ge_bW4_0 S) rfl ?_
          refine bs_icmp_ge C (bf_dk dd_X4_spells 12 rfl) (tgt := 47) rfl (fun _ => ?_) (fun c2 => absurd (by rw [← hc]; exact nI_le (by omega) (by omega)) c2)
          refine bs_iconst C (bf_dk dd_X4_spells 25 rfl) (1 : Int32) (by decide) ?_
          exact bs_zret (u := S) C (bf_dk dd_X4_spells 26 rfl) rfl rfl ⟨rfl, Or.inl ⟨rfl, hc.symm, fun i hi2 => hi i (by omega)⟩⟩
        | succ d ih =>
          intro j hj hi
          have hjl : j < bf_slen.getD k 0 := by omega
          refine bs_iload_n C (bf_dk dd_X4_spells 9 rfl) rfl ?_
          refine bs_aload_n C (bf_dk dd_X4_spells 10 rfl) rfl ?_
          refine bs_get C (bf_dk dd_X4_spells 11 rfl) cl_4 in_4 1 (Nat.le_of_ble_eq_true rfl) rfl f_4_15 (ge_bW4_0 S) rfl ?_
          refine bs_icmp_ge C (bf_dk dd_X4_spells 12 rfl) (tgt := 47) rfl (fun c2 => absurd c2 (by rw [← hc]; exact nI_ge hjl (by omega))) (fun _ => ?_)
          refine bs_aload_n C (bf_dk dd_X4_spells 13 rfl) rfl ?_
          refine bs_iload_n C (bf_dk dd_X4_spells 14 rfl) rfl ?_
          refine bs_strch C hR hOX hk hjl haX (bf_dk dd_X4_spells 15 rfl) (Nat.le_of_ble_eq_true rfl) (Nat.le_of_ble_eq_true rfl) (Nat.le_of_ble_eq_true rfl) ?_
          refine bs_aload_n C (bf_dk dd_X4_spells 16 rfl) rfl ?_
          refine bs_get C (bf_dk dd_X4_spells 17 rfl) cl_4 in_4 0 (Nat.le_of_ble_eq_true rfl) rfl f_4_9 (ge_bW4_0 S) rfl ?_
          refine bs_iload_n C (bf_dk dd_X4_spells 18 rfl) rfl ?_
          refine bs_pureSN_i (ps := [1]) (w := (bW4 S)) C hR (c_X8_at _ _ _ _ _ 160 (b4g_octets S) (nI j) (fun r => r = b4g_octets S j) (wp_at_lt (by omega) (by decide) rfl)) my_X8_at m_4_29 rfl (Nat.le_of_ble_eq_true rfl) (Nat.le_of_ble_eq_true rfl) (su_bW4_1_bWan160 S) rfl (st := [.int ((bf_sbyt.getD k []).getD j 0)]) (Nat.le_of_ble_eq_true rfl) (bf_dk dd_X4_spells 19 rfl) rfl (fun _ => rfl) (fun r hr => ?_)
          subst hr
          refine bs_icmp_eq C (bf_dk dd_X4_spells 20 rfl) (tgt := 41) rfl (fun c3 => ?_) (fun c3 => ?_)
          · refine bs_iinc C (bf_dk dd_X4_spells 23 rfl) (nI (j + 1)) rfl (nI_succ j).symm (Nat.le_of_ble_eq_true rfl) (Nat.le_of_ble_eq_true rfl) (lv2 := [some (.ref 0), some (.ref 1000), some (.int (nI (j + 1)))]) rfl ?_
            refine bs_goto C (bf_dk dd_X4_spells 24 rfl) (tgt := 15) rfl ?_
            refine ih (j + 1) (by omega) (fun i hi2 => ?_)
            rcases Nat.lt_or_ge i j with h | h
            · exact hi i h
            · have e : i = j := by omega
              rw [e]; exact c3.symm
          · refine bs_iconst C (bf_dk dd_X4_spells 21 rfl) (0 : Int32) (by decide) ?_
            exact bs_zret (u := S) C (bf_dk dd_X4_spells 22 rfl) rfl rfl ⟨rfl, Or.inr ⟨rfl, fun h => c3 (h.2 j hjl).symm⟩⟩
      exact key (bf_slen.getD k 0) 0 (by omega) (fun i hi => absurd hi (by omega))
    · refine bs_iconst C (bf_dk dd_X4_spells 5 rfl) (0 : Int32) (by decide) ?_
      exact bs_zret (u := S) C (bf_dk dd_X4_spells 6 rfl) rfl rfl ⟨rfl, Or.inr ⟨rfl, fun h => hc h.1.symm⟩⟩
  subst hXe
  rw [lg_entry_eq]
  refine hA s.heap [] _ hP hD va_S.rf ?_
  have hsl := bf_ent_sl al [.ref 0, .ref 1000]
  have he := lv_entry (([.ref 0, .ref 1000] : List Value).map (bf_cv al)) (n := 3) (Nat.le_of_ble_eq_true rfl)
  refine ⟨he.1, he.2.1, fun i v hi => ?_⟩
  match i, hi with
  | 0, hi => cases hi; exact he.2.2 (0, .ref (al 0)) List.mem_cons_self
  | 1, hi => cases hi; exact he.2.2 (1, .ref (al 1000)) (List.mem_cons_of_mem _ List.mem_cons_self)
  | 2, hi => cases hi
  | i + 3, hi => simp at hi

