def LKV (vals : Nat → Int32) (md dr : Int32) (mc lc nb : Int) (lv k : Nat) (un it : Int) (hb rb : Int32) (qc tc en bs : Int) (a r : Int32) : Prop := (0 ≤ a.toInt ∧ a.toInt ≤ 5 → r = vals a.toInt.toNat) ∧ (a.toInt = 6 → r = md) ∧ (a.toInt = 7 → r = dr) ∧ (a.toInt = 8 → r.toInt = mc) ∧ (a.toInt = 9 → r.toInt = lc) ∧ (a.toInt = 10 → r.toInt = nb) ∧ (a.toInt = 11 → r.toInt = (lv : Int)) ∧ (a.toInt = 12 → r.toInt = (k : Int)) ∧ (a.toInt = 13 → r.toInt = un) ∧ (a.toInt = 14 → r.toInt = it) ∧ (a.toInt = 15 → r = hb) ∧ (a.toInt = 16 → r = rb) ∧ (a.toInt = 17 → r.toInt = qc) ∧ (a.toInt = 18 → r.toInt = tc) ∧ (a.toInt = 19 → r.toInt = en) ∧ (a.toInt = 20 → r.toInt = bs) ∧ (¬ (0 ≤ a.toInt ∧ a.toInt ≤ 20) → r.toInt = -100000000)
theorem LKV_one {v w : Nat → Int32} {md dr : Int32} {mc lc nb : Int} {lv k : Nat} {un it : Int} {hb rb : Int32} {qc tc en bs : Int} {a r q : Int32} (hv : ∀ i, i ≤ 5 → v i = w i) (h : LKV v md dr mc lc nb lv k un it hb rb qc tc en bs a r) (g : LKV w md dr mc lc nb lv k un it hb rb qc tc en bs a q) : r.toInt = q.toInt := by
  obtain ⟨a0, a6, a7, a8, a9, a10, a11, a12, a13, a14, a15, a16, a17, a18, a19, a20, a21⟩ := h
  obtain ⟨b0, b6, b7, b8, b9, b10, b11, b12, b13, b14, b15, b16, b17, b18, b19, b20, b21⟩ := g
  by_cases z0 : 0 ≤ a.toInt ∧ a.toInt ≤ 5
  · rw [a0 z0, b0 z0, hv _ (by omega)]
  by_cases z6 : a.toInt = 6
  · rw [a6 z6, b6 z6]
  by_cases z7 : a.toInt = 7
  · rw [a7 z7, b7 z7]
  by_cases z8 : a.toInt = 8
  · rw [a8 z8, b8 z8]
  by_cases z9 : a.toInt = 9
  · rw [a9 z9, b9 z9]
  by_cases z10 : a.toInt = 10
  · rw [a10 z10, b10 z10]
  by_cases z11 : a.toInt = 11
  · rw [a11 z11, b11 z11]
  by_cases z12 : a.toInt = 12
  · rw [a12 z12, b12 z12]
  by_cases z13 : a.toInt = 13
  · rw [a13 z13, b13 z13]
  by_cases z14 : a.toInt = 14
  · rw [a14 z14, b14 z14]
  by_cases z15 : a.toInt = 15
  · rw [a15 z15, b15 z15]
  by_cases z16 : a.toInt = 16
  · rw [a16 z16, b16 z16]
  by_cases z17 : a.toInt = 17
  · rw [a17 z17, b17 z17]
  by_cases z18 : a.toInt = 18
  · rw [a18 z18, b18 z18]
  by_cases z19 : a.toInt = 19
  · rw [a19 z19, b19 z19]
  by_cases z20 : a.toInt = 20
  · rw [a20 z20, b20 z20]
  rw [a21 (by omega), b21 (by omega)]
theorem C_look {X : bT8} {S : bT9} {a r q : Int32} (h9 : 0 ≤ (b9g_now S 9).toInt) (hx : LFP (b8g_leaves X) (b9g_now S) (fun j => b9g_keys S (64 + j)) (fun j => b9g_lengths S (64 + j))) (hb : (b9g_now S 9).toInt = 0 ∨ (b3g_values (b2g_built (b8g_now X)) 2 + 1 = b9g_now S 13 ∧ b3g_values (b2g_built (b8g_now X)) 3 = b9g_now S 14)) (hd : DB2 (b2g_built (b8g_now X))) (hm : PRL (b2g_told (b8g_now X)) (b9g_now S) (b9g_keys S) (b9g_lengths S)) (hdr : b2g_draws (b8g_now X) = b9g_now S 7) (htp : (b4g_count (b8g_tape X)).toInt = (b9g_taped S).toInt) (hqc : (b0g_count (b2g_questions (b8g_now X))).toInt = (b9g_now S 10).toInt) {A B : Prop} (ha : A) (hbb : B) (h : A → ∃ k lv : Nat, UPX (b8g_leaves X) (b3g_values (b2g_built (b8g_now X)) 2) (b3g_values (b2g_built (b8g_now X)) 3) k lv ∧ LKV (b3g_values (b2g_told (b8g_now X))) (b3g_mode (b2g_told (b8g_now X))) (b2g_draws (b8g_now X)) (b0g_count (b3g_members (b2g_told (b8g_now X)))).toInt (b0g_count (b1g_owners (b8g_leaves X))).toInt (NB (tn (b8g_leaves X)) (tC (b8g_leaves X)) (tP (b8g_leaves X)) 512) lv k (NB (tn (b8g_leaves X)) (tC (b8g_leaves X)) (tP (b8g_leaves X)) (64 * k)) (EB (tn (b8g_leaves X)) (tC (b8g_leaves X)) (tP (b8g_leaves X)) 512 - EB (tn (b8g_leaves X)) (tC (b8g_leaves X)) (tP (b8g_leaves X)) (64 * k)) (b1g_hashBits (b8g_leaves X)) (b1g_realBits (b8g_leaves X)) (b0g_count (b2g_questions (b8g_now X))).toInt (b4g_count (b8g_tape X)).toInt (CTP (fun i => tC (b8g_leaves X) i = tL (b8g_leaves X) i) (tn (b8g_leaves X))) (SMB (fun i => min (min (tC (b8g_leaves X) i + 1) (tL (b8g_leaves X) i)) 8) (tn (b8g_leaves X))) a r) (h2 : B → ∃ k lv : Nat, UPD S k lv ∧ LKV (fun i => b9g_now S i + FST (nI i)) (b9g_now S 6) (b9g_now S 7) (b9g_now S 8).toInt (b9g_now S 9).toInt (NB (n9 S) (C9 S) (P9 S) 512) lv k (NB (n9 S) (C9 S) (P9 S) (64 * k)) (EB (n9 S) (C9 S) (P9 S) 512 - EB (n9 S) (C9 S) (P9 S) (64 * k)) (HBT (b9g_now S)) (NBT (b9g_now S)) (b9g_now S 10).toInt (b9g_taped S).toInt (CTP (fun i => C9 S i = L9 S i) (n9 S)) (SMB (fun i => min (min (C9 S i + 1) (L9 S i)) 8) (n9 S)) a q) : r.toInt = q.toInt := by
  have ag := AGX_of h9 hx
  obtain ⟨_, _, _, eN, eE, _⟩ := AGX_g ag
  obtain ⟨k, lv, u1, u2⟩ := h ha
  obtain ⟨k', lv', v1, v2⟩ := h2 hbb
  obtain ⟨e1, e2⟩ := UPQ ag hb hd u1 v1
  subst e1
  subst e2
  have c1 : CTP (fun i => tC (b8g_leaves X) i = tL (b8g_leaves X) i) (tn (b8g_leaves X)) = CTP (fun i => C9 S i = L9 S i) (n9 S) := by
    rw [ag.1]
    exact CTP_congr _ (fun i hi => by show tC (b8g_leaves X) i = tL (b8g_leaves X) i ↔ C9 S i = L9 S i; rw [ag.2.1 i hi, ag.2.2.1 i hi])
  have c2 : SMB (fun i => min (min (tC (b8g_leaves X) i + 1) (tL (b8g_leaves X) i)) 8) (tn (b8g_leaves X)) = SMB (fun i => min (min (C9 S i + 1) (L9 S i)) 8) (n9 S) := by
    rw [ag.1]
    exact SMB_congr _ (fun i hi => by show min (min (tC (b8g_leaves X) i + 1) (tL (b8g_leaves X) i)) 8 = min (min (C9 S i + 1) (L9 S i)) 8; rw [ag.2.1 i hi, ag.2.2.1 i hi])
  rw [c1, c2, eN, eN, eE, eE, hx.2.2.2.1, hx.2.2.2.2.2.1, hx.2.2.2.2.2.2.1, htp, hqc, hdr, hm.1.1, hm.2.2.2.1] at u2
  refine LKV_one (fun i hi => ?_) u2 v2
  obtain ⟨w0, w1, w2, w3, w4, w5⟩ := hm.2.2.1
  have hi2 : i = 0 ∨ i = 1 ∨ i = 2 ∨ i = 3 ∨ i = 4 ∨ i = 5 := by omega
  rcases hi2 with rfl | rfl | rfl | rfl | rfl | rfl
  · exact w0
  · exact w1
  · exact w2
  · exact w3
  · exact w4
  · show _ = b9g_now S 5 + FST (nI 5)
    rw [w5, show FST (nI 5) = 0 from rfl, Int32.add_zero]
theorem Q_image {X U : bT8} {Y V : bT9} {a : Int32} (hn : (b0g_count (b2g_questions (b8g_now X))).toInt = (b9g_now Y 10).toInt) (hk : (b0g_count (b2g_questions (b8g_kept X))).toInt = (b9g_images Y 10).toInt) (fl : (b8g_isKept X).toInt = (b9g_hasImage Y).toInt) (c1 : a.toInt ≠ 0 → MEQ (b8g_kept U) (b8g_now X) ∧ b8g_now U = b8g_now X) (c2 : a.toInt = 0 → (b8g_isKept X).toInt = 0 → b8g_now U = b8g_now X ∧ b8g_kept U = b8g_kept X) (c3 : a.toInt = 0 → (b8g_isKept X).toInt ≠ 0 → MEQ (b8g_now U) (b8g_kept X) ∧ b8g_kept U = b8g_kept X) (m1 : a.toInt ≠ 0 ∨ (b9g_hasImage Y).toInt ≠ 0 → IMG Y V a 23 144) (m2 : a.toInt = 0 → (b9g_hasImage Y).toInt = 0 → b9g_now V = b9g_now Y ∧ b9g_keys V = b9g_keys Y ∧ b9g_lengths V = b9g_lengths Y ∧ b9g_images V = b9g_images Y ∧ b9g_keyImages V = b9g_keyImages Y ∧ b9g_lengthImages V = b9g_lengthImages Y) : (b0g_count (b2g_questions (b8g_now U))).toInt = (b9g_now V 10).toInt ∧ (b0g_count (b2g_questions (b8g_kept U))).toInt = (b9g_images V 10).toInt := by
  by_cases ha : a.toInt = 0
  · have a0 : a = 0 := Int32.toInt_inj.mp ha
    by_cases hz : (b8g_isKept X).toInt = 0
    · obtain ⟨p1, p2⟩ := c2 ha hz
      obtain ⟨q1, _, _, q4, _, _⟩ := m2 ha (by rw [← fl]; exact hz)
      rw [p1, p2, q1, q4]
      exact ⟨hn, hk⟩
    · obtain ⟨p1, p2⟩ := c3 ha hz
      obtain ⟨q1, _, _, q4, _⟩ := (m1 (Or.inr (by rw [← fl]; exact hz))).2 a0
      rw [p2, q1, p1.2.2.1.1, q4 10 (by omega)]
      exact ⟨hk, hk⟩
  · have a0 : ¬ a = 0 := fun e => ha (by rw [e]; rfl)
    obtain ⟨p1, p2⟩ := c1 ha
    obtain ⟨q1, _, _, q4, _⟩ := (m1 (Or.inl ha)).1 a0
    rw [p2, q1, p1.2.2.1.1, q4 10 (by omega)]
    exact ⟨hn, hn⟩
/-! rows of bits -/
theorem NST_EST {n : Nat} {C L : Nat → Nat} {P : Nat → Nat → Nat} (G : GRD n C L P) {l i : Nat} (l7 : l ≤ 7) (h : NST n C P l i) : EST n C P l i := by
  refine ⟨h.1, ?_⟩
  by_cases z : C i = l
  · exact Or.inl z
  · refine Or.inr ⟨h.1, by have := h.2.1; omega, ?_⟩
    rcases h.2.2 with y | y
    · exact Or.inl y
    · refine Or.inr (fun q => y ⟨by omega, G.2.2.1 l _ _ (by omega) q.2⟩)
theorem IsN_E {n : Nat} {C L : Nat → Nat} {P : Nat → Nat → Nat} (G : GRD n C L P) {w : Nat} (hw : w < 512) (h : IsN n C P w) : IsE n C P w := NST_EST G (by omega) h
/-- the node of an edge -/
theorem EDG_st {n : Nat} {C L : Nat → Nat} {P : Nat → Nat → Nat} (G : GRD n C L P) {w : Nat} (h : IsE n C P w) : ∃ s : Nat, s ≤ w % 64 ∧ NST n C P (w / 64) s ∧ NB n C P (w + 1) = NB n C P (64 * (w / 64) + s) + 1 ∧ ∀ k, s ≤ k → k ≤ w % 64 → w / 64 ≤ C k ∧ P (w / 64) k = P (w / 64) s := by
  have c := EST_c h
  obtain ⟨s, s1, s2, s3, s4⟩ := GRP_st (P := P) G.1 (l := w / 64) (w % 64) c.1 c.2
  refine ⟨s, s1, s2, ?_, s4⟩
  rw [← s3, show 64 * (w / 64) + w % 64 + 1 = w + 1 by omega]
theorem IsD_N {n : Nat} {C L : Nat → Nat} {P : Nat → Nat → Nat} (G : GRD n C L P) {w : Nat} (h : IsD n C L P w) : IsN n C P w := by
  obtain ⟨s, s1, s2, _, s4⟩ := EDG_st G h.1
  have e := END_first G s4 s1 h.1.1 h.2
  unfold IsN
  rw [e]
  exact s2
theorem IsO_E {ro n : Nat} {C L : Nat → Nat} {P : Nat → Nat → Nat} (G : GRD n C L P) {u w : Nat} (hw : w < 512) (h : IsO ro n C L P u w) : IsE n C P w := by
  rcases h with h | h | h | h | h | h
  · exact h.2.2.1
  · exact h.2.2.1
  · exact h.2.2.1
  · exact h.2.2.1
  · exact h.2.2.1
  · exact IsN_E G hw h.2.2
theorem IsO_rng {ro n : Nat} {C L : Nat → Nat} {P : Nat → Nat → Nat} {u w : Nat} (h : IsO ro n C L P u w) : ro ≤ 5 ∧ (ro ≤ 2 → w < 64 * u) ∧ (3 ≤ ro → 64 * u ≤ w) := by
  rcases h with h | h | h | h | h | h
  · exact ⟨by omega, fun _ => h.2.1, fun z => by omega⟩
  · exact ⟨by omega, fun _ => h.2.1, fun z => by omega⟩
  · exact ⟨by omega, fun _ => h.2.1, fun z => by omega⟩
  · exact ⟨by omega, fun z => by omega, fun _ => h.2.1⟩
  · exact ⟨by omega, fun z => by omega, fun _ => h.2.1⟩
  · exact ⟨by omega, fun z => by omega, fun _ => h.2.1⟩
theorem IsO_L {ro n : Nat} {C L : Nat → Nat} {P : Nat → Nat → Nat} (G : GRD n C L P) {u w : Nat} (hr : ro ≤ 1) (h : IsO ro n C L P u w) : IsB n C L P w := by
  rcases h with h | h | h | h | h | h
  · exact h.2.2
  · refine ⟨h.2.2.1, ?_⟩
    have c := EST_c h.2.2.1
    have a := G.2.1 _ c.1
    have k := h.2.2.2
    omega
  · omega
  · omega
  · omega
  · omega
/-- places of ones go up -/
theorem VO_mono {ro n : Nat} {C L : Nat → Nat} {P : Nat → Nat → Nat} {f : Nat → Int64} (G : GRD n C L P) (hP : ∀ l i, P l i = PX (ub (f i)) l) {u w v : Nat} (hwv : w < v) (hv : v < 512) (hw : IsO ro n C L P u w) (hv2 : IsO ro n C L P u v) : VO ro n C P f u w < VO ro n C P f u v := by
  have ew := IsO_E G (by omega) hw
  have ev := IsO_E G hv hv2
  unfold VO
  by_cases z1 : ro ≤ 1
  · rw [if_pos z1, if_pos z1]
    have bw := IsO_L G z1 hw
    have bv := IsO_L G z1 hv2
    have lw : (nI (w / 64)).toInt = ((w / 64 : Nat) : Int) := nI_toInt (by omega)
    have lv : (nI (v / 64)).toInt = ((v / 64 : Nat) : Int) := nI_toInt (by omega)
    have ow := OCT_rng (f (w % 64)) (i := nI (w / 64)) (by omega) (by omega)
    have ov := OCT_rng (f (v % 64)) (i := nI (v / 64)) (by omega) (by omega)
    have mn := NB_mono (n := n) (C := C) (P := P) (show w + 1 ≤ v + 1 by omega)
    by_cases y : NB n C P (w + 1) < NB n C P (v + 1)
    · omega
    · -- one node
      obtain ⟨s, s1, s2, s3, s4⟩ := EDG_st G ew
      obtain ⟨t, t1, t2, t3, t4⟩ := EDG_st G ev
      have cw := EST_c ew
      have cv := EST_c ev
      have g64 := G.1
      have es : 64 * (w / 64) + s = 64 * (v / 64) + t := CTP_inj (P := IsN n C P) ((IsN_at (by omega)).mpr s2) ((IsN_at (by omega)).mpr t2) (by show NB n C P (64 * (w / 64) + s) = NB n C P (64 * (v / 64) + t); omega)
      have el : w / 64 = v / 64 := by omega
      have et : s = t := by omega
      have bw2 : ¬ L (w % 64) = v / 64 := by rw [← el]; exact bw.2
      have hv3 : EST n C P (v / 64) (v % 64) := ev
      rw [EST_iff G t2 t4 t1 cv.1] at hv3
      have pe := t4 (w % 64) (by omega) (by omega)
      have pv := t4 (v % 64) t1 (Nat.le_refl _)
      have av := G.2.1 _ cv.1
      have lt : P (v / 64 + 1) (w % 64) < P (v / 64 + 1) (v % 64) := by
        have m1 := G.2.2.2.1 (v / 64 + 1) (w % 64) (v % 64 - 1) (by omega) (by omega)
        have m2 := G.2.2.2.1 (v / 64 + 1) (v % 64 - 1) (v % 64) (by omega) cv.1
        rcases hv3 with q | q | q | q
        · exact absurd q bv.2
        · omega
        · exfalso
          have e1 := END_first G (l := v / 64) (s := t) (i := v % 64 - 1) (fun k k1 k2 => t4 k k1 (by omega)) (by omega) (by omega) q
          have e2 : w % 64 = v % 64 - 1 := by omega
          rw [e2] at bw2
          exact bw2 q
        · omega
      rw [hP, hP] at lt
      have p1 := pe.2
      have p2 := pv.2
      rw [← p2, hP, hP] at p1
      have d1 := PX_s (ub (f (w % 64))) (t := v / 64) (by omega)
      have d2 := PX_s (ub (f (v % 64))) (t := v / 64) (by omega)
      have o1 := OCT_n (f (w % 64)) (i := nI (v / 64)) (by omega) (by omega)
      have o2 := OCT_n (f (v % 64)) (i := nI (v / 64)) (by omega) (by omega)
      rw [show (nI (v / 64)).toInt.toNat = v / 64 by omega] at o1 o2
      rw [el, o1, o2]
      omega
  · rw [if_neg z1, if_neg z1]
    by_cases z2 : ro = 2
    · rw [if_pos z2, if_pos z2]
      have dv : IsD n C L P v := by
        rcases hv2 with h | h | h | h | h | h
        · omega
        · omega
        · exact h.2.2
        · omega
        · omega
        · omega
      have nv : NB n C P (v + 1) = NB n C P v + 1 := CTP_y (IsD_N G dv)
      have mn := NB_mono (n := n) (C := C) (P := P) (show w + 1 ≤ v by omega)
      omega
    · rw [if_neg z2, if_neg z2]
      have lt : EB n C P w < EB n C P v := CTP_lt hwv ew
      omega
theorem VO_rng {ro n : Nat} {C L : Nat → Nat} {P : Nat → Nat → Nat} {f : Nat → Int64} (G : GRD n C L P) {u w : Nat} (hu : u ≤ 8) (hw5 : w < 512) (hw : IsO ro n C L P u w) : 0 ≤ VO ro n C P f u w ∧ VO ro n C P f u w < RL ro n C P u := by
  have ew := IsO_E G hw5 hw
  have rg := IsO_rng hw
  obtain ⟨s, s1, s2, s3, s4⟩ := EDG_st G ew
  have nn := NB_nn (n := n) (C := C) (P := P) (64 * (w / 64) + s)
  unfold VO RL
  by_cases z1 : ro ≤ 1
  · rw [if_pos z1, if_pos z1]
    have lw : (nI (w / 64)).toInt = ((w / 64 : Nat) : Int) := nI_toInt (by omega)
    have ow := OCT_rng (f (w % 64)) (i := nI (w / 64)) (by omega) (by omega)
    have wu := rg.2.1 (by omega)
    have mn := NB_mono (n := n) (C := C) (P := P) (show w + 1 ≤ 64 * u by omega)
    omega
  · rw [if_neg z1, if_neg z1]
    by_cases z2 : ro = 2
    · rw [if_pos z2, if_pos z2]
      have wu := rg.2.1 (by omega)
      have mn := NB_mono (n := n) (C := C) (P := P) (show w + 1 ≤ 64 * u by omega)
      omega
    · rw [if_neg z2, if_neg z2]
      have wu := rg.2.2 (by omega)
      have mn := EB_mono (n := n) (C := C) (P := P) wu
      have lt : EB n C P w < EB n C P 512 := CTP_lt hw5 ew
      omega
/-- how many ones are ahead of a place -/
noncomputable def RK (ro n : Nat) (C L : Nat → Nat) (P : Nat → Nat → Nat) (f : Nat → Int64) (u : Nat) (i : Int) : Int := CTP (fun w => IsO ro n C L P u w ∧ VO ro n C P f u w < i) 512
theorem CNT_pre {Q R : Nat → Prop} {m : Int} (h0 : 0 ≤ m) : ∀ N : Nat, (∀ w, w < N → Q w → (R w ↔ CTP Q w < m)) → CTP (fun w => Q w ∧ R w) N = min m (CTP Q N) := by
  intro N
  induction N with
  | zero =>
    intro _
    show (0 : Int) = min m 0
    omega
  | succ N ih =>
    intro h
    have e := ih (fun w hw => h w (by omega))
    by_cases q : Q N
    · have k := h N (by omega) q
      rw [CTP_y q]
      by_cases r : R N
      · rw [CTP_y (P := fun w => Q w ∧ R w) ⟨q, r⟩, e]
        have := k.mp r
        omega
      · rw [CTP_n (P := fun w => Q w ∧ R w) (fun z => r z.2), e]
        have : ¬ CTP Q N < m := fun z => r (k.mpr z)
        omega
    · rw [CTP_n q, CTP_n (P := fun w => Q w ∧ R w) (fun z => q z.1), e]
theorem RK_all {ro n : Nat} {C L : Nat → Nat} {P : Nat → Nat → Nat} {f : Nat → Int64} (G : GRD n C L P) {u : Nat} (hu : u ≤ 8) {i : Int} (h : RL ro n C P u ≤ i) : RK ro n C L P f u i = OB ro n C L P u 512 := by
  refine CTP_congr 512 (fun w hw => ⟨fun z => z.1, fun z => ⟨z, ?_⟩⟩)
  have := (VO_rng (f := f) G hu hw z).2
  omega
def SEL (ro n : Nat) (C L : Nat → Nat) (P : Nat → Nat → Nat) (f : Nat → Int64) (u : Nat) (k r : Int) : Prop := (∃ w : Nat, w < 512 ∧ IsO ro n C L P u w ∧ OB ro n C L P u w = k ∧ r = VO ro n C P f u w) ∨ (r = -1 ∧ (k < 0 ∨ OB ro n C L P u 512 ≤ k))
theorem SEL_one {ro n : Nat} {C L : Nat → Nat} {P : Nat → Nat → Nat} {f : Nat → Int64} {u : Nat} {k r q : Int} (h : SEL ro n C L P f u k r) (g : SEL ro n C L P f u k q) : r = q := by
  have r0 : ∀ w, 0 ≤ OB ro n C L P u w := fun w => (CTP_rng _ _).1
  rcases h with ⟨w, h1, h2, h3, h4⟩ | ⟨h1, h2⟩
  · have lt : OB ro n C L P u w < OB ro n C L P u 512 := CTP_lt h1 h2
    have w0 := r0 w
    rcases g with ⟨v, g1, g2, g3, g4⟩ | ⟨g1, g2⟩
    · have e : w = v := CTP_inj (P := IsO ro n C L P u) h2 g2 (by show OB ro n C L P u w = OB ro n C L P u v; omega)
      rw [h4, g4, e]
    · omega
  · rcases g with ⟨v, g1, g2, g3, g4⟩ | ⟨g1, g2⟩
    · have lt : OB ro n C L P u v < OB ro n C L P u 512 := CTP_lt g1 g2
      have v0 := r0 v
      omega
    · omega
/-! the object's ones -/
theorem fx6_oneOf {T : bT6} {n : Nat} {C L : Nat → Nat} {P : Nat → Nat → Nat} {f : Nat → Int64} (G : GRD n C L P) (t : TR6 T n C L P f) {u ro : Nat} (hu : u ≤ 8) (his : (b6g_itemStart T).toInt = EB n C P (64 * u)) {a1 a2 : Int32} {w y : Nat} {Q : Int32 → Prop} (h1 : a1.toInt = (ro : Int)) (hro : ro ≤ 5) (hw : w < 512) (hE : IsE n C P w) (hy : (y : Int) = EB n C P w) (h2 : a2.toInt = (y : Int)) (hr1 : ro ≤ 2 → w < 64 * u) (hr2 : 3 ≤ ro → 64 * u ≤ w) (hq : ∀ r : Int32, (IsO ro n C L P u w → r.toInt = VO ro n C P f u w) → (¬ IsO ro n C L P u w → r = -1) → Q r) : wp_X6_oneOf T a1 a2 Q := by
  obtain ⟨e1, e2, e3, e4, e5⟩ := t.2.2.2.2.2.2.2 w y hw hE hy
  have el := EB_le G (w := w) (by omega)
  have eu := EB_le G (w := 64 * u) (by omega)
  have n5 := NB_le G (l := 7) (i := 64) (by omega) (by omega)
  have nb5 : NB n C P (64 * 7 + 64) = NB n C P 512 := rfl
  have nm := NB_mono (n := n) (C := C) (P := P) (show w + 1 ≤ 512 by omega)
  have nn := NB_nn (n := n) (C := C) (P := P) (w + 1)
  have y5 : y < 296 := by omega
  have oe := OCV_end (f := f) (L := L) hw
  have sub : 3 ≤ ro → (a2 - b6g_itemStart T).toInt = EB n C P w - EB n C P (64 * u) := by
    intro z
    have mn := EB_mono (n := n) (C := C) (P := P) (hr2 z)
    rw [pt_sub (by omega) (by omega), h2, his, hy]
  have ocv : ¬ L (w % 64) = w / 64 → b6g_edgeOctets T y = OCT (f (w % 64)) (nI (w / 64)) := by
    intro z
    rw [e2]
    unfold OCV
    rw [if_neg z]
  have lw : (nI (w / 64)).toInt = ((w / 64 : Nat) : Int) := nI_toInt (by omega)
  have ow := OCT_rng (f (w % 64)) (i := nI (w / 64)) (by omega) (by omega)
  have pos : ¬ L (w % 64) = w / 64 → ((256 : Int32) * b6g_edgeNodes T y + b6g_edgeOctets T y).toInt = 256 * (NB n C P (w + 1) - 1) + (OCT (f (w % 64)) (nI (w / 64))).toInt := by
    intro z
    have m : ((256 : Int32) * b6g_edgeNodes T y).toInt = 256 * (NB n C P (w + 1) - 1) := by rw [pt_mul (by rw [e1]; show _ ≤ 256 * _; omega) (by rw [e1]; show 256 * _ < _; omega), e1]; rfl
    rw [ocv z, pt_add (by rw [m]; omega) (by rw [m]; omega), m]
  have c := EST_c hE
  have ac := G.2.1 _ c.1
  have ne : ∀ {m : Int32}, a1 = m → (ro : Int) = m.toInt := fun h => by rw [← h1, h]
  unfold wp_X6_oneOf
  refine fx_atN (by decide) h2 y5 ⟨fun d => ?_, fun d => ?_, fun d => ?_, fun d => ?_, fun d => ?_, fun d => ?_⟩
  · have r5 : ro = 5 := by omega
    have hw2 := hr2 (by omega)
    obtain ⟨s, s1, s2, s3, s4⟩ := EDG_st G hE
    have l7 : w / 64 ≤ 7 := by omega
    have nn2 := NB_nn (n := n) (C := C) (P := P) (64 * (w / 64) + s)
    obtain ⟨x, ex⟩ : ∃ x : Nat, (x : Int) = NB n C P (64 * (w / 64) + s) := ⟨(NB n C P (64 * (w / 64) + s)).toNat, by omega⟩
    have hsI : IsN n C P (64 * (w / 64) + s) := (IsN_at (by omega)).mpr s2
    have es := t.2.2.2.2.1 (64 * (w / 64) + s) x (by omega) hsI ex
    have key : EB n C P w = EB n C P (64 * (w / 64) + s) ↔ IsN n C P w := by
      constructor
      · intro z
        have e : w = 64 * (w / 64) + s := CTP_inj (P := IsE n C P) hE (IsN_E G (by omega) hsI) z
        rw [e]
        exact hsI
      · intro z
        have k : NB n C P (w + 1) = NB n C P w + 1 := CTP_y z
        have e : w = 64 * (w / 64) + s := CTP_inj (P := IsN n C P) z hsI (by show NB n C P w = NB n C P (64 * (w / 64) + s); omega)
        rw [← e]
    refine fx_atN (by decide) (m := x) (by rw [e1]; omega) (by omega) ⟨fun d2 => hq _ (fun z => ?_) (fun _ => rfl), fun d2 => hq _ (fun z => ?_) (fun z => ?_)⟩
    · exfalso
      rcases z with z | z | z | z | z | z
      · omega
      · omega
      · omega
      · omega
      · omega
      · have := key.mpr z.2.2
        exact d2 (Int32.toInt_inj.mp (by omega))
    · unfold VO
      rw [if_neg (by omega), if_neg (by omega)]
      exact sub (by omega)
    · exfalso
      have d3 : a2.toInt = (b6g_edgeStarts T x).toInt := by rw [← d2]
      exact z (Or.inr (Or.inr (Or.inr (Or.inr (Or.inr ⟨r5, hw2, key.mp (by omega)⟩)))))
  · have r0 : ro = 0 := by have := ne d; rw [pl_0] at this; omega
    have hw2 := hr1 (by omega)
    refine fx6_isEnd t hw hE hy y5 h2 (fun r hr => ⟨fun d2 => fx_atN (by decide) h2 y5 (hq _ (fun _ => ?_) (fun z => ?_)), fun d2 => hq _ (fun z => ?_) (fun _ => rfl)⟩)
    · unfold VO
      rw [if_pos (by omega)]
      exact pos (hr.mp d2)
    · exact absurd (Or.inl ⟨r0, hw2, hE, hr.mp d2⟩) z
    · exfalso
      have b := IsO_L G (by omega) z
      exact d2 (hr.mpr b.2)
  · have r0 : ro = 1 := by have := ne d; rw [pl_1] at this; omega
    have hw2 := hr1 (by omega)
    refine fx6_hasChild t hw hE hy y5 h2 (fun r hr => ⟨fun d2 => hq _ (fun z => ?_) (fun _ => rfl), fun d2 => fx_atN (by decide) h2 y5 (hq _ (fun _ => ?_) (fun z => ?_))⟩)
    · exfalso
      rcases z with z | z | z | z | z | z
      · omega
      · exact z.2.2.2 (hr.mp d2)
      · omega
      · omega
      · omega
      · omega
    · unfold VO
      rw [if_pos (by omega)]
      have nc : ¬ C (w % 64) = w / 64 := fun z => d2 (hr.mpr z)
      exact pos (by omega)
    · exact absurd (Or.inr (Or.inl ⟨r0, hw2, hE, fun y => d2 (hr.mpr y)⟩)) z
  · have r0 : ro = 2 := by have := ne d; rw [pl_2] at this; omega
    have hw2 := hr1 (by omega)
    refine fx6_isEnd t hw hE hy y5 h2 (fun r hr => ⟨fun d2 => hq _ (fun z => ?_) (fun _ => rfl), fun d2 => hq _ (fun _ => ?_) (fun z => ?_)⟩)
    · exfalso
      rcases z with z | z | z | z | z | z
      · omega
      · omega
      · exact hr.mp d2 z.2.2.2
      · omega
      · omega
      · omega
    · unfold VO
      rw [if_neg (by omega), if_pos r0]
      exact e1
    · exact absurd (Or.inr (Or.inr (Or.inl ⟨r0, hw2, hE, Classical.byContradiction (fun y => d2 (hr.mpr y))⟩))) z
  · have r0 : ro = 3 := by have := ne d; rw [pl_3] at this; omega
    have hw2 := hr2 (by omega)
    refine fx6_isEnd t hw hE hy y5 h2 (fun r hr => ⟨fun d2 => hq _ (fun z => ?_) (fun _ => rfl), fun d2 => hq _ (fun _ => ?_) (fun z => ?_)⟩)
    · exfalso
      rcases z with z | z | z | z | z | z
      · omega
      · omega
      · omega
      · exact hr.mp d2 z.2.2.2
      · omega
      · omega
    · unfold VO
      rw [if_neg (by omega), if_neg (by omega)]
      exact sub (by omega)
    · exact absurd (Or.inr (Or.inr (Or.inr (Or.inl ⟨r0, hw2, hE, Classical.byContradiction (fun y => d2 (hr.mpr y))⟩)))) z
  · have r0 : ro = 4 := by have := ne d; rw [pl_4] at this; omega
    have hw2 := hr2 (by omega)
    refine fx6_hasChild t hw hE hy y5 h2 (fun r hr => ⟨fun d2 => hq _ (fun z => ?_) (fun _ => rfl), fun d2 => hq _ (fun _ => ?_) (fun z => ?_)⟩)
    · exfalso
      rcases z with z | z | z | z | z | z
      · omega
      · omega
      · omega
      · omega
      · exact z.2.2.2 (hr.mp d2)
      · omega
    · unfold VO
      rw [if_neg (by omega), if_neg (by omega)]
      exact sub (by omega)
    · exact absurd (Or.inr (Or.inr (Or.inr (Or.inr (Or.inl ⟨r0, hw2, hE, fun y => d2 (hr.mpr y)⟩))))) z
theorem fx6_edgesOf {T : bT6} {n : Nat} {C L : Nat → Nat} {P : Nat → Nat → Nat} {f : Nat → Int64} (G : GRD n C L P) (t : TR6 T n C L P f) {u ro : Nat} (hu : u ≤ 8) (his : (b6g_itemStart T).toInt = EB n C P (64 * u)) {a1 : Int32} {Q Q2 : Int32 → Prop} (h1 : a1.toInt = (ro : Int)) (hro : ro ≤ 5) (hq : ∀ r : Int32, r.toInt = EB n C P (if ro ≤ 2 then 64 * u else 512) - 1 → Q r) (hq2 : ∀ r : Int32, r.toInt = EB n C P (if ro ≤ 2 then 0 else 64 * u) → Q2 r) : wp_X6_lastEdgeOf T a1 Q ∧ wp_X6_firstEdgeOf T a1 Q2 := by
  have eu := EB_le G (w := 64 * u) (by omega)
  have e5 := EB_le G (w := 512) (by omega)
  have hed := t.2.2.2.2.2.2.1
  have i1 : (b6g_itemStart T - 1).toInt = EB n C P (64 * u) - 1 := by rw [pt_sub (by rw [pl_1]; omega) (by rw [pl_1]; omega), pl_1, his]
  have i2 : (b6g_edges T - 1).toInt = EB n C P 512 - 1 := by rw [pt_sub (by rw [pl_1]; omega) (by rw [pl_1]; omega), pl_1, hed]
  have ne : ∀ {m : Int32}, a1 = m → (ro : Int) = m.toInt := fun h => by rw [← h1, h]
  have nn : ∀ {m : Int32}, ¬ a1 = m → ¬ (ro : Int) = m.toInt := fun h z => h (Int32.toInt_inj.mp (by omega))
  have is : ∀ R : Int32 → Prop, (∀ r : Int32, (r = 0 ↔ ro ≤ 2) → R r) → wp_X6_isOfItems a1 R := by
    intro R hR
    unfold wp_X6_isOfItems wp_X6_isOfItems_15
    refine ⟨fun c => ⟨rfl, hR _ ⟨fun z => absurd z (by decide), fun z => ?_⟩⟩, fun c => ⟨fun c2 => ⟨rfl, hR _ ⟨fun z => absurd z (by decide), fun z => ?_⟩⟩, fun c2 => ⟨fun c3 => ⟨rfl, hR _ ⟨fun _ => ?_, fun _ => rfl⟩⟩, fun c3 => ⟨rfl, hR _ ⟨fun z => absurd z (by decide), fun z => ?_⟩⟩⟩⟩⟩
    · have := ne c
      rw [pl_3] at this
      omega
    · have := ne c2
      rw [pl_4] at this
      omega
    · have k1 := nn c
      have k2 := nn c2
      have k3 := nn c3
      rw [pl_3] at k1
      rw [pl_4] at k2
      rw [pl_5] at k3
      omega
    · have := ne c3
      rw [pl_5] at this
      omega
  unfold wp_X6_lastEdgeOf wp_X6_firstEdgeOf
  refine ⟨is _ (fun r hr => ⟨fun c => hq _ ?_, fun c => hq _ ?_⟩), is _ (fun r hr => ⟨fun c => hq2 _ ?_, fun c => hq2 _ ?_⟩)⟩
  · rw [if_pos (hr.mp c)]
    exact i1
  · rw [if_neg (fun z => c (hr.mpr z))]
    exact i2
  · rw [if_pos (hr.mp c)]
    rfl
  · rw [if_neg (fun z => c (hr.mpr z))]
    exact his
theorem fx6_onesAhead {T : bT6} {n : Nat} {C L : Nat → Nat} {P : Nat → Nat → Nat} {f : Nat → Int64} (G : GRD n C L P) (t : TR6 T n C L P f) {u ro : Nat} (hu : u ≤ 8) (his : (b6g_itemStart T).toInt = EB n C P (64 * u)) {a1 a2 : Int32} {Q : Int32 → Prop} (h1 : a1.toInt = (ro : Int)) (hro : ro ≤ 5) (hq : ∀ r : Int32, r.toInt = RK ro n C L P f u a2.toInt → Q r) : wp_X6_onesAhead T a1 a2 Q := by
  have eu := EB_le G (w := 64 * u) (by omega)
  have e5 := EB_le G (w := 512) (by omega)
  obtain ⟨A, hA⟩ : ∃ A : Nat, A = if ro ≤ 2 then 0 else 64 * u := ⟨_, rfl⟩
  obtain ⟨B', hB'⟩ : ∃ B' : Nat, B' = if ro ≤ 2 then 64 * u else 512 := ⟨_, rfl⟩
  have AB : A ≤ B' ∧ B' ≤ 512 ∧ (ro ≤ 2 → B' = 64 * u) ∧ (3 ≤ ro → A = 64 * u) := by
    by_cases z : ro ≤ 2
    · rw [if_pos z] at hA hB'
      omega
    · rw [if_neg z] at hA hB'
      omega
  have fr : ∀ w, w < 512 → IsO ro n C L P u w → A ≤ w ∧ w < B' := by
    intro w hw h
    have r := IsO_rng h
    by_cases z : ro ≤ 2
    · have := r.2.1 z
      rw [if_pos z] at hA hB'
      omega
    · have := r.2.2 (by omega)
      rw [if_neg z] at hA hB'
      omega
  unfold wp_X6_onesAhead
  refine (fx6_edgesOf (Q2 := fun _ => True) G t hu his h1 hro (fun r3 hr3 => ?_) (fun _ _ => trivial)).1
  refine (fx6_edgesOf (Q := fun _ => True) G t hu his h1 hro (fun _ _ => trivial) (fun r5 hr5 => ?_)).2
  rw [← hB'] at hr3
  rw [← hA] at hr5
  have ea := EB_le G (w := A) (by omega)
  have eb := EB_le G (w := B') (by omega)
  have mab := EB_mono (n := n) (C := C) (P := P) AB.1
  unfold wp_X6_onesAhead_16
  refine ⟨fun k x1 x2 x3 x4 x5 => ∃ i p : Nat, a1 = x1 ∧ a2 = x2 ∧ r3 = x4 ∧ x5.toInt = (i : Int) ∧ A ≤ p ∧ p ≤ B' ∧ (i : Int) = EB n C P p ∧ x3.toInt = CTP (fun w => IsO ro n C L P u w ∧ VO ro n C P f u w < a2.toInt) p ∧ k = 300 - i, ⟨_, (EB n C P A).toNat, A, rfl, rfl, rfl, by omega, Nat.le_refl _, AB.1, by omega, ?_, rfl⟩, ?_⟩
  · rw [pl_0]
    exact (CTP_st (P := fun w => IsO ro n C L P u w ∧ VO ro n C P f u w < a2.toInt) (a := 0) A (by omega) (fun w _ q r => by have := (fr w (by omega) r.1).1; omega)).symm
  rintro k x1 x2 x3 x4 x5 ⟨i, p, rfl, rfl, rfl, e5', hap, hpb, hi, hv, hk⟩
  have cr := CTP_rng (fun w => IsO ro n C L P u w ∧ VO ro n C P f u w < a2.toInt) p
  suffices H : ∀ B : Int32 → Int32 → Int32 → Int32 → Int32 → Prop, (∀ (v : Int32) (p' : Nat), A ≤ p' → p' ≤ B' → ((i + 1 : Nat) : Int) = EB n C P p' → v.toInt = CTP (fun w => IsO ro n C L P u w ∧ VO ro n C P f u w < a2.toInt) p' → (i : Int) < EB n C P B' → B a1 a2 v r3 (x5 + 1)) → wp_X6_onesAhead_16b T a1 a2 x3 r3 x5 Q B from H _ (fun v p' t1 t2 t3 t4 hlt => ⟨300 - (i + 1), by omega, i + 1, p', rfl, rfl, rfl, by rw [pt_add (by rw [pl_1]; omega) (by rw [pl_1]; omega), pl_1, e5']; omega, t1, t2, t3, t4, rfl⟩)
  intro B hB
  unfold wp_X6_onesAhead_16b
  refine ⟨fun c => hq x3 ?_, fun c => ?_⟩
  · simp only [pn] at c
    have mp := EB_mono (n := n) (C := C) (P := P) hpb
    have k2 : CTP (fun w => IsO ro n C L P u w ∧ VO ro n C P f u w < a2.toInt) 512 = CTP (fun w => IsO ro n C L P u w ∧ VO ro n C P f u w < a2.toInt) p := by
      refine CTP_st 512 (by omega) (fun w w1 w2 w3 => ?_)
      have := fr w w2 w3.1
      have lt : EB n C P w < EB n C P B' := CTP_lt this.2 (IsO_E G w2 w3.1)
      have m2 := EB_mono (n := n) (C := C) (P := P) w1
      omega
    rw [hv]
    exact k2.symm
  simp only [pn] at c
  have hlt : (i : Int) < EB n C P B' := by omega
  obtain ⟨w, w1, w2, w3⟩ := CTP_inv (P := IsE n C P) (e := (i : Int)) (by omega) B' hlt
  have w3' : EB n C P w = (i : Int) := w3
  have aw : A ≤ w := by
    apply Classical.byContradiction
    intro z
    have lt : EB n C P w < EB n C P A := CTP_lt (by omega) w2
    have mp := EB_mono (n := n) (C := C) (P := P) hap
    omega
  have cw : CTP (fun w => IsO ro n C L P u w ∧ VO ro n C P f u w < a2.toInt) w = CTP (fun w => IsO ro n C L P u w ∧ VO ro n C P f u w < a2.toInt) p := by
    by_cases z : p ≤ w
    · refine CTP_st w z (fun v v1 v2 v3 => ?_)
      have lt : EB n C P v < EB n C P w := CTP_lt v2 (IsO_E G (by omega) v3.1)
      have m2 := EB_mono (n := n) (C := C) (P := P) v1
      omega
    · refine (CTP_st p (by omega) (fun v v1 v2 v3 => ?_)).symm
      have lt : EB n C P v < EB n C P p := CTP_lt v2 (IsO_E G (by omega) v3.1)
      have m2 := EB_mono (n := n) (C := C) (P := P) v1
      omega
  have nx : EB n C P (w + 1) = EB n C P w + 1 := CTP_y w2
  have no : ¬ (IsO ro n C L P u w ∧ VO ro n C P f u w < a2.toInt) → wp_X6_onesAhead_49 T a1 a2 r3 x5 x3 Q B := by
    intro z
    unfold wp_X6_onesAhead_49 wp_X6_onesAhead_50
    refine hB _ (w + 1) (by omega) (by omega) (by omega) ?_ hlt
    rw [CTP_n (P := fun w => IsO ro n C L P u w ∧ VO ro n C P f u w < a2.toInt) z, cw, ← hv, pt_add (by rw [pl_0]; omega) (by rw [pl_0]; omega), pl_0]
    omega
  refine fx6_oneOf G t hu his h1 hro (by omega) w2 w3'.symm e5' (fun z => ?_) (fun z => ?_) (fun r1 g1 g2 => ⟨fun d => no (fun z => ?_), fun d => ⟨fun d2 => no (fun z => ?_), fun d2 => ?_⟩⟩)
  · have := AB.2.2.1 z
    omega
  · have := AB.2.2.2 z
    omega
  · have v := g1 z.1
    have v0 := (VO_rng (f := f) G hu (by omega) z.1).1
    rw [d, pl_m1] at v
    omega
  · simp only [pn] at d2
    have v := g1 z.1
    have := z.2
    omega
  · have io : IsO ro n C L P u w := Classical.byContradiction (fun z => d (g2 z))
    simp only [pn] at d2
    unfold wp_X6_onesAhead_50
    refine hB _ (w + 1) (by omega) (by omega) (by omega) ?_ hlt
    have v := g1 io
    rw [CTP_y (P := fun w => IsO ro n C L P u w ∧ VO ro n C P f u w < a2.toInt) ⟨io, by omega⟩, cw, ← hv, pt_add (by rw [pl_1]; omega) (by rw [pl_1]; omega), pl_1]
theorem fx6_placeOfOne {T : bT6} {n : Nat} {C L : Nat → Nat} {P : Nat → Nat → Nat} {f : Nat → Int64} (G : GRD n C L P) (t : TR6 T n C L P f) {u ro : Nat} (hu : u ≤ 8) (his : (b6g_itemStart T).toInt = EB n C P (64 * u)) {a1 a2 : Int32} {Q : Int32 → Prop} (h1 : a1.toInt = (ro : Int)) (hro : ro ≤ 5) (hq : ∀ r : Int32, SEL ro n C L P f u a2.toInt r.toInt → Q r) : wp_X6_placeOfOne T a1 a2 Q := by
  have eu := EB_le G (w := 64 * u) (by omega)
  have e5 := EB_le G (w := 512) (by omega)
  obtain ⟨A, hA⟩ : ∃ A : Nat, A = if ro ≤ 2 then 0 else 64 * u := ⟨_, rfl⟩
  obtain ⟨B', hB'⟩ : ∃ B' : Nat, B' = if ro ≤ 2 then 64 * u else 512 := ⟨_, rfl⟩
  have AB : A ≤ B' ∧ B' ≤ 512 ∧ (ro ≤ 2 → B' = 64 * u) ∧ (3 ≤ ro → A = 64 * u) := by
    by_cases z : ro ≤ 2
    · rw [if_pos z] at hA hB'
      omega
    · rw [if_neg z] at hA hB'
      omega
  have fr : ∀ w, w < 512 → IsO ro n C L P u w → A ≤ w ∧ w < B' := by
    intro w hw h
    have r := IsO_rng h
    by_cases z : ro ≤ 2
    · have := r.2.1 z
      rw [if_pos z] at hA hB'
      omega
    · have := r.2.2 (by omega)
      rw [if_neg z] at hA hB'
      omega
  unfold wp_X6_placeOfOne
  refine (fx6_edgesOf (Q2 := fun _ => True) G t hu his h1 hro (fun r3 hr3 => ?_) (fun _ _ => trivial)).1
  refine (fx6_edgesOf (Q := fun _ => True) G t hu his h1 hro (fun _ _ => trivial) (fun r5 hr5 => ?_)).2
  rw [← hB'] at hr3
  rw [← hA] at hr5
  have ea := EB_le G (w := A) (by omega)
  have eb := EB_le G (w := B') (by omega)
  have mab := EB_mono (n := n) (C := C) (P := P) AB.1
  unfold wp_X6_placeOfOne_16
  refine ⟨fun k x1 x2 x3 x4 x5 => ∃ i p : Nat, a1 = x1 ∧ a2 = x2 ∧ r3 = x4 ∧ x5.toInt = (i : Int) ∧ A ≤ p ∧ p ≤ B' ∧ (i : Int) = EB n C P p ∧ x3.toInt = OB ro n C L P u p ∧ (0 ≤ a2.toInt → x3.toInt ≤ a2.toInt) ∧ k = 300 - i, ⟨_, (EB n C P A).toNat, A, rfl, rfl, rfl, by omega, Nat.le_refl _, AB.1, by omega, ?_, fun z => by rw [pl_0]; exact z, rfl⟩, ?_⟩
  · rw [pl_0]
    exact (CTP_st (P := IsO ro n C L P u) (a := 0) A (by omega) (fun w _ q r => by have := (fr w (by omega) r).1; omega)).symm
  rintro k x1 x2 x3 x4 x5 ⟨i, p, rfl, rfl, rfl, e5', hap, hpb, hi, hv, hle, hk⟩
  have cr : 0 ≤ OB ro n C L P u p ∧ OB ro n C L P u p ≤ (p : Int) := CTP_rng (IsO ro n C L P u) p
  suffices H : ∀ B : Int32 → Int32 → Int32 → Int32 → Int32 → Prop, (∀ (v : Int32) (p' : Nat), A ≤ p' → p' ≤ B' → ((i + 1 : Nat) : Int) = EB n C P p' → v.toInt = OB ro n C L P u p' → (0 ≤ a2.toInt → v.toInt ≤ a2.toInt) → (i : Int) < EB n C P B' → B a1 a2 v r3 (x5 + 1)) → wp_X6_placeOfOne_16b T a1 a2 x3 r3 x5 Q B from H _ (fun v p' t1 t2 t3 t4 t5 hlt => ⟨300 - (i + 1), by omega, i + 1, p', rfl, rfl, rfl, by rw [pt_add (by rw [pl_1]; omega) (by rw [pl_1]; omega), pl_1, e5']; omega, t1, t2, t3, t4, t5, rfl⟩)
  intro B hB
  unfold wp_X6_placeOfOne_16b
  refine ⟨fun c => hq _ (Or.inr ⟨rfl, ?_⟩), fun c => ?_⟩
  · simp only [pn] at c
    have mp := EB_mono (n := n) (C := C) (P := P) hpb
    have k2 : OB ro n C L P u 512 = OB ro n C L P u p := by
      refine CTP_st 512 (by omega) (fun w w1 w2 w3 => ?_)
      have := fr w w2 w3
      have lt : EB n C P w < EB n C P B' := CTP_lt this.2 (IsO_E G w2 w3)
      have m2 := EB_mono (n := n) (C := C) (P := P) w1
      omega
    rw [k2]
    by_cases z : a2.toInt < 0
    · exact Or.inl z
    · have := hle (by omega)
      exact Or.inr (by omega)
  simp only [pn] at c
  have hlt : (i : Int) < EB n C P B' := by omega
  obtain ⟨w, w1, w2, w3⟩ := CTP_inv (P := IsE n C P) (e := (i : Int)) (by omega) B' hlt
  have w3' : EB n C P w = (i : Int) := w3
  have aw : A ≤ w := by
    apply Classical.byContradiction
    intro z
    have lt : EB n C P w < EB n C P A := CTP_lt (by omega) w2
    have mp := EB_mono (n := n) (C := C) (P := P) hap
    omega
  have cw : OB ro n C L P u w = OB ro n C L P u p := by
    by_cases z : p ≤ w
    · refine CTP_st w z (fun v v1 v2 v3 => ?_)
      have lt : EB n C P v < EB n C P w := CTP_lt v2 (IsO_E G (by omega) v3)
      have m2 := EB_mono (n := n) (C := C) (P := P) v1
      omega
    · refine (CTP_st p (by omega) (fun v v1 v2 v3 => ?_)).symm
      have lt : EB n C P v < EB n C P p := CTP_lt v2 (IsO_E G (by omega) v3)
      have m2 := EB_mono (n := n) (C := C) (P := P) v1
      omega
  have nx : EB n C P (w + 1) = EB n C P w + 1 := CTP_y w2
  refine fx6_oneOf G t hu his h1 hro (by omega) w2 w3'.symm e5' (fun z => ?_) (fun z => ?_) (fun r1 g1 g2 => ⟨fun d => ?_, fun d => ⟨fun d2 => ?_, fun d2 => hq _ ?_⟩⟩)
  · have := AB.2.2.1 z
    omega
  · have := AB.2.2.2 z
    omega
  · have ni : ¬ IsO ro n C L P u w := by
      intro z
      have v := g1 z
      have v0 := (VO_rng (f := f) G hu (by omega) z).1
      rw [d, pl_m1] at v
      omega
    unfold wp_X6_placeOfOne_49
    have k3 : OB ro n C L P u (w + 1) = OB ro n C L P u w := CTP_n ni
    exact hB _ (w + 1) (by omega) (by omega) (by omega) (by rw [k3, cw]; exact hv) hle hlt
  · have io : IsO ro n C L P u w := Classical.byContradiction (fun z => d (g2 z))
    unfold wp_X6_placeOfOne_49
    have k3 : OB ro n C L P u (w + 1) = OB ro n C L P u w + 1 := CTP_y io
    have e31 : (x3 + 1).toInt = x3.toInt + 1 := by rw [pt_add (by rw [pl_1]; omega) (by rw [pl_1]; omega), pl_1]
    have ned : ¬ x3.toInt = a2.toInt := fun z => d2 (Int32.toInt_inj.mp z)
    exact hB _ (w + 1) (by omega) (by omega) (by omega) (by rw [k3, cw, e31, hv]) (fun z => by have := hle z; omega) hlt
  · have io : IsO ro n C L P u w := Classical.byContradiction (fun z => d (g2 z))
    refine Or.inl ⟨w, by omega, io, ?_, g1 io⟩
    rw [cw, ← hv, d2]
