def LKV (vals : Nat → Int32) (md dr : Int32) (mc lc nb : Int) (lv k : Nat) (un it : Int) (hb rb : Int32) (qc tc en bs : Int) (a r : Int32) : Prop := (0 ≤ a.toInt ∧ a.toInt ≤ 5 → r = vals a.toInt.toNat) ∧ (a.toInt = 6 → r = md) ∧ (a.toInt = 7 → r = dr) ∧ (a.toInt = 8 → r.toInt = mc) ∧ (a.toInt = 9 → r.toInt = lc) ∧ (a.toInt = 10 → r.toInt = nb) ∧ (a.toInt = 11 → r.toInt = (lv : Int)) ∧ (a.toInt = 12 → r.toInt = (k : Int)) ∧ (a.toInt = 13 → r.toInt = un) ∧ (a.toInt = 14 → r.toInt = it) ∧ (a.toInt = 15 → r = hb) ∧ (a.toInt = 16 → r = rb) ∧ (a.toInt = 17 → r.toInt = qc) ∧ (a.toInt = 18 → r.toInt = tc) ∧ (a.toInt = 19 → r.toInt = en) ∧ (a.toInt = 20 → r.toInt = bs) ∧ (¬ (0 ≤ a.toInt ∧ a.toInt ≤ 20) → r.toInt = -100000000)
theorem LKV_one {v w : Nat → Int32} {md dr : Int32} {mc lc nb : Int} {lv k : Nat} {un it : Int} {hb rb : Int32} {qc tc en bs : Int} {a r q : Int32} (hv : ∀ i, i ≤ 5 → v i = w i) (h : LKV v md dr mc lc nb lv k un it hb rb qc tc en bs a r) (g : LKV w md dr mc lc nb lv k un it hb rb qc tc en bs a q) : r.toInt = q.toInt := by
  obtain ⟨a0, a6, a7, a8, a9, a10, a11, a12, a13, a14, a15, a16, a17, a18, a19, a20, a21⟩ := h
  obtain ⟨b0, b6, b7, b8, b9, b10, b11, b12, b13, b14, b15, b16, b17, b18, b19, b20, b21⟩ := g
  by_cases z0 : 0 ≤ a.toInt ∧ a.toInt ≤ 5
  · rw [a0 z0, b0 z0, hv _ (by omega)]
  by_cases z6 : a.toInt = 6
  · rw [a6 z6, b6 z6]
  by_cases z7 : a.toInt = 7
  · rw [a7 z7, b7 z7]
  by_cases z8 : a.toInt = 8
  · rw [a8 z8, b8 z8]
  by_cases z9 : a.toInt = 9
  · rw [a9 z9, b9 z9]
  by_cases z10 : a.toInt = 10
  · rw [a10 z10, b10 z10]
  by_cases z11 : a.toInt = 11
  · rw [a11 z11, b11 z11]
  by_cases z12 : a.toInt = 12
  · rw [a12 z12, b12 z12]
  by_cases z13 : a.toInt = 13
  · rw [a13 z13, b13 z13]
  by_cases z14 : a.toInt = 14
  · rw [a14 z14, b14 z14]
  by_cases z15 : a.toInt = 15
  · rw [a15 z15, b15 z15]
  by_cases z16 : a.toInt = 16
  · rw [a16 z16, b16 z16]
  by_cases z17 : a.toInt = 17
  · rw [a17 z17, b17 z17]
  by_cases z18 : a.toInt = 18
  · rw [a18 z18, b18 z18]
  by_cases z19 : a.toInt = 19
  · rw [a19 z19, b19 z19]
  by_cases z20 : a.toInt = 20
  · rw [a20 z20, b20 z20]
  rw [a21 (by omega), b21 (by omega)]
theorem C_look {X : bT8} {S : bT9} {a r q : Int32} (h9 : 0 ≤ (b9g_now S 9).toInt) (hx : LFP (b8g_leaves X) (b9g_now S) (fun j => b9g_keys S (64 + j)) (fun j => b9g_lengths S (64 + j))) (hb : (b9g_now S 9).toInt = 0 ∨ (b3g_values (b2g_built (b8g_now X)) 2 + 1 = b9g_now S 13 ∧ b3g_values (b2g_built (b8g_now X)) 3 = b9g_now S 14)) (hd : DB2 (b2g_built (b8g_now X))) (hm : PRL (b2g_told (b8g_now X)) (b9g_now S) (b9g_keys S) (b9g_lengths S)) (hdr : b2g_draws (b8g_now X) = b9g_now S 7) (htp : (b4g_count (b8g_tape X)).toInt = (b9g_taped S).toInt) (hqc : (b0g_count (b2g_questions (b8g_now X))).toInt = (b9g_now S 10).toInt) {A B : Prop} (ha : A) (hbb : B) (h : A → ∃ k lv : Nat, UPX (b8g_leaves X) (b3g_values (b2g_built (b8g_now X)) 2) (b3g_values (b2g_built (b8g_now X)) 3) k lv ∧ LKV (b3g_values (b2g_told (b8g_now X))) (b3g_mode (b2g_told (b8g_now X))) (b2g_draws (b8g_now X)) (b0g_count (b3g_members (b2g_told (b8g_now X)))).toInt (b0g_count (b1g_owners (b8g_leaves X))).toInt (NB (tn (b8g_leaves X)) (tC (b8g_leaves X)) (tP (b8g_leaves X)) 512) lv k (NB (tn (b8g_leaves X)) (tC (b8g_leaves X)) (tP (b8g_leaves X)) (64 * k)) (EB (tn (b8g_leaves X)) (tC (b8g_leaves X)) (tP (b8g_leaves X)) 512 - EB (tn (b8g_leaves X)) (tC (b8g_leaves X)) (tP (b8g_leaves X)) (64 * k)) (b1g_hashBits (b8g_leaves X)) (b1g_realBits (b8g_leaves X)) (b0g_count (b2g_questions (b8g_now X))).toInt (b4g_count (b8g_tape X)).toInt (CTP (fun i => tC (b8g_leaves X) i = tL (b8g_leaves X) i) (tn (b8g_leaves X))) (SMB (fun i => min (min (tC (b8g_leaves X) i + 1) (tL (b8g_leaves X) i)) 8) (tn (b8g_leaves X))) a r) (h2 : B → ∃ k lv : Nat, UPD S k lv ∧ LKV (fun i => b9g_now S i + FST (nI i)) (b9g_now S 6) (b9g_now S 7) (b9g_now S 8).toInt (b9g_now S 9).toInt (NB (n9 S) (C9 S) (P9 S) 512) lv k (NB (n9 S) (C9 S) (P9 S) (64 * k)) (EB (n9 S) (C9 S) (P9 S) 512 - EB (n9 S) (C9 S) (P9 S) (64 * k)) (HBT (b9g_now S)) (NBT (b9g_now S)) (b9g_now S 10).toInt (b9g_taped S).toInt (CTP (fun i => C9 S i = L9 S i) (n9 S)) (SMB (fun i => min (min (C9 S i + 1) (L9 S i)) 8) (n9 S)) a q) : r.toInt = q.toInt := by
  have ag := AGX_of h9 hx
  obtain ⟨_, _, _, eN, eE, _⟩ := AGX_g ag
  obtain ⟨k, lv, u1, u2⟩ := h ha
  obtain ⟨k', lv', v1, v2⟩ := h2 hbb
  obtain ⟨e1, e2⟩ := UPQ ag hb hd u1 v1
  subst e1
  subst e2
  have c1 : CTP (fun i => tC (b8g_leaves X) i = tL (b8g_leaves X) i) (tn (b8g_leaves X)) = CTP (fun i => C9 S i = L9 S i) (n9 S) := by
    rw [ag.1]
    exact CTP_congr _ (fun i hi => by show tC (b8g_leaves X) i = tL (b8g_leaves X) i ↔ C9 S i = L9 S i; rw [ag.2.1 i hi, ag.2.2.1 i hi])
  have c2 : SMB (fun i => min (min (tC (b8g_leaves X) i + 1) (tL (b8g_leaves X) i)) 8) (tn (b8g_leaves X)) = SMB (fun i => min (min (C9 S i + 1) (L9 S i)) 8) (n9 S) := by
    rw [ag.1]
    exact SMB_congr _ (fun i hi => by show min (min (tC (b8g_leaves X) i + 1) (tL (b8g_leaves X) i)) 8 = min (min (C9 S i + 1) (L9 S i)) 8; rw [ag.2.1 i hi, ag.2.2.1 i hi])
  rw [c1, c2, eN, eN, eE, eE, hx.2.2.2.1, hx.2.2.2.2.2.1, hx.2.2.2.2.2.2.1, htp, hqc, hdr, hm.1.1, hm.2.2.2.1] at u2
  refine LKV_one (fun i hi => ?_) u2 v2
  obtain ⟨w0, w1, w2, w3, w4, w5⟩ := hm.2.2.1
  have hi2 : i = 0 ∨ i = 1 ∨ i = 2 ∨ i = 3 ∨ i = 4 ∨ i = 5 := by omega
  rcases hi2 with rfl | rfl | rfl | rfl | rfl | rfl
  · exact w0
  · exact w1
  · exact w2
  · exact w3
  · exact w4
  · show _ = b9g_now S 5 + FST (nI 5)
    rw [w5, show FST (nI 5) = 0 from rfl, Int32.add_zero]
theorem Q_image {X U : bT8} {Y V : bT9} {a : Int32} (hn : (b0g_count (b2g_questions (b8g_now X))).toInt = (b9g_now Y 10).toInt) (hk : (b0g_count (b2g_questions (b8g_kept X))).toInt = (b9g_images Y 10).toInt) (fl : (b8g_isKept X).toInt = (b9g_hasImage Y).toInt) (c1 : a.toInt ≠ 0 → MEQ (b8g_kept U) (b8g_now X) ∧ b8g_now U = b8g_now X) (c2 : a.toInt = 0 → (b8g_isKept X).toInt = 0 → b8g_now U = b8g_now X ∧ b8g_kept U = b8g_kept X) (c3 : a.toInt = 0 → (b8g_isKept X).toInt ≠ 0 → MEQ (b8g_now U) (b8g_kept X) ∧ b8g_kept U = b8g_kept X) (m1 : a.toInt ≠ 0 ∨ (b9g_hasImage Y).toInt ≠ 0 → IMG Y V a 23 144) (m2 : a.toInt = 0 → (b9g_hasImage Y).toInt = 0 → b9g_now V = b9g_now Y ∧ b9g_keys V = b9g_keys Y ∧ b9g_lengths V = b9g_lengths Y ∧ b9g_images V = b9g_images Y ∧ b9g_keyImages V = b9g_keyImages Y ∧ b9g_lengthImages V = b9g_lengthImages Y) : (b0g_count (b2g_questions (b8g_now U))).toInt = (b9g_now V 10).toInt ∧ (b0g_count (b2g_questions (b8g_kept U))).toInt = (b9g_images V 10).toInt := by
  by_cases ha : a.toInt = 0
  · have a0 : a = 0 := Int32.toInt_inj.mp ha
    by_cases hz : (b8g_isKept X).toInt = 0
    · obtain ⟨p1, p2⟩ := c2 ha hz
      obtain ⟨q1, _, _, q4, _, _⟩ := m2 ha (by rw [← fl]; exact hz)
      rw [p1, p2, q1, q4]
      exact ⟨hn, hk⟩
    · obtain ⟨p1, p2⟩ := c3 ha hz
      obtain ⟨q1, _, _, q4, _⟩ := (m1 (Or.inr (by rw [← fl]; exact hz))).2 a0
      rw [p2, q1, p1.2.2.1.1, q4 10 (by omega)]
      exact ⟨hk, hk⟩
  · have a0 : ¬ a = 0 := fun e => ha (by rw [e]; rfl)
    obtain ⟨p1, p2⟩ := c1 ha
    obtain ⟨q1, _, _, q4, _⟩ := (m1 (Or.inl ha)).1 a0
    rw [p2, q1, p1.2.2.1.1, q4 10 (by omega)]
    exact ⟨hn, hn⟩
/-! rows of bits -/
theorem NST_EST {n : Nat} {C L : Nat → Nat} {P : Nat → Nat → Nat} (G : GRD n C L P) {l i : Nat} (l7 : l ≤ 7) (h : NST n C P l i) : EST n C P l i := by
  refine ⟨h.1, ?_⟩
  by_cases z : C i = l
  · exact Or.inl z
  · refine Or.inr ⟨h.1, by have := h.2.1; omega, ?_⟩
    rcases h.2.2 with y | y
    · exact Or.inl y
    · refine Or.inr (fun q => y ⟨by omega, G.2.2.1 l _ _ (by omega) q.2⟩)
theorem IsN_E {n : Nat} {C L : Nat → Nat} {P : Nat → Nat → Nat} (G : GRD n C L P) {w : Nat} (hw : w < 512) (h : IsN n C P w) : IsE n C P w := NST_EST G (by omega) h
/-- the node of an edge -/
theorem EDG_st {n : Nat} {C L : Nat → Nat} {P : Nat → Nat → Nat} (G : GRD n C L P) {w : Nat} (h : IsE n C P w) : ∃ s : Nat, s ≤ w % 64 ∧ NST n C P (w / 64) s ∧ NB n C P (w + 1) = NB n C P (64 * (w / 64) + s) + 1 ∧ ∀ k, s ≤ k → k ≤ w % 64 → w / 64 ≤ C k ∧ P (w / 64) k = P (w / 64) s := by
  have c := EST_c h
  obtain ⟨s, s1, s2, s3, s4⟩ := GRP_st (P := P) G.1 (l := w / 64) (w % 64) c.1 c.2
  refine ⟨s, s1, s2, ?_, s4⟩
  rw [← s3, show 64 * (w / 64) + w % 64 + 1 = w + 1 by omega]
theorem IsD_N {n : Nat} {C L : Nat → Nat} {P : Nat → Nat → Nat} (G : GRD n C L P) {w : Nat} (h : IsD n C L P w) : IsN n C P w := by
  obtain ⟨s, s1, s2, _, s4⟩ := EDG_st G h.1
  have e := END_first G s4 s1 h.1.1 h.2
  unfold IsN
  rw [e]
  exact s2
theorem IsO_E {ro n : Nat} {C L : Nat → Nat} {P : Nat → Nat → Nat} (G : GRD n C L P) {u w : Nat} (hw : w < 512) (h : IsO ro n C L P u w) : IsE n C P w := by
  rcases h with h | h | h | h | h | h
  · exact h.2.2.1
  · exact h.2.2.1
  · exact h.2.2.1
  · exact h.2.2.1
  · exact h.2.2.1
  · exact IsN_E G hw h.2.2
theorem IsO_rng {ro n : Nat} {C L : Nat → Nat} {P : Nat → Nat → Nat} {u w : Nat} (h : IsO ro n C L P u w) : ro ≤ 5 ∧ (ro ≤ 2 → w < 64 * u) ∧ (3 ≤ ro → 64 * u ≤ w) := by
  rcases h with h | h | h | h | h | h
  · exact ⟨by omega, fun _ => h.2.1, fun z => by omega⟩
  · exact ⟨by omega, fun _ => h.2.1, fun z => by omega⟩
  · exact ⟨by omega, fun _ => h.2.1, fun z => by omega⟩
  · exact ⟨by omega, fun z => by omega, fun _ => h.2.1⟩
  · exact ⟨by omega, fun z => by omega, fun _ => h.2.1⟩
  · exact ⟨by omega, fun z => by omega, fun _ => h.2.1⟩
theorem IsO_L {ro n : Nat} {C L : Nat → Nat} {P : Nat → Nat → Nat} (G : GRD n C L P) {u w : Nat} (hr : ro ≤ 1) (h : IsO ro n C L P u w) : IsB n C L P w := by
  rcases h with h | h | h | h | h | h
  · exact h.2.2
  · refine ⟨h.2.2.1, ?_⟩
    have c := EST_c h.2.2.1
    have a := G.2.1 _ c.1
    have k := h.2.2.2
    omega
  · omega
  · omega
  · omega
  · omega
/-- places of ones go up -/
theorem VO_mono {ro n : Nat} {C L : Nat → Nat} {P : Nat → Nat → Nat} {f : Nat → Int64} (G : GRD n C L P) (hP : ∀ l i, P l i = PX (ub (f i)) l) {u w v : Nat} (hwv : w < v) (hv : v < 512) (hw : IsO ro n C L P u w) (hv2 : IsO ro n C L P u v) : VO ro n C P f u w < VO ro n C P f u v := by
  have ew := IsO_E G (by omega) hw
  have ev := IsO_E G hv hv2
  unfold VO
  by_cases z1 : ro ≤ 1
  · rw [if_pos z1, if_pos z1]
    have bw := IsO_L G z1 hw
    have bv := IsO_L G z1 hv2
    have lw : (nI (w / 64)).toInt = ((w / 64 : Nat) : Int) := nI_toInt (by omega)
    have lv : (nI (v / 64)).toInt = ((v / 64 : Nat) : Int) := nI_toInt (by omega)
    have ow := OCT_rng (f (w % 64)) (i := nI (w / 64)) (by omega) (by omega)
    have ov := OCT_rng (f (v % 64)) (i := nI (v / 64)) (by omega) (by omega)
    have mn := NB_mono (n := n) (C := C) (P := P) (show w + 1 ≤ v + 1 by omega)
    by_cases y : NB n C P (w + 1) < NB n C P (v + 1)
    · omega
    · -- one node
      obtain ⟨s, s1, s2, s3, s4⟩ := EDG_st G ew
      obtain ⟨t, t1, t2, t3, t4⟩ := EDG_st G ev
      have cw := EST_c ew
      have cv := EST_c ev
      have g64 := G.1
      have es : 64 * (w / 64) + s = 64 * (v / 64) + t := CTP_inj (P := IsN n C P) ((IsN_at (by omega)).mpr s2) ((IsN_at (by omega)).mpr t2) (by show NB n C P (64 * (w / 64) + s) = NB n C P (64 * (v / 64) + t); omega)
      have el : w / 64 = v / 64 := by omega
      have et : s = t := by omega
      have bw2 : ¬ L (w % 64) = v / 64 := by rw [← el]; exact bw.2
      have hv3 : EST n C P (v / 64) (v % 64) := ev
      rw [EST_iff G t2 t4 t1 cv.1] at hv3
      have pe := t4 (w % 64) (by omega) (by omega)
      have pv := t4 (v % 64) t1 (Nat.le_refl _)
      have av := G.2.1 _ cv.1
      have lt : P (v / 64 + 1) (w % 64) < P (v / 64 + 1) (v % 64) := by
        have m1 := G.2.2.2.1 (v / 64 + 1) (w % 64) (v % 64 - 1) (by omega) (by omega)
        have m2 := G.2.2.2.1 (v / 64 + 1) (v % 64 - 1) (v % 64) (by omega) cv.1
        rcases hv3 with q | q | q | q
        · exact absurd q bv.2
        · omega
        · exfalso
          have e1 := END_first G (l := v / 64) (s := t) (i := v % 64 - 1) (fun k k1 k2 => t4 k k1 (by omega)) (by omega) (by omega) q
          have e2 : w % 64 = v % 64 - 1 := by omega
          rw [e2] at bw2
          exact bw2 q
        · omega
      rw [hP, hP] at lt
      have p1 := pe.2
      have p2 := pv.2
      rw [← p2, hP, hP] at p1
      have d1 := PX_s (ub (f (w % 64))) (t := v / 64) (by omega)
      have d2 := PX_s (ub (f (v % 64))) (t := v / 64) (by omega)
      have o1 := OCT_n (f (w % 64)) (i := nI (v / 64)) (by omega) (by omega)
      have o2 := OCT_n (f (v % 64)) (i := nI (v / 64)) (by omega) (by omega)
      rw [show (nI (v / 64)).toInt.toNat = v / 64 by omega] at o1 o2
      rw [el, o1, o2]
      omega
  · rw [if_neg z1, if_neg z1]
    by_cases z2 : ro = 2
    · rw [if_pos z2, if_pos z2]
      have dv : IsD n C L P v := by
        rcases hv2 with h | h | h | h | h | h
        · omega
        · omega
        · exact h.2.2
        · omega
        · omega
        · omega
      have nv : NB n C P (v + 1) = NB n C P v + 1 := CTP_y (IsD_N G dv)
      have mn := NB_mono (n := n) (C := C) (P := P) (show w + 1 ≤ v by omega)
      omega
    · rw [if_neg z2, if_neg z2]
      have lt : EB n C P w < EB n C P v := CTP_lt hwv ew
      omega
theorem VO_rng {ro n : Nat} {C L : Nat → Nat} {P : Nat → Nat → Nat} {f : Nat → Int64} (G : GRD n C L P) {u w : Nat} (hu : u ≤ 8) (hw5 : w < 512) (hw : IsO ro n C L P u w) : 0 ≤ VO ro n C P f u w ∧ VO ro n C P f u w < RL ro n C P u := by
  have ew := IsO_E G hw5 hw
  have rg := IsO_rng hw
  obtain ⟨s, s1, s2, s3, s4⟩ := EDG_st G ew
  have nn := NB_nn (n := n) (C := C) (P := P) (64 * (w / 64) + s)
  unfold VO RL
  by_cases z1 : ro ≤ 1
  · rw [if_pos z1, if_pos z1]
    have lw : (nI (w / 64)).toInt = ((w / 64 : Nat) : Int) := nI_toInt (by omega)
    have ow := OCT_rng (f (w % 64)) (i := nI (w / 64)) (by omega) (by omega)
    have wu := rg.2.1 (by omega)
    have mn := NB_mono (n := n) (C := C) (P := P) (show w + 1 ≤ 64 * u by omega)
    omega
  · rw [if_neg z1, if_neg z1]
    by_cases z2 : ro = 2
    · rw [if_pos z2, if_pos z2]
      have wu := rg.2.1 (by omega)
      have mn := NB_mono (n := n) (C := C) (P := P) (show w + 1 ≤ 64 * u by omega)
      omega
    · rw [if_neg z2, if_neg z2]
      have wu := rg.2.2 (by omega)
      have mn := EB_mono (n := n) (C := C) (P := P) wu
      have lt : EB n C P w < EB n C P 512 := CTP_lt hw5 ew
      omega
/-- how many ones are ahead of a place -/
noncomputable def RK (ro n : Nat) (C L : Nat → Nat) (P : Nat → Nat → Nat) (f : Nat → Int64) (u : Nat) (i : Int) : Int := CTP (fun w => IsO ro n C L P u w ∧ VO ro n C P f u w < i) 512
theorem CNT_pre {Q R : Nat → Prop} {m : Int} (h0 : 0 ≤ m) : ∀ N : Nat, (∀ w, w < N → Q w → (R w ↔ CTP Q w < m)) → CTP (fun w => Q w ∧ R w) N = min m (CTP Q N) := by
  intro N
  induction N with
  | zero =>
    intro _
    show (0 : Int) = min m 0
    omega
  | succ N ih =>
    intro h
    have e := ih (fun w hw => h w (by omega))
    by_cases q : Q N
    · have k := h N (by omega) q
      rw [CTP_y q]
      by_cases r : R N
      · rw [CTP_y (P := fun w => Q w ∧ R w) ⟨q, r⟩, e]
        have := k.mp r
        omega
      · rw [CTP_n (P := fun w => Q w ∧ R w) (fun z => r z.2), e]
        have : ¬ CTP Q N < m := fun z => r (k.mpr z)
        omega
    · rw [CTP_n q, CTP_n (P := fun w => Q w ∧ R w) (fun z => q z.1), e]
theorem RK_all {ro n : Nat} {C L : Nat → Nat} {P : Nat → Nat → Nat} {f : Nat → Int64} (G : GRD n C L P) {u : Nat} (hu : u ≤ 8) {i : Int} (h : RL ro n C P u ≤ i) : RK ro n C L P f u i = OB ro n C L P u 512 := by
  refine CTP_congr 512 (fun w hw => ⟨fun z => z.1, fun z => ⟨z, ?_⟩⟩)
  have := (VO_rng (f := f) G hu hw z).2
  omega
def SEL (ro n : Nat) (C L : Nat → Nat) (P : Nat → Nat → Nat) (f : Nat → Int64) (u : Nat) (k r : Int) : Prop := (∃ w : Nat, w < 512 ∧ IsO ro n C L P u w ∧ OB ro n C L P u w = k ∧ r = VO ro n C P f u w) ∨ (r = -1 ∧ (k < 0 ∨ OB ro n C L P u 512 ≤ k))
theorem SEL_one {ro n : Nat} {C L : Nat → Nat} {P : Nat → Nat → Nat} {f : Nat → Int64} {u : Nat} {k r q : Int} (h : SEL ro n C L P f u k r) (g : SEL ro n C L P f u k q) : r = q := by
  have r0 : ∀ w, 0 ≤ OB ro n C L P u w := fun w => (CTP_rng _ _).1
  rcases h with ⟨w, h1, h2, h3, h4⟩ | ⟨h1, h2⟩
  · have lt : OB ro n C L P u w < OB ro n C L P u 512 := CTP_lt h1 h2
    have w0 := r0 w
    rcases g with ⟨v, g1, g2, g3, g4⟩ | ⟨g1, g2⟩
    · have e : w = v := CTP_inj (P := IsO ro n C L P u) h2 g2 (by show OB ro n C L P u w = OB ro n C L P u v; omega)
      rw [h4, g4, e]
    · omega
  · rcases g with ⟨v, g1, g2, g3, g4⟩ | ⟨g1, g2⟩
    · have lt : OB ro n C L P u v < OB ro n C L P u 512 := CTP_lt g1 g2
      have v0 := r0 v
      omega
    · omega
/-! the object's ones -/
theorem fx6_oneOf {T : bT6} {n : Nat} {C L : Nat → Nat} {P : Nat → Nat → Nat} {f : Nat → Int64} (G : GRD n C L P) (t : TR6 T n C L P f) {u ro : Nat} (hu : u ≤ 8) (his : (b6g_itemStart T).toInt = EB n C P (64 * u)) {a1 a2 : Int32} {w y : Nat} {Q : Int32 → Prop} (h1 : a1.toInt = (ro : Int)) (hro : ro ≤ 5) (hw : w < 512) (hE : IsE n C P w) (hy : (y : Int) = EB n C P w) (h2 : a2.toInt = (y : Int)) (hr1 : ro ≤ 2 → w < 64 * u) (hr2 : 3 ≤ ro → 64 * u ≤ w) (hq : ∀ r : Int32, (IsO ro n C L P u w → r.toInt = VO ro n C P f u w) → (¬ IsO ro n C L P u w → r = -1) → Q r) : wp_X6_oneOf T a1 a2 Q := by
  obtain ⟨e1, e2, e3, e4, e5⟩ := t.2.2.2.2.2.2.2 w y hw hE hy
  have el := EB_le G (w := w) (by omega)
  have eu := EB_le G (w := 64 * u) (by omega)
  have n5 := NB_le G (l := 7) (i := 64) (by omega) (by omega)
  have nb5 : NB n C P (64 * 7 + 64) = NB n C P 512 := rfl
  have nm := NB_mono (n := n) (C := C) (P := P) (show w + 1 ≤ 512 by omega)
  have nn := NB_nn (n := n) (C := C) (P := P) (w + 1)
  have y5 : y < 296 := by omega
  have oe := OCV_end (f := f) (L := L) hw
  have sub : 3 ≤ ro → (a2 - b6g_itemStart T).toInt = EB n C P w - EB n C P (64 * u) := by
    intro z
    have mn := EB_mono (n := n) (C := C) (P := P) (hr2 z)
    rw [pt_sub (by omega) (by omega), h2, his, hy]
  have ocv : ¬ L (w % 64) = w / 64 → b6g_edgeOctets T y = OCT (f (w % 64)) (nI (w / 64)) := by
    intro z
    rw [e2]
    unfold OCV
    rw [if_neg z]
  have lw : (nI (w / 64)).toInt = ((w / 64 : Nat) : Int) := nI_toInt (by omega)
  have ow := OCT_rng (f (w % 64)) (i := nI (w / 64)) (by omega) (by omega)
  have pos : ¬ L (w % 64) = w / 64 → ((256 : Int32) * b6g_edgeNodes T y + b6g_edgeOctets T y).toInt = 256 * (NB n C P (w + 1) - 1) + (OCT (f (w % 64)) (nI (w / 64))).toInt := by
    intro z
    have m : ((256 : Int32) * b6g_edgeNodes T y).toInt = 256 * (NB n C P (w + 1) - 1) := by rw [pt_mul (by rw [e1]; show _ ≤ 256 * _; omega) (by rw [e1]; show 256 * _ < _; omega), e1]; rfl
    rw [ocv z, pt_add (by rw [m]; omega) (by rw [m]; omega), m]
  have c := EST_c hE
  have ac := G.2.1 _ c.1
  have ne : ∀ {m : Int32}, a1 = m → (ro : Int) = m.toInt := fun h => by rw [← h1, h]
  unfold wp_X6_oneOf
  refine fx_atN (by decide) h2 y5 ⟨fun d => ?_, fun d => ?_, fun d => ?_, fun d => ?_, fun d => ?_, fun d => ?_⟩
  · have r5 : ro = 5 := by omega
    have hw2 := hr2 (by omega)
    obtain ⟨s, s1, s2, s3, s4⟩ := EDG_st G hE
    have l7 : w / 64 ≤ 7 := by omega
    have nn2 := NB_nn (n := n) (C := C) (P := P) (64 * (w / 64) + s)
    obtain ⟨x, ex⟩ : ∃ x : Nat, (x : Int) = NB n C P (64 * (w / 64) + s) := ⟨(NB n C P (64 * (w / 64) + s)).toNat, by omega⟩
    have hsI : IsN n C P (64 * (w / 64) + s) := (IsN_at (by omega)).mpr s2
    have es := t.2.2.2.2.1 (64 * (w / 64) + s) x (by omega) hsI ex
    have key : EB n C P w = EB n C P (64 * (w / 64) + s) ↔ IsN n C P w := by
      constructor
      · intro z
        have e : w = 64 * (w / 64) + s := CTP_inj (P := IsE n C P) hE (IsN_E G (by omega) hsI) z
        rw [e]
        exact hsI
      · intro z
        have k : NB n C P (w + 1) = NB n C P w + 1 := CTP_y z
        have e : w = 64 * (w / 64) + s := CTP_inj (P := IsN n C P) z hsI (by show NB n C P w = NB n C P (64 * (w / 64) + s); omega)
        rw [← e]
    refine fx_atN (by decide) (m := x) (by rw [e1]; omega) (by omega) ⟨fun d2 => hq _ (fun z => ?_) (fun _ => rfl), fun d2 => hq _ (fun z => ?_) (fun z => ?_)⟩
    · exfalso
      rcases z with z | z | z | z | z | z
      · omega
      · omega
      · omega
      · omega
      · omega
      · have := key.mpr z.2.2
        exact d2 (Int32.toInt_inj.mp (by omega))
    · unfold VO
      rw [if_neg (by omega), if_neg (by omega)]
      exact sub (by omega)
    · exfalso
      have d3 : a2.toInt = (b6g_edgeStarts T x).toInt := by rw [← d2]
      exact z (Or.inr (Or.inr (Or.inr (Or.inr (Or.inr ⟨r5, hw2, key.mp (by omega)⟩)))))
  · have r0 : ro = 0 := by have := ne d; rw [pl_0] at this; omega
    have hw2 := hr1 (by omega)
    refine fx6_isEnd t hw hE hy y5 h2 (fun r hr => ⟨fun d2 => fx_atN (by decide) h2 y5 (hq _ (fun _ => ?_) (fun z => ?_)), fun d2 => hq _ (fun z => ?_) (fun _ => rfl)⟩)
    · unfold VO
      rw [if_pos (by omega)]
      exact pos (hr.mp d2)
    · exact absurd (Or.inl ⟨r0, hw2, hE, hr.mp d2⟩) z
    · exfalso
      have b := IsO_L G (by omega) z
      exact d2 (hr.mpr b.2)
  · have r0 : ro = 1 := by have := ne d; rw [pl_1] at this; omega
    have hw2 := hr1 (by omega)
    refine fx6_hasChild t hw hE hy y5 h2 (fun r hr => ⟨fun d2 => hq _ (fun z => ?_) (fun _ => rfl), fun d2 => fx_atN (by decide) h2 y5 (hq _ (fun _ => ?_) (fun z => ?_))⟩)
    · exfalso
      rcases z with z | z | z | z | z | z
      · omega
      · exact z.2.2.2 (hr.mp d2)
      · omega
      · omega
      · omega
      · omega
    · unfold VO
      rw [if_pos (by omega)]
      have nc : ¬ C (w % 64) = w / 64 := fun z => d2 (hr.mpr z)
      exact pos (by omega)
    · exact absurd (Or.inr (Or.inl ⟨r0, hw2, hE, fun y => d2 (hr.mpr y)⟩)) z
  · have r0 : ro = 2 := by have := ne d; rw [pl_2] at this; omega
    have hw2 := hr1 (by omega)
    refine fx6_isEnd t hw hE hy y5 h2 (fun r hr => ⟨fun d2 => hq _ (fun z => ?_) (fun _ => rfl), fun d2 => hq _ (fun _ => ?_) (fun z => ?_)⟩)
    · exfalso
      rcases z with z | z | z | z | z | z
      · omega
      · omega
      · exact hr.mp d2 z.2.2.2
      · omega
      · omega
      · omega
    · unfold VO
      rw [if_neg (by omega), if_pos r0]
      exact e1
    · exact absurd (Or.inr (Or.inr (Or.inl ⟨r0, hw2, hE, Classical.byContradiction (fun y => d2 (hr.mpr y))⟩))) z
  · have r0 : ro = 3 := by have := ne d; rw [pl_3] at this; omega
    have hw2 := hr2 (by omega)
    refine fx6_isEnd t hw hE hy y5 h2 (fun r hr => ⟨fun d2 => hq _ (fun z => ?_) (fun _ => rfl), fun d2 => hq _ (fun _ => ?_) (fun z => ?_)⟩)
    · exfalso
      rcases z with z | z | z | z | z | z
      · omega
      · omega
      · omega
      · exact hr.mp d2 z.2.2.2
      · omega
      · omega
    · unfold VO
      rw [if_neg (by omega), if_neg (by omega)]
      exact sub (by omega)
    · exact absurd (Or.inr (Or.inr (Or.inr (Or.inl ⟨r0, hw2, hE, Classical.byContradiction (fun y => d2 (hr.mpr y))⟩)))) z
  · have r0 : ro = 4 := by have := ne d; rw [pl_4] at this; omega
    have hw2 := hr2 (by omega)
    refine fx6_hasChild t hw hE hy y5 h2 (fun r hr => ⟨fun d2 => hq _ (fun z => ?_) (fun _ => rfl), fun d2 => hq _ (fun _ => ?_) (fun z => ?_)⟩)
    · exfalso
      rcases z with z | z | z | z | z | z
      · omega
      · omega
      · omega
      · omega
      · exact z.2.2.2 (hr.mp d2)
      · omega
    · unfold VO
      rw [if_neg (by omega), if_neg (by omega)]
      exact sub (by omega)
    · exact absurd (Or.inr (Or.inr (Or.inr (Or.inr (Or.inl ⟨r0, hw2, hE, fun y => d2 (hr.mpr y)⟩))))) z
theorem fx6_edgesOf {T : bT6} {n : Nat} {C L : Nat → Nat} {P : Nat → Nat → Nat} {f : Nat → Int64} (G : GRD n C L P) (t : TR6 T n C L P f) {u ro : Nat} (hu : u ≤ 8) (his : (b6g_itemStart T).toInt = EB n C P (64 * u)) {a1 : Int32} {Q Q2 : Int32 → Prop} (h1 : a1.toInt = (ro : Int)) (hro : ro ≤ 5) (hq : ∀ r : Int32, r.toInt = EB n C P (if ro ≤ 2 then 64 * u else 512) - 1 → Q r) (hq2 : ∀ r : Int32, r.toInt = EB n C P (if ro ≤ 2 then 0 else 64 * u) → Q2 r) : wp_X6_lastEdgeOf T a1 Q ∧ wp_X6_firstEdgeOf T a1 Q2 := by
  have eu := EB_le G (w := 64 * u) (by omega)
  have e5 := EB_le G (w := 512) (by omega)
  have hed := t.2.2.2.2.2.2.1
  have i1 : (b6g_itemStart T - 1).toInt = EB n C P (64 * u) - 1 := by rw [pt_sub (by rw [pl_1]; omega) (by rw [pl_1]; omega), pl_1, his]
  have i2 : (b6g_edges T - 1).toInt = EB n C P 512 - 1 := by rw [pt_sub (by rw [pl_1]; omega) (by rw [pl_1]; omega), pl_1, hed]
  have ne : ∀ {m : Int32}, a1 = m → (ro : Int) = m.toInt := fun h => by rw [← h1, h]
  have nn : ∀ {m : Int32}, ¬ a1 = m → ¬ (ro : Int) = m.toInt := fun h z => h (Int32.toInt_inj.mp (by omega))
  have is : ∀ R : Int32 → Prop, (∀ r : Int32, (r = 0 ↔ ro ≤ 2) → R r) → wp_X6_isOfItems a1 R := by
    intro R hR
    unfold wp_X6_isOfItems wp_X6_isOfItems_15
    refine ⟨fun c => ⟨rfl, hR _ ⟨fun z => absurd z (by decide), fun z => ?_⟩⟩, fun c => ⟨fun c2 => ⟨rfl, hR _ ⟨fun z => absurd z (by decide), fun z => ?_⟩⟩, fun c2 => ⟨fun c3 => ⟨rfl, hR _ ⟨fun _ => ?_, fun _ => rfl⟩⟩, fun c3 => ⟨rfl, hR _ ⟨fun z => absurd z (by decide), fun z => ?_⟩⟩⟩⟩⟩
    · have := ne c
      rw [pl_3] at this
      omega
    · have := ne c2
      rw [pl_4] at this
      omega
    · have k1 := nn c
      have k2 := nn c2
      have k3 := nn c3
      rw [pl_3] at k1
      rw [pl_4] at k2
      rw [pl_5] at k3
      omega
    · have := ne c3
      rw [pl_5] at this
      omega
  unfold wp_X6_lastEdgeOf wp_X6_firstEdgeOf
  refine ⟨is _ (fun r hr => ⟨fun c => hq _ ?_, fun c => hq _ ?_⟩), is _ (fun r hr => ⟨fun c => hq2 _ ?_, fun c => hq2 _ ?_⟩)⟩
  · rw [if_pos (hr.mp c)]
    exact i1
  · rw [if_neg (fun z => c (hr.mpr z))]
    exact i2
  · rw [if_pos (hr.mp c)]
    rfl
  · rw [if_neg (fun z => c (hr.mpr z))]
    exact his
theorem fx6_onesAhead {T : bT6} {n : Nat} {C L : Nat → Nat} {P : Nat → Nat → Nat} {f : Nat → Int64} (G : GRD n C L P) (t : TR6 T n C L P f) {u ro : Nat} (hu : u ≤ 8) (his : (b6g_itemStart T).toInt = EB n C P (64 * u)) {a1 a2 : Int32} {Q : Int32 → Prop} (h1 : a1.toInt = (ro : Int)) (hro : ro ≤ 5) (hq : ∀ r : Int32, r.toInt = RK ro n C L P f u a2.toInt → Q r) : wp_X6_onesAhead T a1 a2 Q := by
  have eu := EB_le G (w := 64 * u) (by omega)
  have e5 := EB_le G (w := 512) (by omega)
  obtain ⟨A, hA⟩ : ∃ A : Nat, A = if ro ≤ 2 then 0 else 64 * u := ⟨_, rfl⟩
  obtain ⟨B', hB'⟩ : ∃ B' : Nat, B' = if ro ≤ 2 then 64 * u else 512 := ⟨_, rfl⟩
  have AB : A ≤ B' ∧ B' ≤ 512 ∧ (ro ≤ 2 → B' = 64 * u) ∧ (3 ≤ ro → A = 64 * u) := by
    by_cases z : ro ≤ 2
    · rw [if_pos z] at hA hB'
      omega
    · rw [if_neg z] at hA hB'
      omega
  have fr : ∀ w, w < 512 → IsO ro n C L P u w → A ≤ w ∧ w < B' := by
    intro w hw h
    have r := IsO_rng h
    by_cases z : ro ≤ 2
    · have := r.2.1 z
      rw [if_pos z] at hA hB'
      omega
    · have := r.2.2 (by omega)
      rw [if_neg z] at hA hB'
      omega
  unfold wp_X6_onesAhead
  refine (fx6_edgesOf (Q2 := fun _ => True) G t hu his h1 hro (fun r3 hr3 => ?_) (fun _ _ => trivial)).1
  refine (fx6_edgesOf (Q := fun _ => True) G t hu his h1 hro (fun _ _ => trivial) (fun r5 hr5 => ?_)).2
  rw [← hB'] at hr3
  rw [← hA] at hr5
  have ea := EB_le G (w := A) (by omega)
  have eb := EB_le G (w := B') (by omega)
  have mab := EB_mono (n := n) (C := C) (P := P) AB.1
  unfold wp_X6_onesAhead_16
  refine ⟨fun k x1 x2 x3 x4 x5 => ∃ i p : Nat, a1 = x1 ∧ a2 = x2 ∧ r3 = x4 ∧ x5.toInt = (i : Int) ∧ A ≤ p ∧ p ≤ B' ∧ (i : Int) = EB n C P p ∧ x3.toInt = CTP (fun w => IsO ro n C L P u w ∧ VO ro n C P f u w < a2.toInt) p ∧ k = 300 - i, ⟨_, (EB n C P A).toNat, A, rfl, rfl, rfl, by omega, Nat.le_refl _, AB.1, by omega, ?_, rfl⟩, ?_⟩
  · rw [pl_0]
    exact (CTP_st (P := fun w => IsO ro n C L P u w ∧ VO ro n C P f u w < a2.toInt) (a := 0) A (by omega) (fun w _ q r => by have := (fr w (by omega) r.1).1; omega)).symm
  rintro k x1 x2 x3 x4 x5 ⟨i, p, rfl, rfl, rfl, e5', hap, hpb, hi, hv, hk⟩
  have cr := CTP_rng (fun w => IsO ro n C L P u w ∧ VO ro n C P f u w < a2.toInt) p
  suffices H : ∀ B : Int32 → Int32 → Int32 → Int32 → Int32 → Prop, (∀ (v : Int32) (p' : Nat), A ≤ p' → p' ≤ B' → ((i + 1 : Nat) : Int) = EB n C P p' → v.toInt = CTP (fun w => IsO ro n C L P u w ∧ VO ro n C P f u w < a2.toInt) p' → (i : Int) < EB n C P B' → B a1 a2 v r3 (x5 + 1)) → wp_X6_onesAhead_16b T a1 a2 x3 r3 x5 Q B from H _ (fun v p' t1 t2 t3 t4 hlt => ⟨300 - (i + 1), by omega, i + 1, p', rfl, rfl, rfl, by rw [pt_add (by rw [pl_1]; omega) (by rw [pl_1]; omega), pl_1, e5']; omega, t1, t2, t3, t4, rfl⟩)
  intro B hB
  unfold wp_X6_onesAhead_16b
  refine ⟨fun c => hq x3 ?_, fun c => ?_⟩
  · simp only [pn] at c
    have mp := EB_mono (n := n) (C := C) (P := P) hpb
    have k2 : CTP (fun w => IsO ro n C L P u w ∧ VO ro n C P f u w < a2.toInt) 512 = CTP (fun w => IsO ro n C L P u w ∧ VO ro n C P f u w < a2.toInt) p := by
      refine CTP_st 512 (by omega) (fun w w1 w2 w3 => ?_)
      have := fr w w2 w3.1
      have lt : EB n C P w < EB n C P B' := CTP_lt this.2 (IsO_E G w2 w3.1)
      have m2 := EB_mono (n := n) (C := C) (P := P) w1
      omega
    rw [hv]
    exact k2.symm
  simp only [pn] at c
  have hlt : (i : Int) < EB n C P B' := by omega
  obtain ⟨w, w1, w2, w3⟩ := CTP_inv (P := IsE n C P) (e := (i : Int)) (by omega) B' hlt
  have w3' : EB n C P w = (i : Int) := w3
  have aw : A ≤ w := by
    apply Classical.byContradiction
    intro z
    have lt : EB n C P w < EB n C P A := CTP_lt (by omega) w2
    have mp := EB_mono (n := n) (C := C) (P := P) hap
    omega
  have cw : CTP (fun w => IsO ro n C L P u w ∧ VO ro n C P f u w < a2.toInt) w = CTP (fun w => IsO ro n C L P u w ∧ VO ro n C P f u w < a2.toInt) p := by
    by_cases z : p ≤ w
    · refine CTP_st w z (fun v v1 v2 v3 => ?_)
      have lt : EB n C P v < EB n C P w := CTP_lt v2 (IsO_E G (by omega) v3.1)
      have m2 := EB_mono (n := n) (C := C) (P := P) v1
      omega
    · refine (CTP_st p (by omega) (fun v v1 v2 v3 => ?_)).symm
      have lt : EB n C P v < EB n C P p := CTP_lt v2 (IsO_E G (by omega) v3.1)
      have m2 := EB_mono (n := n) (C := C) (P := P) v1
      omega
  have nx : EB n C P (w + 1) = EB n C P w + 1 := CTP_y w2
  have no : ¬ (IsO ro n C L P u w ∧ VO ro n C P f u w < a2.toInt) → wp_X6_onesAhead_49 T a1 a2 r3 x5 x3 Q B := by
    intro z
    unfold wp_X6_onesAhead_49 wp_X6_onesAhead_50
    refine hB _ (w + 1) (by omega) (by omega) (by omega) ?_ hlt
    rw [CTP_n (P := fun w => IsO ro n C L P u w ∧ VO ro n C P f u w < a2.toInt) z, cw, ← hv, pt_add (by rw [pl_0]; omega) (by rw [pl_0]; omega), pl_0]
    omega
  refine fx6_oneOf G t hu his h1 hro (by omega) w2 w3'.symm e5' (fun z => ?_) (fun z => ?_) (fun r1 g1 g2 => ⟨fun d => no (fun z => ?_), fun d => ⟨fun d2 => no (fun z => ?_), fun d2 => ?_⟩⟩)
  · have := AB.2.2.1 z
    omega
  · have := AB.2.2.2 z
    omega
  · have v := g1 z.1
    have v0 := (VO_rng (f := f) G hu (by omega) z.1).1
    rw [d, pl_m1] at v
    omega
  · simp only [pn] at d2
    have v := g1 z.1
    have := z.2
    omega
  · have io : IsO ro n C L P u w := Classical.byContradiction (fun z => d (g2 z))
    simp only [pn] at d2
    unfold wp_X6_onesAhead_50
    refine hB _ (w + 1) (by omega) (by omega) (by omega) ?_ hlt
    have v := g1 io
    rw [CTP_y (P := fun w => IsO ro n C L P u w ∧ VO ro n C P f u w < a2.toInt) ⟨io, by omega⟩, cw, ← hv, pt_add (by rw [pl_1]; omega) (by rw [pl_1]; omega), pl_1]
theorem fx6_placeOfOne {T : bT6} {n : Nat} {C L : Nat → Nat} {P : Nat → Nat → Nat} {f : Nat → Int64} (G : GRD n C L P) (t : TR6 T n C L P f) {u ro : Nat} (hu : u ≤ 8) (his : (b6g_itemStart T).toInt = EB n C P (64 * u)) {a1 a2 : Int32} {Q : Int32 → Prop} (h1 : a1.toInt = (ro : Int)) (hro : ro ≤ 5) (hq : ∀ r : Int32, SEL ro n C L P f u a2.toInt r.toInt → Q r) : wp_X6_placeOfOne T a1 a2 Q := by
  have eu := EB_le G (w := 64 * u) (by omega)
  have e5 := EB_le G (w := 512) (by omega)
  obtain ⟨A, hA⟩ : ∃ A : Nat, A = if ro ≤ 2 then 0 else 64 * u := ⟨_, rfl⟩
  obtain ⟨B', hB'⟩ : ∃ B' : Nat, B' = if ro ≤ 2 then 64 * u else 512 := ⟨_, rfl⟩
  have AB : A ≤ B' ∧ B' ≤ 512 ∧ (ro ≤ 2 → B' = 64 * u) ∧ (3 ≤ ro → A = 64 * u) := by
    by_cases z : ro ≤ 2
    · rw [if_pos z] at hA hB'
      omega
    · rw [if_neg z] at hA hB'
      omega
  have fr : ∀ w, w < 512 → IsO ro n C L P u w → A ≤ w ∧ w < B' := by
    intro w hw h
    have r := IsO_rng h
    by_cases z : ro ≤ 2
    · have := r.2.1 z
      rw [if_pos z] at hA hB'
      omega
    · have := r.2.2 (by omega)
      rw [if_neg z] at hA hB'
      omega
  unfold wp_X6_placeOfOne
  refine (fx6_edgesOf (Q2 := fun _ => True) G t hu his h1 hro (fun r3 hr3 => ?_) (fun _ _ => trivial)).1
  refine (fx6_edgesOf (Q := fun _ => True) G t hu his h1 hro (fun _ _ => trivial) (fun r5 hr5 => ?_)).2
  rw [← hB'] at hr3
  rw [← hA] at hr5
  have ea := EB_le G (w := A) (by omega)
  have eb := EB_le G (w := B') (by omega)
  have mab := EB_mono (n := n) (C := C) (P := P) AB.1
  unfold wp_X6_placeOfOne_16
  refine ⟨fun k x1 x2 x3 x4 x5 => ∃ i p : Nat, a1 = x1 ∧ a2 = x2 ∧ r3 = x4 ∧ x5.toInt = (i : Int) ∧ A ≤ p ∧ p ≤ B' ∧ (i : Int) = EB n C P p ∧ x3.toInt = OB ro n C L P u p ∧ (0 ≤ a2.toInt → x3.toInt ≤ a2.toInt) ∧ k = 300 - i, ⟨_, (EB n C P A).toNat, A, rfl, rfl, rfl, by omega, Nat.le_refl _, AB.1, by omega, ?_, fun z => by rw [pl_0]; exact z, rfl⟩, ?_⟩
  · rw [pl_0]
    exact (CTP_st (P := IsO ro n C L P u) (a := 0) A (by omega) (fun w _ q r => by have := (fr w (by omega) r).1; omega)).symm
  rintro k x1 x2 x3 x4 x5 ⟨i, p, rfl, rfl, rfl, e5', hap, hpb, hi, hv, hle, hk⟩
  have cr : 0 ≤ OB ro n C L P u p ∧ OB ro n C L P u p ≤ (p : Int) := CTP_rng (IsO ro n C L P u) p
  suffices H : ∀ B : Int32 → Int32 → Int32 → Int32 → Int32 → Prop, (∀ (v : Int32) (p' : Nat), A ≤ p' → p' ≤ B' → ((i + 1 : Nat) : Int) = EB n C P p' → v.toInt = OB ro n C L P u p' → (0 ≤ a2.toInt → v.toInt ≤ a2.toInt) → (i : Int) < EB n C P B' → B a1 a2 v r3 (x5 + 1)) → wp_X6_placeOfOne_16b T a1 a2 x3 r3 x5 Q B from H _ (fun v p' t1 t2 t3 t4 t5 hlt => ⟨300 - (i + 1), by omega, i + 1, p', rfl, rfl, rfl, by rw [pt_add (by rw [pl_1]; omega) (by rw [pl_1]; omega), pl_1, e5']; omega, t1, t2, t3, t4, t5, rfl⟩)
  intro B hB
  unfold wp_X6_placeOfOne_16b
  refine ⟨fun c => hq _ (Or.inr ⟨rfl, ?_⟩), fun c => ?_⟩
  · simp only [pn] at c
    have mp := EB_mono (n := n) (C := C) (P := P) hpb
    have k2 : OB ro n C L P u 512 = OB ro n C L P u p := by
      refine CTP_st 512 (by omega) (fun w w1 w2 w3 => ?_)
      have := fr w w2 w3
      have lt : EB n C P w < EB n C P B' := CTP_lt this.2 (IsO_E G w2 w3)
      have m2 := EB_mono (n := n) (C := C) (P := P) w1
      omega
    rw [k2]
    by_cases z : a2.toInt < 0
    · exact Or.inl z
    · have := hle (by omega)
      exact Or.inr (by omega)
  simp only [pn] at c
  have hlt : (i : Int) < EB n C P B' := by omega
  obtain ⟨w, w1, w2, w3⟩ := CTP_inv (P := IsE n C P) (e := (i : Int)) (by omega) B' hlt
  have w3' : EB n C P w = (i : Int) := w3
  have aw : A ≤ w := by
    apply Classical.byContradiction
    intro z
    have lt : EB n C P w < EB n C P A := CTP_lt (by omega) w2
    have mp := EB_mono (n := n) (C := C) (P := P) hap
    omega
  have cw : OB ro n C L P u w = OB ro n C L P u p := by
    by_cases z : p ≤ w
    · refine CTP_st w z (fun v v1 v2 v3 => ?_)
      have lt : EB n C P v < EB n C P w := CTP_lt v2 (IsO_E G (by omega) v3)
      have m2 := EB_mono (n := n) (C := C) (P := P) v1
      omega
    · refine (CTP_st p (by omega) (fun v v1 v2 v3 => ?_)).symm
      have lt : EB n C P v < EB n C P p := CTP_lt v2 (IsO_E G (by omega) v3)
      have m2 := EB_mono (n := n) (C := C) (P := P) v1
      omega
  have nx : EB n C P (w + 1) = EB n C P w + 1 := CTP_y w2
  refine fx6_oneOf G t hu his h1 hro (by omega) w2 w3'.symm e5' (fun z => ?_) (fun z => ?_) (fun r1 g1 g2 => ⟨fun d => ?_, fun d => ⟨fun d2 => ?_, fun d2 => hq _ ?_⟩⟩)
  · have := AB.2.2.1 z
    omega
  · have := AB.2.2.2 z
    omega
  · have ni : ¬ IsO ro n C L P u w := by
      intro z
      have v := g1 z
      have v0 := (VO_rng (f := f) G hu (by omega) z).1
      rw [d, pl_m1] at v
      omega
    unfold wp_X6_placeOfOne_49
    have k3 : OB ro n C L P u (w + 1) = OB ro n C L P u w := CTP_n ni
    exact hB _ (w + 1) (by omega) (by omega) (by omega) (by rw [k3, cw]; exact hv) hle hlt
  · have io : IsO ro n C L P u w := Classical.byContradiction (fun z => d (g2 z))
    unfold wp_X6_placeOfOne_49
    have k3 : OB ro n C L P u (w + 1) = OB ro n C L P u w + 1 := CTP_y io
    have e31 : (x3 + 1).toInt = x3.toInt + 1 := by rw [pt_add (by rw [pl_1]; omega) (by rw [pl_1]; omega), pl_1]
    have ned : ¬ x3.toInt = a2.toInt := fun z => d2 (Int32.toInt_inj.mp z)
    exact hB _ (w + 1) (by omega) (by omega) (by omega) (by rw [k3, cw, e31, hv]) (fun z => by have := hle z; omega) hlt
  · have io : IsO ro n C L P u w := Classical.byContradiction (fun z => d (g2 z))
    refine Or.inl ⟨w, by omega, io, ?_, g1 io⟩
    rw [cw, ← hv, d2]
theorem fx6_rowLength {T : bT6} {n : Nat} {C L : Nat → Nat} {P : Nat → Nat → Nat} {f : Nat → Int64} (G : GRD n C L P) (t : TR6 T n C L P f) {u ro : Nat} (hu : u ≤ 8) (hun : (b6g_upperNodes T).toInt = NB n C P (64 * u)) (his : (b6g_itemStart T).toInt = EB n C P (64 * u)) {a1 : Int32} {Q : Int32 → Prop} (h1 : a1.toInt = (ro : Int)) (hro : ro ≤ 5) (hq : ∀ r : Int32, r.toInt = RL ro n C P u → Q r) : wp_X6_rowLength T a1 Q := by
  have eu := EB_le G (w := 64 * u) (by omega)
  have e5 := EB_le G (w := 512) (by omega)
  have n5 := NB_le G (l := 7) (i := 64) (by omega) (by omega)
  have nb5 : NB n C P (64 * 7 + 64) = NB n C P 512 := rfl
  have nm := NB_mono (n := n) (C := C) (P := P) (show 64 * u ≤ 512 by omega)
  have nn := NB_nn (n := n) (C := C) (P := P) (64 * u)
  have hed := t.2.2.2.2.2.2.1
  have ne : ∀ {m : Int32}, a1 = m → (ro : Int) = m.toInt := fun h => by rw [← h1, h]
  have n2 : ∀ {m : Int32}, ¬ a1 = m → ¬ (ro : Int) = m.toInt := fun h z => h (Int32.toInt_inj.mp (by omega))
  have m : ((256 : Int32) * b6g_upperNodes T).toInt = 256 * NB n C P (64 * u) := by rw [pt_mul (by rw [hun]; show _ ≤ 256 * _; omega) (by rw [hun]; show 256 * _ < _; omega), hun]; rfl
  unfold wp_X6_rowLength wp_X6_rowLength_9 wp_X6_items
  refine ⟨fun c => hq _ ?_, fun c => ⟨fun c1 => ⟨fun c2 => hq _ ?_, fun c2 => hq _ ?_⟩, fun c1 => hq _ ?_⟩⟩
  · have := ne c
    rw [pl_0] at this
    unfold RL
    rw [if_pos (by omega)]
    exact m
  · have k0 := n2 c
    have k1 := n2 c1
    have k2 := n2 c2
    rw [pl_0] at k0
    rw [pl_1] at k1
    rw [pl_2] at k2
    unfold RL
    rw [if_neg (by omega), if_neg (by omega), pt_sub (by omega) (by omega), hed, his]
  · have := ne c2
    rw [pl_2] at this
    unfold RL
    rw [if_neg (by omega), if_pos (by omega)]
    exact hun
  · have := ne c1
    rw [pl_1] at this
    unfold RL
    rw [if_pos (by omega)]
    exact m
/-! the reference's ones -/
def OIV (ro n : Nat) (C L : Nat → Nat) (P : Nat → Nat → Nat) (f : Nat → Int64) (u : Nat) (om : Int32) (on : Nat → Int32) (p : Nat) : Prop := om.toInt = OB ro n C L P u p ∧ ∀ w : Nat, w < p → IsO ro n C L P u w → (on (OB ro n C L P u w).toNat).toInt = VO ro n C P f u w
theorem OIV_skip {ro n : Nat} {C L : Nat → Nat} {P : Nat → Nat → Nat} {f : Nat → Int64} {u : Nat} {om : Int32} {on : Nat → Int32} {p p2 : Nat} (h : OIV ro n C L P f u om on p) (hp : p ≤ p2) (hn : ∀ w, p ≤ w → w < p2 → ¬ IsO ro n C L P u w) : OIV ro n C L P f u om on p2 := by
  refine ⟨?_, fun w w1 w2 => ?_⟩
  · rw [h.1]
    exact (CTP_st p2 hp hn).symm
  · by_cases z : w < p
    · exact h.2 w z w2
    · exact absurd w2 (hn w (by omega) w1)
theorem OIV_add {ro n : Nat} {C L : Nat → Nat} {P : Nat → Nat → Nat} {f : Nat → Int64} {u : Nat} {om om2 v : Int32} {on on2 : Nat → Int32} {p : Nat} (h : OIV ro n C L P f u om on p) (hI : IsO ro n C L P u p) (hv : v.toInt = VO ro n C P f u p) (hm : om2.toInt = om.toInt + 1) (ho : on2 = upd on om.toNatClampNeg v) : OIV ro n C L P f u om2 on2 (p + 1) := by
  have t : OB ro n C L P u (p + 1) = OB ro n C L P u p + 1 := CTP_y hI
  have h1 := h.1
  have b : ∀ w, 0 ≤ OB ro n C L P u w := fun w => (CTP_rng _ _).1
  have em : om.toNatClampNeg = (OB ro n C L P u p).toNat := by
    show om.toInt.toNat = _
    rw [h1]
  refine ⟨by omega, fun w w1 w2 => ?_⟩
  rw [ho, em]
  by_cases z : w = p
  · subst z
    rw [show upd on (OB ro n C L P u w).toNat v (OB ro n C L P u w).toNat = v by unfold upd; rw [if_pos rfl]]
    exact hv
  · have lt : OB ro n C L P u w < OB ro n C L P u p := CTP_lt (by omega) w2
    have b1 := b w
    rw [up_n (by omega)]
    exact h.2 w (by omega) w2
theorem EB_pos {n : Nat} {C : Nat → Nat} {P : Nat → Nat → Nat} {b x : Nat} (hb : b ≤ 512) (hx : (x : Int) = EB n C P b) : ∃ p : Nat, b ≤ p ∧ p ≤ 512 ∧ (x : Int) = EB n C P p ∧ ((x : Int) < EB n C P 512 → p < 512 ∧ IsE n C P p) ∧ (¬ (x : Int) < EB n C P 512 → p = 512) ∧ ∀ w, b ≤ w → w < p → ¬ IsE n C P w := by
  by_cases z : (x : Int) < EB n C P 512
  · obtain ⟨p, p1, p2, p3⟩ := CTP_inv (P := IsE n C P) (e := (x : Int)) (by omega) 512 z
    have p3' : EB n C P p = (x : Int) := p3
    have bp : b ≤ p := by
      apply Classical.byContradiction
      intro t
      have t2 : EB n C P p < EB n C P b := CTP_lt (by omega) p2
      omega
    refine ⟨p, bp, by omega, by omega, fun _ => ⟨p1, p2⟩, fun t => absurd z t, fun w w1 w2 w3 => ?_⟩
    have a : EB n C P w < EB n C P p := CTP_lt w2 w3
    have c := EB_mono (n := n) (C := C) (P := P) w1
    omega
  · have mn := EB_mono (n := n) (C := C) (P := P) hb
    refine ⟨512, hb, Nat.le_refl _, by omega, fun t => absurd t z, fun _ => rfl, fun w w1 w2 w3 => ?_⟩
    have a : EB n C P w < EB n C P 512 := CTP_lt w2 w3
    have c := EB_mono (n := n) (C := C) (P := P) w1
    omega
theorem fx9_isOne {S : bT9} {n : Nat} {C L : Nat → Nat} {P : Nat → Nat → Nat} {f : Nat → Int64} {u ro : Nat} (G : GRD n C L P) (hI : IAR n C L P f (b9g_itemNode S) (b9g_itemByte S) (b9g_itemChild S) (64 * u) 512) (hc : (b9g_chosen S).toInt = (ro : Int)) (h3 : 3 ≤ ro) (h5 : ro ≤ 5) {a1 : Int32} {w y : Nat} {Q : Int32 → Prop} (h1 : a1.toInt = (y : Int)) (hw : w < 512) (kw : 64 * u ≤ w) (hE : IsE n C P w) (hy : (y : Int) = EB n C P w - EB n C P (64 * u)) (hq : ∀ r : Int32, (r = 0 ↔ ¬ IsO ro n C L P u w) → Q r) : wp_X9_isOne S a1 Q := by
  obtain ⟨r1, r2, r3⟩ := hI w y kw hw hE hy
  have e5 := EB_le G (w := w) (by omega)
  have ek := EB_le G (w := 64 * u) (by omega)
  have em : a1.toNatClampNeg = y := by
    show a1.toInt.toNat = y
    omega
  have oe := OCV_end (f := f) (L := L) hw
  have no : ¬ IsO ro n C L P u w → bf_bool 0 ∧ Q 0 := fun p => ⟨rfl, hq _ ⟨fun _ => p, fun _ => rfl⟩⟩
  have yes : IsO ro n C L P u w → bf_bool 1 ∧ Q 1 := fun p => ⟨rfl, hq _ ⟨fun z => absurd z (by decide), fun z => absurd p z⟩⟩
  have c3t : ((3 : Int32)).toInt = 3 := rfl
  have c4t : ((4 : Int32)).toInt = 4 := rfl
  unfold wp_X9_isOne
  refine ⟨fun c3 => ⟨fun c4 => ?_, fun c4 => ?_⟩, fun c3 => ?_⟩
  · have n3 : ¬ ro = 3 := fun z => c3 (Int32.toInt_inj.mp (by omega))
    have n4 : ¬ ro = 4 := fun z => c4 (Int32.toInt_inj.mp (by omega))
    have r5 : ro = 5 := by omega
    subst r5
    have iff5 : IsO 5 n C L P u w ↔ IsN n C P w := by
      constructor
      · rintro (h | h | h | h | h | h)
        · omega
        · omega
        · omega
        · omega
        · omega
        · exact h.2.2
      · exact fun h => Or.inr (Or.inr (Or.inr (Or.inr (Or.inr ⟨rfl, kw, h⟩))))
    refine ⟨fun z => ?_, fun z => ?_⟩
    · refine yes (iff5.mpr ?_)
      have y0 : a1.toInt = 0 := by rw [z]; rfl
      obtain ⟨s, s1, s2, _, _⟩ := EDG_st G hE
      by_cases q : s = w % 64
      · unfold IsN
        rw [← q]
        exact s2
      · have hs : IsN n C P (64 * (w / 64) + s) := (IsN_at (by omega)).mpr s2
        have he := IsN_E G (by omega) hs
        have lt : EB n C P (64 * (w / 64) + s) < EB n C P w := CTP_lt (by omega) he
        have mn := EB_mono (n := n) (C := C) (P := P) (show 64 * u ≤ 64 * (w / 64) + s by omega)
        omega
    · have y0 : ¬ a1.toInt = 0 := fun q => z (Int32.toInt_inj.mp q)
      obtain ⟨v, v1, v2, v3⟩ := CTP_inv (P := IsE n C P) (e := EB n C P w - 1) (by omega) w (by show _ < EB n C P w; omega)
      have v3' : EB n C P v = EB n C P w - 1 := v3
      have kv : 64 * u ≤ v := by
        apply Classical.byContradiction
        intro q
        have lt : EB n C P v < EB n C P (64 * u) := CTP_lt (by omega) v2
        omega
      obtain ⟨m, rfl⟩ : ∃ m : Nat, y = m + 1 := ⟨y - 1, by omega⟩
      obtain ⟨q1, _, _⟩ := hI v m kv (by omega) v2 (by omega)
      have e1 : (a1 - 1).toInt = (m : Int) := by
        rw [pt_sub (by rw [pl_1]; omega) (by rw [pl_1]; omega), pl_1, h1]
        omega
      have em1 : (a1 - 1).toNatClampNeg = m := by
        show (a1 - 1).toInt.toNat = m
        omega
      rw [em, em1]
      refine ⟨pt_in (by omega) (by omega), pt_in (by omega) (by omega), fun c => no (fun o => ?_), fun c => yes (iff5.mpr (Classical.byContradiction (fun o => c (Int32.toInt_inj.mp ?_))))⟩
      · have hN := iff5.mp o
        have t : NB n C P (w + 1) = NB n C P w + 1 := CTP_y hN
        have mn := NB_mono (n := n) (C := C) (P := P) (show v + 1 ≤ w by omega)
        rw [c] at q1
        omega
      · have st : NB n C P (w + 1) = NB n C P (v + 1) := by
          refine CTP_st _ (by omega) (fun k k1 k2 k3 => ?_)
          by_cases q : k = w
          · rw [q] at k3
            exact o k3
          · have ke := IsN_E G (by omega) k3
            have a : EB n C P k < EB n C P w := CTP_lt (by omega) ke
            have b : EB n C P (v + 1) = EB n C P v + 1 := CTP_y v2
            have d := EB_mono (n := n) (C := C) (P := P) k1
            omega
        omega
  · have r4 : ro = 4 := by
      have : (b9g_chosen S).toInt = 4 := by rw [c4]; rfl
      omega
    subst r4
    have iff4 : IsO 4 n C L P u w ↔ ¬ C (w % 64) = w / 64 := by
      constructor
      · rintro (h | h | h | h | h | h)
        · omega
        · omega
        · omega
        · omega
        · exact h.2.2.2
        · omega
      · exact fun h => Or.inr (Or.inr (Or.inr (Or.inr (Or.inl ⟨rfl, kw, hE, h⟩))))
    rw [em]
    exact ⟨pt_in (by omega) (by omega), fun c => no (fun o => iff4.mp o (r3.mp c)), fun c => yes (iff4.mpr (fun z => c (r3.mpr z)))⟩
  · have r4 : ro = 3 := by
      have : (b9g_chosen S).toInt = 3 := by rw [c3]; rfl
      omega
    subst r4
    have iff3 : IsO 3 n C L P u w ↔ L (w % 64) = w / 64 := by
      constructor
      · rintro (h | h | h | h | h | h)
        · omega
        · omega
        · omega
        · exact h.2.2.2
        · omega
        · omega
      · exact fun h => Or.inr (Or.inr (Or.inr (Or.inl ⟨rfl, kw, hE, h⟩)))
    rw [em]
    exact ⟨pt_in (by omega) (by omega), fun c => no (fun o => c (by rw [r2]; exact oe.mpr (iff3.mp o))), fun c => yes (iff3.mpr (oe.mp (by rw [← r2]; exact c)))⟩
theorem RK_m {ro n : Nat} {C L : Nat → Nat} {P : Nat → Nat → Nat} {f : Nat → Int64} {u : Nat} {i m : Int} (h0 : 0 ≤ m) (h1 : m ≤ OB ro n C L P u 512) (h : ∀ w, w < 512 → IsO ro n C L P u w → (VO ro n C P f u w < i ↔ OB ro n C L P u w < m)) : RK ro n C L P f u i = m := by
  have e := CNT_pre (Q := IsO ro n C L P u) (R := fun w => VO ro n C P f u w < i) h0 512 h
  have e2 : RK ro n C L P f u i = min m (OB ro n C L P u 512) := e
  omega
/-- ones ahead, and what stands at their number -/
theorem fx9_onesAhead {S : bT9} {ro n : Nat} {C L : Nat → Nat} {P : Nat → Nat → Nat} {f : Nat → Int64} {u : Nat} (G : GRD n C L P) (hP : ∀ l i, P l i = PX (ub (f i)) l) (hA : OAR ro n C L P f u (b9g_oneMany S) (b9g_rowLong S) (b9g_ones S)) {a1 : Int32} {Q : Int32 → Prop} (hq : ∀ (r : Int32) (m : Nat), r.toInt = (m : Int) → r.toInt = RK ro n C L P f u a1.toInt → (b9g_oneMany S).toInt ≤ 512 → ((b9g_oneMany S).toInt ≤ (m : Int) → RK ro n C L P f u (a1.toInt + 1) = RK ro n C L P f u a1.toInt) → (¬ (b9g_oneMany S).toInt ≤ (m : Int) → (b9g_ones S m = a1 → RK ro n C L P f u (a1.toInt + 1) = RK ro n C L P f u a1.toInt + 1) ∧ (¬ b9g_ones S m = a1 → RK ro n C L P f u (a1.toInt + 1) = RK ro n C L P f u a1.toInt)) → Q r) : wp_X9_onesAhead S a1 Q := by
  obtain ⟨o1, _, o3⟩ := hA
  have ob := CTP_rng (IsO ro n C L P u) 512
  have ob' : 0 ≤ OB ro n C L P u 512 ∧ OB ro n C L P u 512 ≤ 512 := ob
  have at_ : ∀ m : Nat, (m : Int) < OB ro n C L P u 512 → ∃ w, w < 512 ∧ IsO ro n C L P u w ∧ OB ro n C L P u w = (m : Int) ∧ (b9g_ones S m).toInt = VO ro n C P f u w := by
    intro m hm
    obtain ⟨w, w1, w2, w3⟩ := CTP_inv (P := IsO ro n C L P u) (e := (m : Int)) (by omega) 512 hm
    have w3' : OB ro n C L P u w = (m : Int) := w3
    have k := o3 w w1 w2
    rw [w3', show ((m : Int)).toNat = m by omega] at k
    exact ⟨w, w1, w2, w3', k⟩
  have mono : ∀ w v, w < 512 → v < 512 → IsO ro n C L P u w → IsO ro n C L P u v → OB ro n C L P u w < OB ro n C L P u v → VO ro n C P f u w < VO ro n C P f u v := by
    intro w v w1 v1 w2 v2 lt
    refine VO_mono G hP ?_ v1 w2 v2
    apply Classical.byContradiction
    intro z
    have : OB ro n C L P u v ≤ OB ro n C L P u w := CTP_le w (by omega)
    omega
  have inj : ∀ w v, IsO ro n C L P u w → IsO ro n C L P u v → OB ro n C L P u w = OB ro n C L P u v → w = v := fun w v w2 v2 e => CTP_inj (P := IsO ro n C L P u) w2 v2 e
  -- the end of the walk
  have fin : ∀ (r : Int32) (m : Nat), r.toInt = (m : Int) → (m : Int) ≤ OB ro n C L P u 512 → (∀ k : Nat, k < m → (b9g_ones S k).toInt < a1.toInt) → ((m : Int) < OB ro n C L P u 512 → a1.toInt ≤ (b9g_ones S m).toInt) → Q r := by
    intro r m hr hm lo hi
    have cmp : ∀ w, w < 512 → IsO ro n C L P u w → (VO ro n C P f u w < a1.toInt ↔ OB ro n C L P u w < (m : Int)) := by
      intro w w1 w2
      have b := (CTP_rng (IsO ro n C L P u) w).1
      have b' : 0 ≤ OB ro n C L P u w := b
      have e := o3 w w1 w2
      constructor
      · intro t
        apply Classical.byContradiction
        intro z
        have lt : OB ro n C L P u w < OB ro n C L P u 512 := CTP_lt w1 w2
        obtain ⟨v, v1, v2, v3, v4⟩ := at_ m (by omega)
        have h2 := hi (by omega)
        by_cases q : OB ro n C L P u v = OB ro n C L P u w
        · have q2 := inj v w v2 w2 q
          rw [q2] at v4
          omega
        · have := mono v w v1 w1 v2 w2 (by omega)
          omega
      · intro t
        have h2 := lo (OB ro n C L P u w).toNat (by omega)
        omega
    have rk := RK_m (f := f) (i := a1.toInt) (m := (m : Int)) (by omega) hm cmp
    have keep : (∀ w, w < 512 → IsO ro n C L P u w → ¬ VO ro n C P f u w = a1.toInt) → RK ro n C L P f u (a1.toInt + 1) = RK ro n C L P f u a1.toInt := by
      intro ne
      rw [rk]
      refine RK_m (by omega) hm (fun w w1 w2 => ?_)
      have c := cmp w w1 w2
      have d := ne w w1 w2
      constructor
      · intro t
        exact c.mp (by omega)
      · intro t
        have := c.mpr t
        omega
    refine hq r m hr (by omega) (by omega) (fun t => keep (fun w w1 w2 z => ?_)) (fun t => ?_)
    · have lt : OB ro n C L P u w < OB ro n C L P u 512 := CTP_lt w1 w2
      have c := cmp w w1 w2
      have := c.mpr (by omega)
      omega
    · obtain ⟨v, v1, v2, v3, v4⟩ := at_ m (by omega)
      refine ⟨fun z => ?_, fun z => keep (fun w w1 w2 y => ?_)⟩
      · rw [rk]
        refine RK_m (by omega) (by omega) (fun w w1 w2 => ?_)
        have c := cmp w w1 w2
        rw [z] at v4
        constructor
        · intro t
          by_cases q : VO ro n C P f u w < a1.toInt
          · have := c.mp q
            omega
          · apply Classical.byContradiction
            intro y
            have := mono v w v1 w1 v2 w2 (by omega)
            omega
        · intro t
          by_cases q : OB ro n C L P u w < (m : Int)
          · have := c.mpr q
            omega
          · have := inj v w v2 w2 (by omega)
            rw [this] at v4
            omega
      · have c := cmp w w1 w2
        have n1 : ¬ OB ro n C L P u w < (m : Int) := fun t2 => by
          have := c.mpr t2
          omega
        have h2 := hi (by omega)
        by_cases q : OB ro n C L P u v = OB ro n C L P u w
        · have q2 := inj v w v2 w2 q
          rw [q2] at v4
          exact z (Int32.toInt_inj.mp (by omega))
        · have := mono v w v1 w1 v2 w2 (by omega)
          omega
  unfold wp_X9_onesAhead wp_X9_onesAhead_2
  refine ⟨fun k x1 x2 => x1 = a1 ∧ ∃ m : Nat, x2.toInt = (m : Int) ∧ (m : Int) ≤ OB ro n C L P u 512 ∧ (∀ k : Nat, k < m → (b9g_ones S k).toInt < a1.toInt) ∧ k = 513 - m, ⟨_, rfl, 0, rfl, by omega, fun k hk => by omega, rfl⟩, ?_⟩
  rintro k x1 x2 ⟨rfl, m, hm, m5, lo, hk⟩
  have em : x2.toNatClampNeg = m := by
    show x2.toInt.toNat = m
    omega
  unfold wp_X9_onesAhead_2b
  refine ⟨fun c => ?_, fun c => ?_⟩
  · simp only [pn] at c
    exact fin x2 m hm m5 lo (fun t => by omega)
  simp only [pn] at c
  rw [em]
  refine ⟨pt_in (by omega) (by omega), fun d => ?_, fun d => ?_⟩
  · simp only [pn] at d
    exact fin x2 m hm m5 lo (fun _ => d)
  · simp only [pn] at d
    refine ⟨513 - (m + 1), by omega, rfl, m + 1, by rw [pt_add (by rw [pl_1]; omega) (by rw [pl_1]; omega), pl_1, hm]; omega, by omega, fun q hq2 => ?_, rfl⟩
    by_cases z : q = m
    · rw [z]
      omega
    · exact lo q (by omega)
theorem E_node {n : Nat} {C L : Nat → Nat} {P : Nat → Nat → Nat} (G : GRD n C L P) {p w : Nat} (hp : p < 512 → IsN n C P p) (pw : p ≤ w) (hw : w < 512) (hE : IsE n C P w) : ∃ v : Nat, p ≤ v ∧ v ≤ w ∧ IsN n C P v := by
  obtain ⟨s, s1, s2, s3, _⟩ := EDG_st G hE
  have hs : IsN n C P (64 * (w / 64) + s) := (IsN_at (by omega)).mpr s2
  by_cases z : p ≤ 64 * (w / 64) + s
  · exact ⟨_, z, by omega, hs⟩
  · exfalso
    have hN := hp (by omega)
    have a : NB n C P (p + 1) = NB n C P p + 1 := CTP_y hN
    have b : NB n C P (64 * (w / 64) + s + 1) = NB n C P (64 * (w / 64) + s) + 1 := CTP_y hs
    have c := NB_mono (n := n) (C := C) (P := P) (show 64 * (w / 64) + s + 1 ≤ p by omega)
    have d := NB_mono (n := n) (C := C) (P := P) (show p + 1 ≤ w + 1 by omega)
    omega
/-! answers about rows of bits -/
def BTV (ro n : Nat) (C L : Nat → Nat) (P : Nat → Nat → Nat) (f : Nat → Int64) (u : Nat) (i r : Int) : Prop := (0 ≤ i ∧ i < RL ro n C P u → r = RK ro n C L P f u (i + 1) - RK ro n C L P f u i) ∧ (¬ (0 ≤ i ∧ i < RL ro n C P u) → r = -1)
def RKV (ro n : Nat) (C L : Nat → Nat) (P : Nat → Nat → Nat) (f : Nat → Int64) (u : Nat) (i r : Int) : Prop := (0 ≤ i ∧ i ≤ RL ro n C P u → r = RK ro n C L P f u i) ∧ (¬ (0 ≤ i ∧ i ≤ RL ro n C P u) → r = -1)
theorem RK_rng {ro n : Nat} {C L : Nat → Nat} {P : Nat → Nat → Nat} {f : Nat → Int64} {u : Nat} {i : Int} : 0 ≤ RK ro n C L P f u i ∧ RK ro n C L P f u i ≤ 512 := CTP_rng _ 512
theorem RL_nn {ro n : Nat} {C : Nat → Nat} {P : Nat → Nat → Nat} {u : Nat} (hu : u ≤ 8) : 0 ≤ RL ro n C P u := by
  unfold RL
  have a := NB_nn (n := n) (C := C) (P := P) (64 * u)
  have b := EB_mono (n := n) (C := C) (P := P) (show 64 * u ≤ 512 by omega)
  by_cases z1 : ro ≤ 1
  · rw [if_pos z1]
    omega
  · rw [if_neg z1]
    by_cases z2 : ro = 2
    · rw [if_pos z2]
      exact a
    · rw [if_neg z2]
      omega
theorem R_row {x x' y y' r q : Int32} {T : Nat → Int32} {n : Int32} (h : x.toInt = y.toInt ∧ 0 ≤ x.toInt ∧ x.toInt ≤ 5) (e : r.toInt = q.toInt) (hr : RWE T n r) (a : (r.toInt = -1 → x' = x) ∧ (r.toInt ≠ -1 → x' = r)) (b : (q.toInt = -1 → y' = y) ∧ (q.toInt ≠ -1 → y' = q)) : x'.toInt = y'.toInt ∧ 0 ≤ x'.toInt ∧ x'.toInt ≤ 5 := by
  by_cases z : r.toInt = -1
  · rw [a.1 z, b.1 (by omega)]
    exact h
  · rw [a.2 z, b.2 (by omega)]
    refine ⟨e, ?_⟩
    rcases hr with ⟨m, hm, e2, _⟩ | ⟨e2, _⟩
    · omega
    · exact absurd e2 z
theorem AGX_o {X : bT1} {S : bT9} (h : AGX X S) : (∀ ro u w, IsO ro (tn X) (tC X) (tL X) (tP X) u w ↔ IsO ro (n9 S) (C9 S) (L9 S) (P9 S) u w) ∧ (∀ ro u w, IsO ro (n9 S) (C9 S) (L9 S) (P9 S) u w → VO ro (tn X) (tC X) (tP X) (b0g_bytes (b1g_owners X)) u w = VO ro (n9 S) (C9 S) (P9 S) (fun j => b9g_keys S (64 + j)) u w) ∧ (∀ ro u, RL ro (tn X) (tC X) (tP X) u = RL ro (n9 S) (C9 S) (P9 S) u) ∧ (∀ ro u w, OB ro (tn X) (tC X) (tL X) (tP X) u w = OB ro (n9 S) (C9 S) (L9 S) (P9 S) u w) ∧ (∀ ro u i, RK ro (tn X) (tC X) (tL X) (tP X) (b0g_bytes (b1g_owners X)) u i = RK ro (n9 S) (C9 S) (L9 S) (P9 S) (fun j => b9g_keys S (64 + j)) u i) := by
  obtain ⟨eN, eE, _, eNB, eEB, _⟩ := AGX_g h
  obtain ⟨hn, hC, hL, hP, hf⟩ := h
  rw [hn] at eN eE eNB eEB ⊢
  have a : ∀ ro u w, IsO ro (n9 S) (tC X) (tL X) (tP X) u w ↔ IsO ro (n9 S) (C9 S) (L9 S) (P9 S) u w := fun ro u w => IsO_cg hC hL eE eN ro u w
  have b : ∀ ro u w, IsO ro (n9 S) (C9 S) (L9 S) (P9 S) u w → VO ro (n9 S) (tC X) (tP X) (b0g_bytes (b1g_owners X)) u w = VO ro (n9 S) (C9 S) (P9 S) (fun j => b9g_keys S (64 + j)) u w := fun ro u w o => VO_cg eNB eEB hf (IsO_in o)
  refine ⟨a, b, fun ro u => RL_cg eNB eEB, fun ro u w => OB_cg hC hL eE eN ro u w, fun ro u i => CTP_congr 512 (fun w _ => ⟨fun z => ⟨(a ro u w).mp z.1, ?_⟩, fun z => ⟨(a ro u w).mpr z.1, ?_⟩⟩)⟩
  · rw [← b ro u w ((a ro u w).mp z.1)]
    exact z.2
  · rw [b ro u w z.1]
    exact z.2
theorem C_ones {X : bT1} {P : bT3} {S : bT9} {cx cy : Int32} (h9 : 0 ≤ (b9g_now S 9).toInt) (hx : LFP X (b9g_now S) (fun j => b9g_keys S (64 + j)) (fun j => b9g_lengths S (64 + j))) (hb : (b9g_now S 9).toInt = 0 ∨ (b3g_values P 2 + 1 = b9g_now S 13 ∧ b3g_values P 3 = b9g_now S 14)) (hd : DB2 P) (hc : cx.toInt = cy.toInt ∧ 0 ≤ cx.toInt ∧ cx.toInt ≤ 5) {A B : Prop} (ha : A) (hbb : B) {M1 M2 : Nat → Nat → Prop} (h : A → ∀ ro : Nat, cx.toInt = (ro : Int) → ro ≤ 5 → ∃ k lv : Nat, UPX X (b3g_values P 2) (b3g_values P 3) k lv ∧ M1 ro k) (h2 : B → ∀ ro : Nat, cy.toInt = (ro : Int) → ro ≤ 5 → ∃ k lv : Nat, UPD S k lv ∧ M2 ro k) : ∃ ro k : Nat, k ≤ 8 ∧ M1 ro k ∧ M2 ro k := by
  have ag := AGX_of h9 hx
  obtain ⟨ro, hr⟩ : ∃ ro : Nat, cx.toInt = (ro : Int) := ⟨cx.toInt.toNat, by omega⟩
  obtain ⟨k, lv, u1, u2⟩ := h ha ro hr (by omega)
  obtain ⟨k', lv', v1, v2⟩ := h2 hbb ro (by omega) (by omega)
  obtain ⟨e1, e2⟩ := UPQ ag hb hd u1 v1
  have e3 := v1.2.1
  have e4 := v1.2.2.1
  refine ⟨ro, k', by omega, ?_, v2⟩
  rw [← e1]
  exact u2
theorem C_bit {X : bT1} {P : bT3} {S : bT9} {cx cy a r q : Int32} (h9 : 0 ≤ (b9g_now S 9).toInt) (hx : LFP X (b9g_now S) (fun j => b9g_keys S (64 + j)) (fun j => b9g_lengths S (64 + j))) (hb : (b9g_now S 9).toInt = 0 ∨ (b3g_values P 2 + 1 = b9g_now S 13 ∧ b3g_values P 3 = b9g_now S 14)) (hd : DB2 P) (hc : cx.toInt = cy.toInt ∧ 0 ≤ cx.toInt ∧ cx.toInt ≤ 5) {A B : Prop} (ha : A) (hbb : B) (h : A → ∀ ro : Nat, cx.toInt = (ro : Int) → ro ≤ 5 → ∃ k lv : Nat, UPX X (b3g_values P 2) (b3g_values P 3) k lv ∧ BTV ro (tn X) (tC X) (tL X) (tP X) (b0g_bytes (b1g_owners X)) k a.toInt r.toInt) (h2 : B → ∀ ro : Nat, cy.toInt = (ro : Int) → ro ≤ 5 → ∃ k lv : Nat, UPD S k lv ∧ BTV ro (n9 S) (C9 S) (L9 S) (P9 S) (fun j => b9g_keys S (64 + j)) k a.toInt q.toInt) : r.toInt = q.toInt := by
  obtain ⟨ro, k, _, m1, m2⟩ := C_ones h9 hx hb hd hc ha hbb h h2
  obtain ⟨_, _, eR, _, eK⟩ := AGX_o (AGX_of h9 hx)
  unfold BTV at m1 m2
  rw [eR, eK, eK] at m1
  by_cases z : 0 ≤ a.toInt ∧ a.toInt < RL ro (n9 S) (C9 S) (P9 S) k
  · rw [m1.1 z, m2.1 z]
  · rw [m1.2 z, m2.2 z]
theorem C_rank {X : bT1} {P : bT3} {S : bT9} {cx cy a r q : Int32} (h9 : 0 ≤ (b9g_now S 9).toInt) (hx : LFP X (b9g_now S) (fun j => b9g_keys S (64 + j)) (fun j => b9g_lengths S (64 + j))) (hb : (b9g_now S 9).toInt = 0 ∨ (b3g_values P 2 + 1 = b9g_now S 13 ∧ b3g_values P 3 = b9g_now S 14)) (hd : DB2 P) (hc : cx.toInt = cy.toInt ∧ 0 ≤ cx.toInt ∧ cx.toInt ≤ 5) {A B : Prop} (ha : A) (hbb : B) (h : A → ∀ ro : Nat, cx.toInt = (ro : Int) → ro ≤ 5 → ∃ k lv : Nat, UPX X (b3g_values P 2) (b3g_values P 3) k lv ∧ RKV ro (tn X) (tC X) (tL X) (tP X) (b0g_bytes (b1g_owners X)) k a.toInt r.toInt) (h2 : B → ∀ ro : Nat, cy.toInt = (ro : Int) → ro ≤ 5 → ∃ k lv : Nat, UPD S k lv ∧ RKV ro (n9 S) (C9 S) (L9 S) (P9 S) (fun j => b9g_keys S (64 + j)) k a.toInt q.toInt) : r.toInt = q.toInt := by
  obtain ⟨ro, k, _, m1, m2⟩ := C_ones h9 hx hb hd hc ha hbb h h2
  obtain ⟨_, _, eR, _, eK⟩ := AGX_o (AGX_of h9 hx)
  unfold RKV at m1 m2
  rw [eR, eK] at m1
  by_cases z : 0 ≤ a.toInt ∧ a.toInt ≤ RL ro (n9 S) (C9 S) (P9 S) k
  · rw [m1.1 z, m2.1 z]
  · rw [m1.2 z, m2.2 z]
theorem C_select {X : bT1} {P : bT3} {S : bT9} {cx cy a r q : Int32} (h9 : 0 ≤ (b9g_now S 9).toInt) (hx : LFP X (b9g_now S) (fun j => b9g_keys S (64 + j)) (fun j => b9g_lengths S (64 + j))) (hb : (b9g_now S 9).toInt = 0 ∨ (b3g_values P 2 + 1 = b9g_now S 13 ∧ b3g_values P 3 = b9g_now S 14)) (hd : DB2 P) (hc : cx.toInt = cy.toInt ∧ 0 ≤ cx.toInt ∧ cx.toInt ≤ 5) {A B : Prop} (ha : A) (hbb : B) (h : A → ∀ ro : Nat, cx.toInt = (ro : Int) → ro ≤ 5 → ∃ k lv : Nat, UPX X (b3g_values P 2) (b3g_values P 3) k lv ∧ SEL ro (tn X) (tC X) (tL X) (tP X) (b0g_bytes (b1g_owners X)) k a.toInt r.toInt) (h2 : B → ∀ ro : Nat, cy.toInt = (ro : Int) → ro ≤ 5 → ∃ k lv : Nat, UPD S k lv ∧ SEL ro (n9 S) (C9 S) (L9 S) (P9 S) (fun j => b9g_keys S (64 + j)) k a.toInt q.toInt) : r.toInt = q.toInt := by
  obtain ⟨ro, k, _, m1, m2⟩ := C_ones h9 hx hb hd hc ha hbb h h2
  obtain ⟨eI, eV, _, eO, _⟩ := AGX_o (AGX_of h9 hx)
  refine SEL_one (ro := ro) (n := n9 S) (C := C9 S) (L := L9 S) (P := P9 S) (f := fun j => b9g_keys S (64 + j)) (u := k) (k := a.toInt) ?_ m2
  rcases m1 with ⟨w, w1, w2, w3, w4⟩ | ⟨w1, w2⟩
  · have o := (eI ro k w).mp w2
    exact Or.inl ⟨w, w1, o, by rw [← eO]; exact w3, by rw [w4]; exact eV ro k w o⟩
  · exact Or.inr ⟨w1, by rw [← eO]; exact w2⟩
/-! how many bits -/
def BIV (ro n : Nat) (C L : Nat → Nat) (P : Nat → Nat → Nat) (u : Nat) (tl a r : Int32) : Prop := (a.toInt = 0 → r.toInt = BTN n C P u) ∧ (a.toInt = 1 → r.toInt = BTE n C P u) ∧ (a.toInt = 2 → r = tl) ∧ (a.toInt = 3 → ∃ x : Int32, x.toInt = BTS n C P u ∧ r = x + tl) ∧ (a.toInt = 4 → r.toInt = 8 * SMB (fun i => min (L i) 8) n) ∧ (a.toInt = 5 → r.toInt = RL ro n C P u) ∧ (a.toInt = 6 → r.toInt = OB ro n C L P u 512) ∧ (¬ (0 ≤ a.toInt ∧ a.toInt ≤ 6) → r.toInt = -1)
theorem BIV_one {ro n : Nat} {C L : Nat → Nat} {P : Nat → Nat → Nat} {u : Nat} {tl a r q : Int32} (h : BIV ro n C L P u tl a r) (g : BIV ro n C L P u tl a q) : r.toInt = q.toInt := by
  obtain ⟨h0, h1, h2, h3, h4, h5, h6, h7⟩ := h
  obtain ⟨g0, g1, g2, g3, g4, g5, g6, g7⟩ := g
  by_cases z : 0 ≤ a.toInt ∧ a.toInt ≤ 6
  · by_cases z0 : a.toInt = 0
    · rw [h0 z0, g0 z0]
    by_cases z1 : a.toInt = 1
    · rw [h1 z1, g1 z1]
    by_cases z2 : a.toInt = 2
    · rw [h2 z2, g2 z2]
    by_cases z3 : a.toInt = 3
    · obtain ⟨x, x1, x2⟩ := h3 z3
      obtain ⟨y, y1, y2⟩ := g3 z3
      rw [x2, y2, show x = y from Int32.toInt_inj.mp (by omega)]
    by_cases z4 : a.toInt = 4
    · rw [h4 z4, g4 z4]
    by_cases z5 : a.toInt = 5
    · rw [h5 z5, g5 z5]
    · rw [h6 (by omega), g6 (by omega)]
  · rw [h7 z, g7 z]
theorem SMB_len {L : Nat → Nat} (n : Nat) : 0 ≤ SMB (fun i => min (L i) 8) n ∧ SMB (fun i => min (L i) 8) n ≤ 8 * (n : Int) := SMB_rng (fun i => Nat.min_le_right _ _) n
theorem fx0_allBytes {X : bT1} (o : LVO X) (j : J1 X) {Q : Int32 → Prop} (hq : ∀ r : Int32, r.toInt = SMB (fun i => min (tL X i) 8) (tn X) → Q r) : wp_X0_allBytes (b1g_owners X) Q := by
  have jn := tnn j
  have jo := J0g_count (J1g_owners j)
  have G := tG o j
  unfold wp_X0_allBytes wp_X0_allBytes_4
  refine ⟨fun k x1 x2 => ∃ i : Nat, x2.toInt = (i : Int) ∧ i ≤ tn X ∧ x1.toInt = SMB (fun i => min (tL X i) 8) i ∧ k = 64 - i, ⟨_, 0, rfl, by omega, rfl, rfl⟩, ?_⟩
  rintro k x1 x2 ⟨i, e2, hi, hv, hk⟩
  have cr := SMB_len (L := tL X) i
  suffices H : ∀ B : Int32 → Int32 → Prop, (∀ v : Int32, i < tn X → v.toInt = SMB (fun i => min (tL X i) 8) (i + 1) → B v (x2 + 1)) → wp_X0_allBytes_4b (b1g_owners X) x1 x2 Q B from H _ (fun v h t => ⟨64 - (i + 1), by omega, i + 1, by rw [pt_add (by rw [pl_1]; omega) (by rw [pl_1]; omega), pl_1, e2]; omega, by omega, t, rfl⟩)
  intro B hB
  unfold wp_X0_allBytes_4b
  refine ⟨fun c => ?_, fun c => ?_⟩
  · simp only [pn] at c
    have ei : i = tn X := by omega
    rw [ei] at hv
    exact hq x1 hv
  simp only [pn] at c
  refine fx_lengthAt (J1g_owners j) (fun r1 hr _ => hB _ (by omega) ?_)
  have er := hr i (by omega) (by omega)
  have b1 := o.2.1.2 i (by omega)
  have tl : ((tL X i : Nat) : Int) = (b0g_lengths (b1g_owners X) i).toInt := by
    show (((b0g_lengths (b1g_owners X) i).toInt.toNat : Nat) : Int) = _
    omega
  rw [er]
  show (x1 + b0g_lengths (b1g_owners X) i).toInt = SMB (fun i => min (tL X i) 8) i + ((min (tL X i) 8 : Nat) : Int)
  rw [pt_add (by omega) (by omega), hv]
  omega
theorem fx9_keyBits {S : bT9} (hK : K9 S) {Q : Int32 → Prop} (hq : ∀ r : Int32, r.toInt = 8 * SMB (fun i => min (L9 S i) 8) (n9 S) → Q r) : wp_X9_keyBits S Q := by
  have jn := (K9g_now hK).2.2.2.1
  have en : ((n9 S : Nat) : Int) = (b9g_now S 9).toInt := by unfold n9; omega
  unfold wp_X9_keyBits wp_X9_keyBits_4
  refine ⟨fun k x1 x2 => ∃ i : Nat, x2.toInt = (i : Int) ∧ i ≤ n9 S ∧ x1.toInt = 8 * SMB (fun i => min (L9 S i) 8) i ∧ k = 64 - i, ⟨_, 0, rfl, by omega, rfl, rfl⟩, ?_⟩
  rintro k x1 x2 ⟨i, e2, hi, hv, hk'⟩
  have cr := SMB_len (L := L9 S) i
  suffices H : ∀ B : Int32 → Int32 → Prop, (∀ v : Int32, i < n9 S → v.toInt = 8 * SMB (fun i => min (L9 S i) 8) (i + 1) → B v (x2 + 1)) → wp_X9_keyBits_4b S x1 x2 Q B from H _ (fun v h t => ⟨64 - (i + 1), by omega, i + 1, by rw [pt_add (by rw [pl_1]; omega) (by rw [pl_1]; omega), pl_1, e2]; omega, by omega, t, rfl⟩)
  intro B hB
  have e9 : b9g_now S ((9 : Int32)).toNatClampNeg = b9g_now S 9 := rfl
  have ei : x2.toNatClampNeg = i := by
    show x2.toInt.toNat = i
    omega
  unfold wp_X9_keyBits_4b
  rw [e9]
  refine ⟨pt_in (by decide) (by decide), fun c => ?_, fun c => ?_⟩
  · simp only [pn] at c
    have ei : i = n9 S := by omega
    rw [ei] at hv
    exact hq x1 hv
  simp only [pn] at c
  refine fx9_lengthOf (by omega) (by omega) ?_
  rw [ei]
  refine hB _ (by omega) ?_
  have jl := K9g_lengths hK (64 + i)
  have tl : ((L9 S i : Nat) : Int) = (b9g_lengths S (64 + i)).toInt := by
    show (((b9g_lengths S (64 + i)).toInt.toNat : Nat) : Int) = _
    omega
  have c8 : ((8 : Int32)).toInt = 8 := rfl
  have m8 : ((8 : Int32) * b9g_lengths S (64 + i)).toInt = 8 * (b9g_lengths S (64 + i)).toInt := by rw [pt_mul (by rw [c8]; omega) (by rw [c8]; omega), c8]
  show (x1 + 8 * b9g_lengths S (64 + i)).toInt = 8 * (SMB (fun i => min (L9 S i) 8) i + ((min (L9 S i) 8 : Nat) : Int))
  rw [pt_add (by omega) (by omega), hv, m8]
  omega
theorem C_bits {X : bT1} {P : bT3} {S : bT9} {cx cy a r q : Int32} (h9 : 0 ≤ (b9g_now S 9).toInt) (hx : LFP X (b9g_now S) (fun j => b9g_keys S (64 + j)) (fun j => b9g_lengths S (64 + j))) (hb : (b9g_now S 9).toInt = 0 ∨ (b3g_values P 2 + 1 = b9g_now S 13 ∧ b3g_values P 3 = b9g_now S 14)) (hd : DB2 P) (hc : cx.toInt = cy.toInt ∧ 0 ≤ cx.toInt ∧ cx.toInt ≤ 5) {A B : Prop} (ha : A) (hbb : B) (h : A → ∀ ro : Nat, cx.toInt = (ro : Int) → ro ≤ 5 → ∃ k lv : Nat, UPX X (b3g_values P 2) (b3g_values P 3) k lv ∧ BIV ro (tn X) (tC X) (tL X) (tP X) k (TLB (b0g_count (b1g_owners X)) (b1g_hashBits X) (b1g_realBits X)) a r) (h2 : B → ∀ ro : Nat, cy.toInt = (ro : Int) → ro ≤ 5 → ∃ k lv : Nat, UPD S k lv ∧ BIV ro (n9 S) (C9 S) (L9 S) (P9 S) k (TLB (b9g_now S 9) (HBT (b9g_now S)) (NBT (b9g_now S))) a q) : r.toInt = q.toInt := by
  obtain ⟨ro, k, _, m1, m2⟩ := C_ones h9 hx hb hd hc ha hbb h h2
  have ag := AGX_of h9 hx
  obtain ⟨_, _, eR, eO, _⟩ := AGX_o ag
  obtain ⟨_, _, _, eN, eE, _⟩ := AGX_g ag
  have c2 : SMB (fun i => min (tL X i) 8) (tn X) = SMB (fun i => min (L9 S i) 8) (n9 S) := by
    rw [ag.1]
    exact SMB_congr _ (fun i hi => by show min (tL X i) 8 = min (L9 S i) 8; rw [ag.2.2.1 i hi])
  refine BIV_one (ro := ro) (n := n9 S) (C := C9 S) (L := L9 S) (P := P9 S) (u := k) (tl := TLB (b9g_now S 9) (HBT (b9g_now S)) (NBT (b9g_now S))) ?_ m2
  unfold BIV BTS BTN BTE at m1
  unfold BIV BTS BTN BTE
  rw [TLB_eq hx, eN, eE, eE, c2, eR, eO] at m1
  exact m1

