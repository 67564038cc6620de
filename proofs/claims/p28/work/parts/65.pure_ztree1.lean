theorem bxa (x y z : BitVec 64) : (x ^^^ y) &&& z = 0#64 ↔ x &&& z = y &&& z := by
  constructor
  · intro h
    apply BitVec.eq_of_getLsbD_eq
    intro i hi
    have q := congrArg (fun v => BitVec.getLsbD v i) h
    simp only [BitVec.getLsbD_and, BitVec.getLsbD_xor, BitVec.getLsbD_zero] at q ⊢
    revert q
    cases x.getLsbD i <;> cases y.getLsbD i <;> cases z.getLsbD i <;> decide
  · intro h
    apply BitVec.eq_of_getLsbD_eq
    intro i hi
    have q := congrArg (fun v => BitVec.getLsbD v i) h
    simp only [BitVec.getLsbD_and, BitVec.getLsbD_xor, BitVec.getLsbD_zero] at q ⊢
    revert q
    cases x.getLsbD i <;> cases y.getLsbD i <;> cases z.getLsbD i <;> decide
theorem lg0 (x : Int64) : lg_cmp x 0 = 0 ↔ x = 0 := by
  unfold lg_cmp
  by_cases h : x = 0
  · rw [h, if_neg (by decide), if_pos rfl]
    exact ⟨fun _ => rfl, fun _ => rfl⟩
  · by_cases g : x > 0
    · rw [if_pos g]
      exact ⟨fun q => absurd q (by decide), fun q => absurd q h⟩
    · rw [if_neg g, if_neg h]
      exact ⟨fun q => absurd q (by decide), fun q => absurd q h⟩
theorem xfr {a b F : Int64} {l : Int32} (h0 : 0 ≤ l.toInt) (h8 : l.toInt ≤ 8) (h1 : 1 ≤ l.toInt → l.toInt ≤ 8 → F = frontf l) (h2 : l.toInt ≤ 0 → F = 0) : lg_cmp ((a ^^^ b) &&& F) 0 = 0 ↔ PX (ub a) l.toInt.toNat = PX (ub b) l.toInt.toNat := by
  rw [lg0]
  by_cases z : l.toInt ≤ 0
  · rw [h2 z, show l.toInt.toNat = 0 by omega, PX_0 (ub_lt a), PX_0 (ub_lt b)]
    refine ⟨fun _ => rfl, fun _ => ?_⟩
    apply Int64.toBitVec_inj.mp
    show (a ^^^ b).toBitVec &&& 0#64 = 0#64
    exact BitVec.and_zero
  · have l1 : 1 ≤ l.toInt := by omega
    have e : (a ^^^ b) &&& F = 0 ↔ a &&& F = b &&& F := by
      rw [← Int64.toBitVec_inj, ← Int64.toBitVec_inj]
      exact bxa a.toBitVec b.toBitVec F.toBitVec
    rw [e, h1 l1 h8, and_front a l1 h8, and_front b l1 h8]
    have ca := ub_cut a l1 h8
    have cb := ub_cut b l1 h8
    have pos : 0 < 2 ^ (64 - 8 * l.toInt.toNat) := Nat.two_pow_pos _
    constructor
    · intro h
      rw [h] at ca
      exact Nat.eq_of_mul_eq_mul_right pos (by rw [← ca, ← cb])
    · intro h
      exact ub_inj (by rw [ca, cb, h])
def FR6 (T S : bT6) : Prop := b6g_edgeStarts T = b6g_edgeStarts S ∧ b6g_levelStarts T = b6g_levelStarts S ∧ b6g_levels T = b6g_levels S
theorem fx6_addNode {S : bT6} {a1 a2 : Int32} {m : Nat} {Q : bT6 → Prop} (hm : (b6g_nodes S).toInt = (m : Int)) (h : m < 232) (hq : ∀ u : bT6, (b6g_nodes u).toInt = (m : Int) + 1 → b6g_nodeLevels u = upd (b6g_nodeLevels S) m a1 → b6g_firstLeaves u = upd (b6g_firstLeaves S) m a2 → b6g_leafCounts u = upd (b6g_leafCounts S) m 0 → FR6 u S → Q u) : wp_X6_addNode S a1 a2 Q := by
  have em : (b6g_nodes S).toNatClampNeg = m := by
    show (b6g_nodes S).toInt.toNat = m
    omega
  unfold wp_X6_addNode
  refine ⟨fun c => ?_, fun _ => ⟨pt_in (by omega) (by omega), fun S1 e1 => ?_⟩⟩
  · simp only [pn] at c
    omega
  have n1 : b6g_nodes S1 = b6g_nodes S := by rw [e1]
  rw [n1]
  refine ⟨pt_in (by omega) (by omega), fun S2 e2 => ?_⟩
  have n2 : b6g_nodes S2 = b6g_nodes S := by rw [e2]; exact n1
  rw [n2]
  refine ⟨pt_in (by omega) (by omega), fun S3 e3 S4 e4 => ?_⟩
  have n3 : b6g_nodes S3 = b6g_nodes S := by rw [e3]; exact n2
  rw [em] at e1 e2 e3
  refine hq S4 ?_ (by rw [e4, e3, e2, e1]) (by rw [e4, e3, e2, e1]) (by rw [e4, e3, e2, e1]) (by rw [e4, e3, e2, e1]; exact ⟨rfl, rfl, rfl⟩)
  rw [e4]
  show (b6g_nodes S3 + 1).toInt = _
  rw [n3, pt_add (by rw [pl_1]; omega) (by rw [pl_1]; omega), pl_1, hm]
theorem fx6_findNodesOf {S : bT6 × bT1} {a1 : Int32} {l : Nat} {Q : (bT6 × bT1) → Prop} (o : LVO S.2) (j : J1 S.2) (hl : a1.toInt = (l : Int)) (h7 : l ≤ 7) (hn : (b6g_nodes S.1).toInt = NB (tn S.2) (tC S.2) (tP S.2) (64 * l)) (hN : NOD (tn S.2) (tC S.2) (tP S.2) (b6g_nodeLevels S.1) (b6g_firstLeaves S.1) (b6g_leafCounts S.1) l 0) (hq : ∀ u : bT6 × bT1, u.2 = S.2 → FR6 u.1 S.1 → (b6g_nodes u.1).toInt = NB (tn S.2) (tC S.2) (tP S.2) (64 * l + tn S.2) → NOD (tn S.2) (tC S.2) (tP S.2) (b6g_nodeLevels u.1) (b6g_firstLeaves u.1) (b6g_leafCounts u.1) l (tn S.2) → Q u) : wp_X6_findNodesOf S a1 Q := by
  have G := tG o j
  have jn := tnn j
  have g64 := G.1
  unfold wp_X6_findNodesOf wp_X6_findNodesOf_5
  refine ⟨fun k x1 x3 x4 V => ∃ i : Nat, x4.toInt = (i : Int) ∧ a1 = x1 ∧ V.2 = S.2 ∧ FR6 V.1 S.1 ∧ i ≤ tn S.2 ∧ (b6g_nodes V.1).toInt = NB (tn S.2) (tC S.2) (tP S.2) (64 * l + i) ∧ NOD (tn S.2) (tC S.2) (tP S.2) (b6g_nodeLevels V.1) (b6g_firstLeaves V.1) (b6g_leafCounts V.1) l i ∧ ((x3.toInt = -1 ∧ ∀ q, q < i → tC S.2 q < l) ∨ ∃ q : Nat, x3.toInt = (q : Int) ∧ q < i ∧ l ≤ tC S.2 q ∧ ∀ t, q < t → t < i → tC S.2 t < l) ∧ k = tn S.2 - i, ⟨_, 0, rfl, rfl, rfl, ⟨rfl, rfl, rfl⟩, Nat.zero_le _, hn, hN, Or.inl ⟨rfl, fun q hq => by omega⟩, rfl⟩, ?_⟩
  rintro k x1 x3 x4 V ⟨i, e4, rfl, eV, hf, hin, hm, hO, hlat, hk⟩
  suffices H : ∀ B : Int32 → Int32 → Int32 → (bT6 × bT1) → Prop, (∀ (z : Int32) (T : bT6 × bT1), T.2 = S.2 → FR6 T.1 S.1 → (b6g_nodes T.1).toInt = NB (tn S.2) (tC S.2) (tP S.2) (64 * l + (i + 1)) → NOD (tn S.2) (tC S.2) (tP S.2) (b6g_nodeLevels T.1) (b6g_firstLeaves T.1) (b6g_leafCounts T.1) l (i + 1) → ((z.toInt = -1 ∧ ∀ q, q < i + 1 → tC S.2 q < l) ∨ ∃ q : Nat, z.toInt = (q : Int) ∧ q < i + 1 ∧ l ≤ tC S.2 q ∧ ∀ t, q < t → t < i + 1 → tC S.2 t < l) → i < tn S.2 → B a1 z (x4 + 1) T) → wp_X6_findNodesOf_5b V a1 x3 x4 Q B from H _ (fun z T t1 t2 t3 t4 t5 hi => ⟨tn S.2 - (i + 1), by omega, i + 1, by rw [pt_add (by rw [pl_1]; omega) (by rw [pl_1]; omega), pl_1, e4]; omega, rfl, t1, t2, by omega, t3, t4, t5, rfl⟩)
  intro B hB
  unfold wp_X6_findNodesOf_5b wp_X1_count
  rw [eV]
  refine ⟨fun c => ?_, fun c => ?_⟩
  · simp only [pn] at c
    have e : i = tn S.2 := by omega
    rw [e] at hm hO
    exact hq V eV hf hm hO
  simp only [pn] at c
  have hi : i < tn S.2 := by omega
  have ai := G.2.1 i hi
  have nb := NB_le G h7 (i := i) (by omega)
  have skip : tC S.2 i < l → wp_X6_findNodesOf_47 V a1 x3 x4 Q B := by
    intro h
    unfold wp_X6_findNodesOf_47 wp_X6_findNodesOf_48 wp_X6_findNodesOf_134
    refine ⟨fun _ => hB x3 V eV hf ?_ (NOD_skip hO (by omega) h) ?_ hi, fun c => absurd rfl c⟩
    · rw [hm]
      exact (CTP_n (fun z => by have := ((IsN_at (by omega)).mp z).2.1; omega)).symm
    · rcases hlat with ⟨p1, p2⟩ | ⟨q, p1, p2, p3, p4⟩
      · refine Or.inl ⟨p1, fun q hq => ?_⟩
        by_cases y : q = i
        · rw [y]; exact h
        · exact p2 q (by omega)
      · refine Or.inr ⟨q, p1, by omega, p3, fun t t1 t2 => ?_⟩
        by_cases y : t = i
        · rw [y]; exact h
        · exact p4 t t1 (by omega)
  have yes : l ≤ tC S.2 i → wp_X6_findNodesOf_43 V a1 x3 x4 Q B := by
    intro hc
    have inc : ∀ T : bT6 × bT1, T.2 = S.2 → FR6 T.1 S.1 → 0 < (b6g_nodes T.1).toInt → (b6g_nodes T.1).toInt ≤ 232 → (b6g_nodes T.1).toInt = NB (tn S.2) (tC S.2) (tP S.2) (64 * l + (i + 1)) → (∀ ls2 : Nat → Int32, (∀ x : Nat, (x : Int) + 1 ≠ (b6g_nodes T.1).toInt → ls2 x = b6g_leafCounts T.1 x) → (∀ x : Nat, (x : Int) + 1 = (b6g_nodes T.1).toInt → ls2 x = b6g_leafCounts T.1 x + 1) → NOD (tn S.2) (tC S.2) (tP S.2) (b6g_nodeLevels T.1) (b6g_firstLeaves T.1) ls2 l (i + 1)) → wp_X6_findNodesOf_99 T a1 x4 Q B := by
      intro T t1 t2 t3 t4 t5 t6
      have es : (b6g_nodes T.1 - 1).toInt = (b6g_nodes T.1).toInt - 1 := by rw [pt_sub (by rw [pl_1]; omega) (by rw [pl_1]; omega), pl_1]
      have ec : (((b6g_nodes T.1 - 1).toNatClampNeg : Nat) : Int) = (b6g_nodes T.1).toInt - 1 := by rw [pt_clamp (by omega), es]
      unfold wp_X6_findNodesOf_99
      refine ⟨fun c => ?_, fun _ => ⟨fun c => ?_, fun _ => ⟨pt_in (by omega) (by omega), fun v1 ev => ⟨pt_in (by omega) (by omega), fun S2 e2 => ?_⟩⟩⟩⟩
      · simp only [pn] at c
        omega
      · simp only [pn] at c
        omega
      unfold wp_X6_findNodesOf_131 wp_X6_findNodesOf_134
      refine hB x4 S2 (by rw [e2]; exact t1) (by rw [e2]; exact t2) (by rw [e2]; exact t5) ?_ (Or.inr ⟨i, e4, by omega, hc, fun t a b => by omega⟩) hi
      rw [e2]
      refine t6 _ (fun x hx => up_n (by omega)) (fun x hx => ?_)
      have xe : x = (b6g_nodes T.1 - 1).toNatClampNeg := by omega
      rw [xe]
      show upd _ _ v1 _ = _
      rw [up_s, ev]
    have new : NST (tn S.2) (tC S.2) (tP S.2) l i → wp_X6_findNodesOf_92 V a1 x4 Q B := by
      intro hs
      obtain ⟨m, em⟩ : ∃ m : Nat, (b6g_nodes V.1).toInt = (m : Int) := ⟨(b6g_nodes V.1).toInt.toNat, by omega⟩
      have nx : NB (tn S.2) (tC S.2) (tP S.2) (64 * l + (i + 1)) = NB (tn S.2) (tC S.2) (tP S.2) (64 * l + i) + 1 := CTP_y ((IsN_at (by omega)).mpr hs)
      unfold wp_X6_findNodesOf_92
      refine fx6_addNode em (by omega) (fun u u1 u2 u3 u4 u5 S5 e5 => ?_)
      refine inc S5 (by rw [e5]; exact eV) (by rw [e5]; exact ⟨u5.1.trans hf.1, u5.2.1.trans hf.2.1, u5.2.2.trans hf.2.2⟩) (by rw [e5]; show 0 < (b6g_nodes u).toInt; omega) (by rw [e5]; show (b6g_nodes u).toInt ≤ 232; omega) (by rw [e5]; show (b6g_nodes u).toInt = _; rw [nx, u1, ← em, hm]) ?_
      rw [e5]
      intro ls2 p1 p2
      have p1' : ∀ x : Nat, (x : Int) + 1 ≠ (b6g_nodes u).toInt → ls2 x = b6g_leafCounts u x := p1
      have p2' : ∀ x : Nat, (x : Int) + 1 = (b6g_nodes u).toInt → ls2 x = b6g_leafCounts u x + 1 := p2
      show NOD _ _ _ (b6g_nodeLevels u) (b6g_firstLeaves u) ls2 l (i + 1)
      rw [u2, u3]
      refine NOD_new (m := m) hO (by omega) hs (by omega) (fun x hx => ?_) (by rw [up_s]; exact hl) (by rw [up_s]; exact e4) ?_
      · rw [up_n (by omega), up_n (by omega), p1' x (by omega), u4, up_n (by omega)]
        exact ⟨rfl, rfl, rfl⟩
      · rw [p2' m (by omega), u4, up_s]
        rfl
    have old : ¬ NST (tn S.2) (tC S.2) (tP S.2) l i → wp_X6_findNodesOf_99 V a1 x4 Q B := by
      intro hs
      have q0 : ¬ i = 0 := fun z => hs ⟨hi, hc, Or.inl z⟩
      have q : l ≤ tC S.2 (i - 1) ∧ tP S.2 l (i - 1) = tP S.2 l i := Classical.byContradiction (fun z => hs ⟨hi, hc, Or.inr z⟩)
      obtain ⟨s, s1, s2, s3, s4⟩ := GRP_st (P := tP S.2) g64 (i - 1) (by omega) q.1
      rw [show 64 * l + (i - 1) + 1 = 64 * l + i by omega] at s3
      have s5 := (NB_le G h7 (i := s) (by omega)).1
      have nx : NB (tn S.2) (tC S.2) (tP S.2) (64 * l + (i + 1)) = NB (tn S.2) (tC S.2) (tP S.2) (64 * l + i) := CTP_n (fun z => hs ((IsN_at (by omega)).mp z))
      refine inc V eV hf (by omega) (by omega) (by rw [nx]; exact hm) (fun ls2 p1 p2 => ?_)
      obtain ⟨m, em⟩ : ∃ m : Nat, (b6g_nodes V.1).toInt = (m : Int) + 1 := ⟨((b6g_nodes V.1).toInt - 1).toNat, by omega⟩
      refine NOD_old (m := m) hO g64 hi hs hc (by omega) (fun x hx => p1 x (by omega)) ?_
      obtain ⟨a, b, g, g1, g2, g3⟩ := hO (64 * l + s) m (by omega) ((IsN_at (by omega)).mpr s2) (by omega)
      have g4 := g2.2.1
      rw [p2 m (by omega), pt_add (by rw [pl_1]; omega) (by rw [pl_1]; omega), pl_1]
    unfold wp_X6_findNodesOf_43 wp_X6_findNodesOf_48
    refine ⟨fun c => absurd c (by decide), fun _ => ?_⟩
    rw [eV]
    refine fx_bytesAt (J1g_owners j) (fun r6 p6 _ => fx_bytesAt (J1g_owners j) (fun r8 p8 _ => ⟨fun c => new ?_, fun c => fx_front2 (fun r10 f1 f2 => ?_)⟩))
    · have c2 : x3.toInt = -1 := by rw [c]; rfl
      refine ⟨hi, hc, ?_⟩
      by_cases z : i = 0
      · exact Or.inl z
      · refine Or.inr (fun r => ?_)
        rcases hlat with ⟨_, p2⟩ | ⟨q, p1, _⟩
        · have := p2 (i - 1) (by omega)
          omega
        · omega
    · rcases hlat with ⟨p1, _⟩ | ⟨q, p1, p2, p3, p4⟩
      · exact absurd (Int32.toInt_inj.mp (p1.trans pl_m1.symm)) c
      · have k := xfr (a := r6) (b := r8) (l := a1) (by omega) (by omega) f1 f2
        have r6e : r6 = b0g_bytes (b1g_owners S.2) i := p6 i (by omega) (by omega)
        have r8e : r8 = b0g_bytes (b1g_owners S.2) q := p8 q (by omega) (by omega)
        have le : a1.toInt.toNat = l := by omega
        rw [r6e, r8e, le] at k
        rw [r6e, r8e]
        have k2 : PX (ub (b0g_bytes (b1g_owners S.2) i)) l = PX (ub (b0g_bytes (b1g_owners S.2) q)) l ↔ ¬ NST (tn S.2) (tC S.2) (tP S.2) l i := by
          constructor
          · intro h hs
            have run := G.2.2.2.2.1 l q i (by omega) p2 hi (by have := G.2.1 q (by omega); omega) (by omega) h.symm
            have qi : q = i - 1 := by
              apply Classical.byContradiction
              intro z
              have a := p4 (i - 1) (by omega) (by omega)
              have b := (run (i - 1) (by omega) (by omega)).1
              omega
            rcases hs.2.2 with y | y
            · omega
            · refine y ⟨by rw [← qi]; exact p3, ?_⟩
              rw [← qi]
              exact h.symm
          · intro h
            have q0 : ¬ i = 0 := fun z => h ⟨hi, hc, Or.inl z⟩
            have y : l ≤ tC S.2 (i - 1) ∧ tP S.2 l (i - 1) = tP S.2 l i := Classical.byContradiction (fun z => h ⟨hi, hc, Or.inr z⟩)
            have qi : q = i - 1 := by
              apply Classical.byContradiction
              intro z
              have a := p4 (i - 1) (by omega) (by omega)
              omega
            rw [qi]
            exact y.2.symm
        refine ⟨fun d => old (k2.mp (k.mp d)), fun d => new (Classical.byContradiction (fun z => d (k.mpr (k2.mpr z))))⟩
  refine fx_lenAt o j e4 hi (fun r14 e14 => ⟨fun c1 => yes ?_, fun c1 => fx_endAt o j e4 hi (fun r16 e16 => ⟨fun c2 => skip ?_, fun c2 => fx_lenAt o j e4 hi (fun r18 e18 => ⟨fun c3 => skip ?_, fun c3 => yes ?_⟩)⟩)⟩)
  · simp only [pn] at c1
    omega
  · simp only [pn] at c1
    have := e16.mp c2
    omega
  · have ce : tC S.2 i = tL S.2 i := Classical.byContradiction (fun z => c2 (e16.mpr z))
    simp only [pn] at c1 c3
    omega
  · have ce : tC S.2 i = tL S.2 i := Classical.byContradiction (fun z => c2 (e16.mpr z))
    simp only [pn] at c3
    omega
/-! levels -/
def LEVS (n : Nat) (C : Nat → Nat) (P : Nat → Nat → Nat) (v : Int) (l : Nat) : Prop := (v = 0 ∧ NB n C P (64 * l) = 0) ∨ ∃ q : Nat, v = (q : Int) + 1 ∧ q < l ∧ NB n C P (64 * q) < NB n C P (64 * (q + 1)) ∧ NB n C P (64 * (q + 1)) = NB n C P (64 * l)
theorem NB_mono {n : Nat} {C : Nat → Nat} {P : Nat → Nat → Nat} {a b : Nat} (h : a ≤ b) : NB n C P a ≤ NB n C P b := CTP_le b h
theorem EB_mono {n : Nat} {C : Nat → Nat} {P : Nat → Nat → Nat} {a b : Nat} (h : a ≤ b) : EB n C P a ≤ EB n C P b := CTP_le b h
theorem fx_atN {N : Nat} (hN : N < 2147483648) {f : Nat → Int32} {i : Int32} {m : Nat} {Q : Int32 → Prop} (h0 : i.toInt = (m : Int)) (h1 : m < N) (hq : Q (f m)) : wp_X8_at N f i Q := by
  have e : (Int32.ofNat N).toInt = (N : Int) := nI_toInt hN
  have em : i.toNatClampNeg = m := by
    show i.toInt.toNat = m
    omega
  unfold wp_X8_at
  rw [em]
  refine ⟨fun c => ?_, fun c => ⟨fun d => ?_, fun d => ⟨pt_in (by omega) (by omega), hq⟩⟩⟩
  · simp only [pn] at c
    omega
  · simp only [pn] at d
    omega
theorem fx6_findNodes {S : bT6 × bT1} {Q : (bT6 × bT1) → Prop} (o : LVO S.2) (j : J1 S.2) (hq : ∀ u : bT6 × bT1, u.2 = S.2 → b6g_edgeStarts u.1 = b6g_edgeStarts S.1 → (b6g_nodes u.1).toInt = NB (tn S.2) (tC S.2) (tP S.2) 512 → NOD (tn S.2) (tC S.2) (tP S.2) (b6g_nodeLevels u.1) (b6g_firstLeaves u.1) (b6g_leafCounts u.1) 8 0 → (∀ l : Nat, l ≤ 8 → (b6g_levelStarts u.1 l).toInt = NB (tn S.2) (tC S.2) (tP S.2) (64 * l)) → LEVS (tn S.2) (tC S.2) (tP S.2) (b6g_levels u.1).toInt 8 → Q u) : wp_X6_findNodes S Q := by
  have G := tG o j
  have g64 := G.1
  unfold wp_X6_findNodes
  intro S6 e6 S7 e7
  unfold wp_X6_findNodes_12
  refine ⟨fun k x2 V => ∃ l : Nat, x2.toInt = (l : Int) ∧ l ≤ 8 ∧ V.2 = S.2 ∧ b6g_edgeStarts V.1 = b6g_edgeStarts S.1 ∧ (b6g_nodes V.1).toInt = NB (tn S.2) (tC S.2) (tP S.2) (64 * l) ∧ NOD (tn S.2) (tC S.2) (tP S.2) (b6g_nodeLevels V.1) (b6g_firstLeaves V.1) (b6g_leafCounts V.1) l 0 ∧ (∀ m : Nat, m < l → (b6g_levelStarts V.1 m).toInt = NB (tn S.2) (tC S.2) (tP S.2) (64 * m)) ∧ LEVS (tn S.2) (tC S.2) (tP S.2) (b6g_levels V.1).toInt l ∧ k = 8 - l, ⟨_, 0, rfl, by omega, by rw [e7, e6], by rw [e7, e6], by rw [e7, e6]; rfl, fun w x hw => by omega, fun m hm => by omega, Or.inl ⟨by rw [e7]; rfl, rfl⟩, rfl⟩, ?_⟩
  rintro k x2 V ⟨l, e2, l8, eV, eE, hm, hO, hS, hL, hk⟩
  suffices H : ∀ B : Int32 → (bT6 × bT1) → Prop, (∀ T : bT6 × bT1, T.2 = S.2 → b6g_edgeStarts T.1 = b6g_edgeStarts S.1 → (b6g_nodes T.1).toInt = NB (tn S.2) (tC S.2) (tP S.2) (64 * (l + 1)) → NOD (tn S.2) (tC S.2) (tP S.2) (b6g_nodeLevels T.1) (b6g_firstLeaves T.1) (b6g_leafCounts T.1) (l + 1) 0 → (∀ m : Nat, m < l + 1 → (b6g_levelStarts T.1 m).toInt = NB (tn S.2) (tC S.2) (tP S.2) (64 * m)) → LEVS (tn S.2) (tC S.2) (tP S.2) (b6g_levels T.1).toInt (l + 1) → l < 8 → B (x2 + 1) T) → wp_X6_findNodes_12b V x2 Q B from H _ (fun T t1 t2 t3 t4 t5 t6 hl => ⟨8 - (l + 1), by omega, l + 1, by rw [pt_add (by rw [pl_1]; omega) (by rw [pl_1]; omega), pl_1, e2]; omega, by omega, t1, t2, t3, t4, t5, t6, rfl⟩)
  intro B hB
  have em : x2.toNatClampNeg = l := by
    show x2.toInt.toNat = l
    omega
  unfold wp_X6_findNodes_12b
  refine ⟨fun c => ⟨pt_in (by decide) (by decide), fun S1 e1 => ?_⟩, fun c => ?_⟩
  · simp only [pn] at c
    have l8' : l = 8 := by omega
    subst l8'
    refine hq S1 (by rw [e1]; exact eV) (by rw [e1]; exact eE) (by rw [e1]; exact hm) (by rw [e1]; exact hO) (fun m h => ?_) (by rw [e1]; exact hL)
    rw [e1]
    show (upd _ 8 _ m).toInt = _
    by_cases z : m = 8
    · rw [z, up_s]
      exact hm
    · rw [up_n z]
      exact hS m (by omega)
  simp only [pn] at c
  have hl : l ≤ 7 := by omega
  rw [em]
  refine ⟨pt_in (by omega) (by omega), fun S2 e2' => ?_⟩
  have s2 : S2.2 = S.2 := by rw [e2']; exact eV
  have f1 : b6g_nodes S2.1 = b6g_nodes V.1 := by rw [e2']
  have f2 : b6g_nodeLevels S2.1 = b6g_nodeLevels V.1 := by rw [e2']
  have f3 : b6g_firstLeaves S2.1 = b6g_firstLeaves V.1 := by rw [e2']
  have f4 : b6g_leafCounts S2.1 = b6g_leafCounts V.1 := by rw [e2']
  have f5 : b6g_edgeStarts S2.1 = b6g_edgeStarts V.1 := by rw [e2']
  have f6 : b6g_levels S2.1 = b6g_levels V.1 := by rw [e2']
  have f7 : b6g_levelStarts S2.1 = upd (b6g_levelStarts V.1) l (b6g_nodes V.1) := by rw [e2']
  refine fx6_findNodesOf (l := l) (by rw [s2]; exact o) (by rw [s2]; exact j) e2 hl (by rw [s2, f1]; exact hm) (by rw [s2, f2, f3, f4]; exact hO) (fun u u1 u2 u3 u4 => ?_)
  rw [s2] at u1 u3 u4
  have us : b6g_levelStarts u.1 = upd (b6g_levelStarts V.1) l (b6g_nodes V.1) := u2.2.1.trans f7
  have ue := u2.1.trans (f5.trans eE)
  have ul : b6g_levels u.1 = b6g_levels V.1 := u2.2.2.trans f6
  rw [← NB_end g64 l] at u3
  have mn := NB_mono (n := tn S.2) (C := tC S.2) (P := tP S.2) (show 64 * l ≤ 64 * (l + 1) by omega)
  have st : ∀ m : Nat, m < l + 1 → (b6g_levelStarts u.1 m).toInt = NB (tn S.2) (tC S.2) (tP S.2) (64 * m) := by
    intro m h
    rw [us]
    by_cases z : m = l
    · rw [z, up_s]
      exact hm
    · rw [up_n z]
      exact hS m (by omega)
  refine ⟨pt_in (by omega) (by omega), fun d => ?_, fun d S5 e5 => ?_⟩
  · rw [us, up_s] at d
    simp only [pn] at d
    unfold wp_X6_findNodes_54
    refine hB u u1 ue u3 (NOD_lev u4) st ?_ (by omega)
    rw [ul]
    rcases hL with ⟨a, b⟩ | ⟨q, a, b, c', d'⟩
    · exact Or.inl ⟨a, by omega⟩
    · exact Or.inr ⟨q, a, by omega, c', by omega⟩
  · rw [us, up_s] at d
    simp only [pn] at d
    unfold wp_X6_findNodes_54
    refine hB S5 (by rw [e5]; exact u1) (by rw [e5]; exact ue) (by rw [e5]; exact u3) (by rw [e5]; exact NOD_lev u4) (by rw [e5]; exact st) ?_ (by omega)
    refine Or.inr ⟨l, ?_, by omega, by omega, rfl⟩
    rw [e5]
    show (x2 + 1).toInt = _
    rw [pt_add (by rw [pl_1]; omega) (by rw [pl_1]; omega), pl_1, e2]
/-! edges -/
def OCV (f : Nat → Int64) (L : Nat → Nat) (w : Nat) : Int32 := if L (w % 64) = w / 64 then -1 else OCT (f (w % 64)) (nI (w / 64))
def EAR (n : Nat) (C L : Nat → Nat) (P : Nat → Nat → Nat) (f : Nat → Int64) (en eo el ec : Nat → Int32) (b : Nat) : Prop := ∀ w y : Nat, w < b → IsE n C P w → (y : Int) = EB n C P w → (en y).toInt = NB n C P (w + 1) - 1 ∧ eo y = OCV f L w ∧ (C (w % 64) = w / 64 → (el y).toInt = ((w % 64 : Nat) : Int)) ∧ (¬ C (w % 64) = w / 64 → (el y).toInt = -1) ∧ (ec y = -1 ↔ C (w % 64) = w / 64)
def FE6 (T S : bT6) : Prop := b6g_nodeLevels T = b6g_nodeLevels S ∧ b6g_firstLeaves T = b6g_firstLeaves S ∧ b6g_leafCounts T = b6g_leafCounts S ∧ b6g_edgeStarts T = b6g_edgeStarts S ∧ b6g_levelStarts T = b6g_levelStarts S ∧ b6g_nodes T = b6g_nodes S ∧ b6g_levels T = b6g_levels S
theorem FE6_tr {A B C : bT6} (h : FE6 A B) (g : FE6 B C) : FE6 A C := ⟨h.1.trans g.1, h.2.1.trans g.2.1, h.2.2.1.trans g.2.2.1, h.2.2.2.1.trans g.2.2.2.1, h.2.2.2.2.1.trans g.2.2.2.2.1, h.2.2.2.2.2.1.trans g.2.2.2.2.2.1, h.2.2.2.2.2.2.trans g.2.2.2.2.2.2⟩
theorem fx6_addEdge {S : bT6} {a1 a2 a3 : Int32} {m : Nat} {Q : bT6 → Prop} (hm : (b6g_edges S).toInt = (m : Int)) (h : m < 296) (hc0 : 0 ≤ (b6g_children S).toInt) (hc1 : (b6g_children S).toInt ≤ (m : Int)) (hq : ∀ (u : bT6) (v : Int32), (b6g_edges u).toInt = (m : Int) + 1 → b6g_edgeNodes u = upd (b6g_edgeNodes S) m a1 → b6g_edgeOctets u = upd (b6g_edgeOctets S) m a2 → b6g_edgeLeaves u = upd (b6g_edgeLeaves S) m a3 → b6g_edgeChildren u = upd (b6g_edgeChildren S) m v → (v = -1 ↔ ¬ a3 = -1) → 0 ≤ (b6g_children u).toInt → (b6g_children u).toInt ≤ (m : Int) + 1 → FE6 u S → Q u) : wp_X6_addEdge S a1 a2 a3 Q := by
  have em : (b6g_edges S).toNatClampNeg = m := by
    show (b6g_edges S).toInt.toNat = m
    omega
  have core : ∀ t2 : Int32, 0 ≤ t2.toInt → t2.toInt ≤ 1 → (a3 = -1 → t2.toInt = 1) → wp_X6_addEdge_25 S a1 a2 a3 (b6g_children S) t2 Q := by
    intro t2 t20 t21 t22
    have ct : (b6g_children S + t2).toInt = (b6g_children S).toInt + t2.toInt := pt_add (by omega) (by omega)
    unfold wp_X6_addEdge_25
    intro S3 e3
    have n3 : b6g_edges S3 = b6g_edges S := by rw [e3]
    rw [n3]
    refine ⟨pt_in (by omega) (by omega), fun S4 e4 => ?_⟩
    have n4 : b6g_edges S4 = b6g_edges S := by rw [e4]; exact n3
    rw [n4]
    refine ⟨pt_in (by omega) (by omega), fun S5 e5 => ?_⟩
    have n5 : b6g_edges S5 = b6g_edges S := by rw [e5]; exact n4
    rw [n5]
    refine ⟨pt_in (by omega) (by omega), fun S6 e6 => ?_⟩
    have n6 : b6g_edges S6 = b6g_edges S := by rw [e6]; exact n5
    have c6 : b6g_children S6 = b6g_children S + t2 := by rw [e6, e5, e4, e3]
    rw [em] at e4 e5 e6
    have fin : ∀ v : Int32, (v = -1 ↔ ¬ a3 = -1) → wp_X6_addEdge_80 S6 (b6g_edges S6) v Q := by
      intro v hv
      unfold wp_X6_addEdge_80
      rw [n6, em]
      refine ⟨pt_in (by omega) (by omega), fun S1 e1 S2 e2 => ?_⟩
      refine hq S2 v ?_ (by rw [e2, e1, e6, e5, e4, e3]) (by rw [e2, e1, e6, e5, e4, e3]) (by rw [e2, e1, e6, e5, e4, e3]) (by rw [e2, e1, e6, e5, e4, e3]) hv ?_ ?_ (by rw [e2, e1, e6, e5, e4, e3]; exact ⟨rfl, rfl, rfl, rfl, rfl, rfl, rfl⟩)
      · have k : b6g_edges S1 = b6g_edges S := by rw [e1]; exact n6
        rw [e2]
        show (b6g_edges S1 + 1).toInt = _
        rw [k, pt_add (by rw [pl_1]; omega) (by rw [pl_1]; omega), pl_1, hm]
      · have k : b6g_children S2 = b6g_children S + t2 := by rw [e2, e1]; exact c6
        rw [k, ct]
        omega
      · have k : b6g_children S2 = b6g_children S + t2 := by rw [e2, e1]; exact c6
        rw [k, ct]
        omega
    refine ⟨fun c => fin _ ⟨fun _ => c, fun _ => rfl⟩, fun c => fin _ ⟨fun z => ?_, fun z => absurd c z⟩⟩
    have z2 : (b6g_children S6).toInt = -1 := by rw [z]; rfl
    rw [c6, ct] at z2
    omega
  unfold wp_X6_addEdge
  refine ⟨fun c => ?_, fun _ => ⟨fun c => core 0 (by decide) (by decide) (fun z => absurd z c), fun c => core 1 (by decide) (by decide) (fun _ => rfl)⟩⟩
  simp only [pn] at c
  omega
theorem EAR_skip {n : Nat} {C L : Nat → Nat} {P : Nat → Nat → Nat} {f : Nat → Int64} {en eo el ec : Nat → Int32} {b d : Nat} (h : EAR n C L P f en eo el ec b) (hn : ∀ w, b ≤ w → w < d → ¬ IsE n C P w) : EAR n C L P f en eo el ec d := by
  intro w y hw hE hy
  by_cases z : w < b
  · exact h w y z hE hy
  · exact absurd hE (hn w (by omega) hw)
theorem EAR_add {n : Nat} {C L : Nat → Nat} {P : Nat → Nat → Nat} {f : Nat → Int64} {en eo el ec : Nat → Int32} {b m : Nat} {a1 a2 a3 v : Int32} (h : EAR n C L P f en eo el ec b) (hE : IsE n C P b) (hm : (m : Int) = EB n C P b) (h1 : a1.toInt = NB n C P (b + 1) - 1) (h2 : a2 = OCV f L b) (h3 : C (b % 64) = b / 64 → a3.toInt = ((b % 64 : Nat) : Int)) (h4 : ¬ C (b % 64) = b / 64 → a3.toInt = -1) (h5 : v = -1 ↔ ¬ a3 = -1) : EAR n C L P f (upd en m a1) (upd eo m a2) (upd el m a3) (upd ec m v) (b + 1) := by
  intro w y hw hE2 hy
  by_cases z : w = b
  · subst z
    have ey : y = m := by omega
    rw [ey, up_s, up_s, up_s, up_s]
    refine ⟨h1, h2, h3, h4, ?_⟩
    rw [h5]
    constructor
    · intro p
      apply Classical.byContradiction
      intro q
      exact p (Int32.toInt_inj.mp ((h4 q).trans pl_m1.symm))
    · intro p q
      have k := h3 p
      rw [q, pl_m1] at k
      omega
  · have lt : EB n C P w < EB n C P b := CTP_lt (by omega) hE2
    have ny : y ≠ m := by omega
    rw [up_n ny, up_n ny, up_n ny, up_n ny]
    exact h w y (by omega) hE2 hy
theorem NB_in {n : Nat} {C : Nat → Nat} {P : Nat → Nat → Nat} (h64 : n ≤ 64) {l s i : Nat} (hs : NST n C P l s) (hg : ∀ k, s ≤ k → k ≤ i → l ≤ C k ∧ P l k = P l s) (hsi : s ≤ i) (hin : i < n) : NB n C P (64 * l + i + 1) = NB n C P (64 * l + s) + 1 := by
  have hy : NB n C P (64 * l + s + 1) = NB n C P (64 * l + s) + 1 := CTP_y ((IsN_at (by omega)).mpr hs)
  rw [← hy]
  refine CTP_st _ (by omega) (fun w p q r => ?_)
  have ew : w = 64 * l + (w - 64 * l) := by omega
  rw [ew, IsN_at (by omega)] at r
  have a := hg (w - 64 * l) (by omega) (by omega)
  have b := hg (w - 64 * l - 1) (by omega) (by omega)
  rcases r.2.2 with t | t
  · omega
  · exact t ⟨b.1, by rw [b.2, a.2]⟩
theorem fx6_findEdgesOf {S : bT6 × bT1} {a1 : Int32} {l s e x : Nat} {Q : (bT6 × bT1) → Prop} (o : LVO S.2) (j : J1 S.2) (hx : a1.toInt = (x : Int)) (hx2 : x < 232) (hs : NST (tn S.2) (tC S.2) (tP S.2) l s) (hg : GRQ (tn S.2) (tC S.2) (tP S.2) l s e (tn S.2)) (hN : (x : Int) = NB (tn S.2) (tC S.2) (tP S.2) (64 * l + s)) (hl : (b6g_nodeLevels S.1 x).toInt = (l : Int)) (hf : (b6g_firstLeaves S.1 x).toInt = (s : Int)) (hc : (b6g_leafCounts S.1 x).toInt = (e : Int) - (s : Int)) (he : (b6g_edges S.1).toInt = EB (tn S.2) (tC S.2) (tP S.2) (64 * l + s)) (hA : EAR (tn S.2) (tC S.2) (tL S.2) (tP S.2) (b0g_bytes (b1g_owners S.2)) (b6g_edgeNodes S.1) (b6g_edgeOctets S.1) (b6g_edgeLeaves S.1) (b6g_edgeChildren S.1) (64 * l + s)) (h0 : 0 ≤ (b6g_children S.1).toInt) (h1 : (b6g_children S.1).toInt ≤ (b6g_edges S.1).toInt) (hq : ∀ u : bT6 × bT1, u.2 = S.2 → FE6 u.1 S.1 → (b6g_edges u.1).toInt = EB (tn S.2) (tC S.2) (tP S.2) (64 * l + e) → EAR (tn S.2) (tC S.2) (tL S.2) (tP S.2) (b0g_bytes (b1g_owners S.2)) (b6g_edgeNodes u.1) (b6g_edgeOctets u.1) (b6g_edgeLeaves u.1) (b6g_edgeChildren u.1) (64 * l + e) → 0 ≤ (b6g_children u.1).toInt → (b6g_children u.1).toInt ≤ (b6g_edges u.1).toInt → Q u) : wp_X6_findEdgesOf S a1 Q := by
  have G := tG o j
  have jn := tnn j
  have g64 := G.1
  have as := G.2.1 s hs.1
  have l7 : l ≤ 7 := by have := hs.2.1; omega
  have ge := hg.1
  have gn := hg.2.1
  unfold wp_X6_findEdgesOf
  refine fx_atN (by decide) hx hx2 (fx_atN (by decide) hx hx2 (fx_atN (by decide) hx hx2 ?_))
  obtain ⟨lv, elv⟩ : ∃ lv : Int32, lv = b6g_nodeLevels S.1 x := ⟨_, rfl⟩
  have hlv : lv.toInt = (l : Int) := by rw [elv]; exact hl
  have lvn : lv = nI l := Int32.toInt_inj.mp (by rw [nI_toInt (by omega)]; exact hlv)
  have hbe : (b6g_firstLeaves S.1 x + b6g_leafCounts S.1 x).toInt = (e : Int) := by rw [pt_add (by omega) (by omega)]; omega
  rw [← elv]
  unfold wp_X6_findEdgesOf_39
  refine ⟨fun k x1 x3 x5 x6 x7 V => ∃ i : Nat, x7.toInt = (i : Int) ∧ a1 = x1 ∧ lv = x3 ∧ x5.toInt = (e : Int) ∧ s ≤ i ∧ i ≤ e ∧ V.2 = S.2 ∧ FE6 V.1 S.1 ∧ (b6g_edges V.1).toInt = EB (tn S.2) (tC S.2) (tP S.2) (64 * l + i) ∧ EAR (tn S.2) (tC S.2) (tL S.2) (tP S.2) (b0g_bytes (b1g_owners S.2)) (b6g_edgeNodes V.1) (b6g_edgeOctets V.1) (b6g_edgeLeaves V.1) (b6g_edgeChildren V.1) (64 * l + i) ∧ 0 ≤ (b6g_children V.1).toInt ∧ (b6g_children V.1).toInt ≤ (b6g_edges V.1).toInt ∧ (i = s → x6 = -1) ∧ (s < i → (tL S.2 (i - 1) = l → x6 = -1) ∧ (¬ tL S.2 (i - 1) = l → x6 = OCT (b0g_bytes (b1g_owners S.2) (i - 1)) lv)) ∧ k = e - i, ⟨_, s, hf, rfl, rfl, hbe, Nat.le_refl _, by omega, rfl, ⟨rfl, rfl, rfl, rfl, rfl, rfl, rfl⟩, he, hA, h0, h1, fun _ => rfl, fun z => by omega, rfl⟩, ?_⟩
  rintro k x1 x3 x5 x6 x7 V ⟨i, e7, rfl, rfl, e5, hsi, hie, eV, hF, hE, hR, c0, c1, L1, L2, hk⟩
  suffices H : ∀ B : Int32 → Int32 → Int32 → Int32 → Int32 → (bT6 × bT1) → Prop, (∀ (z : Int32) (T : bT6 × bT1), T.2 = S.2 → FE6 T.1 S.1 → (b6g_edges T.1).toInt = EB (tn S.2) (tC S.2) (tP S.2) (64 * l + (i + 1)) → EAR (tn S.2) (tC S.2) (tL S.2) (tP S.2) (b0g_bytes (b1g_owners S.2)) (b6g_edgeNodes T.1) (b6g_edgeOctets T.1) (b6g_edgeLeaves T.1) (b6g_edgeChildren T.1) (64 * l + (i + 1)) → 0 ≤ (b6g_children T.1).toInt → (b6g_children T.1).toInt ≤ (b6g_edges T.1).toInt → (tL S.2 i = l → z = -1) → (¬ tL S.2 i = l → z = OCT (b0g_bytes (b1g_owners S.2) i) lv) → i < e → B a1 lv x5 z (x7 + 1) T) → wp_X6_findEdgesOf_39b V a1 lv x5 x6 x7 Q B from H _ (fun z T t1 t2 t3 t4 t5 t6 t7 t8 hi => ⟨e - (i + 1), by omega, i + 1, by rw [pt_add (by rw [pl_1]; omega) (by rw [pl_1]; omega), pl_1, e7]; omega, rfl, rfl, e5, by omega, by omega, t1, t2, t3, t4, t5, t6, fun y => by omega, fun _ => ⟨t7, t8⟩, rfl⟩)
  intro B hB
  unfold wp_X6_findEdgesOf_39b
  rw [eV]
  refine ⟨fun c => ?_, fun c => ?_⟩
  · simp only [pn] at c
    have ei : i = e := by omega
    rw [ei] at hE hR
    exact hq V eV hF hE hR c0 c1
  simp only [pn] at c
  have hi : i < e := by omega
  have hin : i < tn S.2 := by omega
  have ai := G.2.1 i hin
  have gi := hg.2.2.1 i hsi hi
  have grp : ∀ q, s ≤ q → q ≤ i → l ≤ tC S.2 q ∧ tP S.2 l q = tP S.2 l s := fun q q1 q2 => hg.2.2.1 q q1 (by omega)
  have iff := EST_iff G hs grp hsi hin
  have eb := EB_le G (w := 64 * l + i) (by omega)
  have nbi := NB_in g64 hs grp hsi hin
  obtain ⟨m, em⟩ : ∃ m : Nat, (b6g_edges V.1).toInt = (m : Int) := ⟨(b6g_edges V.1).toInt.toNat, by omega⟩
  have w1 : (64 * l + i) / 64 = l := gd1 l (by omega)
  have w2 : (64 * l + i) % 64 = i := gd2 l (by omega)
  have add : ∀ (a2 a3 z : Int32), EST (tn S.2) (tC S.2) (tP S.2) l i → a2 = OCV (b0g_bytes (b1g_owners S.2)) (tL S.2) (64 * l + i) → (tC S.2 i = l → a3.toInt = (i : Int)) → (¬ tC S.2 i = l → a3.toInt = -1) → (tL S.2 i = l → z = -1) → (¬ tL S.2 i = l → z = OCT (b0g_bytes (b1g_owners S.2) i) lv) → wp_X6_addEdge V.1 a1 a2 a3 (fun u => ∀ S3 : bT6 × bT1, S3 = (u, V.2) → B a1 lv x5 z (x7 + 1) S3) := by
    intro a2 a3 z hEST ha2 ha3 ha4 hz1 hz2
    have hIs : IsE (tn S.2) (tC S.2) (tP S.2) (64 * l + i) := (IsE_at (by omega)).mpr hEST
    refine fx6_addEdge em (by omega) c0 (by omega) (fun u v u1 u2 u3 u4 u5 u6 u7 u8 u9 S3 e3 => ?_)
    have nx : EB (tn S.2) (tC S.2) (tP S.2) (64 * l + (i + 1)) = EB (tn S.2) (tC S.2) (tP S.2) (64 * l + i) + 1 := CTP_y hIs
    refine hB z S3 (by rw [e3]; exact eV) (by rw [e3]; exact FE6_tr u9 hF) (by rw [e3]; show (b6g_edges u).toInt = _; omega) ?_ (by rw [e3]; exact u7) (by rw [e3]; show (b6g_children u).toInt ≤ (b6g_edges u).toInt; omega) hz1 hz2 hi
    rw [e3]
    show EAR _ _ _ _ _ (b6g_edgeNodes u) (b6g_edgeOctets u) (b6g_edgeLeaves u) (b6g_edgeChildren u) (64 * l + i + 1)
    rw [u2, u3, u4, u5]
    refine EAR_add hR hIs (by omega) (by rw [nbi]; omega) ha2 (fun y => ?_) (fun y => ?_) u6
    · rw [w1, w2] at y
      rw [w2]
      exact ha3 y
    · rw [w1, w2] at y
      exact ha4 y
  refine fx_lenAt o j e7 hin (fun r4 e4 => ⟨fun c4 => ?_, fun c4 => ?_⟩)
  · simp only [pn] at c4
    have nL : ¬ tL S.2 i = l := by omega
    refine fx_bytesAt (J1g_owners j) (fun r6 p6 _ => fx_octetAt (fun r8 p8 _ => ?_))
    have r6e : r6 = b0g_bytes (b1g_owners S.2) i := p6 i (by omega) (by omega)
    have r8e : r8 = OCT (b0g_bytes (b1g_owners S.2) i) lv := by rw [p8 (by omega) (by omega), r6e]
    have ro := OCT_rng (b0g_bytes (b1g_owners S.2) i) (i := lv) (by omega) (by omega)
    rw [← r8e] at ro
    have key : r8 = x6 ↔ ¬ EST (tn S.2) (tC S.2) (tP S.2) l i := by
      rw [iff]
      by_cases z : i = s
      · have x6e := L1 z
        constructor
        · intro y
          rw [y, x6e, pl_m1] at ro
          omega
        · intro y
          exact absurd (Or.inr (Or.inl z)) y
      · obtain ⟨q1, q2⟩ := L2 (by omega)
        by_cases y : tL S.2 (i - 1) = l
        · have x6e := q1 y
          constructor
          · intro t
            rw [t, x6e, pl_m1] at ro
            omega
          · intro t
            exact absurd (Or.inr (Or.inr (Or.inl y))) t
        · have x6e := q2 y
          have pe : PX (ub (b0g_bytes (b1g_owners S.2) i)) lv.toInt.toNat = PX (ub (b0g_bytes (b1g_owners S.2) (i - 1))) lv.toInt.toNat := by
            rw [show lv.toInt.toNat = l by omega]
            have a := (grp i hsi (Nat.le_refl _)).2
            have b := (grp (i - 1) (by omega) (by omega)).2
            exact a.trans b.symm
          have oe := OCT_eq (i := lv) (by omega) (by omega) pe
          rw [show lv.toInt.toNat = l by omega] at oe
          rw [r8e, x6e, oe]
          constructor
          · intro t
            rintro (t2 | t2 | t2 | t2)
            · exact nL t2
            · exact z t2
            · exact y t2
            · exact t2 t.symm
          · intro t
            apply Classical.byContradiction
            intro t2
            exact t (Or.inr (Or.inr (Or.inr (fun t3 => t2 t3.symm))))
    refine ⟨fun d => ?_, fun d => ?_⟩
    · unfold wp_X6_findEdgesOf_135 wp_X6_findEdgesOf_139
      have hne := key.mp d
      have hIs : ¬ IsE (tn S.2) (tC S.2) (tP S.2) (64 * l + i) := fun t => hne ((IsE_at (by omega)).mp t)
      have nx : EB (tn S.2) (tC S.2) (tP S.2) (64 * l + (i + 1)) = EB (tn S.2) (tC S.2) (tP S.2) (64 * l + i) := CTP_n hIs
      refine hB r8 V eV hF (by rw [nx]; exact hE) (EAR_skip hR (fun w t1 t2 => ?_)) c0 c1 (fun t => absurd t nL) (fun _ => r8e) hi
      rw [show w = 64 * l + i by omega]
      exact hIs
    · have hEST : EST (tn S.2) (tC S.2) (tP S.2) l i := Classical.byContradiction (fun t => d (key.mpr t))
      have hov : r8 = OCV (b0g_bytes (b1g_owners S.2)) (tL S.2) (64 * l + i) := by
        unfold OCV
        rw [w1, w2, if_neg nL, r8e, lvn]
      have no : ¬ tC S.2 i = l → wp_X6_findEdgesOf_114 V a1 lv x5 x7 r8 Q B := by
        intro t
        unfold wp_X6_findEdgesOf_114 wp_X6_findEdgesOf_115 wp_X6_findEdgesOf_132 wp_X6_findEdgesOf_135 wp_X6_findEdgesOf_139
        exact ⟨fun _ => add r8 (-1) r8 hEST hov (fun t2 => absurd t2 t) (fun _ => rfl) (fun t2 => absurd t2 nL) (fun _ => r8e), fun t2 => absurd rfl t2⟩
      have yes : tC S.2 i = l → wp_X6_findEdgesOf_115 V a1 lv x5 x7 r8 1 Q B := by
        intro t
        unfold wp_X6_findEdgesOf_115 wp_X6_findEdgesOf_132 wp_X6_findEdgesOf_135 wp_X6_findEdgesOf_139
        exact ⟨fun t2 => absurd t2 (by decide), fun _ => add r8 x7 r8 hEST hov (fun _ => e7) (fun t2 => absurd t t2) (fun t2 => absurd t2 nL) (fun _ => r8e)⟩
      have lv1 : (lv + 1).toInt = (l : Int) + 1 := by rw [pt_add (by rw [pl_1]; omega) (by rw [pl_1]; omega), pl_1, hlv]
      refine fx_lenAt o j e7 hin (fun r10 e10 => ⟨fun c10 => no ?_, fun c10 => fx_endAt o j e7 hin (fun r12 e12 => ⟨fun c12 => no ?_, fun c12 => yes ?_⟩)⟩)
      · simp only [pn] at c10
        omega
      · have ce : tC S.2 i = tL S.2 i := Classical.byContradiction (fun z => c12 (e12.mpr z))
        omega
      · have ce := e12.mp c12
        simp only [pn] at c10
        omega
  · simp only [pn] at c4
    have hL : tL S.2 i = l := by omega
    have is := END_first G grp hsi hin hL
    have hC : tC S.2 i = l := by omega
    have hEST : EST (tn S.2) (tC S.2) (tP S.2) l i := ⟨hin, Or.inl hC⟩
    unfold wp_X6_findEdgesOf_139
    have q := add (-1) x7 x6 hEST (by unfold OCV; rw [w1, w2, if_pos hL]) (fun _ => e7) (fun t => absurd hC t) (fun _ => L1 is) (fun t => absurd hL t)
    rw [eV] at q
    exact q
/-! all edges: the nodes one behind the other -/
theorem NB_grp {n : Nat} {C : Nat → Nat} {P : Nat → Nat → Nat} (h64 : n ≤ 64) {l s e : Nat} (hs : NST n C P l s) (hg : GRQ n C P l s e n) : NB n C P (64 * l + e) = NB n C P (64 * l + s) + 1 := by
  have a := hg.1
  have b := hg.2.1
  have k := NB_in h64 hs (i := e - 1) (fun k k1 k2 => hg.2.2.1 k k1 (by omega)) (by omega) (by omega)
  rw [show 64 * l + (e - 1) + 1 = 64 * l + e by omega] at k
  exact k
