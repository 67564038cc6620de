/-! tuned -/
theorem fx_atN {N : Nat} (hN : N < 2147483648) {f : Nat → Int32} {i : Int32} {m : Nat} {Q : Int32 → Prop} (h0 : i.toInt = (m : Int)) (h1 : m < N) (hq : Q (f m)) : wp_X8_at N f i Q := by
  have e : (Int32.ofNat N).toInt = (N : Int) := nI_toInt hN
  have em : i.toNatClampNeg = m := by
    show i.toInt.toNat = m
    omega
  unfold wp_X8_at
  rw [em]
  refine ⟨fun c => ?_, fun c => ⟨fun d => ?_, fun d => ⟨pt_in (by omega) (by omega), hq⟩⟩⟩
  · simp only [pn] at c
    omega
  · simp only [pn] at d
    omega
def tn (X : bT1) : Nat := (b0g_count (b1g_owners X)).toInt.toNat
def tC (X : bT1) : Nat → Nat := COM (b0g_bytes (b1g_owners X)) (b0g_lengths (b1g_owners X)) (b0g_count (b1g_owners X)).toInt
def tL (X : bT1) : Nat → Nat := fun i => (b0g_lengths (b1g_owners X) i).toInt.toNat
theorem tnn {X : bT1} (j : J1 X) : ((tn X : Nat) : Int) = (b0g_count (b1g_owners X)).toInt := by
  have := (J0g_count (J1g_owners j)).1
  unfold tn
  omega
theorem fx_lenAt {X : bT1} (o : LVO X) (j : J1 X) {a : Int32} {i : Nat} {Q : Int32 → Prop} (h0 : a.toInt = (i : Int)) (h1 : i < tn X) (hq : ∀ r : Int32, r.toInt = ((min (tC X i + 1) (tL X i) : Nat) : Int) → Q r) : wp_X1_lengthAt X a Q := by
  have jo := J0g_count (J1g_owners j)
  have t := tnn j
  have e : a.toInt.toNat = i := by omega
  unfold wp_X1_lengthAt
  refine fx_at64 (fun r p => hq r ?_)
  rw [p (by omega) (by omega)]
  have k := (o.1.2.2 i (by omega)).1.2.1
  show (b1g_lengths X a.toInt.toNat).toInt = _
  rw [e]
  exact k
theorem fx_endAt {X : bT1} (o : LVO X) (j : J1 X) {a : Int32} {i : Nat} {Q : Int32 → Prop} (h0 : a.toInt = (i : Int)) (h1 : i < tn X) (hq : ∀ r : Int32, (r = 0 ↔ ¬ tC X i = tL X i) → Q r) : wp_X1_isEnded X a Q := by
  have t := tnn j
  have ei : a.toInt.toNat = i := by omega
  refine fx_isEnded j (fun r _ p => hq r ?_)
  have e := (o.1.2.2 i (by omega)).1.1
  have b := o.2.1.2 i (by omega)
  rw [p (by omega) (by omega)]
  have k : b1g_commons X a.toNatClampNeg = b0g_lengths (b1g_owners X) a.toNatClampNeg ↔ tC X i = tL X i := by
    rw [← Int32.toInt_inj]
    show (b1g_commons X a.toInt.toNat).toInt = (b0g_lengths (b1g_owners X) a.toInt.toNat).toInt ↔ _
    rw [ei, e]
    unfold tC tL
    constructor
    · intro h
      show COM _ _ _ i = (b0g_lengths (b1g_owners X) i).toInt.toNat
      omega
    · intro h
      have h' : COM (b0g_bytes (b1g_owners X)) (b0g_lengths (b1g_owners X)) (b0g_count (b1g_owners X)).toInt i = (b0g_lengths (b1g_owners X) i).toInt.toNat := h
      omega
  rw [k]
theorem bxa (x y z : BitVec 64) : (x ^^^ y) &&& z = 0#64 ↔ x &&& z = y &&& z := by
  constructor
  · intro h
    apply BitVec.eq_of_getLsbD_eq
    intro i hi
    have q := congrArg (fun v => BitVec.getLsbD v i) h
    simp only [BitVec.getLsbD_and, BitVec.getLsbD_xor, BitVec.getLsbD_zero] at q ⊢
    revert q
    cases x.getLsbD i <;> cases y.getLsbD i <;> cases z.getLsbD i <;> decide
  · intro h
    apply BitVec.eq_of_getLsbD_eq
    intro i hi
    have q := congrArg (fun v => BitVec.getLsbD v i) h
    simp only [BitVec.getLsbD_and, BitVec.getLsbD_xor, BitVec.getLsbD_zero] at q ⊢
    revert q
    cases x.getLsbD i <;> cases y.getLsbD i <;> cases z.getLsbD i <;> decide
theorem lg0 (x : Int64) : lg_cmp x 0 = 0 ↔ x = 0 := by
  unfold lg_cmp
  by_cases h : x = 0
  · rw [h, if_neg (by decide), if_pos rfl]
    exact ⟨fun _ => rfl, fun _ => rfl⟩
  · by_cases g : x > 0
    · rw [if_pos g]
      exact ⟨fun q => absurd q (by decide), fun q => absurd q h⟩
    · rw [if_neg g, if_neg h]
      exact ⟨fun q => absurd q (by decide), fun q => absurd q h⟩
theorem xfr {a b F : Int64} {l : Int32} (h0 : 0 ≤ l.toInt) (h8 : l.toInt ≤ 8) (h1 : 1 ≤ l.toInt → l.toInt ≤ 8 → F = frontf l) (h2 : l.toInt ≤ 0 → F = 0) : lg_cmp ((a ^^^ b) &&& F) 0 = 0 ↔ PX (ub a) l.toInt.toNat = PX (ub b) l.toInt.toNat := by
  rw [lg0]
  by_cases z : l.toInt ≤ 0
  · rw [h2 z, show l.toInt.toNat = 0 by omega, PX_0 (ub_lt a), PX_0 (ub_lt b)]
    refine ⟨fun _ => rfl, fun _ => ?_⟩
    apply Int64.toBitVec_inj.mp
    show (a ^^^ b).toBitVec &&& 0#64 = 0#64
    exact BitVec.and_zero
  · have l1 : 1 ≤ l.toInt := by omega
    have e : (a ^^^ b) &&& F = 0 ↔ a &&& F = b &&& F := by
      rw [← Int64.toBitVec_inj, ← Int64.toBitVec_inj]
      exact bxa a.toBitVec b.toBitVec F.toBitVec
    rw [e, h1 l1 h8, and_front a l1 h8, and_front b l1 h8]
    have ca := ub_cut a l1 h8
    have cb := ub_cut b l1 h8
    have pos : 0 < 2 ^ (64 - 8 * l.toInt.toNat) := Nat.two_pow_pos _
    constructor
    · intro h
      rw [h] at ca
      exact Nat.eq_of_mul_eq_mul_right pos (by rw [← ca, ← cb])
    · intro h
      exact ub_inj (by rw [ca, cb, h])
/-! tuned: which keys a leaf lets through with rb real bits (draft, not in a package yet) -/
theorem in_num {x A p N w : Nat} (hA : 0 < A) (w1 : 1 ≤ w) (hw : N + w ≤ 256) (h1 : p * (256 * A) + N * A ≤ x) (h2 : x ≤ p * (256 * A) + N * A + w * A - 1) : x / A / 256 = p ∧ N ≤ x / A % 256 ∧ x / A % 256 < N + w := by
  have e1 : p * (256 * A) + N * A = (p * 256 + N) * A := by rw [Nat.add_mul, Nat.mul_assoc]
  have e2 : p * (256 * A) + N * A + w * A = (p * 256 + N + w) * A := by rw [Nat.add_mul, Nat.add_mul, Nat.mul_assoc]
  have wA : 0 < w * A := Nat.mul_pos w1 hA
  have a1 : p * 256 + N ≤ x / A := (Nat.le_div_iff_mul_le hA).mpr (by rw [← e1]; exact h1)
  have a2 : x / A < p * 256 + N + w := (Nat.div_lt_iff_lt_mul hA).mpr (by rw [← e2]; omega)
  omega
theorem fl_num {t N w q : Nat} (e : N = q * w) (a : N ≤ t) (b : t < N + w) : t / w * w = N := by
  have d : t / w = q := Nat.div_eq_of_lt_le (by rw [← e]; exact a) (by rw [Nat.add_mul, Nat.one_mul, ← e]; exact b)
  rw [d, ← e]
theorem PX_dv {x l : Nat} (h : l ≤ 7) : PX x (l + 1) = x / 2 ^ (56 - 8 * l) ∧ PX x l = PX x (l + 1) / 256 := by
  have e : PX x (l + 1) = x / 2 ^ (56 - 8 * l) := by
    unfold PX
    rw [show 64 - 8 * (l + 1) = 56 - 8 * l by omega]
  refine ⟨e, ?_⟩
  rw [e, Nat.div_div_eq_div_mul, Nat.mul_comm, ← pw h]
  rfl
/-- a clean key of n < l bytes ends in zeros behind l bytes -/
theorem CLK_up {x n l : Nat} (h : PX x n * 2 ^ (64 - 8 * n) = x) (hn : n ≤ l) (hl : l ≤ 8) : PX x l * 2 ^ (64 - 8 * l) = x := by
  have e : 2 ^ (64 - 8 * n) = 2 ^ (8 * l - 8 * n) * 2 ^ (64 - 8 * l) := by
    rw [← Nat.pow_add, show 8 * l - 8 * n + (64 - 8 * l) = 64 - 8 * n by omega]
  rw [e, ← Nat.mul_assoc] at h
  have p : PX x l = PX x n * 2 ^ (8 * l - 8 * n) := Nat.div_eq_of_eq_mul_left (Nat.two_pow_pos _) h.symm
  rw [p]
  exact h
theorem IN_iff {f : Nat → Int64} {g : Nat → Int32} {c : Int} (h : SRT f g c) {rb : Int32} (h0 : 0 ≤ rb.toInt) (h8 : rb.toInt ≤ 8) {i : Nat} (hi : (i : Int) < c) (no : ¬ (COM f g c i = (g i).toInt.toNat ∨ BEG f g c i = 8)) {k : Int64} {n : Int32} (p1 : 1 ≤ n.toInt) (p8 : n.toInt ≤ 8) (ck : CLK k n) : (¬ NLT (ub k) n.toInt.toNat (LOV f g c rb i) (LOL f g c rb i) ∧ ¬ NLT (HIV f g c rb i) (HIL f g c i) (ub k) n.toInt.toNat) ↔ (BEG f g c i ≤ n.toInt.toNat ∧ PX (ub k) (BEG f g c i) = PX (ub (f i)) (BEG f g c i) ∧ NXB (ub k) (BEG f g c i) rb = NXB (ub (f i)) (BEG f g c i) rb) := by
  have b := BEG_f h hi
  have nf := NXB_f (ub (f i)) (BEG f g c i) h0 h8
  have kf := NXB_f (ub k) (BEG f g c i) h0 h8
  have l7 : BEG f g c i ≤ 7 := by omega
  have P := pw l7
  have dv := PX_dv (x := ub k) l7
  have A0 : 0 < 2 ^ (56 - 8 * BEG f g c i) := Nat.two_pow_pos _
  unfold CLK at ck
  unfold LOV LOL HIV HIL NLT
  rw [if_neg no, if_neg no, if_neg no, if_neg no]
  constructor
  · rintro ⟨q1, q2⟩
    have lo : PX (ub (f i)) (BEG f g c i) * 2 ^ (64 - 8 * BEG f g c i) + NXB (ub (f i)) (BEG f g c i) rb * 2 ^ (56 - 8 * BEG f g c i) ≤ ub k := Nat.le_of_not_lt (fun z => q1 (Or.inl z))
    have hi' : ub k ≤ PX (ub (f i)) (BEG f g c i) * 2 ^ (64 - 8 * BEG f g c i) + NXB (ub (f i)) (BEG f g c i) rb * 2 ^ (56 - 8 * BEG f g c i) + WD rb * 2 ^ (56 - 8 * BEG f g c i) - 1 := Nat.le_of_not_lt (fun z => q2 (Or.inl z))
    have m := in_num A0 nf.2.2.2 nf.2.2.1 (by rw [← P]; exact lo) (by rw [← P]; exact hi')
    rw [← dv.1, ← dv.2] at m
    refine ⟨Nat.le_of_not_lt (fun z => ?_), m.1, fl_num (N := NXB (ub (f i)) (BEG f g c i) rb) (q := PX (ub (f i)) (BEG f g c i + 1) % 256 / WD rb) rfl m.2.1 m.2.2⟩
    have u := CLK_up ck (Nat.le_of_lt z) (by omega)
    rw [m.1] at u
    have z0 : NXB (ub (f i)) (BEG f g c i) rb * 2 ^ (56 - 8 * BEG f g c i) = 0 := by omega
    have z1 : NXB (ub (f i)) (BEG f g c i) rb = 0 := by
      rcases Nat.mul_eq_zero.mp z0 with e | e
      · exact e
      · omega
    rw [if_pos z1, z0] at q1
    exact q1 (Or.inr ⟨by omega, z⟩)
  · rintro ⟨r1, r2, r3⟩
    have B := BD (x := ub k) (l := BEG f g c i) l7 kf.1 kf.2.1 kf.2.2.1
    rw [r2, r3] at B
    refine ⟨fun z => ?_, fun z => ?_⟩
    · rcases z with z | ⟨z, y⟩
      · omega
      · by_cases e : NXB (ub (f i)) (BEG f g c i) rb = 0
        · rw [if_pos e] at y; omega
        · rw [if_neg e] at y
          have en : n.toInt.toNat = BEG f g c i := by omega
          rw [en, r2] at ck
          have z0 : NXB (ub (f i)) (BEG f g c i) rb * 2 ^ (56 - 8 * BEG f g c i) = 0 := by omega
          rcases Nat.mul_eq_zero.mp z0 with e' | e'
          · exact e e'
          · omega
    · omega
/-! the best pair: least count, then least sum, then least h -/
def VPR (w h r : Int) : Prop := 0 ≤ h ∧ h ≤ 8 ∧ 0 ≤ r ∧ r ≤ 8 ∧ h + r ≤ w
def AHD (s t h r : Int) : Prop := 0 ≤ h ∧ h ≤ 8 ∧ 0 ≤ r ∧ r ≤ 8 ∧ (h + r < s ∨ (h + r = s ∧ h < t))
def OPT (F : Int → Int → Int) (P : Int → Int → Prop) (h r c : Int) : Prop := P h r ∧ c = F h r ∧ ∀ h2 r2 : Int, P h2 r2 → c < F h2 r2 ∨ (c = F h2 r2 ∧ (h + r < h2 + r2 ∨ (h + r = h2 + r2 ∧ h ≤ h2)))
theorem OPT_one {F : Int → Int → Int} {P : Int → Int → Prop} {h r c h2 r2 c2 : Int} (a : OPT F P h r c) (b : OPT F P h2 r2 c2) : h = h2 ∧ r = r2 ∧ c = c2 := by
  have x := a.2.2 h2 r2 b.1
  have y := b.2.2 h r a.1
  have e1 := a.2.1
  have e2 := b.2.1
  omega
/-- the next pair (s, t) is better -/
theorem OPT_new {F : Int → Int → Int} {s t h r c : Int} (a : OPT F (AHD s t) h r c) (v : 0 ≤ t ∧ t ≤ 8 ∧ 0 ≤ s - t ∧ s - t ≤ 8) (l : F t (s - t) < c) : OPT F (AHD s (t + 1)) t (s - t) (F t (s - t)) := by
  refine ⟨by unfold AHD; omega, rfl, fun h2 r2 p => ?_⟩
  unfold AHD at p
  by_cases q : h2 + r2 < s ∨ (h2 + r2 = s ∧ h2 < t)
  · have x := a.2.2 h2 r2 (by unfold AHD; omega)
    omega
  · have e1 : h2 = t := by omega
    have e2 : r2 = s - t := by omega
    rw [e1, e2]
    omega
theorem OPT_old {F : Int → Int → Int} {s t h r c : Int} (a : OPT F (AHD s t) h r c) (l : (0 ≤ t ∧ t ≤ 8 ∧ 0 ≤ s - t ∧ s - t ≤ 8) → c ≤ F t (s - t)) : OPT F (AHD s (t + 1)) h r c := by
  have a1 := a.1
  unfold AHD at a1
  refine ⟨by unfold AHD; omega, a.2.1, fun h2 r2 p => ?_⟩
  unfold AHD at p
  by_cases q : h2 + r2 < s ∨ (h2 + r2 = s ∧ h2 < t)
  · exact a.2.2 h2 r2 (by unfold AHD; omega)
  · have e1 : h2 = t := by omega
    have e2 : r2 = s - t := by omega
    have z := l (by omega)
    rw [e1, e2]
    omega
/-! which questions are false by h, rb -/
def FBQ (f : Nat → Int64) (g : Nat → Int32) (c : Int) (sa h rb : Int32) (k : Int64) (n : Int32) : Prop := (∃ i : Nat, (i : Int) < c ∧ (¬ NLT (ub k) n.toInt.toNat (LOV f g c rb i) (LOL f g c rb i) ∧ ¬ NLT (HIV f g c rb i) (HIL f g c i) (ub k) n.toInt.toNat) ∧ LWS (MIX sa k n) h = LWS (MIX sa (f i) (g i)) h) ∧ ∀ j : Nat, (j : Int) < c → ¬ (f j = k ∧ g j = n)
theorem FBQ_agr {f f2 : Nat → Int64} {g g2 : Nat → Int32} {c : Int} (e : ∀ j : Nat, (j : Int) < c → f2 j = f j ∧ g2 j = g j) {sa h rb : Int32} {k : Int64} {n : Int32} : FBQ f2 g2 c sa h rb k n ↔ FBQ f g c sa h rb k n := by
  have one : ∀ {f f2 : Nat → Int64} {g g2 : Nat → Int32}, (∀ j : Nat, (j : Int) < c → f2 j = f j ∧ g2 j = g j) → FBQ f g c sa h rb k n → FBQ f2 g2 c sa h rb k n := by
    intro f f2 g g2 e
    rintro ⟨⟨i, hi, p, w⟩, q⟩
    obtain ⟨q1, q2, q3, q4⟩ := LOV_agr e (rb := rb) (i := i) hi
    refine ⟨⟨i, hi, ?_, ?_⟩, fun j hj => ?_⟩
    · rw [q1, q2, q3, q4]
      exact p
    · rw [(e i hi).1, (e i hi).2]
      exact w
    · rw [(e j hj).1, (e j hj).2]
      exact q j hj
  exact ⟨one (fun j hj => ⟨(e j hj).1.symm, (e j hj).2.symm⟩), one e⟩
theorem MAY_ex {f : Nat → Int64} {g : Nat → Int32} {c : Int} (hs : SRT f g c) (hc : CLN f g c) {rb : Int32} (h0 : 0 ≤ rb.toInt) (h8 : rb.toInt ≤ 8) {s h : Int32} {k : Int64} {n : Int32} {m : Int} (q : MAY f g c rb s h k n m) : (m = 1 ∧ ∃ i : Nat, (i : Int) < c ∧ (¬ NLT (ub k) n.toInt.toNat (LOV f g c rb i) (LOL f g c rb i) ∧ ¬ NLT (HIV f g c rb i) (HIL f g c i) (ub k) n.toInt.toNat) ∧ LWS (MIX s k n) h = LWS (MIX s (f i) (g i)) h) ∨ (m = 0 ∧ ¬ ∃ i : Nat, (i : Int) < c ∧ (¬ NLT (ub k) n.toInt.toNat (LOV f g c rb i) (LOL f g c rb i) ∧ ¬ NLT (HIV f g c rb i) (HIL f g c i) (ub k) n.toInt.toNat) ∧ LWS (MIX s k n) h = LWS (MIX s (f i) (g i)) h) := by
  obtain ⟨l, hl, q⟩ := q
  rcases q with ⟨e, l0, q⟩ | ⟨e, q⟩
  · refine Or.inl ⟨e, ?_⟩
    rcases hl with ⟨a, b, p⟩ | ⟨a, _⟩
    · exact ⟨l.toNat, by omega, p l.toNat (by omega), q l.toNat (by omega)⟩
    · omega
  · refine Or.inr ⟨e, ?_⟩
    rintro ⟨i, hi, p, w⟩
    have li : LFA f g c rb k n (i : Int) := Or.inl ⟨by omega, hi, fun j hj => by rw [show j = i by omega]; exact p⟩
    exact q i (LFA_one hs hc h0 h8 hl li).symm w
def BGN (f : Nat → Int64) (g : Nat → Int32) (c : Int) (k : Int64) (n : Int32) (i : Nat) : Prop := ¬ COM f g c i = (g i).toInt.toNat ∧ BEG f g c i ≤ n.toInt.toNat ∧ PX (ub k) (BEG f g c i) = PX (ub (f i)) (BEG f g c i)
theorem NXB_0 (x l : Nat) : NXB x l 0 = 0 := by
  unfold NXB
  rw [wd_0, Nat.div_eq_of_lt (Nat.mod_lt _ (by decide))]
theorem ONE_key {f : Nat → Int64} {g : Nat → Int32} {c : Int} (hs : SRT f g c) (hc : CLN f g c) {rb : Int32} {i : Nat} (hi : (i : Int) < c) (o : COM f g c i = (g i).toInt.toNat ∨ BEG f g c i = 8) {k : Int64} {n : Int32} (p1 : 1 ≤ n.toInt) (p : ¬ NLT (ub k) n.toInt.toNat (LOV f g c rb i) (LOL f g c rb i) ∧ ¬ NLT (HIV f g c rb i) (HIL f g c i) (ub k) n.toInt.toNat) : f i = k ∧ g i = n := by
  have b := BEG_f hs hi
  have cl := hc i hi
  have eb : BEG f g c i = (g i).toInt.toNat := by omega
  obtain ⟨q1, q2⟩ := p
  unfold LOV LOL at q1
  unfold HIV HIL at q2
  rw [if_pos o, if_pos o] at q1 q2
  rw [eb, cl] at q1 q2
  unfold NLT at q1 q2
  have e1 : ub (f i) = ub k := by omega
  have e2 : (g i).toInt.toNat = n.toInt.toNat := by omega
  have l1 := hs.2 i hi
  exact ⟨ub_inj e1, Int32.toInt_inj.mp (by omega)⟩
theorem TUN_in {f : Nat → Int64} {g : Nat → Int32} {c : Int} (hs : SRT f g c) (hc : CLN f g c) {rb : Int32} (h0 : 0 ≤ rb.toInt) (h8 : rb.toInt ≤ 8) {i : Nat} (hi : (i : Int) < c) {k : Int64} {n : Int32} (p1 : 1 ≤ n.toInt) (p8 : n.toInt ≤ 8) (ck : CLK k n) (no : ∀ j : Nat, (j : Int) < c → ¬ (f j = k ∧ g j = n)) (p : ¬ NLT (ub k) n.toInt.toNat (LOV f g c rb i) (LOL f g c rb i) ∧ ¬ NLT (HIV f g c rb i) (HIL f g c i) (ub k) n.toInt.toNat) : BGN f g c k n i := by
  have o : ¬ (COM f g c i = (g i).toInt.toNat ∨ BEG f g c i = 8) := fun z => no i hi (ONE_key hs hc hi z p1 p)
  have q := (IN_iff hs h0 h8 hi o p1 p8 ck).mp p
  exact ⟨fun z => o (Or.inl z), q.1, q.2.1⟩
theorem BGN_7 {f : Nat → Int64} {g : Nat → Int32} {c : Int} (hs : SRT f g c) {i : Nat} (hi : (i : Int) < c) {k : Int64} {n : Int32} (p8 : n.toInt ≤ 8) (no : ∀ j : Nat, (j : Int) < c → ¬ (f j = k ∧ g j = n)) (b : BGN f g c k n i) : BEG f g c i ≤ 7 := by
  obtain ⟨b1, b2, b3⟩ := b
  have e := BEG_f hs hi
  apply Classical.byContradiction
  intro z
  have e8 : BEG f g c i = 8 := by omega
  rw [e8] at b2 b3
  have l1 := hs.2 i hi
  refine no i hi ⟨(ub_inj ?_).symm, Int32.toInt_inj.mp (by omega)⟩
  unfold PX at b3
  simp only [Nat.reduceMul, Nat.reduceSub, Nat.pow_zero, Nat.div_one] at b3
  exact b3
theorem TUN_none {f : Nat → Int64} {g : Nat → Int32} {c : Int} (hs : SRT f g c) (hc : CLN f g c) {sa h rb : Int32} (h0 : 0 ≤ rb.toInt) (h8 : rb.toInt ≤ 8) {k : Int64} {n : Int32} (p1 : 1 ≤ n.toInt) (p8 : n.toInt ≤ 8) (ck : CLK k n) (nb : ∀ i : Nat, (i : Int) < c → ¬ BGN f g c k n i) : ¬ FBQ f g c sa h rb k n := by
  rintro ⟨⟨i, hi, p, _⟩, no⟩
  exact nb i hi (TUN_in hs hc h0 h8 hi p1 p8 ck no p)
theorem TUN_one {f : Nat → Int64} {g : Nat → Int32} {c : Int} (hs : SRT f g c) (hc : CLN f g c) {sa h rb : Int32} (h0 : 0 ≤ rb.toInt) (h8 : rb.toInt ≤ 8) {k : Int64} {n : Int32} (p1 : 1 ≤ n.toInt) (p8 : n.toInt ≤ 8) (ck : CLK k n) (no : ∀ j : Nat, (j : Int) < c → ¬ (f j = k ∧ g j = n)) {i : Nat} (hi : (i : Int) < c) (b : BGN f g c k n i) : FBQ f g c sa h rb k n ↔ (LWS (MIX sa k n) h = LWS (MIX sa (f i) (g i)) h ∧ NXB (ub k) (BEG f g c i) rb = NXB (ub (f i)) (BEG f g c i) rb) := by
  have oo : ∀ {j : Nat}, (j : Int) < c → BGN f g c k n j → ¬ (COM f g c j = (g j).toInt.toNat ∨ BEG f g c j = 8) := by
    intro j hj bj z
    have := BGN_7 hs hj p8 no bj
    rcases z with z | z
    · exact bj.1 z
    · omega
  have z0 : (0 : Int32).toInt = 0 := rfl
  have at0 : ∀ {j : Nat}, (j : Int) < c → BGN f g c k n j → LFA f g c 0 k n (j : Int) := by
    intro j hj bj
    refine Or.inl ⟨by omega, hj, fun x hx => ?_⟩
    rw [show x = j by omega]
    exact (IN_iff hs (rb := 0) (by omega) (by omega) hj (oo hj bj) p1 p8 ck).mpr ⟨bj.2.1, bj.2.2, by rw [NXB_0, NXB_0]⟩
  constructor
  · rintro ⟨⟨j, hj, p, w⟩, _⟩
    have bj := TUN_in hs hc h0 h8 hj p1 p8 ck no p
    have e : j = i := by
      have := LFA_one hs hc (rb := 0) (by omega) (by omega) (at0 hj bj) (at0 hi b)
      omega
    rw [e] at w p
    exact ⟨w, ((IN_iff hs h0 h8 hi (oo hi b) p1 p8 ck).mp p).2.2⟩
  · rintro ⟨w, x⟩
    exact ⟨⟨i, hi, (IN_iff hs h0 h8 hi (oo hi b) p1 p8 ck).mpr ⟨b.2.1, b.2.2, x⟩, w⟩, no⟩
/-! bits alike -/
theorem bxb (x y z : BitVec 32) : (x ^^^ y) &&& z = 0#32 ↔ x &&& z = y &&& z := by
  constructor
  · intro h
    apply BitVec.eq_of_getLsbD_eq
    intro i hi
    have q := congrArg (fun v => BitVec.getLsbD v i) h
    simp only [BitVec.getLsbD_and, BitVec.getLsbD_xor, BitVec.getLsbD_zero] at q ⊢
    revert q
    cases x.getLsbD i <;> cases y.getLsbD i <;> cases z.getLsbD i <;> decide
  · intro h
    apply BitVec.eq_of_getLsbD_eq
    intro i hi
    have q := congrArg (fun v => BitVec.getLsbD v i) h
    simp only [BitVec.getLsbD_and, BitVec.getLsbD_xor, BitVec.getLsbD_zero] at q ⊢
    revert q
    cases x.getLsbD i <;> cases y.getLsbD i <;> cases z.getLsbD i <;> decide
theorem LWS_xor (a b h : Int32) : LWS (a ^^^ b) h = 0 ↔ LWS a h = LWS b h := by
  unfold LWS
  rw [← Int32.toBitVec_inj, ← Int32.toBitVec_inj]
  exact bxb a.toBitVec b.toBitVec _
theorem bxm (x m m' : BitVec 32) (e : m &&& m' = m') (h : x &&& m = 0#32) : x &&& m' = 0#32 := by
  rw [← e, ← BitVec.and_assoc, h, BitVec.zero_and]
theorem LWS_mono {x h h' : Int32} (h0 : 0 ≤ h'.toInt) (hl : h'.toInt ≤ h.toInt) (h8 : h.toInt ≤ 8) (z : LWS x h = 0) : LWS x h' = 0 := by
  have d : ∀ m : Fin 9, ∀ m' : Fin 9, m'.val ≤ m.val → ((((1 : Int32) <<< (nI m.val &&& 31)) - (1 : Int32)) &&& (((1 : Int32) <<< (nI m'.val &&& 31)) - (1 : Int32))) = (((1 : Int32) <<< (nI m'.val &&& 31)) - (1 : Int32)) := by decide +kernel
  have e : h = nI h.toInt.toNat := nI_ofN (by omega)
  have e' : h' = nI h'.toInt.toNat := nI_ofN (by omega)
  have k := d ⟨h.toInt.toNat, by omega⟩ ⟨h'.toInt.toNat, by omega⟩ (by show h'.toInt.toNat ≤ h.toInt.toNat; omega)
  have k' : ((((1 : Int32) <<< (nI h.toInt.toNat &&& 31)) - (1 : Int32)) &&& (((1 : Int32) <<< (nI h'.toInt.toNat &&& 31)) - (1 : Int32))) = (((1 : Int32) <<< (nI h'.toInt.toNat &&& 31)) - (1 : Int32)) := k
  rw [← e, ← e'] at k'
  have kb := congrArg Int32.toBitVec k'
  unfold LWS at z ⊢
  apply Int32.toBitVec_inj.mp
  exact bxm x.toBitVec _ _ kb (congrArg Int32.toBitVec z)
theorem LWS_0 (x : Int32) : LWS x 0 = 0 := by
  apply Int32.toBitVec_inj.mp
  show x.toBitVec &&& 0#32 = 0#32
  exact BitVec.and_zero
theorem fx_zLow {x : Int32} {Q : Int32 → Prop} (hq : ∀ r : Int32, 0 ≤ r.toInt → r.toInt ≤ 8 → (∀ h : Int32, 0 ≤ h.toInt → h.toInt ≤ 8 → (h.toInt ≤ r.toInt ↔ LWS x h = 0)) → Q r) : wp_X7_zerosFromLowest x Q := by
  unfold wp_X7_zerosFromLowest wp_X7_zerosFromLowest_2
  refine ⟨fun n x0 x1 => x = x0 ∧ 0 ≤ x1.toInt ∧ x1.toInt ≤ 8 ∧ LWS x x1 = 0 ∧ n = (9 - x1.toInt).toNat, ⟨_, rfl, by decide, by decide, LWS_0 x, rfl⟩, ?_⟩
  rintro n x0 x1 ⟨rfl, a0, a8, z, hn⟩
  unfold wp_X7_zerosFromLowest_2b wp_X8_lowest
  refine ⟨fun c => hq x1 a0 a8 (fun h h0 h8 => ⟨fun l => LWS_mono h0 l a8 z, fun _ => ?_⟩), fun c => ?_⟩
  · simp only [pn] at c
    omega
  · simp only [pn] at c
    have e : (x1 + 1).toInt = x1.toInt + 1 := by rw [pt_add (by rw [pl_1]; omega) (by rw [pl_1]; omega), pl_1]
    refine ⟨fun d => hq x1 a0 a8 (fun h h0 h8 => ⟨fun l => LWS_mono h0 l a8 z, fun w => ?_⟩), fun d => ⟨_, ?_, rfl, by omega, by omega, d, rfl⟩⟩
    · apply Classical.byContradiction
      intro y
      exact d (LWS_mono (h := h) (by omega) (by omega) h8 w)
    · omega
def HSH (o rb : Int32) : Int32 := o >>> (((8 : Int32) - rb) &&& 31)
theorem HSH_0 {o rb : Int32} (h0 : 0 ≤ o.toInt) (h255 : o.toInt ≤ 255) (r0 : 0 ≤ rb.toInt) (r8 : rb.toInt ≤ 8) : HSH o rb = 0 ↔ o.toInt.toNat / WD rb = 0 := by
  obtain ⟨n1, _, _, n4⟩ := nx_f h0 h255 r0 r8
  have w : 1 ≤ WD rb := Nat.one_le_two_pow
  show o >>> (((8 : Int32) - rb) &&& 31) = 0 ↔ _
  rw [n4]
  constructor
  · intro h
    have q := congrArg Int32.toInt h
    rw [n1, pl_0] at q
    have q' : o.toInt.toNat / WD rb * WD rb = 0 := by omega
    rcases Nat.mul_eq_zero.mp q' with y | y
    · exact y
    · omega
  · intro h
    refine Int32.toInt_inj.mp ?_
    rw [n1, h, Nat.zero_mul]
    rfl
theorem WD_mono {r q : Int32} (h : r.toInt ≤ q.toInt) : WD q ≤ WD r := Nat.pow_le_pow_right (by decide) (by omega)
theorem HSH_mono {o r q : Int32} (h0 : 0 ≤ o.toInt) (h255 : o.toInt ≤ 255) (r0 : 0 ≤ r.toInt) (l : r.toInt ≤ q.toInt) (q8 : q.toInt ≤ 8) (z : HSH o q = 0) : HSH o r = 0 := by
  rw [HSH_0 h0 h255 (by omega) (by omega)] at z ⊢
  have w : 1 ≤ WD q := Nat.one_le_two_pow
  have m := WD_mono l
  have lt : o.toInt.toNat < WD q := by
    apply Classical.byContradiction
    intro y
    have := Nat.div_pos (show WD q ≤ o.toInt.toNat by omega) w
    omega
  exact Nat.div_eq_of_lt (by omega)
theorem fx_zHigh {o : Int32} (o0 : 0 ≤ o.toInt) (o255 : o.toInt ≤ 255) {Q : Int32 → Prop} (hq : ∀ r : Int32, 0 ≤ r.toInt → r.toInt ≤ 8 → (∀ h : Int32, 0 ≤ h.toInt → h.toInt ≤ 8 → (h.toInt ≤ r.toInt ↔ HSH o h = 0)) → Q r) : wp_X7_zerosFromHighest o Q := by
  have z0 : HSH o 0 = 0 := by
    rw [HSH_0 o0 o255 (by decide) (by decide), wd_0]
    exact Nat.div_eq_of_lt (by omega)
  unfold wp_X7_zerosFromHighest wp_X7_zerosFromHighest_2
  refine ⟨fun n x0 x1 => o = x0 ∧ 0 ≤ x1.toInt ∧ x1.toInt ≤ 8 ∧ HSH o x1 = 0 ∧ n = (9 - x1.toInt).toNat, ⟨_, rfl, by decide, by decide, z0, rfl⟩, ?_⟩
  rintro n x0 x1 ⟨rfl, a0, a8, z, hn⟩
  unfold wp_X7_zerosFromHighest_2b wp_X8_highest
  refine ⟨fun c => hq x1 a0 a8 (fun h h0 h8 => ⟨fun l => HSH_mono o0 o255 h0 l a8 z, fun _ => ?_⟩), fun c => ?_⟩
  · simp only [pn] at c
    omega
  · simp only [pn] at c
    have e : (x1 + 1).toInt = x1.toInt + 1 := by rw [pt_add (by rw [pl_1]; omega) (by rw [pl_1]; omega), pl_1]
    refine ⟨fun d => hq x1 a0 a8 (fun h h0 h8 => ⟨fun l => HSH_mono o0 o255 h0 l a8 z, fun w => ?_⟩), fun d => ⟨_, ?_, rfl, by omega, by omega, d, rfl⟩⟩
    · apply Classical.byContradiction
      intro y
      exact d (HSH_mono (q := h) o0 o255 (by omega) (by omega) h8 w)
    · omega
theorem nx0 {p q : Nat} (h : p ^^^ q = 0) : p = q := by
  have e : (p ^^^ q) ^^^ q = p := by rw [Nat.xor_assoc, Nat.xor_self, Nat.xor_zero]
  rw [h, Nat.zero_xor] at e
  exact e.symm
theorem nxd (a b s : Nat) : (a ^^^ b) / 2 ^ s = 0 ↔ a / 2 ^ s = b / 2 ^ s := by
  rw [← Nat.shiftRight_eq_div_pow, ← Nat.shiftRight_eq_div_pow, ← Nat.shiftRight_eq_div_pow, Nat.shiftRight_xor_distrib]
  constructor
  · exact nx0
  · intro h
    rw [h, Nat.xor_self]
theorem b8n {a : Int32} (a0 : 0 ≤ a.toInt) (a255 : a.toInt ≤ 255) : a.toBitVec.toNat = a.toInt.toNat ∧ a.toBitVec.toNat < 2 ^ 8 := by
  have e : a.toInt = a.toBitVec.toInt := rfl
  have lt := a.toBitVec.isLt
  rw [e, BitVec.toInt_eq_toNat_cond] at a0 a255 ⊢
  split at a0 <;> split <;> omega
theorem xor_n {a b : Int32} (a0 : 0 ≤ a.toInt) (a255 : a.toInt ≤ 255) (b0 : 0 ≤ b.toInt) (b255 : b.toInt ≤ 255) : 0 ≤ (a ^^^ b).toInt ∧ (a ^^^ b).toInt ≤ 255 ∧ (a ^^^ b).toInt.toNat = a.toInt.toNat ^^^ b.toInt.toNat := by
  obtain ⟨e1, l1⟩ := b8n a0 a255
  obtain ⟨e2, l2⟩ := b8n b0 b255
  have l3 := Nat.xor_lt_two_pow l1 l2
  have e : (a ^^^ b).toInt = (a.toBitVec ^^^ b.toBitVec).toInt := rfl
  rw [e, BitVec.toInt_eq_toNat_cond, BitVec.toNat_xor]
  rw [if_pos (by omega), ← e1, ← e2]
  omega
theorem HSH_xor {k f : Int64} {l : Int32} (l0 : 0 ≤ l.toInt) (l7 : l.toInt ≤ 7) {rb : Int32} (r0 : 0 ≤ rb.toInt) (r8 : rb.toInt ≤ 8) : HSH (OCT k l ^^^ OCT f l) rb = 0 ↔ NXB (ub k) l.toInt.toNat rb = NXB (ub f) l.toInt.toNat rb := by
  have a := OCT_rng k l0 l7
  have b := OCT_rng f l0 l7
  obtain ⟨x0, x1, x2⟩ := xor_n a.1 a.2 b.1 b.2
  have w : 1 ≤ WD rb := Nat.one_le_two_pow
  rw [HSH_0 x0 x1 r0 r8, x2]
  unfold NXB
  rw [← show (OCT k l).toInt.toNat = PX (ub k) (l.toInt.toNat + 1) % 256 by rw [OCT_n k l0 l7]; rfl, ← show (OCT f l).toInt.toNat = PX (ub f) (l.toInt.toNat + 1) % 256 by rw [OCT_n f l0 l7]; rfl]
  unfold WD at w ⊢
  rw [nxd]
  constructor
  · intro h
    rw [h]
  · intro h
    exact Nat.eq_of_mul_eq_mul_right w h
/-! the leaf with whose beginning a key begins -/
theorem fx_beginningOf {X : bT1} (o : LVO X) (j : J1 X) {a1 : Int64} {a3 : Int32} {Q : Int32 → Prop} (n0 : 0 ≤ a3.toInt) (hq : ∀ r : Int32, ((∃ i : Nat, r.toInt = (i : Int) ∧ i < tn X ∧ BGN (b0g_bytes (b1g_owners X)) (b0g_lengths (b1g_owners X)) (b0g_count (b1g_owners X)).toInt a1 a3 i) ∨ (r = -1 ∧ ∀ i : Nat, i < tn X → ¬ BGN (b0g_bytes (b1g_owners X)) (b0g_lengths (b1g_owners X)) (b0g_count (b1g_owners X)).toInt a1 a3 i)) → Q r) : wp_X1_beginningOf X a1 a3 Q := by
  have jo := J0g_count (J1g_owners j)
  have t := tnn j
  unfold wp_X1_beginningOf wp_X1_beginningOf_3
  refine ⟨fun n x1 x3 x4 => ∃ m : Nat, a1 = x1 ∧ a3 = x3 ∧ x4.toInt = (m : Int) ∧ m ≤ tn X ∧ (∀ i : Nat, i < m → ¬ BGN (b0g_bytes (b1g_owners X)) (b0g_lengths (b1g_owners X)) (b0g_count (b1g_owners X)).toInt a1 a3 i) ∧ n = tn X - m, ⟨_, 0, rfl, rfl, rfl, by omega, fun i hi => by omega, rfl⟩, ?_⟩
  rintro n x1 x3 x4 ⟨m, rfl, rfl, e4, mb, hI, hn⟩
  suffices H : ∀ B : Int64 → Int32 → Int32 → Prop, (m < tn X → ¬ BGN (b0g_bytes (b1g_owners X)) (b0g_lengths (b1g_owners X)) (b0g_count (b1g_owners X)).toInt a1 a3 m → B a1 a3 (x4 + 1)) → wp_X1_beginningOf_3b X a1 a3 x4 Q B from H _ (fun hm nb => ⟨tn X - (m + 1), by omega, m + 1, rfl, rfl, by rw [pt_add (by rw [pl_1]; omega) (by rw [pl_1]; omega), pl_1, e4]; omega, by omega, fun i hi => by
    by_cases z : i = m
    · rw [z]
      exact nb
    · exact hI i (by omega), rfl⟩)
  intro B hB
  unfold wp_X1_beginningOf_3b
  refine ⟨fun c => hq _ (Or.inr ⟨rfl, fun i hi => hI i ?_⟩), fun c => ?_⟩
  · simp only [pn] at c
    omega
  simp only [pn] at c
  have hm : m < tn X := by omega
  have eb : BEG (b0g_bytes (b1g_owners X)) (b0g_lengths (b1g_owners X)) (b0g_count (b1g_owners X)).toInt m = min (tC X m + 1) (tL X m) := rfl
  have bf := BEG_f o.2.1 (i := m) (by omega)
  have next : ¬ BGN (b0g_bytes (b1g_owners X)) (b0g_lengths (b1g_owners X)) (b0g_count (b1g_owners X)).toInt a1 a3 m → wp_X1_beginningOf_55 X a1 a3 x4 Q B := by
    intro nb
    unfold wp_X1_beginningOf_55 wp_X1_beginningOf_56 wp_X1_beginningOf_75
    exact ⟨fun _ => hB hm nb, fun z => absurd rfl z⟩
  refine fx_lenAt o j e4 hm (fun r3 h3 => ⟨fun d => next (fun z => ?_), fun d => ?_⟩)
  · simp only [pn] at d
    have z2 := z.2.1
    rw [eb] at z2
    omega
  simp only [pn] at d
  refine fx_bytesAt (J1g_owners j) (fun r5 h5 _ => fx_lenAt o j e4 hm (fun r7 h7 => fx_front2 (fun r9 f1 f2 => ?_)))
  have e5 : r5 = b0g_bytes (b1g_owners X) m := h5 m (by omega) (by omega)
  have ex := xfr (a := a1) (b := r5) (F := r9) (l := r7) (by omega) (by omega) f1 f2
  rw [show r7.toInt.toNat = BEG (b0g_bytes (b1g_owners X)) (b0g_lengths (b1g_owners X)) (b0g_count (b1g_owners X)).toInt m by rw [eb]; omega, e5] at ex
  rw [e5]
  refine ⟨fun c2 => next (fun z => c2 (ex.mpr z.2.2)), fun c2 => ?_⟩
  unfold wp_X1_beginningOf_56 wp_X1_beginningOf_75
  refine ⟨fun z => absurd z (by decide), fun _ => fx_endAt o j e4 hm (fun r1 h1 => ⟨fun d1 => hB hm (fun z => d1 (h1.mpr z.1)), fun d1 => hq _ (Or.inl ⟨m, e4, hm, h1.mp d1, ?_, ex.mp c2⟩)⟩)⟩
  rw [eb]
  omega
theorem fx7_compare {S : bT7 × bT1} (o : LVO S.2) (j1 : J1 S.2) {a2 : Int64} {a4 a5 : Int32} {m : Nat} {Q : bT7 × bT1 → Prop} (p1 : 1 ≤ a4.toInt) (p8 : a4.toInt ≤ 8) (ck : CLK a2 a4) (hm : a5.toInt = (m : Int)) (h16 : m < 16) (hq : ∀ t : bT7, b7g_count t = b7g_count S.1 → (∀ x : Nat, x ≠ m → b7g_likeHash t x = b7g_likeHash S.1 x ∧ b7g_likeNext t x = b7g_likeNext S.1 x) → (∀ h rb : Int32, 0 ≤ h.toInt → h.toInt ≤ 8 → 0 ≤ rb.toInt → rb.toInt ≤ 8 → (FBQ (b0g_bytes (b1g_owners S.2)) (b0g_lengths (b1g_owners S.2)) (b0g_count (b1g_owners S.2)).toInt (b1g_salt S.2) h rb a2 a4 ↔ (h.toInt ≤ (b7g_likeHash t m).toInt ∧ rb.toInt ≤ (b7g_likeNext t m).toInt))) → Q (t, S.2)) : wp_X7_compare S a2 a4 a5 Q := by
  have jo := J0g_count (J1g_owners j1)
  have tt := tnn j1
  have em : a5.toNatClampNeg = m := by
    show a5.toInt.toNat = m
    omega
  have lk : ∀ t0 : Int32, ((t0 = -1 ∧ ∀ h rb : Int32, 0 ≤ h.toInt → h.toInt ≤ 8 → 0 ≤ rb.toInt → rb.toInt ≤ 8 → ¬ FBQ (b0g_bytes (b1g_owners S.2)) (b0g_lengths (b1g_owners S.2)) (b0g_count (b1g_owners S.2)).toInt (b1g_salt S.2) h rb a2 a4) ∨ ∃ i : Nat, t0.toInt = (i : Int) ∧ i < tn S.2 ∧ BEG (b0g_bytes (b1g_owners S.2)) (b0g_lengths (b1g_owners S.2)) (b0g_count (b1g_owners S.2)).toInt i ≤ 7 ∧ ∀ h rb : Int32, 0 ≤ h.toInt → h.toInt ≤ 8 → 0 ≤ rb.toInt → rb.toInt ≤ 8 → (FBQ (b0g_bytes (b1g_owners S.2)) (b0g_lengths (b1g_owners S.2)) (b0g_count (b1g_owners S.2)).toInt (b1g_salt S.2) h rb a2 a4 ↔ (LWS (MIX (b1g_salt S.2) a2 a4) h = LWS (MIX (b1g_salt S.2) (b0g_bytes (b1g_owners S.2) i) (b0g_lengths (b1g_owners S.2) i)) h ∧ NXB (ub a2) (BEG (b0g_bytes (b1g_owners S.2)) (b0g_lengths (b1g_owners S.2)) (b0g_count (b1g_owners S.2)).toInt i) rb = NXB (ub (b0g_bytes (b1g_owners S.2) i)) (BEG (b0g_bytes (b1g_owners S.2)) (b0g_lengths (b1g_owners S.2)) (b0g_count (b1g_owners S.2)).toInt i) rb))) → wp_X7_compare_25 S a2 a4 a5 t0 Q := by
    intro t0 ht
    unfold wp_X7_compare_25
    rw [em]
    refine ⟨fun c => ?_, fun c => ⟨fun d => ?_, fun d => ⟨pt_in (by omega) (by omega), fun S1 e1 => ⟨pt_in (by omega) (by omega), fun S2 e2 => ⟨fun y => ?_, fun y => ?_⟩⟩⟩⟩⟩
    · simp only [pn] at c
      omega
    · simp only [pn] at d
      omega
    · subst e1 e2
      rcases ht with ⟨_, hn⟩ | ⟨i, hi, _⟩
      · refine hq _ rfl (fun x hx => ⟨up_n hx, up_n hx⟩) (fun h rb h0 h8 r0 r8 => ⟨fun z => absurd z (hn h rb h0 h8 r0 r8), fun z => ?_⟩)
        have z1 := z.1
        have e : (upd (b7g_likeHash S.1) m (-1 : Int32) m).toInt = -1 := by rw [up_s]; rfl
        have z1' : h.toInt ≤ (upd (b7g_likeHash S.1) m (-1 : Int32) m).toInt := z1
        omega
      · rw [y] at hi
        have : ((-1 : Int32)).toInt = -1 := rfl
        omega
    · subst e1 e2
      rcases ht with ⟨e, _⟩ | ⟨i, hi, hin, l7, hf⟩
      · exact absurd e y
      obtain ⟨v1, v2, v3, v4⟩ := (o.1.2.2 i (by omega)).1
      refine fx_mixed (fun r3 h3 => fx_atN (by decide) hi (by omega) (fx_lenAt o j1 hi hin (fun r7 h7 => fx_octetAt (fun r9 h9 _ => fx_atN (by decide) hi (by omega) (fx_zLow (fun r13 z0 z8 zz => ⟨pt_in (by omega) (by omega), fun S15 e15 => ?_⟩))))))
      have e3 := h3 p8
      have eb : r7.toInt = ((BEG (b0g_bytes (b1g_owners S.2)) (b0g_lengths (b1g_owners S.2)) (b0g_count (b1g_owners S.2)).toInt i : Nat) : Int) := h7
      have e9 : r9 = OCT a2 r7 := h9 (by omega) (by omega)
      have e11 : b1g_nexts S.2 i = OCT (b0g_bytes (b1g_owners S.2) i) r7 := by
        have el : b1g_lengths S.2 i = r7 := Int32.toInt_inj.mp (by rw [v2, eb])
        rw [v4, el]
        exact if_pos (by omega)
      have a := OCT_rng a2 (i := r7) (by omega) (by omega)
      have b := OCT_rng (b0g_bytes (b1g_owners S.2) i) (i := r7) (by omega) (by omega)
      have xn := xor_n a.1 a.2 b.1 b.2
      subst e15
      have eX : r9 ^^^ b1g_nexts S.2 i = OCT a2 r7 ^^^ OCT (b0g_bytes (b1g_owners S.2) i) r7 := by rw [e9, e11]
      rw [show (b1g_nexts ((b7s_likeNext (b7s_likeHash S.1 (upd (b7g_likeHash S.1) m (-1 : Int32)), S.2).1 (upd (b7g_likeNext (b7s_likeHash S.1 (upd (b7g_likeHash S.1) m (-1 : Int32)), S.2).1) m (-1 : Int32)), (b7s_likeHash S.1 (upd (b7g_likeHash S.1) m (-1 : Int32)), S.2).2) : bT7 × bT1).2 i) = b1g_nexts S.2 i from rfl, eX]
      refine fx_zHigh (by omega) (by omega) (fun r16 w0 w8 ww => ⟨pt_in (by omega) (by omega), fun S18 e18 => ?_⟩)
      subst e18
      refine hq _ rfl (fun x hx => ⟨?_, ?_⟩) (fun h rb h0 h8 r0 r8 => ?_)
      · exact (up_n hx).trans (up_n hx)
      · exact (up_n hx).trans (up_n hx)
      · rw [hf h rb h0 h8 r0 r8]
        have q1 : h.toInt ≤ r13.toInt ↔ LWS (MIX (b1g_salt S.2) a2 a4) h = LWS (MIX (b1g_salt S.2) (b0g_bytes (b1g_owners S.2) i) (b0g_lengths (b1g_owners S.2) i)) h := by
          rw [zz h h0 h8, LWS_xor, e3]
          show _ = LWS (b1g_hashes S.2 i) h ↔ _
          rw [v3]
        have q2 : rb.toInt ≤ r16.toInt ↔ NXB (ub a2) (BEG (b0g_bytes (b1g_owners S.2)) (b0g_lengths (b1g_owners S.2)) (b0g_count (b1g_owners S.2)).toInt i) rb = NXB (ub (b0g_bytes (b1g_owners S.2) i)) (BEG (b0g_bytes (b1g_owners S.2)) (b0g_lengths (b1g_owners S.2)) (b0g_count (b1g_owners S.2)).toInt i) rb := by
          rw [ww rb r0 r8, HSH_xor (by omega) (by omega) r0 r8, eb]
          rfl
        rw [← q1, ← q2]
        show _ ↔ h.toInt ≤ (upd (upd (b7g_likeHash S.1) m (-1 : Int32)) m r13 m).toInt ∧ rb.toInt ≤ (upd (upd (b7g_likeNext S.1) m (-1 : Int32)) m r16 m).toInt
        rw [up_s, up_s]
  unfold wp_X7_compare
  refine fx_numberOf (J1g_owners j1) (fun r19 _ _ hN => ⟨fun c => lk _ (Or.inl ⟨rfl, fun h rb _ _ _ _ z => ?_⟩), fun c => ?_⟩)
  · rcases hN o.2.1 ⟨p1, p8⟩ with ⟨n0, n1, n2⟩ | ⟨e, _⟩
    · exact z.2 r19.toInt.toNat (by omega) (n2 r19.toInt.toNat (by omega))
    · exact c (Int32.toInt_inj.mp e)
  · have no : ∀ j : Nat, (j : Int) < (b0g_count (b1g_owners S.2)).toInt → ¬ (b0g_bytes (b1g_owners S.2) j = a2 ∧ b0g_lengths (b1g_owners S.2) j = a4) := by
      rcases hN o.2.1 ⟨p1, p8⟩ with ⟨n0, _⟩ | ⟨_, n1⟩
      · rw [c] at n0
        exact absurd n0 (by decide)
      · exact n1
    refine fx_beginningOf o j1 (by omega) (fun r21 h21 => lk r21 ?_)
    rcases h21 with ⟨i, e, hi, bg⟩ | ⟨e, nb⟩
    · exact Or.inr ⟨i, e, hi, BGN_7 o.2.1 (by omega) p8 no bg, fun h rb h0 h8 r0 r8 => TUN_one o.2.1 o.2.2.1 r0 r8 p1 p8 ck no (by omega) bg⟩
    · exact Or.inl ⟨e, fun h rb h0 h8 r0 r8 => TUN_none o.2.1 o.2.2.1 r0 r8 p1 p8 ck (fun i hi => nb i (by omega))⟩
theorem fx7_falseBy {T : bT7} {m : Nat} {a1 a2 : Int32} {Q : Int32 → Prop} (hc : (b7g_count T).toInt = (m : Int)) (h16 : m ≤ 16) (hq : ∀ r : Int32, r.toInt = CTP (fun i => a1.toInt ≤ (b7g_likeHash T i).toInt ∧ a2.toInt ≤ (b7g_likeNext T i).toInt) m → Q r) : wp_X7_falseBy T a1 a2 Q := by
  unfold wp_X7_falseBy wp_X7_falseBy_5
  refine ⟨fun n x1 x2 x3 x4 => ∃ i : Nat, a1 = x1 ∧ a2 = x2 ∧ x4.toInt = (i : Int) ∧ i ≤ m ∧ x3.toInt = CTP (fun i => a1.toInt ≤ (b7g_likeHash T i).toInt ∧ a2.toInt ≤ (b7g_likeNext T i).toInt) i ∧ n = m - i, ⟨_, 0, rfl, rfl, rfl, by omega, rfl, rfl⟩, ?_⟩
  rintro n x1 x2 x3 x4 ⟨i, rfl, rfl, e4, im, hv, hn⟩
  have cr := CTP_rng (fun i => a1.toInt ≤ (b7g_likeHash T i).toInt ∧ a2.toInt ≤ (b7g_likeNext T i).toInt) i
  suffices H : ∀ B : Int32 → Int32 → Int32 → Int32 → Prop, (∀ v : Int32, i < m → v.toInt = CTP (fun i => a1.toInt ≤ (b7g_likeHash T i).toInt ∧ a2.toInt ≤ (b7g_likeNext T i).toInt) (i + 1) → B a1 a2 v (x4 + 1)) → wp_X7_falseBy_5b T a1 a2 x3 x4 Q B from H _ (fun v hi t => ⟨m - (i + 1), by omega, i + 1, rfl, rfl, by rw [pt_add (by rw [pl_1]; omega) (by rw [pl_1]; omega), pl_1, e4]; omega, by omega, t, rfl⟩)
  intro B hB
  unfold wp_X7_falseBy_5b
  refine ⟨fun c => hq x3 ?_, fun c => ?_⟩
  · simp only [pn] at c
    rw [hv, show i = m by omega]
  simp only [pn] at c
  have hi : i < m := by omega
  have no : ¬ (a1.toInt ≤ (b7g_likeHash T i).toInt ∧ a2.toInt ≤ (b7g_likeNext T i).toInt) → wp_X7_falseBy_45 T a1 a2 x4 x3 Q B := by
    intro z
    unfold wp_X7_falseBy_45 wp_X7_falseBy_46
    have q : (x3 + (0 : Int32)).toInt = x3.toInt := by rw [pt_add (by rw [pl_0]; omega) (by rw [pl_0]; omega), pl_0, Int.add_zero]
    exact hB _ hi (by rw [q, hv, CTP_n z])
  refine fx_atN (by decide) e4 (by omega) ⟨fun d => no (fun z => ?_), fun d => fx_atN (by decide) e4 (by omega) ⟨fun d2 => no (fun z => ?_), fun d2 => ?_⟩⟩
  · simp only [pn] at d
    omega
  · simp only [pn] at d2
    omega
  · simp only [pn] at d d2
    unfold wp_X7_falseBy_46
    have y : a1.toInt ≤ (b7g_likeHash T i).toInt ∧ a2.toInt ≤ (b7g_likeNext T i).toInt := ⟨by omega, by omega⟩
    refine hB _ hi ?_
    rw [pt_add (by rw [pl_1]; omega) (by rw [pl_1]; omega), pl_1, hv, CTP_y (P := fun i => a1.toInt ≤ (b7g_likeHash T i).toInt ∧ a2.toInt ≤ (b7g_likeNext T i).toInt) y]
/-! the best pair of all -/
noncomputable def FQN (f : Nat → Int64) (g : Nat → Int32) (c : Int) (sa : Int32) (K : Nat → Int64) (N : Nat → Int32) (m : Nat) (h r : Int) : Int := CTP (fun i => FBQ f g c sa (nI h.toNat) (nI r.toNat) (K i) (N i)) m
def TUV (F : Int → Int → Int) (a b r : Int) : Prop := (((0 ≤ a ∧ a ≤ 16) ∧ (0 ≤ b ∧ b ≤ 2)) → ∃ h t c : Int, OPT F (VPR a) h t c ∧ (b = 0 → r = h) ∧ (b = 1 → r = t) ∧ (b = 2 → r = c)) ∧ (¬ ((0 ≤ a ∧ a ≤ 16) ∧ (0 ≤ b ∧ b ≤ 2)) → r = -1)
theorem TUV_one {F G : Int → Int → Int} {a b r q : Int} (e : ∀ h t, F h t = G h t) (x : TUV F a b r) (y : TUV G a b q) : r = q := by
  have eF : F = G := funext (fun h => funext (fun t => e h t))
  rw [← eF] at y
  by_cases z : (0 ≤ a ∧ a ≤ 16) ∧ (0 ≤ b ∧ b ≤ 2)
  · obtain ⟨h, t, c, o, a0, a1, a2⟩ := x.1 z
    obtain ⟨h', t', c', o', b0, b1, b2⟩ := y.1 z
    obtain ⟨e1, e2, e3⟩ := OPT_one o o'
    have zb := z.2
    rcases (show b = 0 ∨ b = 1 ∨ b = 2 by omega) with k | k | k
    · rw [a0 k, b0 k, e1]
    · rw [a1 k, b1 k, e2]
    · rw [a2 k, b2 k, e3]
  · rw [x.2 z, y.2 z]
theorem OPT_cg {F : Int → Int → Int} {P P2 : Int → Int → Prop} {h r c : Int} (a : OPT F P h r c) (e : ∀ x y, P x y ↔ P2 x y) : OPT F P2 h r c := ⟨(e _ _).mp a.1, a.2.1, fun x y p => a.2.2 x y ((e x y).mpr p)⟩
def QOK (K : bT0) : Prop := (b0g_count K).toInt ≤ 16 ∧ ∀ j : Nat, (j : Int) < (b0g_count K).toInt → (1 ≤ (b0g_lengths K j).toInt ∧ (b0g_lengths K j).toInt ≤ 8) ∧ CLK (b0g_bytes K j) (b0g_lengths K j)
def QO9 (S : bT9) : Prop := ∀ j : Nat, (j : Int) < (b9g_now S 10).toInt → 1 ≤ (b9g_lengths S (128 + j)).toInt
def QRL (K : bT0) (ks : Nat → Int64) (ls : Nat → Int32) (n : Int32) : Prop := (b0g_count K).toInt = n.toInt ∧ n.toInt ≤ 16 ∧ ∀ j : Nat, (j : Int) < n.toInt → (b0g_bytes K j = ks (128 + j) ∧ b0g_lengths K j = ls (128 + j)) ∧ (1 ≤ (b0g_lengths K j).toInt ∧ (b0g_lengths K j).toInt ≤ 8) ∧ CLK (b0g_bytes K j) (b0g_lengths K j)
theorem QRL_ok {K : bT0} {ks : Nat → Int64} {ls : Nat → Int32} {n : Int32} (h : QRL K ks ls n) : QOK K := ⟨by rw [h.1]; exact h.2.1, fun j hj => (h.2.2 j (by rw [← h.1]; exact hj)).2⟩
theorem QRL_same {K K2 : bT0} {ks ks2 : Nat → Int64} {ls ls2 : Nat → Int32} {n n2 : Int32} (h : QRL K ks ls n) (e : K2 = K) (er : ∀ j : Nat, 128 ≤ j → ks2 j = ks j ∧ ls2 j = ls j) (en : n2 = n) : QRL K2 ks2 ls2 n2 := by
  rw [e, en]
  refine ⟨h.1, h.2.1, fun j hj => ?_⟩
  rw [(er (128 + j) (by omega)).1, (er (128 + j) (by omega)).2]
  exact h.2.2 j hj
theorem QRL_req {K K2 : bT0} {ks ks2 : Nat → Int64} {ls ls2 : Nat → Int32} {n n2 : Int32} (h : QRL K ks ls n) (e : REQ K2 K) (er : ∀ j : Nat, (j : Int) < 144 → ks2 j = ks j ∧ ls2 j = ls j) (en : n2 = n) : QRL K2 ks2 ls2 n2 := by
  rw [en]
  refine ⟨by rw [e.1]; exact h.1, h.2.1, fun j hj => ?_⟩
  have h16 := h.2.1
  rw [(er (128 + j) (by omega)).1, (er (128 + j) (by omega)).2, (e.2 j (by omega)).1, (e.2 j (by omega)).2]
  exact h.2.2 j hj
theorem QRL_image {X U : bT8} {Y V : bT9} {a : Int32} (hn : QRL (b2g_questions (b8g_now X)) (b9g_keys Y) (b9g_lengths Y) (b9g_now Y 10)) (hk : QRL (b2g_questions (b8g_kept X)) (b9g_keyImages Y) (b9g_lengthImages Y) (b9g_images Y 10)) (fl : (b8g_isKept X).toInt = (b9g_hasImage Y).toInt) (c1 : a.toInt ≠ 0 → MEQ (b8g_kept U) (b8g_now X) ∧ b8g_now U = b8g_now X) (c2 : a.toInt = 0 → (b8g_isKept X).toInt = 0 → b8g_now U = b8g_now X ∧ b8g_kept U = b8g_kept X) (c3 : a.toInt = 0 → (b8g_isKept X).toInt ≠ 0 → MEQ (b8g_now U) (b8g_kept X) ∧ b8g_kept U = b8g_kept X) (m1 : a.toInt ≠ 0 ∨ (b9g_hasImage Y).toInt ≠ 0 → IMG Y V a 23 144) (m2 : a.toInt = 0 → (b9g_hasImage Y).toInt = 0 → b9g_now V = b9g_now Y ∧ b9g_keys V = b9g_keys Y ∧ b9g_lengths V = b9g_lengths Y ∧ b9g_images V = b9g_images Y ∧ b9g_keyImages V = b9g_keyImages Y ∧ b9g_lengthImages V = b9g_lengthImages Y) : QRL (b2g_questions (b8g_now U)) (b9g_keys V) (b9g_lengths V) (b9g_now V 10) ∧ QRL (b2g_questions (b8g_kept U)) (b9g_keyImages V) (b9g_lengthImages V) (b9g_images V 10) := by
  by_cases ha : a.toInt = 0
  · have a0 : a = 0 := Int32.toInt_inj.mp ha
    by_cases hz : (b8g_isKept X).toInt = 0
    · obtain ⟨p1, p2⟩ := c2 ha hz
      obtain ⟨q1, q2, q3, q4, q5, q6⟩ := m2 ha (by rw [← fl]; exact hz)
      rw [p1, p2, q1, q2, q3, q4, q5, q6]
      exact ⟨hn, hk⟩
    · obtain ⟨p1, p2⟩ := c3 ha hz
      obtain ⟨q1, q2, q3, q4, q5⟩ := (m1 (Or.inr (by rw [← fl]; exact hz))).2 a0
      rw [p2, q1, q2, q3]
      exact ⟨QRL_req hk p1.2.2.1 q5 (q4 10 (by decide)), hk⟩
  · have a0 : ¬ a = 0 := fun e => ha (by rw [e]; rfl)
    obtain ⟨p1, p2⟩ := c1 ha
    obtain ⟨q1, q2, q3, q4, q5⟩ := (m1 (Or.inl ha)).1 a0
    rw [p2, q1, q2, q3]
    exact ⟨hn, QRL_req hn p1.2.2.1 q5 (q4 10 (by decide))⟩
theorem QRL_forget {K2 : bT0} {ks2 : Nat → Int64} {ls2 : Nat → Int32} {n2 : Int32} (e1 : (b0g_count K2).toInt = 0) (e2 : n2.toInt = 0) : QRL K2 ks2 ls2 n2 := ⟨by rw [e1, e2], by omega, fun j hj => by omega⟩
theorem QRL_new {K K2 : bT0} {ks ks2 : Nat → Int64} {ls ls2 : Nat → Int32} {n n2 : Int32} {k : Int64} {a : Int32} (h : QRL K ks ls n) (p1 : 1 ≤ a.toInt) (p8 : a.toInt ≤ 8) (ck : CLK k a) (lt : n.toInt < 16) (ec : (b0g_count K2).toInt = (b0g_count K).toInt + 1) (en : n2.toInt = n.toInt + 1) (x1 : ∀ j : Nat, (j : Int) < (b0g_count K).toInt → b0g_bytes K2 j = b0g_bytes K j ∧ b0g_lengths K2 j = b0g_lengths K j) (x2 : ∀ j : Nat, (j : Int) = (b0g_count K).toInt → b0g_bytes K2 j = k ∧ b0g_lengths K2 j = a) (y1 : ∀ j : Nat, (j : Int) < n.toInt → ks2 (128 + j) = ks (128 + j) ∧ ls2 (128 + j) = ls (128 + j)) (y2 : ∀ j : Nat, (j : Int) = n.toInt → ks2 (128 + j) = k ∧ ls2 (128 + j) = a) : QRL K2 ks2 ls2 n2 := by
  have hc := h.1
  refine ⟨by omega, by omega, fun j hj => ?_⟩
  by_cases z : (j : Int) < n.toInt
  · rw [(x1 j (by omega)).1, (x1 j (by omega)).2, (y1 j z).1, (y1 j z).2]
    exact h.2.2 j z
  · have e : (j : Int) = n.toInt := by omega
    rw [(x2 j (by omega)).1, (x2 j (by omega)).2, (y2 j e).1, (y2 j e).2]
    exact ⟨⟨rfl, rfl⟩, ⟨p1, p8⟩, ck⟩
theorem QRL_start : QRL (b2g_questions (b8g_now bi8)) (b9g_keys bi9) (b9g_lengths bi9) (b9g_now bi9 10) ∧ QRL (b2g_questions (b8g_kept bi8)) (b9g_keyImages bi9) (b9g_lengthImages bi9) (b9g_images bi9 10) := ⟨⟨rfl, by decide, fun j hj => absurd hj (by rw [show (b9g_now bi9 10).toInt = 0 from rfl]; omega)⟩, ⟨rfl, by decide, fun j hj => absurd hj (by rw [show (b9g_images bi9 10).toInt = 0 from rfl]; omega)⟩⟩
theorem C_tuned {X : bT1} {n : Nat → Int32} {f : Nat → Int64} {g : Nat → Int32} {K : bT0} {ks : Nat → Int64} {ls : Nat → Int32} {a b r q : Int} {B : Prop} (hx : LFP X n f g) (hr : QRL K ks ls (n 10)) (h : LVO X → QOK K → TUV (FQN (b0g_bytes (b1g_owners X)) (b0g_lengths (b1g_owners X)) (b0g_count (b1g_owners X)).toInt (b1g_salt X) (b0g_bytes K) (b0g_lengths K) (b0g_count K).toInt.toNat) a b r) (hb : B) (h2 : B → TUV (FQN f g (n 9).toInt (n 16) (fun j => ks (128 + j)) (fun j => ls (128 + j)) (n 10).toInt.toNat) a b q) : r = q := by
  refine TUV_one (fun x y => ?_) (h hx.1 (QRL_ok hr)) (h2 hb)
  unfold FQN
  rw [hx.2.2.2.1, hx.2.2.2.2.2.2.2.1, hr.1]
  refine CTP_congr _ (fun i hi => ?_)
  have w := (hr.2.2 i (by omega)).1
  rw [w.1, w.2]
  exact FBQ_agr (fun j hj => ⟨(hx.2.2.2.2.1 j hj).1.symm, (hx.2.2.2.2.1 j hj).2.symm⟩)
theorem OPT_lev {F : Int → Int → Int} {s t h r c : Int} (a : OPT F (AHD s t) h r c) (e : 9 ≤ t ∨ s + 1 ≤ t) : OPT F (AHD (s + 1) 0) h r c := OPT_cg a (fun x y => by unfold AHD; omega)
theorem OPT_first {F : Int → Int → Int} : OPT F (AHD 1 0) 0 0 (F 0 0) := by
  refine ⟨by unfold AHD; omega, rfl, fun x y p => ?_⟩
  unfold AHD at p
  have e1 : x = 0 := by omega
  have e2 : y = 0 := by omega
  rw [e1, e2]
  omega
theorem OPT_low {F : Int → Int → Int} {s t h r c : Int} (a : OPT F (AHD s 0) h r c) (e : t ≤ max (s - 8) 0) (t0 : 0 ≤ t) : OPT F (AHD s t) h r c := OPT_cg a (fun x y => by unfold AHD; omega)
theorem OPT_end {F : Int → Int → Int} {w h r c : Int} (a : OPT F (AHD (w + 1) 0) h r c) : OPT F (VPR w) h r c := OPT_cg a (fun x y => by unfold AHD VPR; omega)
def STT (F : Int → Int → Int) (s t f b : Int) : Prop := (s = 0 ∧ t = 0 ∧ f = 17 ∧ b = 0) ∨ ∃ h r c : Int, OPT F (AHD s t) h r c ∧ f = c ∧ b = 9 * h + r
theorem STT_new {F : Int → Int → Int} {s t f b : Int} (a : STT F s t f b) (v : 0 ≤ t ∧ t ≤ 8 ∧ 0 ≤ s - t ∧ s - t ≤ 8) (l : F t (s - t) < f) : STT F s (t + 1) (F t (s - t)) (9 * t + (s - t)) := by
  rcases a with ⟨a1, a2, a3, a4⟩ | ⟨h, r, c, o, e1, e2⟩
  · subst a1 a2
    refine Or.inr ⟨0, 0, F 0 (0 - 0), ⟨by unfold AHD; omega, rfl, fun x y p => ?_⟩, rfl, rfl⟩
    unfold AHD at p
    have z1 : x = 0 := by omega
    have z2 : y = 0 := by omega
    rw [z1, z2]
    exact Or.inr ⟨rfl, Or.inr ⟨rfl, by omega⟩⟩
  · exact Or.inr ⟨t, s - t, _, OPT_new o v (by omega), rfl, rfl⟩
theorem STT_old {F : Int → Int → Int} {s t f b : Int} (a : STT F s t f b) (l : (0 ≤ t ∧ t ≤ 8 ∧ 0 ≤ s - t ∧ s - t ≤ 8) → f ≤ F t (s - t) ∧ F t (s - t) ≤ 16) : STT F s (t + 1) f b := by
  rcases a with ⟨a1, a2, a3, a4⟩ | ⟨h, r, c, o, e1, e2⟩
  · exfalso
    have := l (by omega)
    omega
  · exact Or.inr ⟨h, r, c, OPT_old o (fun z => by have := l z; omega), e1, e2⟩
theorem STT_lev {F : Int → Int → Int} {s t f b : Int} (a : STT F s t f b) (s0 : 0 ≤ s) (e : 9 ≤ t ∨ s + 1 ≤ t) : STT F (s + 1) 0 f b := by
  rcases a with ⟨a1, a2, a3, a4⟩ | ⟨h, r, c, o, e1, e2⟩
  · omega
  · exact Or.inr ⟨h, r, c, OPT_lev o e, e1, e2⟩
