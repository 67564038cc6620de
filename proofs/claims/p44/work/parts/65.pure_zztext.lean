/-! texts: a row of signs holds a list -/
def TXL (f : Nat → Int32) (n : Int) (l : List Int) : Prop := n = (l.length : Int) ∧ ∀ (j : Nat) (w : Int), l[j]? = some w → (f j).toInt = w
theorem TXL_put {f : Nat → Int32} {n m x : Int32} {l : List Int} {v : Int} (h : TXL f n.toInt l) (e : x.toInt = v) (hm : m.toInt = n.toInt + 1) : TXL (upd f n.toNatClampNeg x) m.toInt (l ++ [v]) := by
  obtain ⟨h1, h2⟩ := h
  have en : n.toNatClampNeg = l.length := by
    show n.toInt.toNat = l.length
    omega
  refine ⟨?_, fun j w hw => ?_⟩
  · rw [hm, h1, List.length_append]
    show (l.length : Int) + 1 = ((l.length + 1 : Nat) : Int)
    omega
  · rw [en]
    by_cases z : j < l.length
    · rw [pt_updn (by omega)]
      refine h2 j w ?_
      rw [List.getElem?_append_left z] at hw
      exact hw
    · have z2 : j = l.length := by
        apply Classical.byContradiction
        intro y
        have : (l ++ [v])[j]? = none := List.getElem?_eq_none (by rw [List.length_append]; show l.length + 1 ≤ j; omega)
        rw [this] at hw
        exact absurd hw (by simp)
      rw [pt_updq z2, e]
      rw [z2, List.getElem?_concat_length] at hw
      exact Option.some.inj hw
theorem TXL_one {f g : Nat → Int32} {n m : Int} {l : List Int} (h : TXL f n l) (k : TXL g m l) : n = m ∧ ∀ j : Nat, (j : Int) < n → (f j).toInt = (g j).toInt := by
  refine ⟨h.1.trans k.1.symm, fun j hj => ?_⟩
  have hl : j < l.length := by have := h.1; omega
  have e := List.getElem?_eq_getElem hl
  rw [h.2 j _ e, k.2 j _ e]
theorem TXL_nil (f : Nat → Int32) : TXL f 0 [] := ⟨rfl, fun j w h => absurd h (by simp)⟩
def SAY (S u : bT5) (w : List Int) : Prop := ∀ l : List Int, TXL (b5g_signs S) (b5g_length S).toInt l → l.length + w.length ≤ 128 → TXL (b5g_signs u) (b5g_length u).toInt (l ++ w)
theorem SAY_nil (S : bT5) : SAY S S [] := fun l h _ => by rw [List.append_nil]; exact h
theorem SAY_tr {A B C : bT5} {w v : List Int} (h : SAY A B w) (g : SAY B C v) : SAY A C (w ++ v) := fun l t b => by
  rw [List.length_append] at b
  rw [← List.append_assoc]
  exact g _ (h _ t (by omega)) (by rw [List.length_append]; omega)
def SAZ (S u : bT9) (w : List Int) : Prop := ∀ l : List Int, TXL (b9g_signs S) (b9g_signMany S).toInt l → TXL (b9g_signs u) (b9g_signMany u).toInt (l ++ w)
def DIG (v : Int) : List Int := (if 99 < v then [48 + v / 100] else []) ++ ((if 9 < v then [48 + v / 10 % 10] else []) ++ [48 + v % 10])
def HEX (v : Int) : Int := if v < 10 then 48 + v else 87 + v
def UNI (u : Int) : Prop := u = 1000 ∨ u = 10000 ∨ u = 100000 ∨ u = 1000000 ∨ u = 10000000 ∨ u = 100000000 ∨ u = 1000000000
def DGR (v u : Int) (r : List Int) : Prop := (u = 0 ∧ r = []) ∨ (u = 1 ∧ r = [48 + v % 10]) ∨ (u = 10 ∧ r = (if 9 < v then [48 + v / 10 % 10] else []) ++ [48 + v % 10]) ∨ (u = 100 ∧ r = DIG v) ∨ (UNI u ∧ r = DIG v)
theorem DIG_len (v : Int) : (DIG v).length ≤ 3 := by
  unfold DIG
  split <;> split <;> exact Nat.le_of_ble_eq_true rfl
theorem c16n {y : Int32} (h0 : 0 ≤ y.toInt) (h1 : y.toInt < 65536) : y.toUInt32.toNat < 65536 := by
  have e : y.toInt = y.toUInt32.toBitVec.toInt := rfl
  have hw : y.toUInt32.toNat = y.toUInt32.toBitVec.toNat := rfl
  have lt := y.toUInt32.toBitVec.isLt
  rw [e, BitVec.toInt_eq_toNat_cond] at h0 h1
  split at h0 <;> split at h1 <;> omega
theorem c16 {y : Int32} (h0 : 0 ≤ y.toInt) (h1 : y.toInt < 65536) : (y.toUInt32 % 65536).toInt32 = y := by
  have hn := c16n h0 h1
  have e : y.toUInt32 % 65536 = y.toUInt32 := UInt32.toNat_inj.mp (by rw [UInt32.toNat_mod]; exact Nat.mod_eq_of_lt hn)
  rw [e]
  rfl
theorem vn16 {y : Int32} (h0 : 0 ≤ y.toInt) (h1 : y.toInt < 65536) : vp_nar .char y = y := by
  have hn := c16n h0 h1
  show y.toUInt32.toUInt16.toUInt32.toInt32 = y
  have e : y.toUInt32.toUInt16.toUInt32 = y.toUInt32 := UInt32.toNat_inj.mp (by rw [UInt16.toNat_toUInt32, UInt32.toNat_toUInt16]; exact Nat.mod_eq_of_lt hn)
  rw [e]
  rfl
theorem and_rng {x m : Int32} (h0 : 0 ≤ m.toInt) : 0 ≤ (x &&& m).toInt ∧ (x &&& m).toInt ≤ m.toInt := by
  have e : (x &&& m).toInt = (x.toBitVec &&& m.toBitVec).toInt := rfl
  have em : m.toInt = m.toBitVec.toInt := rfl
  have l1 := Nat.and_le_right (n := x.toBitVec.toNat) (m := m.toBitVec.toNat)
  have l2 := m.toBitVec.isLt
  rw [em, BitVec.toInt_eq_toNat_cond] at h0
  rw [e, em, BitVec.toInt_eq_toNat_cond, BitVec.toInt_eq_toNat_cond, BitVec.toNat_and]
  split at h0
  · rw [if_pos (by omega), if_pos (by omega)]
    omega
  · omega
theorem LWS_rng {x h : Int32} (h0 : 0 ≤ h.toInt) (h8 : h.toInt ≤ 8) : 0 ≤ (LWS x h).toInt ∧ (LWS x h).toInt ≤ 255 := by
  have d : ∀ m : Nat, m < 9 → 0 ≤ (((1 : Int32) <<< (nI m &&& 31)) - (1 : Int32)).toInt ∧ (((1 : Int32) <<< (nI m &&& 31)) - (1 : Int32)).toInt ≤ 255 := by decide +kernel
  have e : h = nI h.toInt.toNat := nI_ofN (by omega)
  have k := d h.toInt.toNat (by omega)
  rw [← e] at k
  have r := and_rng (x := x) k.1
  unfold LWS
  omega
theorem half_n {a : Int32} (h0 : 0 ≤ a.toInt) (h1 : a.toInt ≤ 255) : (a >>> ((4 : Int32) &&& 31)).toInt = a.toInt / 16 ∧ (a &&& (15 : Int32)).toInt = a.toInt % 16 := by
  have d : ∀ m : Nat, m < 256 → (nI m >>> ((4 : Int32) &&& 31)).toInt = (m : Int) / 16 ∧ (nI m &&& (15 : Int32)).toInt = (m : Int) % 16 := by decide +kernel
  have e : a = nI a.toInt.toNat := nI_ofN (by omega)
  have k := d a.toInt.toNat (by omega)
  rw [← e, show ((a.toInt.toNat : Nat) : Int) = a.toInt by omega] at k
  exact k
theorem nI_m1 {m : Nat} (h : m < 1000) : (nI m + (-1 : Int32)).toInt = (m : Int) - 1 := by
  have e : (nI m).toInt = (m : Int) := nI_toInt (by omega)
  have e1 : ((-1 : Int32)).toInt = -1 := rfl
  rw [pt_add (by rw [e, e1]; omega) (by rw [e, e1]; omega), e, e1]
  omega
theorem J0g_lengths' {X : bT1} (o : LVO X) (j : J1 X) {i : Nat} (h : (i : Int) < (b0g_count (b1g_owners X)).toInt) : (b0g_lengths (b1g_owners X) i).toInt ≤ 8 := by
  have g := (tG o j).2.1 i (by have := tnn j; omega)
  have e : tL X i = (b0g_lengths (b1g_owners X) i).toInt.toNat := rfl
  omega
/-! the text of the filter -/
noncomputable def FTX (n : Nat) (C L : Nat → Nat) (P : Nat → Nat → Nat) (k : Nat) : Nat → List Int
  | 0 => []
  | i + 1 => FTX n C L P k i ++ ((if i = 0 then [] else [44]) ++ ([if i < k then 100 else 115] ++ (DIG (NB n C P (64 * (i + 1)) - NB n C P (64 * i)) ++ ([58] ++ DIG (BB n C L P (64 * (i + 1)) - BB n C L P (64 * i))))))
theorem FTX_len {n : Nat} {C L : Nat → Nat} {P : Nat → Nat → Nat} {k : Nat} : ∀ i : Nat, (FTX n C L P k i).length ≤ 9 * i := by
  intro i
  induction i with
  | zero => exact Nat.le_refl 0
  | succ i ih =>
    unfold FTX
    have a := DIG_len (NB n C P (64 * (i + 1)) - NB n C P (64 * i))
    have b := DIG_len (BB n C L P (64 * (i + 1)) - BB n C L P (64 * i))
    rw [List.length_append, List.length_append, List.length_append, List.length_append, List.length_append]
    have c : (if i = 0 then ([] : List Int) else [44]).length ≤ 1 := by split <;> exact Nat.le_of_ble_eq_true rfl
    have d : ([if i < k then (100 : Int) else 115]).length = 1 := rfl
    have e : ([(58 : Int)]).length = 1 := rfl
    omega
theorem FTX_cg {n : Nat} {C C2 L L2 : Nat → Nat} {P P2 : Nat → Nat → Nat} (eN : ∀ w, NB n C2 P2 w = NB n C P w) (eB : ∀ w, BB n C2 L2 P2 w = BB n C L P w) (k : Nat) : ∀ i : Nat, FTX n C2 L2 P2 k i = FTX n C L P k i := by
  intro i
  induction i with
  | zero => rfl
  | succ i ih =>
    unfold FTX
    rw [ih, eN, eN, eB, eB]
/-! the text of a leaf -/
def HXS (f : Int64) : Nat → List Int
  | 0 => []
  | i + 1 => HXS f i ++ [HEX ((OCT f (nI i)).toInt / 16), HEX ((OCT f (nI i)).toInt % 16)]
def RBS (x : Int32) : Nat → List Int
  | 0 => []
  | i + 1 => [48 + ((x >>> (nI i &&& 31)) &&& 1).toInt] ++ RBS x i
theorem HXS_len (f : Int64) : ∀ i : Nat, (HXS f i).length = 2 * i := by
  intro i
  induction i with
  | zero => rfl
  | succ i ih =>
    unfold HXS
    rw [List.length_append, ih]
    show 2 * i + 2 = 2 * (i + 1)
    omega
theorem RBS_len (x : Int32) : ∀ i : Nat, (RBS x i).length = i := by
  intro i
  induction i with
  | zero => rfl
  | succ i ih =>
    unfold RBS
    rw [List.length_append, ih]
    show 1 + i = i + 1
    omega
def LXE (C : Nat → Nat) (g : Nat → Int32) (i : Nat) : List Int := if C i = (g i).toInt.toNat then [36] else []
def LXH (f : Nat → Int64) (g : Nat → Int32) (sa hb : Int32) (i : Nat) : List Int := if hb.toInt = 0 then [] else [35] ++ DIG (LWS (MIX sa (f i) (g i)) hb).toInt
def LXN (C : Nat → Nat) (f : Nat → Int64) (g : Nat → Int32) (rb : Int32) (i : Nat) : Int32 := (OC8 (f i) (nI (min (C i + 1) (g i).toInt.toNat))) >>> (((8 : Int32) - rb) &&& 31)
def LXR (C : Nat → Nat) (f : Nat → Int64) (g : Nat → Int32) (rb : Int32) (i : Nat) : List Int := if rb.toInt = 0 then [] else [47] ++ RBS (LXN C f g rb i) rb.toInt.toNat
def LTX (C : Nat → Nat) (f : Nat → Int64) (g : Nat → Int32) (sa hb rb : Int32) (i : Nat) : List Int := HXS (f i) (min (C i + 1) (g i).toInt.toNat) ++ (LXE C g i ++ (LXH f g sa hb i ++ LXR C f g rb i))
theorem LTX_len {C : Nat → Nat} {f : Nat → Int64} {g : Nat → Int32} {sa hb rb : Int32} {i : Nat} (hg : (g i).toInt ≤ 8) (hr : rb.toInt ≤ 8) : (LTX C f g sa hb rb i).length ≤ 30 := by
  unfold LTX
  rw [List.length_append, List.length_append, List.length_append, HXS_len]
  have a : (LXE C g i).length ≤ 1 := by unfold LXE; split <;> exact Nat.le_of_ble_eq_true rfl
  have b : (LXH f g sa hb i).length ≤ 4 := by
    unfold LXH
    split
    · exact Nat.le_of_ble_eq_true rfl
    · have := DIG_len (LWS (MIX sa (f i) (g i)) hb).toInt
      rw [List.length_append]
      show 1 + _ ≤ 4
      omega
  have c : (LXR C f g rb i).length ≤ 9 := by
    unfold LXR
    split
    · exact Nat.le_of_ble_eq_true rfl
    · rw [List.length_append, RBS_len]
      show 1 + _ ≤ 9
      omega
  omega
noncomputable def RPV (n : Nat) (C L : Nat → Nat) (P : Nat → Nat → Nat) (f : Nat → Int64) (g : Nat → Int32) (sa hb rb : Int32) (k lv : Nat) (a : Int) : List Int := if a = -1 then FTX n C L P k lv ++ [46] else LTX C f g sa hb rb a.toNat
def TXR (X : bT5) (f : Nat → Int32) (n : Int32) : Prop := (b5g_length X).toInt = n.toInt ∧ ∀ j : Nat, (j : Int) < (b5g_length X).toInt → (b5g_signs X j).toInt = (f j).toInt
/-! levels of the reference: how many nodes, how many branches -/
theorem fx9_levelOf0 {S : bT9} (h : R9 S) (hN : N9 S) {a1 : Int32} {u : Nat} {Q : Int32 → Prop} (hu : a1.toInt = (u : Int)) (h7 : u ≤ 7) (hq : ∀ r : Int32, r.toInt = NB (n9 S) (C9 S) (P9 S) (64 * (u + 1)) - NB (n9 S) (C9 S) (P9 S) (64 * u) → Q r) : wp_X9_levelOf S a1 (0 : Int32) Q := by
  have n5 := NB_le h.1 (l := 7) (i := 64) (by omega) (by omega)
  have nb5 : NB (n9 S) (C9 S) (P9 S) (64 * 7 + 64) = NB (n9 S) (C9 S) (P9 S) 512 := rfl
  have nu := NB_nn (n := n9 S) (C := C9 S) (P := P9 S) (64 * u)
  have nm := NB_mono (n := n9 S) (C := C9 S) (P := P9 S) (show 64 * (u + 1) ≤ 512 by omega)
  have nn := NB_mono (n := n9 S) (C := C9 S) (P := P9 S) (show 64 * u ≤ 64 * (u + 1) by omega)
  have g64 := h.1.1
  have hm := hN.1
  unfold wp_X9_levelOf wp_X9_levelOf_5
  refine ⟨fun k x1 x2 x3 x4 => ∃ x : Nat, a1 = x1 ∧ x2 = 0 ∧ x4.toInt = (x : Int) ∧ (x : Int) ≤ NB (n9 S) (C9 S) (P9 S) 512 ∧ x3.toInt = max 0 (min (x : Int) (NB (n9 S) (C9 S) (P9 S) (64 * (u + 1))) - NB (n9 S) (C9 S) (P9 S) (64 * u)) ∧ k = 600 - x, ⟨_, 0, rfl, rfl, rfl, by omega, by rw [pl_0]; omega, rfl⟩, ?_⟩
  rintro k x1 x2 x3 x4 ⟨x, rfl, rfl, e4, xm, hv, hk⟩
  suffices H : ∀ B : Int32 → Int32 → Int32 → Int32 → Prop, (∀ v : Int32, (x : Int) < NB (n9 S) (C9 S) (P9 S) 512 → v.toInt = max 0 (min ((x : Int) + 1) (NB (n9 S) (C9 S) (P9 S) (64 * (u + 1))) - NB (n9 S) (C9 S) (P9 S) (64 * u)) → B a1 0 v (x4 + 1)) → wp_X9_levelOf_5b S a1 0 x3 x4 Q B from H _ (fun v hx t => ⟨600 - (x + 1), by omega, x + 1, rfl, rfl, by rw [pt_add (by rw [pl_1]; omega) (by rw [pl_1]; omega), pl_1, e4]; omega, by omega, by rw [t]; omega, rfl⟩)
  intro B hB
  have ex : x4.toNatClampNeg = x := by
    show x4.toInt.toNat = x
    omega
  unfold wp_X9_levelOf_5b
  rw [ex]
  refine ⟨fun c => hq x3 ?_, fun c => ?_⟩
  · simp only [pn] at c
    rw [hv]
    omega
  simp only [pn] at c
  obtain ⟨l, s, e, ha⟩ := AT9_of h hN (x := x) (by omega)
  obtain ⟨x5, l7, hs, hg, hx, f1, f2, f3⟩ := ha
  have sn := hs.1
  refine ⟨pt_in (by omega) (by omega), fun d => ⟨fun y => absurd rfl y, fun _ => ?_⟩, fun d => ?_⟩
  · have d' := congrArg Int32.toInt d
    have lu : l = u := by omega
    subst lu
    have m1 := NB_mono (n := n9 S) (C := C9 S) (P := P9 S) (show 64 * l ≤ 64 * l + s by omega)
    have lt : NB (n9 S) (C9 S) (P9 S) (64 * l + s) < NB (n9 S) (C9 S) (P9 S) (64 * (l + 1)) := CTP_lt (by omega) ((IsN_at (by omega)).mpr hs)
    unfold wp_X9_levelOf_70 wp_X9_levelOf_72
    have q : (x3 + 1).toInt = x3.toInt + 1 := by rw [pt_add (by rw [pl_1]; omega) (by rw [pl_1]; omega), pl_1]
    exact hB (x3 + 1) (by omega) (by omega)
  · have lu : l ≠ u := fun z => d (Int32.toInt_inj.mp (by rw [f1, hu, z]))
    unfold wp_X9_levelOf_72
    by_cases z : l < u
    · have lt : NB (n9 S) (C9 S) (P9 S) (64 * l + s) < NB (n9 S) (C9 S) (P9 S) (64 * u) := CTP_lt (by omega) ((IsN_at (by omega)).mpr hs)
      exact hB x3 (by omega) (by omega)
    · have mn := NB_mono (n := n9 S) (C := C9 S) (P := P9 S) (show 64 * (u + 1) ≤ 64 * l + s by omega)
      exact hB x3 (by omega) (by omega)
theorem BB_gap {n : Nat} {C L : Nat → Nat} {P : Nat → Nat → Nat} {a b : Nat} (e : EB n C P a = EB n C P b) : BB n C L P a = BB n C L P b := CTP_sub2 (P := IsE n C P) (R := IsB n C L P) (fun w z => z.1) e
theorem BB_mono {n : Nat} {C L : Nat → Nat} {P : Nat → Nat → Nat} {a b : Nat} (h : a ≤ b) : BB n C L P a ≤ BB n C L P b := CTP_le b h
theorem BB_le {n : Nat} {C L : Nat → Nat} {P : Nat → Nat → Nat} (G : GRD n C L P) {w : Nat} (hw : w ≤ 512) : 0 ≤ BB n C L P w ∧ BB n C L P w ≤ 289 := by
  have e := EB_le G hw
  have d := DB_BB (n := n) (C := C) (L := L) (P := P) w
  have d0 : 0 ≤ DB n C L P w := (CTP_rng _ _).1
  have b0 : 0 ≤ BB n C L P w := (CTP_rng _ _).1
  omega
theorem fx9_levelOf1 {S : bT9} (h : R9 S) (hN : N9 S) {a1 : Int32} {u : Nat} {Q : Int32 → Prop} (hu : a1.toInt = (u : Int)) (h7 : u ≤ 7) (hq : ∀ r : Int32, r.toInt = BB (n9 S) (C9 S) (L9 S) (P9 S) (64 * (u + 1)) - BB (n9 S) (C9 S) (L9 S) (P9 S) (64 * u) → Q r) : wp_X9_levelOf S a1 (1 : Int32) Q := by
  have G := h.1
  have n5 := NB_le h.1 (l := 7) (i := 64) (by omega) (by omega)
  have nb5 : NB (n9 S) (C9 S) (P9 S) (64 * 7 + 64) = NB (n9 S) (C9 S) (P9 S) 512 := rfl
  have bu := BB_le G (w := 64 * u) (by omega)
  have bu1 := BB_le G (w := 64 * (u + 1)) (by omega)
  have bm := BB_mono (n := n9 S) (C := C9 S) (L := L9 S) (P := P9 S) (show 64 * u ≤ 64 * (u + 1) by omega)
  have g64 := h.1.1
  have hm := hN.1
  obtain ⟨p0, q1, q2, q3, q4, q5, q6⟩ := NB_pos (n := n9 S) (C := C9 S) (P := P9 S) (b := 0) (x := 0) (by omega) rfl
  have z0E : EB (n9 S) (C9 S) (P9 S) p0 = EB (n9 S) (C9 S) (P9 S) 0 := EB_gap g64 (l := 0) (e := 0) (by omega) (fun a b => ⟨a, b, Or.inl rfl⟩) (by omega) (fun w a b => q6 w (by omega) b)
  have z0B : BB (n9 S) (C9 S) (L9 S) (P9 S) p0 = 0 := BB_gap z0E
  unfold wp_X9_levelOf wp_X9_levelOf_5
  refine ⟨fun k x1 x2 x3 x4 => ∃ x p : Nat, a1 = x1 ∧ x2 = 1 ∧ x4.toInt = (x : Int) ∧ p ≤ 512 ∧ (x : Int) = NB (n9 S) (C9 S) (P9 S) p ∧ ((x : Int) < NB (n9 S) (C9 S) (P9 S) 512 → IsN (n9 S) (C9 S) (P9 S) p) ∧ (¬ (x : Int) < NB (n9 S) (C9 S) (P9 S) 512 → p = 512) ∧ x3.toInt = max 0 (min (BB (n9 S) (C9 S) (L9 S) (P9 S) p) (BB (n9 S) (C9 S) (L9 S) (P9 S) (64 * (u + 1))) - BB (n9 S) (C9 S) (L9 S) (P9 S) (64 * u)) ∧ k = 600 - x, ⟨_, 0, p0, rfl, rfl, rfl, q2, q3, fun t => (q4 t).2, q5, by rw [pl_0, z0B]; omega, rfl⟩, ?_⟩
  rintro k x1 x2 x3 x4 ⟨x, p, rfl, rfl, e4, p5, hx, pN, pE, hv, hk⟩
  have mx := NB_mono (n := n9 S) (C := C9 S) (P := P9 S) p5
  have bp := BB_le G p5
  suffices H : ∀ B : Int32 → Int32 → Int32 → Int32 → Prop, (∀ (v : Int32) (p' : Nat), (x : Int) < NB (n9 S) (C9 S) (P9 S) 512 → p' ≤ 512 → ((x + 1 : Nat) : Int) = NB (n9 S) (C9 S) (P9 S) p' → (((x + 1 : Nat) : Int) < NB (n9 S) (C9 S) (P9 S) 512 → IsN (n9 S) (C9 S) (P9 S) p') → (¬ ((x + 1 : Nat) : Int) < NB (n9 S) (C9 S) (P9 S) 512 → p' = 512) → v.toInt = max 0 (min (BB (n9 S) (C9 S) (L9 S) (P9 S) p') (BB (n9 S) (C9 S) (L9 S) (P9 S) (64 * (u + 1))) - BB (n9 S) (C9 S) (L9 S) (P9 S) (64 * u)) → B a1 1 v (x4 + 1)) → wp_X9_levelOf_5b S a1 1 x3 x4 Q B from H _ (fun v p' hx t1 t2 t3 t4 t5 => ⟨600 - (x + 1), by omega, x + 1, p', rfl, rfl, by rw [pt_add (by rw [pl_1]; omega) (by rw [pl_1]; omega), pl_1, e4]; omega, t1, t2, t3, t4, t5, rfl⟩)
  intro B hB
  have ex : x4.toNatClampNeg = x := by
    show x4.toInt.toNat = x
    omega
  unfold wp_X9_levelOf_5b
  rw [ex]
  refine ⟨fun c => hq x3 ?_, fun c => ?_⟩
  · simp only [pn] at c
    have pp := pE (by omega)
    subst pp
    have mn := BB_mono (n := n9 S) (C := C9 S) (L := L9 S) (P := P9 S) (show 64 * (u + 1) ≤ 512 by omega)
    rw [hv]
    omega
  simp only [pn] at c
  have pI := pN (by omega)
  obtain ⟨l, s, e, ha⟩ := AT9_of h hN (x := x) (by omega)
  have ha' := ha
  obtain ⟨x5, l7, hs, hg, hx2, f1, f2, f3⟩ := ha'
  have sn := hs.1
  have ge := hg.1
  have gn := hg.2.1
  have ep : p = 64 * l + s := CTP_inj (P := IsN (n9 S) (C9 S) (P9 S)) pI ((IsN_at (by omega)).mpr hs) (by show NB _ _ _ p = NB _ _ _ (64 * l + s); omega)
  have ng := NB_grp g64 hs hg
  obtain ⟨p', r1, r2, r3, r4, r5, r6⟩ := NB_pos (n := n9 S) (C := C9 S) (P := P9 S) (b := 64 * l + e) (x := x + 1) (by omega) (by omega)
  have eg := BB_gap (L := L9 S) (EB_gap g64 (l := l) (e := e) (by omega) (GRQ_cl hg) r1 r6)
  have eb1 := BB_le G (w := 64 * l + e) (by omega)
  have m2 := BB_mono (n := n9 S) (C := C9 S) (L := L9 S) (P := P9 S) (show 64 * l + s ≤ 64 * l + e by omega)
  rw [ep] at hv bp
  refine ⟨pt_in (by omega) (by omega), fun d => ⟨fun _ => ⟨fun y => absurd rfl y, fun _ => ?_⟩, fun y => absurd y (by decide)⟩, fun d => ?_⟩
  · have d' := congrArg Int32.toInt d
    have lu : l = u := by omega
    subst lu
    have m1 := BB_mono (n := n9 S) (C := C9 S) (L := L9 S) (P := P9 S) (show 64 * l ≤ 64 * l + s by omega)
    have m3 := BB_mono (n := n9 S) (C := C9 S) (L := L9 S) (P := P9 S) (show 64 * l + e ≤ 64 * (l + 1) by omega)
    refine fx9_branchMany h ha e4 (fun r hr _ _ => ?_)
    unfold wp_X9_levelOf_70 wp_X9_levelOf_72
    refine hB (x3 + r) p' (by omega) r2 r3 (fun t => (r4 t).2) r5 ?_
    rw [pt_add (by omega) (by omega), hv, hr, eg]
    omega
  · have lu : l ≠ u := fun z => d (Int32.toInt_inj.mp (by rw [f1, hu, z]))
    unfold wp_X9_levelOf_72
    refine hB x3 p' (by omega) r2 r3 (fun t => (r4 t).2) r5 ?_
    rw [hv, eg]
    by_cases z : l < u
    · have m1 := BB_mono (n := n9 S) (C := C9 S) (L := L9 S) (P := P9 S) (show 64 * l + e ≤ 64 * u by omega)
      omega
    · have m1 := BB_mono (n := n9 S) (C := C9 S) (L := L9 S) (P := P9 S) (show 64 * (u + 1) ≤ 64 * l + s by omega)
      omega
/-! both sides' texts -/
theorem LTX_cg {C C2 : Nat → Nat} {f f2 : Nat → Int64} {g g2 : Nat → Int32} {sa hb rb : Int32} {i : Nat} (eC : C2 i = C i) (ef : f2 i = f i) (eg : g2 i = g i) : LTX C2 f2 g2 sa hb rb i = LTX C f g sa hb rb i := by
  unfold LTX LXE LXH LXR LXN
  rw [eC, ef, eg]
theorem C_report {X : bT1} {P : bT3} {S : bT9} {a r q : Int32} {t u : bT5} {f f2 : Nat → Int32} {m m2 : Int32} (h9 : 0 ≤ (b9g_now S 9).toInt) (hx : LFP X (b9g_now S) (fun j => b9g_keys S (64 + j)) (fun j => b9g_lengths S (64 + j))) (hb : (b9g_now S 9).toInt = 0 ∨ (b3g_values P 2 + 1 = b9g_now S 13 ∧ b3g_values P 3 = b9g_now S 14)) (hd : DB2 P) (hh : 0 ≤ (b1g_hashBits X).toInt ∧ (b1g_hashBits X).toInt ≤ 8) (old : TXR t f m) {A B : Prop} (ha : A) (hbb : B) (h : A → (0 ≤ (b1g_hashBits X).toInt ∧ (b1g_hashBits X).toInt ≤ 8) → ∃ k lv : Nat, UPX X (b3g_values P 2) (b3g_values P 3) k lv ∧ ((-1 ≤ a.toInt ∧ a.toInt < (b0g_count (b1g_owners X)).toInt) → TXL (b5g_signs u) (b5g_length u).toInt (RPV (tn X) (tC X) (tL X) (tP X) (b0g_bytes (b1g_owners X)) (b0g_lengths (b1g_owners X)) (b1g_salt X) (b1g_hashBits X) (b1g_realBits X) k lv a.toInt) ∧ r = b5g_length u) ∧ (¬ (-1 ≤ a.toInt ∧ a.toInt < (b0g_count (b1g_owners X)).toInt) → r.toInt = -1 ∧ u = t)) (h2 : B → (0 ≤ (HBT (b9g_now S)).toInt ∧ (HBT (b9g_now S)).toInt ≤ 8) → ∃ k lv : Nat, UPD S k lv ∧ ((-1 ≤ a.toInt ∧ a.toInt < (b9g_now S 9).toInt) → TXL f2 m2.toInt (RPV (n9 S) (C9 S) (L9 S) (P9 S) (fun j => b9g_keys S (64 + j)) (fun j => b9g_lengths S (64 + j)) (b9g_now S 16) (HBT (b9g_now S)) (NBT (b9g_now S)) k lv a.toInt) ∧ q = m2) ∧ (¬ (-1 ≤ a.toInt ∧ a.toInt < (b9g_now S 9).toInt) → q.toInt = -1 ∧ f2 = f ∧ m2 = m)) : r.toInt = q.toInt ∧ TXR u f2 m2 := by
  have ag := AGX_of h9 hx
  obtain ⟨g1, g2, g3, eN, eE, g6⟩ := AGX_g ag
  have en := ag.1
  have eH : b1g_hashBits X = HBT (b9g_now S) := hx.2.2.2.2.2.2.1
  obtain ⟨k, lv, u1, u2, u3⟩ := h ha hh
  rw [eH] at hh
  obtain ⟨k', lv', v1, v2, v3⟩ := h2 hbb hh
  obtain ⟨e1, e2⟩ := UPQ ag hb hd u1 v1
  subst e1 e2
  rw [hx.2.2.2.1] at u2 u3
  by_cases z : -1 ≤ a.toInt ∧ a.toInt < (b9g_now S 9).toInt
  · obtain ⟨a1, a2⟩ := u2 z
    obtain ⟨b1, b2⟩ := v2 z
    have eR : RPV (tn X) (tC X) (tL X) (tP X) (b0g_bytes (b1g_owners X)) (b0g_lengths (b1g_owners X)) (b1g_salt X) (b1g_hashBits X) (b1g_realBits X) k lv a.toInt = RPV (n9 S) (C9 S) (L9 S) (P9 S) (fun j => b9g_keys S (64 + j)) (fun j => b9g_lengths S (64 + j)) (b9g_now S 16) (HBT (b9g_now S)) (NBT (b9g_now S)) k lv a.toInt := by
      unfold RPV
      by_cases y : a.toInt = -1
      · rw [if_pos y, if_pos y]
        have eB : ∀ w, BB (tn X) (tC X) (tL X) (tP X) w = BB (n9 S) (C9 S) (L9 S) (P9 S) w := by
          intro w
          refine CTP_congr w (fun i _ => ?_)
          unfold IsB
          rw [g2]
          constructor
          · rintro ⟨b3, b4⟩
            exact ⟨b3, by rw [← ag.2.2.1 _ b3.1]; exact b4⟩
          · rintro ⟨b3, b4⟩
            exact ⟨b3, by rw [ag.2.2.1 _ b3.1]; exact b4⟩
        have eF : ∀ i, FTX (tn X) (tC X) (tL X) (tP X) k i = FTX (n9 S) (C9 S) (L9 S) (P9 S) k i := by
          intro i
          induction i with
          | zero => rfl
          | succ i ih =>
            unfold FTX
            rw [ih, eN, eN, eB, eB]
        rw [eF]
      · rw [if_neg y, if_neg y]
        have hi : a.toInt.toNat < n9 S := by unfold n9; omega
        have c := hx.2.2.2.2.1 a.toInt.toNat (by omega)
        rw [eH, hx.2.2.2.2.2.1, hx.2.2.2.2.2.2.2.1]
        exact LTX_cg (ag.2.1 _ hi) c.1.symm c.2.symm
    rw [eR] at a1
    have w := TXL_one a1 b1
    rw [a2, b2]
    exact ⟨w.1, w⟩
  · obtain ⟨a1, a2⟩ := u3 z
    obtain ⟨b1, b2, b3⟩ := v3 z
    rw [a1, b1, a2, b2, b3]
    exact ⟨rfl, old⟩
theorem C_sign {t : bT5} {f : Nat → Int32} {m : Int32} {a r q : Int32} (old : TXR t f m) (h : (0 ≤ a.toInt ∧ a.toInt < (b5g_length t).toInt → r = b5g_signs t a.toNatClampNeg) ∧ (¬ (0 ≤ a.toInt ∧ a.toInt < (b5g_length t).toInt) → r.toInt = -1)) (g : (0 ≤ a.toInt ∧ a.toInt < m.toInt → q = f a.toNatClampNeg) ∧ (¬ (0 ≤ a.toInt ∧ a.toInt < m.toInt) → q.toInt = -1)) : r.toInt = q.toInt := by
  rw [← old.1] at g
  by_cases z : 0 ≤ a.toInt ∧ a.toInt < (b5g_length t).toInt
  · rw [h.1 z, g.1 z]
    have e := pt_clamp z.1
    exact old.2 _ (by omega)
  · rw [h.2 z, g.2 z]
/-! what is told of the hashed bits stays in its bounds -/
def HB0 (P : bT3) : Prop := 0 ≤ (b3g_values P 0).toInt ∧ (b3g_values P 0).toInt ≤ 8
def HBM (M : bT2) : Prop := HB0 (b2g_told M) ∧ HB0 (b2g_built M)
theorem HB0_eq {P R : bT3} (h : HB0 R) (e : PEQ P R) : HB0 P := by
  unfold HB0
  rw [e.2.1 0 (by omega)]
  exact h
theorem HBM_eq {M R : bT2} (h : HBM R) (e : MEQ M R) : HBM M := ⟨HB0_eq h.1 e.1, HB0_eq h.2 e.2.1⟩
theorem HBV_rng {P : bT3} (h : HB0 P) : 0 ≤ (HBV P).toInt ∧ (HBV P).toInt ≤ 8 := by
  unfold HBV
  split
  · exact h
  · exact ⟨by decide, by decide⟩
theorem HB_set {P R : bT3} {a1 a2 r : Int32} (h : HB0 R) (c : (r.toInt = 1 ∧ ((a1.toInt = 0 ∧ 0 ≤ a2.toInt ∧ a2.toInt ≤ 8) ∨ (a1.toInt = 1 ∧ 0 ≤ a2.toInt ∧ a2.toInt ≤ 8) ∨ (a1.toInt = 2 ∧ 0 ≤ a2.toInt ∧ a2.toInt ≤ 9) ∨ (a1.toInt = 3 ∧ 1 ≤ a2.toInt ∧ a2.toInt ≤ 64) ∨ (a1.toInt = 4 ∧ 1 ≤ a2.toInt ∧ a2.toInt ≤ 256) ∨ a1.toInt = 5)) ∨ (r.toInt = 0 ∧ ¬ ((a1.toInt = 0 ∧ 0 ≤ a2.toInt ∧ a2.toInt ≤ 8) ∨ (a1.toInt = 1 ∧ 0 ≤ a2.toInt ∧ a2.toInt ≤ 8) ∨ (a1.toInt = 2 ∧ 0 ≤ a2.toInt ∧ a2.toInt ≤ 9) ∨ (a1.toInt = 3 ∧ 1 ≤ a2.toInt ∧ a2.toInt ≤ 64) ∨ (a1.toInt = 4 ∧ 1 ≤ a2.toInt ∧ a2.toInt ≤ 256) ∨ a1.toInt = 5))) (c1 : r.toInt = 1 → b3g_values P = upd (b3g_values R) a1.toNatClampNeg a2) (c2 : r.toInt = 0 → b3g_values P = b3g_values R) : HB0 P := by
  unfold HB0
  rcases c with ⟨e, p⟩ | ⟨e, _⟩
  · rw [c1 e]
    by_cases z : a1.toInt = 0
    · have ez : a1.toNatClampNeg = 0 := by
        show a1.toInt.toNat = 0
        omega
      rw [ez, up_s]
      omega
    · have ez : 0 ≠ a1.toNatClampNeg := by
        show 0 ≠ a1.toInt.toNat
        omega
      rw [up_n ez]
      exact h
  · rw [c2 e]
    exact h
theorem HB_image {X U : bT8} {a : Int32} (h : HBM (b8g_now X) ∧ HBM (b8g_kept X)) (c1 : a.toInt ≠ 0 → MEQ (b8g_kept U) (b8g_now X) ∧ b8g_now U = b8g_now X) (c2 : a.toInt = 0 → (b8g_isKept X).toInt = 0 → b8g_now U = b8g_now X ∧ b8g_kept U = b8g_kept X) (c3 : a.toInt = 0 → (b8g_isKept X).toInt ≠ 0 → MEQ (b8g_now U) (b8g_kept X) ∧ b8g_kept U = b8g_kept X) : HBM (b8g_now U) ∧ HBM (b8g_kept U) := by
  by_cases z : a.toInt = 0
  · by_cases y : (b8g_isKept X).toInt = 0
    · rw [(c2 z y).1, (c2 z y).2]
      exact h
    · exact ⟨HBM_eq h.2 (c3 z y).1, by rw [(c3 z y).2]; exact h.2⟩
  · exact ⟨by rw [(c1 z).2]; exact h.1, HBM_eq h.1 (c1 z).1⟩
theorem H_start : HBM (b8g_now bi8) ∧ HBM (b8g_kept bi8) := ⟨⟨⟨by decide, by decide⟩, by decide, by decide⟩, ⟨by decide, by decide⟩, by decide, by decide⟩
theorem TXR_start : TXR (b8g_text bi8) (b9g_signs bi9) (b9g_signMany bi9) := ⟨rfl, fun j hj => by
  have e : (b5g_length (b8g_text bi8)).toInt = 0 := rfl
  omega⟩
