/-! leaves: beginnings as numbers -/
theorem ub_lt (k : Int64) : ub k < 18446744073709551616 := k.toBitVec.isLt
theorem PX_s (x : Nat) {t : Nat} (h : t < 8) : PX x t = PX x (t + 1) / 256 := by
  have e : 2 ^ (64 - 8 * t) = 2 ^ (64 - 8 * (t + 1)) * 256 := by
    rw [show 64 - 8 * t = (64 - 8 * (t + 1)) + 8 by omega]
    exact Nat.pow_add 2 _ 8
  unfold PX
  rw [e, Nat.div_div_eq_div_mul]
theorem PX_0 {x : Nat} (h : x < 18446744073709551616) : PX x 0 = 0 := by
  unfold PX
  exact Nat.div_eq_of_lt h
theorem PX_8 (x : Nat) : PX x 8 = x := by
  unfold PX
  exact Nat.div_one x
theorem PX_dn {x y t : Nat} : ∀ {s : Nat}, t ≤ s → s ≤ 8 → PX x s = PX y s → PX x t = PX y t := by
  intro s
  induction s with
  | zero =>
    intro h _ e
    have h0 : t = 0 := by omega
    rw [h0]
    exact e
  | succ s ih =>
    intro h h8 e
    by_cases g : t = s + 1
    · rw [g]
      exact e
    · exact ih (by omega) (by omega) (by rw [PX_s x (by omega), PX_s y (by omega), e])
theorem PX_le {x y : Nat} (t : Nat) (h : x ≤ y) : PX x t ≤ PX y t := Nat.div_le_div_right h
theorem PX_lt {x y t : Nat} (h : PX x t < PX y t) : x < y := by
  by_cases g : x < y
  · exact g
  · have := PX_le t (Nat.le_of_not_lt g)
    omega
theorem PX_mul (x t : Nat) : PX x t * 2 ^ (64 - 8 * t) ≤ x := Nat.div_mul_le_self x _
theorem PX_of (p t : Nat) : PX (p * 2 ^ (64 - 8 * t)) t = p := Nat.mul_div_cancel p (Nat.two_pow_pos _)
def OCT (k : Int64) (i : Int32) : Int32 := ((((k).toUInt64 >>> ((((56 : Int32) - ((8 : Int32) * i))).toInt64.toUInt64 &&& Int64.toUInt64 63)).toInt64)).toInt32 &&& (255 : Int32)
theorem oc (K : BitVec 64) (s : Nat) : (Int32.ofBitVec ((K >>> s).signExtend 32 &&& 255#32)).toInt = ((K.toNat / 2 ^ s % 256 : Nat) : Int) := by
  have e : ((K >>> s).signExtend 32 &&& 255#32).toNat = K.toNat / 2 ^ s % 256 := by
    rw [BitVec.signExtend_eq_setWidth_of_le _ (by decide), BitVec.toNat_and, BitVec.toNat_setWidth, BitVec.toNat_ushiftRight, Nat.shiftRight_eq_div_pow]
    generalize K.toNat / 2 ^ s = y
    show y % 4294967296 &&& (2 ^ 8 - 1) = y % 256
    rw [Nat.and_two_pow_sub_one_eq_mod]
    show y % 4294967296 % 256 = y % 256
    omega
  show ((K >>> s).signExtend 32 &&& 255#32).toInt = _
  rw [BitVec.toInt_eq_toNat_of_lt (by rw [e]; omega), e]
theorem OCT_0 (k : Int64) : OCT k 0 = Int32.ofBitVec ((k.toBitVec >>> 56).signExtend 32 &&& 255#32) := rfl
theorem OCT_1 (k : Int64) : OCT k 1 = Int32.ofBitVec ((k.toBitVec >>> 48).signExtend 32 &&& 255#32) := rfl
theorem OCT_2 (k : Int64) : OCT k 2 = Int32.ofBitVec ((k.toBitVec >>> 40).signExtend 32 &&& 255#32) := rfl
theorem OCT_3 (k : Int64) : OCT k 3 = Int32.ofBitVec ((k.toBitVec >>> 32).signExtend 32 &&& 255#32) := rfl
theorem OCT_4 (k : Int64) : OCT k 4 = Int32.ofBitVec ((k.toBitVec >>> 24).signExtend 32 &&& 255#32) := rfl
theorem OCT_5 (k : Int64) : OCT k 5 = Int32.ofBitVec ((k.toBitVec >>> 16).signExtend 32 &&& 255#32) := rfl
theorem OCT_6 (k : Int64) : OCT k 6 = Int32.ofBitVec ((k.toBitVec >>> 8).signExtend 32 &&& 255#32) := rfl
theorem OCT_7 (k : Int64) : OCT k 7 = Int32.ofBitVec ((k.toBitVec >>> 0).signExtend 32 &&& 255#32) := rfl
theorem tn_1 : ((1 : Int32)).toInt.toNat = 1 := rfl
theorem tn_2 : ((2 : Int32)).toInt.toNat = 2 := rfl
theorem tn_3 : ((3 : Int32)).toInt.toNat = 3 := rfl
theorem tn_4 : ((4 : Int32)).toInt.toNat = 4 := rfl
theorem tn_5 : ((5 : Int32)).toInt.toNat = 5 := rfl
theorem tn_6 : ((6 : Int32)).toInt.toNat = 6 := rfl
theorem tn_7 : ((7 : Int32)).toInt.toNat = 7 := rfl
theorem tn_8 : ((8 : Int32)).toInt.toNat = 8 := rfl
theorem i07 {i : Int32} (h0 : 0 ≤ i.toInt) (h7 : i.toInt ≤ 7) : i = 0 ∨ i = 1 ∨ i = 2 ∨ i = 3 ∨ i = 4 ∨ i = 5 ∨ i = 6 ∨ i = 7 := by
  simp only [← Int32.toInt_inj, pl_0, pl_1, pl_2, pl_3, pl_4, pl_5, pl_6, pl_7]
  omega
theorem OCT_n (k : Int64) {i : Int32} (h0 : 0 ≤ i.toInt) (h7 : i.toInt ≤ 7) : (OCT k i).toInt = ((PX (ub k) (i.toInt.toNat + 1) % 256 : Nat) : Int) := by
  rcases i07 h0 h7 with rfl | rfl | rfl | rfl | rfl | rfl | rfl | rfl
  · rw [OCT_0, z0]; exact oc k.toBitVec 56
  · rw [OCT_1, tn_1]; exact oc k.toBitVec 48
  · rw [OCT_2, tn_2]; exact oc k.toBitVec 40
  · rw [OCT_3, tn_3]; exact oc k.toBitVec 32
  · rw [OCT_4, tn_4]; exact oc k.toBitVec 24
  · rw [OCT_5, tn_5]; exact oc k.toBitVec 16
  · rw [OCT_6, tn_6]; exact oc k.toBitVec 8
  · rw [OCT_7, tn_7]; exact oc k.toBitVec 0
theorem OCT_rng (k : Int64) {i : Int32} (h0 : 0 ≤ i.toInt) (h7 : i.toInt ≤ 7) : 0 ≤ (OCT k i).toInt ∧ (OCT k i).toInt ≤ 255 := by
  rw [OCT_n k h0 h7]
  omega
theorem OCT_eq {a b : Int64} {i : Int32} (h0 : 0 ≤ i.toInt) (h7 : i.toInt ≤ 7) (hp : PX (ub a) i.toInt.toNat = PX (ub b) i.toInt.toNat) : OCT a i = OCT b i ↔ PX (ub a) (i.toInt.toNat + 1) = PX (ub b) (i.toInt.toNat + 1) := by
  have e1 := PX_s (ub a) (t := i.toInt.toNat) (by omega)
  have e2 := PX_s (ub b) (t := i.toInt.toNat) (by omega)
  have o1 := OCT_n a h0 h7
  have o2 := OCT_n b h0 h7
  constructor
  · intro h
    rw [h] at o1
    omega
  · intro h
    exact Int32.toInt_inj.mp (by rw [o1, o2, h])
theorem fx_octetAt {k : Int64} {i : Int32} {Q : Int32 → Prop} (hq : ∀ r : Int32, (0 ≤ i.toInt → i.toInt ≤ 7 → r = OCT k i) → (8 ≤ i.toInt → r = 0) → Q r) : wp_X8_octetAt k i Q := by
  unfold wp_X8_octetAt wp_X8_octetAt_10
  refine ⟨fun c => hq _ (fun h _ => ?_) (fun h => rfl), fun c => ⟨fun d => hq _ (fun _ _ => rfl) (fun h => ?_), fun d => hq _ (fun _ h => ?_) (fun _ => rfl)⟩⟩
  · simp only [pn] at c; omega
  · simp only [pn] at d; omega
  · simp only [pn] at d; omega
/-! how many bytes are alike -/
theorem ALK_spec {x y : Nat} (hx : x < 18446744073709551616) (hy : y < 18446744073709551616) : ∀ q : Nat, ALK x y q ≤ q ∧ PX x (ALK x y q) = PX y (ALK x y q) ∧ ∀ t : Nat, t ≤ q → PX x t = PX y t → t ≤ ALK x y q := by
  intro q
  induction q with
  | zero => exact ⟨Nat.le_refl _, by show PX x 0 = PX y 0; rw [PX_0 hx, PX_0 hy], fun t h _ => h⟩
  | succ q ih =>
    unfold ALK
    by_cases h : PX x (q + 1) = PX y (q + 1)
    · rw [if_pos h]
      exact ⟨Nat.le_refl _, h, fun t g _ => g⟩
    · rw [if_neg h]
      refine ⟨by omega, ih.2.1, fun t g e => ?_⟩
      by_cases k : t = q + 1
      · rw [k] at e
        exact absurd e h
      · exact ih.2.2 t (by omega) e
theorem ALK_eq {x y q r : Nat} (hx : x < 18446744073709551616) (hy : y < 18446744073709551616) (hr : r ≤ q) (h8 : q ≤ 8) (he : PX x r = PX y r) (hn : r < q → PX x (r + 1) ≠ PX y (r + 1)) : ALK x y q = r := by
  obtain ⟨s1, s2, s3⟩ := ALK_spec hx hy q
  have h1 := s3 r hr he
  by_cases g : ALK x y q = r
  · exact g
  · exact absurd (PX_dn (show r + 1 ≤ ALK x y q by omega) (by omega) s2) (hn (by omega))
theorem ALK_comm (x y : Nat) : ∀ q : Nat, ALK x y q = ALK y x q := by
  intro q
  induction q with
  | zero => rfl
  | succ q ih =>
    unfold ALK
    by_cases h : PX x (q + 1) = PX y (q + 1)
    · rw [if_pos h, if_pos h.symm]
    · rw [if_neg h, if_neg (fun e => h e.symm), ih]
theorem fx_alike {a0 a3 : Int64} {a2 a5 : Int32} {Q : Int32 → Prop} (hq : ∀ r : Int32, (0 ≤ a2.toInt → a2.toInt ≤ 8 → 0 ≤ a5.toInt → a5.toInt ≤ 8 → r.toInt = (ALK (ub a0) (ub a3) (min a2.toInt a5.toInt).toNat : Nat)) → Q r) : wp_X8_alike a0 a2 a3 a5 Q := by
  unfold wp_X8_alike
  obtain ⟨m, hm, hmi⟩ : ∃ m : Int32, (if a5 < a2 then a5 else a2) = m ∧ m.toInt = min a2.toInt a5.toInt := by
    refine ⟨_, rfl, ?_⟩
    by_cases c : a5 < a2
    · rw [if_pos c]
      simp only [pn] at c
      omega
    · rw [if_neg c]
      simp only [pn] at c
      omega
  rw [hm]
  have rg := pt_rg m
  unfold wp_X8_alike_11
  refine ⟨fun n x0 x3 x6 x7 => x0 = a0 ∧ x3 = a3 ∧ x6 = m ∧ 0 ≤ x7.toInt ∧ (x7.toInt = 0 ∨ x7.toInt ≤ m.toInt) ∧ (m.toInt ≤ 8 → PX (ub a0) x7.toInt.toNat = PX (ub a3) x7.toInt.toNat) ∧ n = (m.toInt + 1 - x7.toInt).toNat, ⟨_, rfl, rfl, rfl, by decide, Or.inl rfl, fun _ => by rw [z0, PX_0 (ub_lt a0), PX_0 (ub_lt a3)], rfl⟩, ?_⟩
  rintro n x0 x3 x6 x7 ⟨e0, e3, e6, h0, hle, hp, hn⟩
  unfold wp_X8_alike_11b
  rw [e0, e3, e6]
  refine ⟨fun c => hq _ (fun p0 p1 p2 p3 => ?_), fun c => ?_⟩
  · simp only [pn] at c
    have hx : x7.toInt = m.toInt := by omega
    rw [← hmi, ALK_eq (ub_lt a0) (ub_lt a3) (r := x7.toInt.toNat) (by omega) (by omega) (hp (by omega)) (fun h => by omega)]
    omega
  simp only [pn] at c
  have x7' : (x7 + 1).toInt = x7.toInt + 1 := by rw [pt_add (by rw [pl_1]; omega) (by rw [pl_1]; omega), pl_1]
  refine fx_octetAt (fun r1 g1 _ => fx_octetAt (fun r3 g3 _ => ⟨fun d => ?_, fun d => hq _ (fun p0 p1 p2 p3 => ?_)⟩))
  · refine ⟨_, ?_, rfl, rfl, rfl, by omega, by omega, fun h8 => ?_, rfl⟩
    · omega
    · rw [x7', show (x7.toInt + 1).toNat = x7.toInt.toNat + 1 by omega]
      refine (OCT_eq h0 (by omega) (hp h8)).mp ?_
      rw [← g1 h0 (by omega), ← g3 h0 (by omega)]
      exact d
  · rw [← hmi, ALK_eq (ub_lt a0) (ub_lt a3) (r := x7.toInt.toNat) (by omega) (by omega) (hp (by omega)) (fun _ h => d (by rw [g1 h0 (by omega), g3 h0 (by omega)]; exact (OCT_eq h0 (by omega) (hp (by omega))).mpr h))]
    omega
theorem ALR_comm (f : Nat → Int64) (g : Nat → Int32) (i j : Nat) : ALR f g i j = ALR f g j i := by
  unfold ALR
  rw [ALK_comm, Int.min_comm]
theorem ALR_spec (f : Nat → Int64) (g : Nat → Int32) (i j : Nat) : ALR f g i j ≤ (min (g i).toInt (g j).toInt).toNat ∧ PX (ub (f i)) (ALR f g i j) = PX (ub (f j)) (ALR f g i j) ∧ ∀ t : Nat, t ≤ (min (g i).toInt (g j).toInt).toNat → PX (ub (f i)) t = PX (ub (f j)) t → t ≤ ALR f g i j := ALK_spec (ub_lt _) (ub_lt _) _
theorem COM_le (f : Nat → Int64) (g : Nat → Int32) (c : Int) (i : Nat) : COM f g c i ≤ (g i).toInt.toNat := by
  have h1 := (ALR_spec f g i (i - 1)).1
  have h2 := (ALR_spec f g i (i + 1)).1
  unfold COM
  split <;> split <;> omega
theorem COM_up {f : Nat → Int64} {g : Nat → Int32} {c : Int} {i : Nat} (h : ((i + 1 : Nat) : Int) < c) : ALR f g i (i + 1) ≤ COM f g c i := by
  unfold COM
  rw [if_pos h]
  exact Nat.le_max_right _ _
theorem COM_dn {f : Nat → Int64} {g : Nat → Int32} {c : Int} {i : Nat} : ALR f g i (i + 1) ≤ COM f g c (i + 1) := by
  unfold COM
  rw [if_neg (show ¬ i + 1 = 0 by omega), show i + 1 - 1 = i by omega, ALR_comm]
  exact Nat.le_max_left _ _
theorem BEG_f {f : Nat → Int64} {g : Nat → Int32} {c : Int} (h : SRT f g c) {i : Nat} (hi : (i : Int) < c) : 1 ≤ (g i).toInt.toNat ∧ (g i).toInt.toNat ≤ 8 ∧ COM f g c i ≤ (g i).toInt.toNat ∧ 1 ≤ BEG f g c i ∧ BEG f g c i ≤ (g i).toInt.toNat ∧ COM f g c i ≤ BEG f g c i ∧ BEG f g c i ≤ COM f g c i + 1 ∧ (COM f g c i = (g i).toInt.toNat ∨ BEG f g c i = COM f g c i + 1) := by
  have h1 := h.2 i hi
  have h2 := COM_le f g c i
  unfold BEG
  omega
/-! from where to where keys are possible at a leaf -/
def WD (rb : Int32) : Nat := 2 ^ (8 - rb.toInt.toNat)
def NXB (x l : Nat) (rb : Int32) : Nat := PX x (l + 1) % 256 / WD rb * WD rb
theorem i08 {i : Int32} (h0 : 0 ≤ i.toInt) (h8 : i.toInt ≤ 8) : i = 0 ∨ i = 1 ∨ i = 2 ∨ i = 3 ∨ i = 4 ∨ i = 5 ∨ i = 6 ∨ i = 7 ∨ i = 8 := by
  simp only [← Int32.toInt_inj, pl_0, pl_1, pl_2, pl_3, pl_4, pl_5, pl_6, pl_7, pl_8]
  omega
theorem wd_0 : WD 0 = 256 := by decide
theorem wd_1 : WD 1 = 128 := by decide
theorem wd_2 : WD 2 = 64 := by decide
theorem wd_3 : WD 3 = 32 := by decide
theorem wd_4 : WD 4 = 16 := by decide
theorem wd_5 : WD 5 = 8 := by decide
theorem wd_6 : WD 6 = 4 := by decide
theorem wd_7 : WD 7 = 2 := by decide
theorem wd_8 : WD 8 = 1 := by decide
theorem NXB_f (x l : Nat) {rb : Int32} (h0 : 0 ≤ rb.toInt) (h8 : rb.toInt ≤ 8) : NXB x l rb ≤ PX x (l + 1) % 256 ∧ PX x (l + 1) % 256 < NXB x l rb + WD rb ∧ NXB x l rb + WD rb ≤ 256 ∧ 1 ≤ WD rb := by
  unfold NXB
  have hb : PX x (l + 1) % 256 < 256 := Nat.mod_lt _ (by decide)
  generalize PX x (l + 1) % 256 = y at hb
  rcases i08 h0 h8 with rfl | rfl | rfl | rfl | rfl | rfl | rfl | rfl | rfl
  · rw [wd_0]; omega
  · rw [wd_1]; omega
  · rw [wd_2]; omega
  · rw [wd_3]; omega
  · rw [wd_4]; omega
  · rw [wd_5]; omega
  · rw [wd_6]; omega
  · rw [wd_7]; omega
  · rw [wd_8]; omega
theorem l17 {l : Nat} (h1 : 1 ≤ l) (h7 : l ≤ 7) : l = 1 ∨ l = 2 ∨ l = 3 ∨ l = 4 ∨ l = 5 ∨ l = 6 ∨ l = 7 := by omega
theorem BD0 {x A p b w : Nat} (hp : p = x / A / 256) (hb : b ≤ x / A % 256) (hw : x / A % 256 < b + w) (h256 : b + w ≤ 256) (hA : 0 < A) : (p * (256 * A) + b * A) / (256 * A) = p ∧ (p * (256 * A) + b * A + w * A - 1) / (256 * A) = p ∧ p * (256 * A) + b * A ≤ x ∧ x ≤ p * (256 * A) + b * A + w * A - 1 := by
  have d := Nat.div_add_mod x A
  have m := Nat.mod_lt x hA
  have q := Nat.div_add_mod (x / A) 256
  have e1 : p * (256 * A) + b * A = (p * 256 + b) * A := by rw [Nat.add_mul, Nat.mul_assoc]
  have e2 : p * (256 * A) + b * A + w * A = (p * 256 + b + w) * A := by rw [e1, ← Nat.add_mul]
  have k1 : (p * 256 + b) * A ≤ x / A * A := Nat.mul_le_mul_right A (by omega)
  have k2 : (x / A + 1) * A ≤ (p * 256 + b + w) * A := Nat.mul_le_mul_right A (by omega)
  have k3 : (p * 256) * A ≤ (p * 256 + b) * A := Nat.mul_le_mul_right A (by omega)
  have k4 : (p * 256 + b + 1) * A ≤ (p * 256 + 256) * A := Nat.mul_le_mul_right A (by omega)
  have k5 : (p * 256 + b + w) * A ≤ (p * 256 + 256) * A := Nat.mul_le_mul_right A (by omega)
  have k6 : (p * 256 + 1) * A ≤ (p * 256 + b + w) * A := Nat.mul_le_mul_right A (by omega)
  have s1 : (x / A + 1) * A = x / A * A + A := Nat.succ_mul _ _
  have s2 : (p * 256 + b + 1) * A = (p * 256 + b) * A + A := Nat.succ_mul _ _
  have s3 : (p * 256 + 1) * A = p * 256 * A + A := Nat.succ_mul _ _
  have s4 : p * (256 * A) = p * 256 * A := by rw [Nat.mul_assoc]
  have s5 : (p + 1) * (256 * A) = (p * 256 + 256) * A := by rw [← Nat.mul_assoc, Nat.add_mul p 1 256, Nat.one_mul]
  have s6 : A * (x / A) = x / A * A := Nat.mul_comm _ _
  refine ⟨?_, ?_, ?_, ?_⟩
  · rw [e1]
    exact Nat.div_eq_of_lt_le (by omega) (by omega)
  · rw [e2]
    exact Nat.div_eq_of_lt_le (by omega) (by omega)
  · rw [e1]
    exact Nat.le_trans k1 (Nat.div_mul_le_self x A)
  · rw [e2]
    clear e1 e2 k3 k4 k5 k6 s2 s3 s4 s5 hp
    omega
theorem pw {l : Nat} (h7 : l ≤ 7) : 2 ^ (64 - 8 * l) = 256 * 2 ^ (56 - 8 * l) := by
  rw [show 64 - 8 * l = 8 + (56 - 8 * l) by omega]
  exact Nat.pow_add 2 8 _
theorem BD {x l b w : Nat} (h7 : l ≤ 7) (hb : b ≤ PX x (l + 1) % 256) (hw : PX x (l + 1) % 256 < b + w) (h256 : b + w ≤ 256) : PX (PX x l * 2 ^ (64 - 8 * l) + b * 2 ^ (56 - 8 * l)) l = PX x l ∧ PX (PX x l * 2 ^ (64 - 8 * l) + b * 2 ^ (56 - 8 * l) + w * 2 ^ (56 - 8 * l) - 1) l = PX x l ∧ PX x l * 2 ^ (64 - 8 * l) + b * 2 ^ (56 - 8 * l) ≤ x ∧ x ≤ PX x l * 2 ^ (64 - 8 * l) + b * 2 ^ (56 - 8 * l) + w * 2 ^ (56 - 8 * l) - 1 := by
  have e := PX_s x (t := l) (by omega)
  have e2 : PX x (l + 1) = x / 2 ^ (56 - 8 * l) := by
    unfold PX
    rw [show 64 - 8 * (l + 1) = 56 - 8 * l by omega]
  rw [e2] at e hb hw
  have k := BD0 e hb hw h256 (Nat.two_pow_pos _)
  rw [← pw h7] at k
  exact k
def ONE (f : Nat → Int64) (g : Nat → Int32) (c : Int) (i : Nat) : Prop := COM f g c i = (g i).toInt.toNat ∨ BEG f g c i = 8
noncomputable def LOV (f : Nat → Int64) (g : Nat → Int32) (c : Int) (rb : Int32) (i : Nat) : Nat :=
  if COM f g c i = (g i).toInt.toNat ∨ BEG f g c i = 8 then PX (ub (f i)) (BEG f g c i) * 2 ^ (64 - 8 * BEG f g c i)
  else PX (ub (f i)) (BEG f g c i) * 2 ^ (64 - 8 * BEG f g c i) + NXB (ub (f i)) (BEG f g c i) rb * 2 ^ (56 - 8 * BEG f g c i)
noncomputable def LOL (f : Nat → Int64) (g : Nat → Int32) (c : Int) (rb : Int32) (i : Nat) : Nat :=
  if COM f g c i = (g i).toInt.toNat ∨ BEG f g c i = 8 then BEG f g c i else if NXB (ub (f i)) (BEG f g c i) rb = 0 then BEG f g c i else BEG f g c i + 1
noncomputable def HIV (f : Nat → Int64) (g : Nat → Int32) (c : Int) (rb : Int32) (i : Nat) : Nat :=
  if COM f g c i = (g i).toInt.toNat ∨ BEG f g c i = 8 then PX (ub (f i)) (BEG f g c i) * 2 ^ (64 - 8 * BEG f g c i)
  else PX (ub (f i)) (BEG f g c i) * 2 ^ (64 - 8 * BEG f g c i) + NXB (ub (f i)) (BEG f g c i) rb * 2 ^ (56 - 8 * BEG f g c i) + WD rb * 2 ^ (56 - 8 * BEG f g c i) - 1
noncomputable def HIL (f : Nat → Int64) (g : Nat → Int32) (c : Int) (i : Nat) : Nat := if COM f g c i = (g i).toInt.toNat ∨ BEG f g c i = 8 then BEG f g c i else 8
def NLT (x n y m : Nat) : Prop := x < y ∨ (x = y ∧ n < m)
def CLN (f : Nat → Int64) (g : Nat → Int32) (c : Int) : Prop := ∀ j : Nat, (j : Int) < c → PX (ub (f j)) (g j).toInt.toNat * 2 ^ (64 - 8 * (g j).toInt.toNat) = ub (f j)
theorem LOL_f {f : Nat → Int64} {g : Nat → Int32} {c : Int} (h : SRT f g c) {rb : Int32} {i : Nat} (hi : (i : Int) < c) : BEG f g c i ≤ LOL f g c rb i ∧ LOL f g c rb i ≤ 8 ∧ BEG f g c i ≤ HIL f g c i ∧ HIL f g c i ≤ 8 := by
  have b := BEG_f h hi
  unfold LOL HIL
  by_cases o : COM f g c i = (g i).toInt.toNat ∨ BEG f g c i = 8
  · rw [if_pos o, if_pos o]
    omega
  · rw [if_neg o, if_neg o]
    have n8 : ¬ BEG f g c i = 8 := fun e => o (Or.inr e)
    by_cases z : NXB (ub (f i)) (BEG f g c i) rb = 0
    · rw [if_pos z]
      omega
    · rw [if_neg z]
      omega
theorem PX_LOV {f : Nat → Int64} {g : Nat → Int32} {c : Int} (h : SRT f g c) {rb : Int32} (h0 : 0 ≤ rb.toInt) (h8 : rb.toInt ≤ 8) {i : Nat} (hi : (i : Int) < c) : PX (LOV f g c rb i) (BEG f g c i) = PX (ub (f i)) (BEG f g c i) ∧ PX (HIV f g c rb i) (BEG f g c i) = PX (ub (f i)) (BEG f g c i) := by
  have b := BEG_f h hi
  unfold LOV HIV
  by_cases o : COM f g c i = (g i).toInt.toNat ∨ BEG f g c i = 8
  · rw [if_pos o, if_pos o, PX_of]
    exact ⟨rfl, rfl⟩
  · rw [if_neg o, if_neg o]
    have n8 : ¬ BEG f g c i = 8 := fun e => o (Or.inr e)
    have n := NXB_f (ub (f i)) (BEG f g c i) h0 h8
    have k := BD (x := ub (f i)) (l := BEG f g c i) (by omega) n.1 n.2.1 n.2.2.1
    exact ⟨k.1, k.2.1⟩
theorem OWN_in {f : Nat → Int64} {g : Nat → Int32} {c : Int} (h : SRT f g c) (hc : CLN f g c) {rb : Int32} (h0 : 0 ≤ rb.toInt) (h8 : rb.toInt ≤ 8) {i : Nat} (hi : (i : Int) < c) : ¬ NLT (ub (f i)) (g i).toInt.toNat (LOV f g c rb i) (LOL f g c rb i) ∧ ¬ NLT (HIV f g c rb i) (HIL f g c i) (ub (f i)) (g i).toInt.toNat := by
  have b := BEG_f h hi
  have cl := hc i hi
  unfold LOV HIV LOL HIL NLT
  by_cases o : COM f g c i = (g i).toInt.toNat ∨ BEG f g c i = 8
  · have e : BEG f g c i = (g i).toInt.toNat := by omega
    rw [if_pos o, if_pos o, if_pos o, if_pos o, e, cl]
    omega
  · rw [if_neg o, if_neg o, if_neg o, if_neg o]
    have n8 : ¬ BEG f g c i = 8 := fun e => o (Or.inr e)
    have n := NXB_f (ub (f i)) (BEG f g c i) h0 h8
    have k := BD (x := ub (f i)) (l := BEG f g c i) (by omega) n.1 n.2.1 n.2.2.1
    have zz : BEG f g c i = (g i).toInt.toNat → NXB (ub (f i)) (BEG f g c i) rb = 0 := by
      intro e
      rw [← e] at cl
      have p : PX (ub (f i)) (BEG f g c i + 1) = PX (ub (f i)) (BEG f g c i) * 256 := by
        have e2 : PX (ub (f i)) (BEG f g c i + 1) = ub (f i) / 2 ^ (56 - 8 * BEG f g c i) := by
          unfold PX
          rw [show 64 - 8 * (BEG f g c i + 1) = 56 - 8 * BEG f g c i by omega]
        rw [e2]
        rw [pw (by omega), ← Nat.mul_assoc] at cl
        exact Nat.div_eq_of_eq_mul_left (Nat.two_pow_pos _) cl.symm
      have m : PX (ub (f i)) (BEG f g c i + 1) % 256 = 0 := by rw [p]; omega
      omega
    refine ⟨fun q => ?_, fun q => ?_⟩
    · rcases q with q | ⟨q, q2⟩
      · omega
      · by_cases z : NXB (ub (f i)) (BEG f g c i) rb = 0
        · rw [if_pos z] at q2
          omega
        · rw [if_neg z] at q2
          exact z (zz (by omega))
    · omega
theorem BND_s {f : Nat → Int64} {g : Nat → Int32} {c : Int} (h : SRT f g c) (hc : CLN f g c) {rb : Int32} (h0 : 0 ≤ rb.toInt) (h8 : rb.toInt ≤ 8) {i : Nat} (hi : ((i + 1 : Nat) : Int) < c) : NLT (HIV f g c rb i) (HIL f g c i) (LOV f g c rb (i + 1)) (LOL f g c rb (i + 1)) := by
  have hi0 : (i : Int) < c := by omega
  have b := BEG_f h hi0
  have b1 := BEG_f h hi
  have cl := hc i hi0
  have cl1 := hc (i + 1) hi
  have lt := h.1 i (i + 1) (by omega) hi
  obtain ⟨s1, s2, s3⟩ := ALR_spec f g i (i + 1)
  have u := COM_up (f := f) (g := g) hi
  have d := COM_dn (f := f) (g := g) (c := c) (i := i)
  have pl := (PX_LOV h (rb := rb) h0 h8 hi).1
  have ph := (PX_LOV h (rb := rb) h0 h8 hi0).2
  have mm : (min (g i).toInt (g (i + 1)).toInt).toNat = min (g i).toInt.toNat (g (i + 1)).toInt.toNat := by omega
  rw [mm] at s1 s3
  by_cases q : ALR f g i (i + 1) < min (g i).toInt.toNat (g (i + 1)).toInt.toNat
  · have ne : PX (ub (f i)) (ALR f g i (i + 1) + 1) ≠ PX (ub (f (i + 1))) (ALR f g i (i + 1) + 1) := by
      intro e
      have := s3 _ (by omega) e
      omega
    have le : ub (f i) ≤ ub (f (i + 1)) := by
      rcases lt with lt | ⟨e, _⟩
      · omega
      · rw [e]
        exact Nat.le_refl _
    have pp := PX_le (ALR f g i (i + 1) + 1) le
    have e1 := PX_dn (show ALR f g i (i + 1) + 1 ≤ BEG f g c i by omega) (by omega) ph
    have e2 := PX_dn (show ALR f g i (i + 1) + 1 ≤ BEG f g c (i + 1) by omega) (by omega) pl
    exact Or.inl (PX_lt (t := ALR f g i (i + 1) + 1) (by rw [e1, e2]; omega))
  · by_cases q2 : (g (i + 1)).toInt.toNat ≤ (g i).toInt.toNat
    · have ea : ALR f g i (i + 1) = (g (i + 1)).toInt.toNat := by omega
      rw [ea] at s2
      rw [← s2] at cl1
      have := PX_mul (ub (f i)) (g (i + 1)).toInt.toNat
      rcases lt with lt | ⟨_, lt⟩
      · omega
      · omega
    · have ea : ALR f g i (i + 1) = (g i).toInt.toNat := by omega
      have o : COM f g c i = (g i).toInt.toNat ∨ BEG f g c i = 8 := Or.inl (by omega)
      have eb : BEG f g c i = (g i).toInt.toNat := by omega
      have v : HIV f g c rb i = ub (f i) := by
        unfold HIV
        rw [if_pos o, eb]
        exact cl
      have vl : HIL f g c i = (g i).toInt.toNat := by
        unfold HIL
        rw [if_pos o, eb]
      rw [v, vl]
      have e2 := PX_dn (show (g i).toInt.toNat ≤ BEG f g c (i + 1) by omega) (by omega) pl
      have m := PX_mul (LOV f g c rb (i + 1)) (g i).toInt.toNat
      rw [ea] at s2
      rw [e2, ← s2, cl] at m
      have ll := (LOL_f h (rb := rb) hi).1
      unfold NLT
      omega
theorem BND_self {f : Nat → Int64} {g : Nat → Int32} {c : Int} (h : SRT f g c) (hc : CLN f g c) {rb : Int32} (h0 : 0 ≤ rb.toInt) (h8 : rb.toInt ≤ 8) {i : Nat} (hi : (i : Int) < c) : ¬ NLT (HIV f g c rb i) (HIL f g c i) (LOV f g c rb i) (LOL f g c rb i) := by
  have o := OWN_in h hc h0 h8 hi
  unfold NLT at o ⊢
  omega
theorem BND_all {f : Nat → Int64} {g : Nat → Int32} {c : Int} (h : SRT f g c) (hc : CLN f g c) {rb : Int32} (h0 : 0 ≤ rb.toInt) (h8 : rb.toInt ≤ 8) {i : Nat} : ∀ j : Nat, i < j → (j : Int) < c → NLT (HIV f g c rb i) (HIL f g c i) (LOV f g c rb j) (LOL f g c rb j) := by
  intro j
  induction j with
  | zero => intro hij; omega
  | succ j ih =>
    intro hij hj
    by_cases e : i = j
    · rw [e]
      exact BND_s h hc h0 h8 hj
    · have a := ih (by omega) (by omega)
      have b := BND_self h hc h0 h8 (rb := rb) (i := j) (by omega)
      have d := BND_s h hc h0 h8 (rb := rb) hj
      unfold NLT at a b d ⊢
      omega
/-! the bits of these numbers -/
theorem cu (K : BitVec 64) (s : Nat) : ((K >>> s) <<< s).toNat = K.toNat / 2 ^ s * 2 ^ s := by
  rw [BitVec.toNat_shiftLeft, BitVec.toNat_ushiftRight, Nat.shiftRight_eq_div_pow, Nat.shiftLeft_eq]
  exact Nat.mod_eq_of_lt (Nat.lt_of_le_of_lt (Nat.div_mul_le_self _ _) K.isLt)
theorem i18 {i : Int32} (h0 : 1 ≤ i.toInt) (h8 : i.toInt ≤ 8) : i = 1 ∨ i = 2 ∨ i = 3 ∨ i = 4 ∨ i = 5 ∨ i = 6 ∨ i = 7 ∨ i = 8 := by
  simp only [← Int32.toInt_inj, pl_1, pl_2, pl_3, pl_4, pl_5, pl_6, pl_7, pl_8]
  omega
theorem i17 {i : Int32} (h0 : 1 ≤ i.toInt) (h7 : i.toInt ≤ 7) : i = 1 ∨ i = 2 ∨ i = 3 ∨ i = 4 ∨ i = 5 ∨ i = 6 ∨ i = 7 := by
  simp only [← Int32.toInt_inj, pl_1, pl_2, pl_3, pl_4, pl_5, pl_6, pl_7]
  omega
theorem ub_cut (k : Int64) {l : Int32} (h1 : 1 ≤ l.toInt) (h8 : l.toInt ≤ 8) : ub (cutf k l) = PX (ub k) l.toInt.toNat * 2 ^ (64 - 8 * l.toInt.toNat) := by
  rcases i18 h1 h8 with rfl | rfl | rfl | rfl | rfl | rfl | rfl | rfl
  · rw [cutf_1, tn_1]; exact cu k.toBitVec 56
  · rw [cutf_2, tn_2]; exact cu k.toBitVec 48
  · rw [cutf_3, tn_3]; exact cu k.toBitVec 40
  · rw [cutf_4, tn_4]; exact cu k.toBitVec 32
  · rw [cutf_5, tn_5]; exact cu k.toBitVec 24
  · rw [cutf_6, tn_6]; exact cu k.toBitVec 16
  · rw [cutf_7, tn_7]; exact cu k.toBitVec 8
  · rw [cutf_8, tn_8]; exact cu k.toBitVec 0
theorem sho_0 (x : Int64) : x <<< ((((56 : Int32) - ((8 : Int32) * 0))).toInt64 &&& 63) = Int64.ofBitVec (x.toBitVec <<< 56) := rfl
theorem sho_1 (x : Int64) : x <<< ((((56 : Int32) - ((8 : Int32) * 1))).toInt64 &&& 63) = Int64.ofBitVec (x.toBitVec <<< 48) := rfl
theorem sho_2 (x : Int64) : x <<< ((((56 : Int32) - ((8 : Int32) * 2))).toInt64 &&& 63) = Int64.ofBitVec (x.toBitVec <<< 40) := rfl
theorem sho_3 (x : Int64) : x <<< ((((56 : Int32) - ((8 : Int32) * 3))).toInt64 &&& 63) = Int64.ofBitVec (x.toBitVec <<< 32) := rfl
theorem sho_4 (x : Int64) : x <<< ((((56 : Int32) - ((8 : Int32) * 4))).toInt64 &&& 63) = Int64.ofBitVec (x.toBitVec <<< 24) := rfl
theorem sho_5 (x : Int64) : x <<< ((((56 : Int32) - ((8 : Int32) * 5))).toInt64 &&& 63) = Int64.ofBitVec (x.toBitVec <<< 16) := rfl
theorem sho_6 (x : Int64) : x <<< ((((56 : Int32) - ((8 : Int32) * 6))).toInt64 &&& 63) = Int64.ofBitVec (x.toBitVec <<< 8) := rfl
theorem sho_7 (x : Int64) : x <<< ((((56 : Int32) - ((8 : Int32) * 7))).toInt64 &&& 63) = Int64.ofBitVec (x.toBitVec <<< 0) := rfl
theorem ub_ext {o : Int32} (h0 : 0 ≤ o.toInt) : ub o.toInt64 = o.toInt.toNat := by
  have e := BitVec.toInt_eq_toNat_cond o.toInt64.toBitVec
  have t : o.toInt64.toBitVec.toInt = o.toInt := Int32.toInt_toInt64 o
  have l := o.toInt64.toBitVec.isLt
  unfold ub
  rw [t] at e
  split at e <;> omega
theorem shb {x : Int64} {n : Nat} (hx : ub x = n) (hn : n ≤ 255) (s : Nat) (hs : 255 * 2 ^ s < 2 ^ 64) : ub (Int64.ofBitVec (x.toBitVec <<< s)) = n * 2 ^ s := by
  show (x.toBitVec <<< s).toNat = _
  rw [BitVec.toNat_shiftLeft, Nat.shiftLeft_eq, show x.toBitVec.toNat = n from hx]
  exact Nat.mod_eq_of_lt (Nat.lt_of_le_of_lt (Nat.mul_le_mul_right _ hn) hs)
theorem ub_sho {o : Int32} (h0 : 0 ≤ o.toInt) (h255 : o.toInt ≤ 255) {l : Int32} (hl : 0 ≤ l.toInt) (h7 : l.toInt ≤ 7) : ub (o.toInt64 <<< ((((56 : Int32) - ((8 : Int32) * l))).toInt64 &&& 63)) = o.toInt.toNat * 2 ^ (56 - 8 * l.toInt.toNat) := by
  have e := ub_ext h0
  rcases i07 hl h7 with rfl | rfl | rfl | rfl | rfl | rfl | rfl | rfl
  · rw [sho_0, z0]; exact shb e (by omega) 56 (by decide)
  · rw [sho_1, tn_1]; exact shb e (by omega) 48 (by decide)
  · rw [sho_2, tn_2]; exact shb e (by omega) 40 (by decide)
  · rw [sho_3, tn_3]; exact shb e (by omega) 32 (by decide)
  · rw [sho_4, tn_4]; exact shb e (by omega) 24 (by decide)
  · rw [sho_5, tn_5]; exact shb e (by omega) 16 (by decide)
  · rw [sho_6, tn_6]; exact shb e (by omega) 8 (by decide)
  · rw [sho_7, tn_7]; exact shb e (by omega) 0 (by decide)
theorem ub_or (x y : Int64) : ub (x ||| y) = ub x ||| ub y := BitVec.toNat_or _ _
theorem or_add {a b s : Nat} (h : b < 2 ^ s) : a * 2 ^ s ||| b = a * 2 ^ s + b := by
  rw [Nat.mul_comm, Nat.two_pow_add_eq_or_of_lt h]
theorem ub_lo (k : Int64) {o : Int32} (h0 : 0 ≤ o.toInt) (h255 : o.toInt ≤ 255) {l : Int32} (hl : 1 ≤ l.toInt) (h7 : l.toInt ≤ 7) : ub (cutf k l ||| (o.toInt64 <<< ((((56 : Int32) - ((8 : Int32) * l))).toInt64 &&& 63))) = PX (ub k) l.toInt.toNat * 2 ^ (64 - 8 * l.toInt.toNat) + o.toInt.toNat * 2 ^ (56 - 8 * l.toInt.toNat) := by
  rw [ub_or, ub_cut k hl (by omega), ub_sho h0 h255 (by omega) h7]
  refine or_add ?_
  rw [pw (by omega)]
  exact Nat.mul_lt_mul_of_pos_right (show o.toInt.toNat < 256 by omega) (Nat.two_pow_pos _)
theorem ub_hi (k : Int64) {o : Int32} (h0 : 0 ≤ o.toInt) (h255 : o.toInt ≤ 255) {l : Int32} (hl : 1 ≤ l.toInt) (h7 : l.toInt ≤ 7) {m : Int64} (hm : ub m = 2 ^ (56 - 8 * l.toInt.toNat) - 1) : ub ((cutf k l ||| (o.toInt64 <<< ((((56 : Int32) - ((8 : Int32) * l))).toInt64 &&& 63))) ||| m) = PX (ub k) l.toInt.toNat * 2 ^ (64 - 8 * l.toInt.toNat) + (o.toInt.toNat + 1) * 2 ^ (56 - 8 * l.toInt.toNat) - 1 := by
  have p := Nat.two_pow_pos (56 - 8 * l.toInt.toNat)
  have e1 : (o.toInt.toNat + 1) * 2 ^ (56 - 8 * l.toInt.toNat) = o.toInt.toNat * 2 ^ (56 - 8 * l.toInt.toNat) + 2 ^ (56 - 8 * l.toInt.toNat) := Nat.succ_mul _ _
  have e2 : (PX (ub k) l.toInt.toNat * 256 + o.toInt.toNat) * 2 ^ (56 - 8 * l.toInt.toNat) = PX (ub k) l.toInt.toNat * 256 * 2 ^ (56 - 8 * l.toInt.toNat) + o.toInt.toNat * 2 ^ (56 - 8 * l.toInt.toNat) := Nat.add_mul _ _ _
  have e3 : PX (ub k) l.toInt.toNat * (256 * 2 ^ (56 - 8 * l.toInt.toNat)) = PX (ub k) l.toInt.toNat * 256 * 2 ^ (56 - 8 * l.toInt.toNat) := (Nat.mul_assoc _ _ _).symm
  have key : ∀ A B M : Nat, 0 < M → A + B + (M - 1) = A + (B + M) - 1 := by intros; omega
  have oa := or_add (a := PX (ub k) l.toInt.toNat * 256 + o.toInt.toNat) (b := 2 ^ (56 - 8 * l.toInt.toNat) - 1) (s := 56 - 8 * l.toInt.toNat) (by omega)
  rw [e2] at oa
  rw [ub_or, ub_lo k h0 h255 hl h7, hm, pw (by omega), e3, oa, e1]
  exact key _ _ _ p
theorem ub_fr {l : Int32} (hl : 1 ≤ l.toInt) (h7 : l.toInt ≤ 7) : ub (frontf (l + 1) ^^^ (-1 : Int64)) = 2 ^ (56 - 8 * l.toInt.toNat) - 1 := by
  rcases i17 hl h7 with rfl | rfl | rfl | rfl | rfl | rfl | rfl <;> decide +kernel
theorem ub_rf {l : Int32} (hl : 1 ≤ l.toInt) (h7 : l.toInt ≤ 6) : ub ((((-1 : Int64)).toUInt64 >>> ((((8 : Int32) * (l + (1 : Int32)))).toInt64.toUInt64 &&& Int64.toUInt64 63)).toInt64) = 2 ^ (56 - 8 * l.toInt.toNat) - 1 := by
  rcases i17 hl (by omega) with rfl | rfl | rfl | rfl | rfl | rfl | rfl <;> first | decide +kernel | (exfalso; revert h7; decide)
def tlo (o rb : Int32) : Int32 := (o >>> (((8 : Int32) - rb) &&& 31)) <<< (((8 : Int32) - rb) &&& 31)
def thi (o rb : Int32) : Int32 := tlo o rb ||| ((255 : Int32) >>> (rb &&& 31))
def thr (o rb : Int32) : Int32 := (((o >>> (((8 : Int32) - rb) &&& 31)) + (1 : Int32)) <<< (((8 : Int32) - rb) &&& 31)) - (1 : Int32)
theorem nx_all : ∀ r : Fin 9, ∀ o : Fin 256, (tlo (nI o.val) (nI r.val)).toInt = ((o.val / 2 ^ (8 - r.val) * 2 ^ (8 - r.val) : Nat) : Int) ∧ (thi (nI o.val) (nI r.val)).toInt = ((o.val / 2 ^ (8 - r.val) * 2 ^ (8 - r.val) + 2 ^ (8 - r.val) - 1 : Nat) : Int) ∧ thr (nI o.val) (nI r.val) = thi (nI o.val) (nI r.val) ∧ ((nI o.val) >>> (((8 : Int32) - nI r.val) &&& 31) = 0 ↔ tlo (nI o.val) (nI r.val) = 0) := by decide +kernel
theorem nx_f {o rb : Int32} (h0 : 0 ≤ o.toInt) (h255 : o.toInt ≤ 255) (r0 : 0 ≤ rb.toInt) (r8 : rb.toInt ≤ 8) : (tlo o rb).toInt = ((o.toInt.toNat / WD rb * WD rb : Nat) : Int) ∧ (thi o rb).toInt = ((o.toInt.toNat / WD rb * WD rb + WD rb - 1 : Nat) : Int) ∧ thr o rb = thi o rb ∧ (o >>> (((8 : Int32) - rb) &&& 31) = 0 ↔ tlo o rb = 0) := by
  have h := nx_all ⟨rb.toInt.toNat, by omega⟩ ⟨o.toInt.toNat, by omega⟩
  rw [nI_back h0, nI_back r0] at h
  exact h
/-! hashes -/
def mixN (s : Int32) (k : Int64) : Nat → Int32
  | 0 => s
  | i + 1 => (mixN s k i ^^^ OCT k (nI i)) * (16777619 : Int32)
def MIX (s : Int32) (k : Int64) (n : Int32) : Int32 := mixN s k n.toInt.toNat ^^^ (((mixN s k n.toInt.toNat).toUInt32 >>> (((15 : Int32)).toUInt32 &&& Int32.toUInt32 31)).toInt32)
theorem mixN_s {s x : Int32} {k : Int64} (h0 : 0 ≤ x.toInt) (h1 : x.toInt ≤ 100) : mixN s k (x + 1).toInt.toNat = (mixN s k x.toInt.toNat ^^^ OCT k x) * (16777619 : Int32) := by
  have x' : (x + 1).toInt = x.toInt + 1 := by rw [pt_add (by rw [pl_1]; omega) (by rw [pl_1]; omega), pl_1]
  rw [x', show (x.toInt + 1).toNat = x.toInt.toNat + 1 by omega]
  show (mixN s k x.toInt.toNat ^^^ OCT k (nI x.toInt.toNat)) * (16777619 : Int32) = _
  rw [nI_back h0]
theorem fx_mixed {a0 a3 : Int32} {a1 : Int64} {Q : Int32 → Prop} (hq : ∀ r : Int32, (a3.toInt ≤ 8 → r = MIX a0 a1 a3) → Q r) : wp_X8_mixed a0 a1 a3 Q := by
  have rg := pt_rg a3
  unfold wp_X8_mixed wp_X8_mixed_6
  refine ⟨fun n x1 x3 x4 x5 => x1 = a1 ∧ x3 = a3 ∧ 0 ≤ x5.toInt ∧ (x5.toInt = 0 ∨ x5.toInt ≤ a3.toInt) ∧ (a3.toInt ≤ 8 → x4 = mixN a0 a1 x5.toInt.toNat) ∧ n = (a3.toInt + 1 - x5.toInt).toNat, ⟨_, rfl, rfl, by decide, Or.inl rfl, fun _ => by rw [z0]; rfl, rfl⟩, ?_⟩
  rintro n x1 x3 x4 x5 ⟨e1, e3, h0, hle, hk, hn⟩
  unfold wp_X8_mixed_6b
  rw [e1, e3]
  refine ⟨fun c => hq _ (fun h8 => ?_), fun c => ?_⟩
  · simp only [pn] at c
    have hx : x5.toInt.toNat = a3.toInt.toNat := by omega
    rw [hk h8, hx]
    rfl
  simp only [pn] at c
  have x5' : (x5 + 1).toInt = x5.toInt + 1 := by rw [pt_add (by rw [pl_1]; omega) (by rw [pl_1]; omega), pl_1]
  refine fx_octetAt (fun r1 g1 _ => ?_)
  intro v3 e3'
  refine ⟨_, ?_, rfl, rfl, by omega, by omega, fun h8 => ?_, rfl⟩
  · omega
  · rw [e3', hk h8, mixN_s h0 (by omega), g1 h0 (by omega)]
/-! the leaves of the class -/
def OC8 (k : Int64) (l : Int32) : Int32 := if l.toInt ≤ 7 then OCT k l else 0
def LVI (f : Nat → Int64) (g : Nat → Int32) (c : Int) (L : bT1) (i : Nat) : Prop := (b1g_commons L i).toInt = (COM f g c i : Nat) ∧ (b1g_lengths L i).toInt = (BEG f g c i : Nat) ∧ b1g_hashes L i = MIX (b1g_salt L) (f i) (g i) ∧ b1g_nexts L i = OC8 (f i) (b1g_lengths L i)
def LVB (f : Nat → Int64) (g : Nat → Int32) (c : Int) (L : bT1) (i : Nat) : Prop := ub (b0g_bytes (b1g_lows L) i) = LOV f g c (b1g_realBits L) i ∧ (b0g_lengths (b1g_lows L) i).toInt = (LOL f g c (b1g_realBits L) i : Nat) ∧ ub (b0g_bytes (b1g_highs L) i) = HIV f g c (b1g_realBits L) i ∧ (b0g_lengths (b1g_highs L) i).toInt = (HIL f g c i : Nat)
theorem fx_at64 {f : Nat → Int32} {i : Int32} {Q : Int32 → Prop} (hq : ∀ r : Int32, (0 ≤ i.toInt → i.toInt < 64 → r = f i.toNatClampNeg) → Q r) : wp_X8_at 64 f i Q := by
  unfold wp_X8_at
  refine ⟨fun c => hq _ (fun h _ => ?_), fun c => ⟨fun d => hq _ (fun _ h => ?_), fun d => ⟨?_, hq _ (fun _ _ => rfl)⟩⟩⟩
  · simp only [pn] at c; omega
  · rw [show (Int32.ofNat 64) = 64 from rfl] at d
    simp only [pn] at d; omega
  · rw [show (Int32.ofNat 64) = 64 from rfl] at d
    simp only [pn] at c d
    exact pt_in (by omega) (by omega)
theorem up_s {f : Nat → Int32} {i : Nat} {x : Int32} : upd f i x i = x := by
  unfold upd
  rw [if_pos rfl]
theorem upL_s {f : Nat → Int64} {i : Nat} {x : Int64} : vp_updL f i x i = x := by
  unfold vp_updL
  rw [if_pos rfl]
theorem upL_n {f : Nat → Int64} {i j : Nat} {x : Int64} (h : j ≠ i) : vp_updL f i x j = f j := by
  unfold vp_updL
  rw [if_neg h]
theorem fx_front {a0 : Int32} {Q : Int64 → Prop} (hq : ∀ r : Int64, (1 ≤ a0.toInt → a0.toInt ≤ 8 → r = frontf a0) → Q r) : wp_X8_front a0 Q := by
  unfold wp_X8_front
  refine ⟨fun c => ⟨fun d => hq _ (fun _ _ => ?_), fun d => hq _ (fun _ _ => ?_)⟩, fun c => hq _ (fun h _ => ?_)⟩
  · unfold frontf
    rw [if_pos d]
  · unfold frontf
    rw [if_neg d]
  · exfalso
    apply c
    rw [Int32.lt_iff_toInt_lt, pl_0]
    omega
theorem fx_octetTo {a0 a1 : Int32} {Q : Int64 → Prop} (hq : ∀ r : Int64, (0 ≤ a1.toInt → a1.toInt < 8 → r = a0.toInt64 <<< ((((56 : Int32) - ((8 : Int32) * a1))).toInt64 &&& 63)) → Q r) : wp_X8_octetTo a0 a1 Q := by
  unfold wp_X8_octetTo
  refine ⟨fun c => ?_, fun c => ⟨fun d => ?_, fun d => ?_⟩⟩
  · unfold wp_X8_octetTo_10
    simp only [pn] at c
    exact hq _ (fun h _ => by omega)
  · exact hq _ (fun _ _ => rfl)
  · unfold wp_X8_octetTo_10
    simp only [pn] at d
    exact hq _ (fun _ h => by omega)
theorem fx_cut {S : bT1} (hJ : J1 S) {a1 : Int32} {Q : bT1 → Prop} (hp0 : 0 ≤ a1.toInt) (hp1 : a1.toInt < 64) (hq : ∀ u : bT1, b1g_owners u = b1g_owners S → b1g_lows u = b1g_lows S → b1g_highs u = b1g_highs S → b1g_hashBits u = b1g_hashBits S → b1g_realBits u = b1g_realBits S → b1g_salt u = b1g_salt S → (∀ j : Nat, j ≠ a1.toNatClampNeg → b1g_commons u j = b1g_commons S j ∧ b1g_lengths u j = b1g_lengths S j ∧ b1g_hashes u j = b1g_hashes S j ∧ b1g_nexts u j = b1g_nexts S j) → (SRT (b0g_bytes (b1g_owners S)) (b0g_lengths (b1g_owners S)) (b0g_count (b1g_owners S)).toInt → a1.toInt < (b0g_count (b1g_owners S)).toInt → LVI (b0g_bytes (b1g_owners S)) (b0g_lengths (b1g_owners S)) (b0g_count (b1g_owners S)).toInt u a1.toNatClampNeg) → Q u) : wp_X1_cut S a1 Q := by
  have hO := J1g_owners hJ
  have hc := J0g_count hO
  have ca := pt_clamp hp0
  have em : (a1 - 1).toInt = a1.toInt - 1 := by rw [pt_sub (by rw [pl_1]; omega) (by rw [pl_1]; omega), pl_1]
  have ep : (a1 + 1).toInt = a1.toInt + 1 := by rw [pt_add (by rw [pl_1]; omega) (by rw [pl_1]; omega), pl_1]
  unfold wp_X1_cut
  refine fx_bytesAt hO (fun r1 b1 _ => fx_lengthAt hO (fun r3 n3 _ => fx_bytesAt hO (fun r5 b5 _ => fx_lengthAt hO (fun r7 n7 z7 => fx_alike (fun r9 k9 => fx_bytesAt hO (fun r11 b11 _ => fx_lengthAt hO (fun r13 n13 z13 => fx_alike (fun r15 k15 => ⟨pt_in hp0 hp1, ?_⟩))))))))
  obtain ⟨mx, hmx⟩ : ∃ mx : Int32, (if r9 < r15 then r15 else r9) = mx := ⟨_, rfl⟩
  rw [hmx]
  intro S17 e17 v18 e18
  refine ⟨pt_in hp0 hp1, ?_⟩
  intro S19 e19
  refine fx_mixed (fun r20 m20 => ⟨pt_in hp0 hp1, ?_⟩)
  intro S22 e22
  refine ⟨pt_in hp0 hp1, fx_octetAt (fun r23 o23 o8 => ⟨pt_in hp0 hp1, ?_⟩)⟩
  intro S25 e25
  have c1 : b1g_commons S25 = upd (b1g_commons S) a1.toNatClampNeg mx := by rw [e25, e22, e19, e17]
  have c2 : b1g_lengths S25 = upd (b1g_lengths S) a1.toNatClampNeg v18 := by rw [e25, e22, e19, e17]
  have c3 : b1g_hashes S25 = upd (b1g_hashes S) a1.toNatClampNeg r20 := by rw [e25, e22, e19, e17]
  have c4 : b1g_nexts S25 = upd (b1g_nexts S) a1.toNatClampNeg r23 := by rw [e25, e22, e19, e17]
  have c5 : b1g_lengths S22 = upd (b1g_lengths S) a1.toNatClampNeg v18 := by rw [e22, e19, e17]
  have c6 : b1g_salt S19 = b1g_salt S := by rw [e19, e17]
  have c7 : b1g_salt S25 = b1g_salt S := by rw [e25, e22, e19, e17]
  refine hq S25 (by rw [e25, e22, e19, e17]) (by rw [e25, e22, e19, e17]) (by rw [e25, e22, e19, e17]) (by rw [e25, e22, e19, e17]) (by rw [e25, e22, e19, e17]) c7 ?_ ?_
  · intro j hj
    exact ⟨by rw [c1]; exact up_n hj, by rw [c2]; exact up_n hj, by rw [c3]; exact up_n hj, by rw [c4]; exact up_n hj⟩
  · intro hs hlt
    rw [c5, up_s] at o23 o8
    obtain ⟨i, hi⟩ : ∃ i : Nat, a1.toNatClampNeg = i := ⟨_, rfl⟩
    rw [hi] at c1 c2 c3 c4 ca ⊢
    obtain ⟨f, hf⟩ : ∃ f : Nat → Int64, b0g_bytes (b1g_owners S) = f := ⟨_, rfl⟩
    obtain ⟨g, hg⟩ : ∃ g : Nat → Int32, b0g_lengths (b1g_owners S) = g := ⟨_, rfl⟩
    obtain ⟨c, hcc⟩ : ∃ c : Int, (b0g_count (b1g_owners S)).toInt = c := ⟨_, rfl⟩
    rw [hf, hg, hcc] at hs
    rw [hf] at b1 b5 b11
    rw [hg] at n3 n7 n13
    rw [hcc] at b1 b5 b11 n3 n7 n13 z7 z13 hlt hc
    rw [hf, hg, hcc]
    have g1 : r1 = f i := b1 i (by omega) (by omega)
    have g3 : r3 = g i := n3 i (by omega) (by omega)
    have q3 := hs.2 i (by omega)
    have v9 : r9.toInt = ((if i = 0 then 0 else ALR f g i (i - 1) : Nat) : Int) := by
      by_cases h : i = 0
      · rw [if_pos h]
        have z := z7 (by rw [em]; omega)
        rw [k9 (by rw [g3]; omega) (by rw [g3]; omega) (by rw [z]; decide) (by rw [z]; decide), z, show (min r3.toInt ((0 : Int32)).toInt).toNat = 0 by rw [pl_0]; omega]
        rfl
      · rw [if_neg h]
        have g5 : r5 = f (i - 1) := b5 (i - 1) (by rw [em]; omega) (by omega)
        have g7 : r7 = g (i - 1) := n7 (i - 1) (by rw [em]; omega) (by omega)
        have q7 := hs.2 (i - 1) (by omega)
        rw [k9 (by rw [g3]; omega) (by rw [g3]; omega) (by rw [g7]; omega) (by rw [g7]; omega), g1, g3, g5, g7]
        rfl
    have v15 : r15.toInt = ((if ((i + 1 : Nat) : Int) < c then ALR f g i (i + 1) else 0 : Nat) : Int) := by
      by_cases h : ((i + 1 : Nat) : Int) < c
      · rw [if_pos h]
        have g5 : r11 = f (i + 1) := b11 (i + 1) (by rw [ep]; omega) (by omega)
        have g7 : r13 = g (i + 1) := n13 (i + 1) (by rw [ep]; omega) (by omega)
        have q7 := hs.2 (i + 1) (by omega)
        rw [k15 (by rw [g3]; omega) (by rw [g3]; omega) (by rw [g7]; omega) (by rw [g7]; omega), g1, g3, g5, g7]
        rfl
      · rw [if_neg h]
        have z := z13 (by rw [ep]; omega)
        rw [k15 (by rw [g3]; omega) (by rw [g3]; omega) (by rw [z]; decide) (by rw [z]; decide), z, show (min r3.toInt ((0 : Int32)).toInt).toNat = 0 by rw [pl_0]; omega]
        rfl
    have vm : mx.toInt = (COM f g c i : Nat) := by
      rw [← hmx]
      unfold COM
      generalize (if i = 0 then 0 else ALR f g i (i - 1) : Nat) = A at v9
      generalize (if ((i + 1 : Nat) : Int) < c then ALR f g i (i + 1) else 0 : Nat) = B at v15
      by_cases h : r9 < r15
      · rw [if_pos h]
        simp only [pn] at h
        omega
      · rw [if_neg h]
        simp only [pn] at h
        omega
    have cl := COM_le f g c i
    have mp : (mx + 1).toInt = mx.toInt + 1 := by rw [pt_add (by rw [pl_1]; omega) (by rw [pl_1]; omega), pl_1]
    have vb : v18.toInt = (BEG f g c i : Nat) := by
      rw [e18]
      unfold BEG
      by_cases h : r3 < mx + 1
      · rw [if_pos h]
        simp only [pn, mp] at h
        rw [g3] at h ⊢
        omega
      · rw [if_neg h]
        simp only [pn, mp] at h
        rw [g3] at h
        omega
    refine ⟨?_, ?_, ?_, ?_⟩
    · rw [c1, up_s]
      exact vm
    · rw [c2, up_s]
      exact vb
    · rw [c3, up_s, m20 (by rw [g3]; omega), c6, c7, g1, g3]
    · rw [c4, c2, up_s, up_s]
      unfold OC8
      by_cases h : v18.toInt ≤ 7
      · rw [if_pos h, o23 (by omega) h, g1]
      · rw [if_neg h, o8 (by omega)]
theorem fx_append {S : bT0} (hJ : J0 S) {a1 : Int64} {a3 : Int32} {Q : bT0 → Prop} (hq : ∀ u : bT0, J0 u → ((b0g_count S).toInt < 64 → (b0g_count u).toInt = (b0g_count S).toInt + 1 ∧ b0g_bytes u = vp_updL (b0g_bytes S) (b0g_count S).toNatClampNeg a1 ∧ b0g_lengths u = upd (b0g_lengths S) (b0g_count S).toNatClampNeg a3) → Q u) : wp_X0_append S a1 a3 Q := by
  have jc := J0g_count hJ
  unfold wp_X0_append
  refine ⟨fun c => hq _ hJ (fun h => ?_), fun c => ⟨?_, ?_⟩⟩
  · simp only [pn] at c; omega
  · simp only [pn] at c
    exact pt_in (by omega) (by omega)
  · simp only [pn] at c
    intro S1 e1
    have k1 : b0g_count S1 = b0g_count S := by rw [e1]
    refine ⟨by rw [k1]; exact pt_in (by omega) (by omega), ?_⟩
    rw [k1]
    intro S2 e2 S3 e3
    have k2 : b0g_count S3 = b0g_count S + 1 := by rw [e3, e2, e1]
    have k3 : (b0g_count S + 1).toInt = (b0g_count S).toInt + 1 := by rw [pt_add (by rw [pl_1]; omega) (by rw [pl_1]; omega), pl_1]
    refine hq S3 ?_ (fun _ => ⟨by rw [k2, k3], by rw [e3, e2, e1], by rw [e3, e2, e1]⟩)
    unfold J0
    rw [k2, k3]
    omega
theorem fx_isEnded {S : bT1} (hJ : J1 S) {a1 : Int32} {Q : Int32 → Prop} (hq : ∀ r : Int32, bf_bool r → (0 ≤ a1.toInt → a1.toInt < (b0g_count (b1g_owners S)).toInt → (r = 0 ↔ ¬ b1g_commons S a1.toNatClampNeg = b0g_lengths (b1g_owners S) a1.toNatClampNeg)) → Q r) : wp_X1_isEnded S a1 Q := by
  have jc := J0g_count (J1g_owners hJ)
  unfold wp_X1_isEnded
  refine fx_at64 (fun r1 g1 => fx_lengthAt (J1g_owners hJ) (fun r3 n3 _ => ⟨fun c => ⟨rfl, hq _ rfl (fun h0 h1 => ?_)⟩, fun c => ⟨rfl, hq _ rfl (fun h0 h1 => ?_)⟩⟩))
  · have ca := pt_clamp h0
    rw [g1 h0 (by omega), n3 a1.toNatClampNeg (by omega) (by omega)] at c
    exact ⟨fun _ => c, fun _ => rfl⟩
  · have ca := pt_clamp h0
    rw [g1 h0 (by omega), n3 a1.toNatClampNeg (by omega) (by omega)] at c
    exact ⟨fun h => absurd h (by decide), fun h => absurd c h⟩
theorem bd_val (k : Int64) {l rb : Int32} (hl : 1 ≤ l.toInt) (h7 : l.toInt ≤ 7) (r0 : 0 ≤ rb.toInt) (r8 : rb.toInt ≤ 8) : (tlo (OCT k l) rb).toInt = (NXB (ub k) l.toInt.toNat rb : Nat) ∧ ub (cutf k l ||| ((tlo (OCT k l) rb).toInt64 <<< ((((56 : Int32) - ((8 : Int32) * l))).toInt64 &&& 63))) = PX (ub k) l.toInt.toNat * 2 ^ (64 - 8 * l.toInt.toNat) + NXB (ub k) l.toInt.toNat rb * 2 ^ (56 - 8 * l.toInt.toNat) ∧ ∀ m : Int64, ub m = 2 ^ (56 - 8 * l.toInt.toNat) - 1 → ub ((cutf k l ||| ((thi (OCT k l) rb).toInt64 <<< ((((56 : Int32) - ((8 : Int32) * l))).toInt64 &&& 63))) ||| m) = PX (ub k) l.toInt.toNat * 2 ^ (64 - 8 * l.toInt.toNat) + NXB (ub k) l.toInt.toNat rb * 2 ^ (56 - 8 * l.toInt.toNat) + WD rb * 2 ^ (56 - 8 * l.toInt.toNat) - 1 := by
  have on := OCT_n k (i := l) (by omega) h7
  have orr := OCT_rng k (i := l) (by omega) h7
  obtain ⟨n1, n2, _, _⟩ := nx_f orr.1 orr.2 r0 r8
  have nb : (OCT k l).toInt.toNat / WD rb * WD rb = NXB (ub k) l.toInt.toNat rb := by
    unfold NXB
    rw [on]
    rfl
  rw [nb] at n1 n2
  have nf := NXB_f (ub k) l.toInt.toNat r0 r8
  have m1 : (tlo (OCT k l) rb).toInt.toNat = NXB (ub k) l.toInt.toNat rb := by omega
  have m2 : (thi (OCT k l) rb).toInt.toNat + 1 = NXB (ub k) l.toInt.toNat rb + WD rb := by omega
  refine ⟨n1, ?_, fun m hm => ?_⟩
  · rw [ub_lo k (by omega) (by omega) hl h7, m1]
  · rw [ub_hi k (by omega) (by omega) hl h7 hm, m2, Nat.add_mul, ← Nat.add_assoc]
theorem fx_bound {S : bT1} (hJ : J1 S) {a1 : Int32} {Q : bT1 → Prop} (hq : ∀ u : bT1, J1 u → b1g_owners u = b1g_owners S → b1g_commons u = b1g_commons S → b1g_lengths u = b1g_lengths S → b1g_hashes u = b1g_hashes S → b1g_nexts u = b1g_nexts S → b1g_hashBits u = b1g_hashBits S → b1g_realBits u = b1g_realBits S → b1g_salt u = b1g_salt S → (SRT (b0g_bytes (b1g_owners S)) (b0g_lengths (b1g_owners S)) (b0g_count (b1g_owners S)).toInt → 0 ≤ a1.toInt → a1.toInt < (b0g_count (b1g_owners S)).toInt → b0g_count (b1g_lows S) = a1 → b0g_count (b1g_highs S) = a1 → 0 ≤ (b1g_realBits S).toInt → (b1g_realBits S).toInt ≤ 8 → LVI (b0g_bytes (b1g_owners S)) (b0g_lengths (b1g_owners S)) (b0g_count (b1g_owners S)).toInt S a1.toNatClampNeg → (b0g_count (b1g_lows u)).toInt = a1.toInt + 1 ∧ (b0g_count (b1g_highs u)).toInt = a1.toInt + 1 ∧ LVB (b0g_bytes (b1g_owners S)) (b0g_lengths (b1g_owners S)) (b0g_count (b1g_owners S)).toInt u a1.toNatClampNeg ∧ ∀ j : Nat, j ≠ a1.toNatClampNeg → b0g_bytes (b1g_lows u) j = b0g_bytes (b1g_lows S) j ∧ b0g_lengths (b1g_lows u) j = b0g_lengths (b1g_lows S) j ∧ b0g_bytes (b1g_highs u) j = b0g_bytes (b1g_highs S) j ∧ b0g_lengths (b1g_highs u) j = b0g_lengths (b1g_highs S) j) → Q u) : wp_X1_bound S a1 Q := by
  have hO := J1g_owners hJ
  have hc := J0g_count hO
  unfold wp_X1_bound wp_X1_lengthAt
  refine fx_at64 (fun r17 g17 => fx_bytesAt hO (fun r19 b19 _ => fx_front (fun r21 g21 => fx_isEnded hJ (fun r23 _ g23 => ?_))))
  have both : ∀ (k : Int64) (l : Int32) (k2 : Int64) (l2 : Int32) (u v : bT0), J0 u → J0 v → ((b0g_count (b1g_lows S)).toInt < 64 → (b0g_count u).toInt = (b0g_count (b1g_lows S)).toInt + 1 ∧ b0g_bytes u = vp_updL (b0g_bytes (b1g_lows S)) (b0g_count (b1g_lows S)).toNatClampNeg k ∧ b0g_lengths u = upd (b0g_lengths (b1g_lows S)) (b0g_count (b1g_lows S)).toNatClampNeg l) → ((b0g_count (b1g_highs S)).toInt < 64 → (b0g_count v).toInt = (b0g_count (b1g_highs S)).toInt + 1 ∧ b0g_bytes v = vp_updL (b0g_bytes (b1g_highs S)) (b0g_count (b1g_highs S)).toNatClampNeg k2 ∧ b0g_lengths v = upd (b0g_lengths (b1g_highs S)) (b0g_count (b1g_highs S)).toNatClampNeg l2) → (SRT (b0g_bytes (b1g_owners S)) (b0g_lengths (b1g_owners S)) (b0g_count (b1g_owners S)).toInt → 0 ≤ a1.toInt → a1.toInt < (b0g_count (b1g_owners S)).toInt → 0 ≤ (b1g_realBits S).toInt → (b1g_realBits S).toInt ≤ 8 → LVI (b0g_bytes (b1g_owners S)) (b0g_lengths (b1g_owners S)) (b0g_count (b1g_owners S)).toInt S a1.toNatClampNeg → ub k = LOV (b0g_bytes (b1g_owners S)) (b0g_lengths (b1g_owners S)) (b0g_count (b1g_owners S)).toInt (b1g_realBits S) a1.toNatClampNeg ∧ l.toInt = (LOL (b0g_bytes (b1g_owners S)) (b0g_lengths (b1g_owners S)) (b0g_count (b1g_owners S)).toInt (b1g_realBits S) a1.toNatClampNeg : Nat) ∧ ub k2 = HIV (b0g_bytes (b1g_owners S)) (b0g_lengths (b1g_owners S)) (b0g_count (b1g_owners S)).toInt (b1g_realBits S) a1.toNatClampNeg ∧ l2.toInt = (HIL (b0g_bytes (b1g_owners S)) (b0g_lengths (b1g_owners S)) (b0g_count (b1g_owners S)).toInt a1.toNatClampNeg : Nat)) → Q (b1s_highs (b1s_lows S u) v) := by
    intro k l k2 l2 u v hu hv eu ev hval
    refine hq _ (J1s_highs (J1s_lows hJ hu) hv) rfl rfl rfl rfl rfl rfl rfl rfl (fun hs h0 h1 e1 e2 r0 r8 hl => ?_)
    obtain ⟨v1, v2, v3, v4⟩ := hval hs h0 h1 r0 r8 hl
    rw [e1] at eu
    rw [e2] at ev
    obtain ⟨u1, u2, u3⟩ := eu (by omega)
    obtain ⟨w1, w2, w3⟩ := ev (by omega)
    refine ⟨u1, w1, ⟨?_, ?_, ?_, ?_⟩, fun j hj => ⟨?_, ?_, ?_, ?_⟩⟩
    · show ub (b0g_bytes u a1.toNatClampNeg) = _
      rw [u2, upL_s]
      exact v1
    · show (b0g_lengths u a1.toNatClampNeg).toInt = _
      rw [u3, up_s]
      exact v2
    · show ub (b0g_bytes v a1.toNatClampNeg) = _
      rw [w2, upL_s]
      exact v3
    · show (b0g_lengths v a1.toNatClampNeg).toInt = _
      rw [w3, up_s]
      exact v4
    · show b0g_bytes u j = _
      rw [u2]
      exact upL_n hj
    · show b0g_lengths u j = _
      rw [u3]
      exact up_n hj
    · show b0g_bytes v j = _
      rw [w2]
      exact upL_n hj
    · show b0g_lengths v j = _
      rw [w3]
      exact up_n hj
  have flat : (SRT (b0g_bytes (b1g_owners S)) (b0g_lengths (b1g_owners S)) (b0g_count (b1g_owners S)).toInt → 0 ≤ a1.toInt → a1.toInt < (b0g_count (b1g_owners S)).toInt → LVI (b0g_bytes (b1g_owners S)) (b0g_lengths (b1g_owners S)) (b0g_count (b1g_owners S)).toInt S a1.toNatClampNeg → COM (b0g_bytes (b1g_owners S)) (b0g_lengths (b1g_owners S)) (b0g_count (b1g_owners S)).toInt a1.toNatClampNeg = (b0g_lengths (b1g_owners S) a1.toNatClampNeg).toInt.toNat ∨ BEG (b0g_bytes (b1g_owners S)) (b0g_lengths (b1g_owners S)) (b0g_count (b1g_owners S)).toInt a1.toNatClampNeg = 8) → wp_X1_bound_34 S r17 (r19 &&& r21) Q := by
    intro hone
    unfold wp_X1_bound_34
    refine fx_append (J1g_lows hJ) (fun u12 hJ12 h12 => ?_)
    intro S13 e13
    have t1 : b1g_highs S13 = b1g_highs S := by rw [e13]
    rw [t1]
    refine fx_append (J1g_highs hJ) (fun u15 hJ15 h15 => ?_)
    intro S16 e16
    rw [e16, e13]
    refine both _ _ _ _ u12 u15 hJ12 hJ15 h12 h15 (fun hs h0 h1 r0 r8 hl => ?_)
    have ca := pt_clamp h0
    have o := hone hs h0 h1 hl
    have bf := BEG_f hs (i := a1.toNatClampNeg) (by omega)
    have el := g17 h0 (by omega)
    obtain ⟨l1, l2, _, _⟩ := hl
    rw [← el] at l2
    have ub1 : ub (r19 &&& r21) = PX (ub (b0g_bytes (b1g_owners S) a1.toNatClampNeg)) (BEG (b0g_bytes (b1g_owners S)) (b0g_lengths (b1g_owners S)) (b0g_count (b1g_owners S)).toInt a1.toNatClampNeg) * 2 ^ (64 - 8 * BEG (b0g_bytes (b1g_owners S)) (b0g_lengths (b1g_owners S)) (b0g_count (b1g_owners S)).toInt a1.toNatClampNeg) := by
      rw [g21 (by omega) (by omega), and_front _ (by omega) (by omega), ub_cut _ (by omega) (by omega), b19 a1.toNatClampNeg (by omega) (by omega), show r17.toInt.toNat = BEG (b0g_bytes (b1g_owners S)) (b0g_lengths (b1g_owners S)) (b0g_count (b1g_owners S)).toInt a1.toNatClampNeg by omega]
    unfold LOV LOL HIV HIL
    rw [if_pos o, if_pos o, if_pos o, if_pos o]
    exact ⟨ub1, l2, ub1, l2⟩
  refine ⟨fun d => flat (fun hs h0 h1 hl => ?_), fun d => ⟨fun d8 => ?_, fun d8 => flat (fun hs h0 h1 hl => ?_)⟩⟩
  · have ca := pt_clamp h0
    have q := hs.2 a1.toNatClampNeg (by omega)
    have e : b1g_commons S a1.toNatClampNeg = b0g_lengths (b1g_owners S) a1.toNatClampNeg := Classical.byContradiction (fun h => d ((g23 h0 h1).mpr h))
    have l1 := hl.1
    rw [e] at l1
    exact Or.inl (by omega)
  · unfold wp_X1_nextAt wp_X8_highest
    refine fx_at64 (fun ro go => ?_)
    intro v27 e27
    have e27' : v27 = thi ro (b1g_realBits S) := e27
    refine fx_octetTo (fun r28 g28 => ?_)
    have g28' : 0 ≤ r17.toInt → r17.toInt < 8 → r28 = (tlo ro (b1g_realBits S)).toInt64 <<< ((((56 : Int32) - ((8 : Int32) * r17))).toInt64 &&& 63) := g28
    simp only [pn] at d8
    have eo : SRT (b0g_bytes (b1g_owners S)) (b0g_lengths (b1g_owners S)) (b0g_count (b1g_owners S)).toInt → 0 ≤ a1.toInt → a1.toInt < (b0g_count (b1g_owners S)).toInt → LVI (b0g_bytes (b1g_owners S)) (b0g_lengths (b1g_owners S)) (b0g_count (b1g_owners S)).toInt S a1.toNatClampNeg → ro = OCT (b0g_bytes (b1g_owners S) a1.toNatClampNeg) r17 ∧ 1 ≤ r17.toInt ∧ r17.toInt = (BEG (b0g_bytes (b1g_owners S)) (b0g_lengths (b1g_owners S)) (b0g_count (b1g_owners S)).toInt a1.toNatClampNeg : Nat) ∧ ¬ (COM (b0g_bytes (b1g_owners S)) (b0g_lengths (b1g_owners S)) (b0g_count (b1g_owners S)).toInt a1.toNatClampNeg = (b0g_lengths (b1g_owners S) a1.toNatClampNeg).toInt.toNat ∨ BEG (b0g_bytes (b1g_owners S)) (b0g_lengths (b1g_owners S)) (b0g_count (b1g_owners S)).toInt a1.toNatClampNeg = 8) := by
      intro hs h0 h1 hl
      have ca := pt_clamp h0
      have bf := BEG_f hs (i := a1.toNatClampNeg) (by omega)
      have el := g17 h0 (by omega)
      have en := go h0 (by omega)
      have ne : ¬ b1g_commons S a1.toNatClampNeg = b0g_lengths (b1g_owners S) a1.toNatClampNeg := (g23 h0 h1).mp d
      obtain ⟨l1, l2, _, l4⟩ := hl
      rw [← el] at l2 l4
      have q := hs.2 a1.toNatClampNeg (by omega)
      refine ⟨?_, by omega, l2, fun o => ?_⟩
      · rw [en, l4]
        unfold OC8
        rw [if_pos (by omega)]
      · rcases o with o | o
        · exact ne (Int32.toInt_inj.mp (by omega))
        · omega
    have tail : ∀ (t2 : Int32), (SRT (b0g_bytes (b1g_owners S)) (b0g_lengths (b1g_owners S)) (b0g_count (b1g_owners S)).toInt → 0 ≤ a1.toInt → a1.toInt < (b0g_count (b1g_owners S)).toInt → 0 ≤ (b1g_realBits S).toInt → (b1g_realBits S).toInt ≤ 8 → LVI (b0g_bytes (b1g_owners S)) (b0g_lengths (b1g_owners S)) (b0g_count (b1g_owners S)).toInt S a1.toNatClampNeg → t2.toInt = ((if NXB (ub (b0g_bytes (b1g_owners S) a1.toNatClampNeg)) (BEG (b0g_bytes (b1g_owners S)) (b0g_lengths (b1g_owners S)) (b0g_count (b1g_owners S)).toInt a1.toNatClampNeg) (b1g_realBits S) = 0 then BEG (b0g_bytes (b1g_owners S)) (b0g_lengths (b1g_owners S)) (b0g_count (b1g_owners S)).toInt a1.toNatClampNeg else BEG (b0g_bytes (b1g_owners S)) (b0g_lengths (b1g_owners S)) (b0g_count (b1g_owners S)).toInt a1.toNatClampNeg + 1 : Nat) : Int)) → wp_X1_bound_105 S r17 (r19 &&& r21) v27 ((r19 &&& r21) ||| r28) t2 Q := by
      intro t2 ht2
      unfold wp_X1_bound_105
      refine fx_append (J1g_lows hJ) (fun u2 hJ2 h2 => ?_)
      intro S3 e3
      have t1 : b1g_highs S3 = b1g_highs S := by rw [e3]
      rw [t1]
      refine fx_octetTo (fun r4 g4 => fx_front (fun r6 g6 => fx_append (J1g_highs hJ) (fun u9 hJ9 h9 => ?_)))
      intro S10 e10
      rw [e10, e3]
      refine both _ _ _ _ u2 u9 hJ2 hJ9 h2 h9 (fun hs h0 h1 r0 r8 hl => ?_)
      have tt := ht2 hs h0 h1 r0 r8 hl
      obtain ⟨q1, q2, q3, q4⟩ := eo hs h0 h1 hl
      have ca := pt_clamp h0
      have e19 : r19 = (b0g_bytes (b1g_owners S) a1.toNatClampNeg) := b19 a1.toNatClampNeg (by omega) (by omega)
      have bL : BEG (b0g_bytes (b1g_owners S)) (b0g_lengths (b1g_owners S)) (b0g_count (b1g_owners S)).toInt a1.toNatClampNeg = r17.toInt.toNat := by omega
      have ec : r19 &&& r21 = cutf (b0g_bytes (b1g_owners S) a1.toNatClampNeg) r17 := by rw [g21 (by omega) (by omega), and_front _ (by omega) (by omega), e19]
      obtain ⟨w1, w2, w3⟩ := bd_val (b0g_bytes (b1g_owners S) a1.toNatClampNeg) (l := r17) (rb := b1g_realBits S) (by omega) (by omega) r0 r8
      have x17 : (r17 + 1).toInt = r17.toInt + 1 := by rw [pt_add (by rw [pl_1]; omega) (by rw [pl_1]; omega), pl_1]
      unfold LOV LOL HIV HIL
      rw [if_neg q4, if_neg q4, if_neg q4, if_neg q4]
      refine ⟨?_, tt, ?_, rfl⟩
      · rw [ec, g28' (by omega) (by omega), q1, bL]
        exact w2
      · rw [ec, g4 (by omega) (by omega), g6 (by omega) (by omega), e27', q1, bL]
        exact w3 _ (ub_fr (by omega) (by omega))
    have x17 : 0 ≤ r17.toInt → (r17 + 1).toInt = r17.toInt + 1 := fun h => by rw [pt_add (by rw [pl_1]; omega) (by rw [pl_1]; omega), pl_1]
    have nz : SRT (b0g_bytes (b1g_owners S)) (b0g_lengths (b1g_owners S)) (b0g_count (b1g_owners S)).toInt → 0 ≤ a1.toInt → a1.toInt < (b0g_count (b1g_owners S)).toInt → 0 ≤ (b1g_realBits S).toInt → (b1g_realBits S).toInt ≤ 8 → LVI (b0g_bytes (b1g_owners S)) (b0g_lengths (b1g_owners S)) (b0g_count (b1g_owners S)).toInt S a1.toNatClampNeg → (tlo ro (b1g_realBits S)).toInt = (NXB (ub (b0g_bytes (b1g_owners S) a1.toNatClampNeg)) (BEG (b0g_bytes (b1g_owners S)) (b0g_lengths (b1g_owners S)) (b0g_count (b1g_owners S)).toInt a1.toNatClampNeg) (b1g_realBits S) : Nat) := by
      intro hs h0 h1 r0 r8 hl
      obtain ⟨q1, q2, q3, q4⟩ := eo hs h0 h1 hl
      have bL : BEG (b0g_bytes (b1g_owners S)) (b0g_lengths (b1g_owners S)) (b0g_count (b1g_owners S)).toInt a1.toNatClampNeg = r17.toInt.toNat := by omega
      rw [q1, bL]
      exact (bd_val (b0g_bytes (b1g_owners S) a1.toNatClampNeg) (l := r17) (rb := b1g_realBits S) (by omega) (by omega) r0 r8).1
    refine ⟨fun z => tail _ (fun hs h0 h1 r0 r8 hl => ?_), fun z => tail _ (fun hs h0 h1 r0 r8 hl => ?_)⟩
    · have n := nz hs h0 h1 r0 r8 hl
      obtain ⟨q1, q2, q3, q4⟩ := eo hs h0 h1 hl
      have z' : ¬ tlo ro (b1g_realBits S) = 0 := z
      rw [if_neg (fun h => z' (Int32.toInt_inj.mp (by rw [n, h]; rfl))), x17 (by omega), q3]
      rfl
    · have n := nz hs h0 h1 r0 r8 hl
      obtain ⟨q1, q2, q3, q4⟩ := eo hs h0 h1 hl
      have z' : tlo ro (b1g_realBits S) = 0 := z
      rw [z', pl_0] at n
      rw [if_pos (by omega), q3]
  · have ca := pt_clamp h0
    have bf := BEG_f hs (i := a1.toNatClampNeg) (by omega)
    have el := g17 h0 (by omega)
    have l2 := hl.2.1
    rw [← el] at l2
    simp only [pn] at d8
    exact Or.inr (by omega)
def LVS (L : bT1) : Prop := (b0g_count (b1g_lows L)).toInt = (b0g_count (b1g_owners L)).toInt ∧ (b0g_count (b1g_highs L)).toInt = (b0g_count (b1g_owners L)).toInt ∧ ∀ i : Nat, (i : Int) < (b0g_count (b1g_owners L)).toInt → LVI (b0g_bytes (b1g_owners L)) (b0g_lengths (b1g_owners L)) (b0g_count (b1g_owners L)).toInt L i ∧ LVB (b0g_bytes (b1g_owners L)) (b0g_lengths (b1g_owners L)) (b0g_count (b1g_owners L)).toInt L i
theorem lows_srt {L : bT1} (h : LVS L) (hs : SRT (b0g_bytes (b1g_owners L)) (b0g_lengths (b1g_owners L)) (b0g_count (b1g_owners L)).toInt) (hc : CLN (b0g_bytes (b1g_owners L)) (b0g_lengths (b1g_owners L)) (b0g_count (b1g_owners L)).toInt) (r0 : 0 ≤ (b1g_realBits L).toInt) (r8 : (b1g_realBits L).toInt ≤ 8) : SRT (b0g_bytes (b1g_lows L)) (b0g_lengths (b1g_lows L)) (b0g_count (b1g_lows L)).toInt ∧ SRT (b0g_bytes (b1g_highs L)) (b0g_lengths (b1g_highs L)) (b0g_count (b1g_highs L)).toInt := by
  obtain ⟨c1, c2, hi⟩ := h
  have key : ∀ i j : Nat, i < j → (j : Int) < (b0g_count (b1g_owners L)).toInt → KLT (b0g_bytes (b1g_lows L) i) (b0g_lengths (b1g_lows L) i) (b0g_bytes (b1g_lows L) j) (b0g_lengths (b1g_lows L) j) ∧ KLT (b0g_bytes (b1g_highs L) i) (b0g_lengths (b1g_highs L) i) (b0g_bytes (b1g_highs L) j) (b0g_lengths (b1g_highs L) j) := by
    intro i j hij hj
    obtain ⟨_, l1, l2, l3, l4⟩ := hi i (by omega)
    obtain ⟨_, m1, m2, m3, m4⟩ := hi j hj
    have a := BND_all hs hc r0 r8 (i := i) j hij hj
    have b := BND_self hs hc r0 r8 (i := i) (by omega)
    have d := BND_self hs hc r0 r8 (i := j) hj
    unfold NLT at a b d
    unfold KLT
    refine ⟨?_, ?_⟩
    · by_cases e : ub (b0g_bytes (b1g_lows L) i) < ub (b0g_bytes (b1g_lows L) j)
      · exact Or.inl e
      · exact Or.inr ⟨ub_inj (by omega), by omega⟩
    · by_cases e : ub (b0g_bytes (b1g_highs L) i) < ub (b0g_bytes (b1g_highs L) j)
      · exact Or.inl e
      · exact Or.inr ⟨ub_inj (by omega), by omega⟩
  rw [c1, c2]
  refine ⟨⟨fun i j h1 h2 => (key i j h1 h2).1, fun j hj => ?_⟩, ⟨fun i j h1 h2 => (key i j h1 h2).2, fun j hj => ?_⟩⟩
  · obtain ⟨_, l1, l2, l3, l4⟩ := hi j hj
    have k := LOL_f hs (rb := b1g_realBits L) hj
    have b := BEG_f hs hj
    omega
  · obtain ⟨_, l1, l2, l3, l4⟩ := hi j hj
    have k := LOL_f hs (rb := b1g_realBits L) hj
    have b := BEG_f hs hj
    omega
theorem LVI_congr {f : Nat → Int64} {g : Nat → Int32} {c : Int} {L L2 : bT1} {i : Nat} (h : LVI f g c L i) (e1 : b1g_commons L2 i = b1g_commons L i) (e2 : b1g_lengths L2 i = b1g_lengths L i) (e3 : b1g_hashes L2 i = b1g_hashes L i) (e4 : b1g_nexts L2 i = b1g_nexts L i) (e5 : b1g_salt L2 = b1g_salt L) : LVI f g c L2 i := by
  unfold LVI at h ⊢
  rw [e1, e2, e3, e4, e5]
  exact h
theorem LVB_congr {f : Nat → Int64} {g : Nat → Int32} {c : Int} {L L2 : bT1} {i : Nat} (h : LVB f g c L i) (e1 : b0g_bytes (b1g_lows L2) i = b0g_bytes (b1g_lows L) i) (e2 : b0g_lengths (b1g_lows L2) i = b0g_lengths (b1g_lows L) i) (e3 : b0g_bytes (b1g_highs L2) i = b0g_bytes (b1g_highs L) i) (e4 : b0g_lengths (b1g_highs L2) i = b0g_lengths (b1g_highs L) i) (e5 : b1g_realBits L2 = b1g_realBits L) : LVB f g c L2 i := by
  unfold LVB at h ⊢
  rw [e1, e2, e3, e4, e5]
  exact h
theorem fx_copyFrom {S : bT0 × bT0} (hJ : J0 S.1 ∧ J0 S.2) {Q : bT0 × bT0 → Prop} (hq : ∀ u : bT0 × bT0, J0 u.1 → u.2 = S.2 → REQ u.1 S.2 → Q u) : wp_X0_copyFrom S Q := by
  unfold wp_X0_copyFrom
  intro S1 e1 S2 e2 S3 e3
  have eb : b0g_bytes S3.1 = va_cpy (b0g_bytes S.2) (b0g_bytes S.1) ((0 : Int32)).toNatClampNeg ((0 : Int32)).toNatClampNeg ((64 : Int32)).toNatClampNeg := by rw [e3, e2, e1]
  have el : b0g_lengths S3.1 = va_cpy (b0g_lengths S.2) (b0g_lengths S.1) ((0 : Int32)).toNatClampNeg ((0 : Int32)).toNatClampNeg ((64 : Int32)).toNatClampNeg := by rw [e3, e2, e1]
  have ec : b0g_count S3.1 = b0g_count S.2 := by rw [e3, e2, e1]
  have e2' : S3.2 = S.2 := by rw [e3, e2, e1]
  refine hq _ ?_ e2' ⟨ec, fun j hj => ?_⟩
  · have h := hJ.2
    unfold J0 at h ⊢
    rw [ec]
    exact h
  · rw [eb, el, cpy_at (k := 64) (by decide) hj, cpy_at (k := 64) (by decide) hj]
    exact ⟨rfl, rfl⟩
theorem fx_at6 {f : Nat → Int32} {i : Int32} {Q : Int32 → Prop} (h0 : 0 ≤ i.toInt) (h1 : i.toInt < 6) (hq : Q (f i.toNatClampNeg)) : wp_X8_at 6 f i Q := by
  unfold wp_X8_at
  refine ⟨fun c => ?_, fun c => ⟨fun d => ?_, fun d => ⟨pt_in h0 (by omega), hq⟩⟩⟩
  · simp only [pn] at c; omega
  · rw [show (Int32.ofNat 6) = 6 from rfl] at d
    simp only [pn] at d; omega
def HBV (P : bT3) : Int32 := if b3g_mode P = 1 ∨ b3g_mode P = 3 then b3g_values P 0 else 0
def RBV (P : bT3) : Int32 := if b3g_mode P = 2 ∨ b3g_mode P = 3 then b3g_values P 1 else 0
theorem fx_make {S : bT1 × bT3} (hJ : J1 S.1 ∧ J3 S.2) {Q : bT1 × bT3 → Prop} (hq : ∀ u : bT1 × bT3, J1 u.1 → u.2 = S.2 → REQ (b1g_owners u.1) (b3g_members S.2) → b1g_hashBits u.1 = HBV S.2 → b1g_realBits u.1 = RBV S.2 → b1g_salt u.1 = b3g_values S.2 5 → (SRT (b0g_bytes (b1g_owners u.1)) (b0g_lengths (b1g_owners u.1)) (b0g_count (b1g_owners u.1)).toInt → 0 ≤ (b1g_realBits u.1).toInt → (b1g_realBits u.1).toInt ≤ 8 → LVS u.1) → Q u) : wp_X1_make S Q := by
  have k81 : ∀ (T : bT1 × bT3) (t1 : Int32), T.2 = S.2 → J1 T.1 → b1g_hashBits T.1 = HBV S.2 → t1 = RBV S.2 → wp_X1_make_81 T t1 Q := by
    intro T t1 hT hJT hh ht
    unfold wp_X1_make_81
    intro S7 e7
    have s7 : S7.2 = S.2 := by rw [e7]; exact hT
    refine fx_at6 (by decide) (by decide) ?_
    intro S10 e10
    have s10 : S10.2 = S.2 := by rw [e10]; exact s7
    have o10 : J0 (b1g_owners S10.1) := by rw [e10, e7]; exact J1g_owners hJT
    refine fx_copyFrom (S := (b1g_owners S10.1, b3g_members S10.2)) ⟨o10, by show J0 (b3g_members S10.2); rw [s10]; exact J3g_members hJ.2⟩ (fun u12 hJ12 hf12 hR12 => ?_)
    intro S13 e13 S14 e14 S15 e15
    have f12 : u12.2 = b3g_members S.2 := by rw [← s10]; exact hf12
    have R12 : REQ u12.1 (b3g_members S.2) := by rw [← s10]; exact hR12
    have s13 : S13.2 = S.2 := by
      have : S13.2 = b3s_members S10.2 u12.2 := by rw [e13]
      rw [this, s10, f12]
    have s15 : S15.2 = S.2 := by
      have : S15.2 = S13.2 := by rw [e15, e14]
      rw [this, s13]
    have q1 : b1g_owners S15.1 = u12.1 := by rw [e15, e14, e13]
    have q2 : b1g_hashBits S15.1 = HBV S.2 := by
      have : b1g_hashBits S15.1 = b1g_hashBits T.1 := by rw [e15, e14, e13, e10, e7]
      rw [this, hh]
    have q3 : b1g_realBits S15.1 = RBV S.2 := by
      have : b1g_realBits S15.1 = t1 := by rw [e15, e14, e13, e10, e7]
      rw [this, ht]
    have q4 : b1g_salt S15.1 = b3g_values S.2 5 := by
      have : b1g_salt S15.1 = b3g_values S7.2 ((5 : Int32)).toNatClampNeg := by rw [e15, e14, e13, e10]
      rw [this, s7]
      rfl
    have q5 : (b0g_count (b1g_lows S15.1)).toInt = 0 := by rw [e15, e14]; rfl
    have q6 : (b0g_count (b1g_highs S15.1)).toInt = 0 := by rw [e15]; rfl
    have J15 : J1 S15.1 := by
      refine ⟨by rw [q1]; exact hJ12, ?_, ?_⟩
      · unfold J0
        rw [q5]
        omega
      · unfold J0
        rw [q6]
        omega
    obtain ⟨O, hO⟩ : ∃ O : bT0, u12.1 = O := ⟨_, rfl⟩
    rw [hO] at q1 R12 hJ12
    have jc := J0g_count hJ12
    unfold wp_X1_make_126
    refine ⟨fun n x4 V => V.2 = S.2 ∧ J1 V.1 ∧ b1g_owners V.1 = O ∧ b1g_hashBits V.1 = HBV S.2 ∧ b1g_realBits V.1 = RBV S.2 ∧ b1g_salt V.1 = b3g_values S.2 5 ∧ 0 ≤ x4.toInt ∧ x4.toInt ≤ (b0g_count O).toInt ∧ (SRT (b0g_bytes O) (b0g_lengths O) (b0g_count O).toInt → 0 ≤ (RBV S.2).toInt → (RBV S.2).toInt ≤ 8 → (b0g_count (b1g_lows V.1)).toInt = x4.toInt ∧ (b0g_count (b1g_highs V.1)).toInt = x4.toInt ∧ ∀ i : Nat, (i : Int) < x4.toInt → LVI (b0g_bytes O) (b0g_lengths O) (b0g_count O).toInt V.1 i ∧ LVB (b0g_bytes O) (b0g_lengths O) (b0g_count O).toInt V.1 i) ∧ n = ((b0g_count O).toInt - x4.toInt).toNat, ⟨_, s15, J15, q1, q2, q3, q4, by decide, by rw [pl_0]; exact jc.1, fun _ _ _ => ⟨q5, q6, fun i hi => by rw [pl_0] at hi; omega⟩, rfl⟩, ?_⟩
    rintro n x4 V ⟨v2, hJV, vo, vh, vr, vs, h0, hle, hI, hn⟩
    unfold wp_X1_make_126b
    rw [vo]
    refine ⟨fun c => hq V hJV v2 (by rw [vo]; exact R12) vh vr vs (fun hs r0 r8 => ?_), fun c => ?_⟩
    · simp only [pn] at c
      rw [vo] at hs
      rw [vr] at r0 r8
      obtain ⟨i1, i2, i3⟩ := hI hs r0 r8
      have ex : x4.toInt = (b0g_count O).toInt := by omega
      unfold LVS
      rw [vo]
      rw [ex] at i1 i2 i3
      exact ⟨i1, i2, i3⟩
    simp only [pn] at c
    have ca := pt_clamp h0
    have x4' : (x4 + 1).toInt = x4.toInt + 1 := by rw [pt_add (by rw [pl_1]; omega) (by rw [pl_1]; omega), pl_1]
    refine fx_cut hJV h0 (by omega) (fun u2 f1 f2 f3 f4 f5 f6 f7 hL => ?_)
    intro S3 e3
    have a1 : S3.1 = u2 := by rw [e3]
    have a2 : S3.2 = S.2 := by rw [e3]; exact v2
    rw [a1]
    have hJ2 : J1 u2 := by
      unfold J1
      rw [f1, f2, f3]
      exact hJV
    refine fx_bound hJ2 (fun u5 hJ5 g1 g2 g3 g4 g5 g6 g7 g8 hB => ?_)
    intro S6 e6
    have b1 : S6.1 = u5 := by rw [e6]
    have b2 : S6.2 = S.2 := by rw [e6]; exact a2
    rw [vo] at hL
    refine ⟨_, ?_, b2, by rw [b1]; exact hJ5, by rw [b1, g1, f1]; exact vo, by rw [b1, g6, f4]; exact vh, by rw [b1, g7, f5]; exact vr, by rw [b1, g8, f6]; exact vs, by omega, by omega, fun hs r0 r8 => ?_, rfl⟩
    · omega
    · obtain ⟨i1, i2, i3⟩ := hI hs r0 r8
      have l := hL hs (by omega)
      rw [f1, vo] at hB
      have lc : b0g_count (b1g_lows u2) = x4 := Int32.toInt_inj.mp (by rw [f2]; exact i1)
      have hc2 : b0g_count (b1g_highs u2) = x4 := Int32.toInt_inj.mp (by rw [f3]; exact i2)
      obtain ⟨k1, k2, k3, k4⟩ := hB hs h0 (by omega) lc hc2 (by rw [f5, vr]; exact r0) (by rw [f5, vr]; exact r8) l
      rw [b1]
      refine ⟨by rw [k1]; omega, by rw [k2]; omega, fun i hi => ?_⟩
      by_cases e : i = x4.toNatClampNeg
      · rw [e]
        exact ⟨LVI_congr l (by rw [g2]) (by rw [g3]) (by rw [g4]) (by rw [g5]) g8, k3⟩
      · obtain ⟨p, q⟩ := i3 i (by omega)
        obtain ⟨c1, c2, c3, c4⟩ := f7 i e
        obtain ⟨d1, d2, d3, d4⟩ := k4 i e
        exact ⟨LVI_congr p (by rw [g2, c1]) (by rw [g3, c2]) (by rw [g4, c3]) (by rw [g5, c4]) (by rw [g8, f6]), LVB_congr q (by rw [d1, f2]) (by rw [d2, f2]) (by rw [d3, f3]) (by rw [d4, f3]) (by rw [g7, f5])⟩
  have k61 : ∀ (x3 t1 : Int32), t1 = HBV S.2 → (x3 = 0 ↔ ¬ (b3g_mode S.2 = 2 ∨ b3g_mode S.2 = 3)) → wp_X1_make_61 S x3 t1 Q := by
    intro x3 t1 ht hx
    unfold wp_X1_make_61
    intro S16 e16
    have s16 : S16.2 = S.2 := by rw [e16]
    have j16 : J1 S16.1 := by rw [e16]; exact J1s_hashBits hJ.1
    have h16 : b1g_hashBits S16.1 = HBV S.2 := by rw [e16]; exact ht
    refine ⟨fun c => k81 S16 0 s16 j16 h16 ?_, fun c => fx_at6 (by decide) (by decide) (k81 S16 _ s16 j16 h16 ?_)⟩
    · unfold RBV
      rw [if_neg (hx.mp c)]
    · unfold RBV
      rw [if_pos (Classical.byContradiction (fun h => c (hx.mpr h))), s16]
      rfl
  have k43 : ∀ (x2 t0 : Int32), (x2 = 0 ↔ ¬ (b3g_mode S.2 = 1 ∨ b3g_mode S.2 = 3)) → (t0 = 0 ↔ ¬ (b3g_mode S.2 = 2 ∨ b3g_mode S.2 = 3)) → wp_X1_make_43 S x2 t0 Q := by
    intro x2 t0 hx ht
    unfold wp_X1_make_43
    refine ⟨fun c => k61 t0 0 ?_ ht, fun c => fx_at6 (by decide) (by decide) (k61 t0 _ ?_ ht)⟩
    · unfold HBV
      rw [if_neg (hx.mp c)]
    · unfold HBV
      rw [if_pos (Classical.byContradiction (fun h => c (hx.mpr h)))]
      rfl
  have k21 : ∀ t0 : Int32, (t0 = 0 ↔ ¬ (b3g_mode S.2 = 1 ∨ b3g_mode S.2 = 3)) → wp_X1_make_21 S t0 Q := by
    intro t0 ht
    unfold wp_X1_make_21 wp_X1_make_38
    refine ⟨fun c => k43 _ _ ht ⟨fun h => absurd h (by decide), fun h => absurd (Or.inl c) h⟩, fun c => ⟨fun d => k43 _ _ ht ⟨fun _ h => h.elim c d, fun _ => rfl⟩, fun d => k43 _ _ ht ⟨fun h => absurd h (by decide), fun h => absurd (Or.inr d) h⟩⟩⟩
  unfold wp_X1_make wp_X1_make_16
  exact ⟨fun c => k21 _ ⟨fun h => absurd h (by decide), fun h => absurd (Or.inl c) h⟩, fun c => ⟨fun d => k21 _ ⟨fun _ h => h.elim c d, fun _ => rfl⟩, fun d => k21 _ ⟨fun h => absurd h (by decide), fun h => absurd (Or.inr d) h⟩⟩⟩
