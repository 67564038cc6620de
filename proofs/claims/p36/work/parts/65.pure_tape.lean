def bt (x : Int32) (i : Nat) : Bool := x.toBitVec.getLsbD i
theorem b_ext {x y : Int32} (h : ∀ i, i < 32 → bt x i = bt y i) : x = y := Int32.toBitVec_inj.mp (BitVec.eq_of_getLsbD_eq (fun i hi => h i hi))
theorem b_or (x y : Int32) (i : Nat) : bt (x ||| y) i = (bt x i || bt y i) := by unfold bt; rw [Int32.toBitVec_or, BitVec.getLsbD_or]
theorem b_and (x y : Int32) (i : Nat) : bt (x &&& y) i = (bt x i && bt y i) := by unfold bt; rw [Int32.toBitVec_and, BitVec.getLsbD_and]
theorem b_xor (x y : Int32) (i : Nat) : bt (x ^^^ y) i = (bt x i ^^ bt y i) := by unfold bt; rw [Int32.toBitVec_xor, BitVec.getLsbD_xor]
theorem b_big {x : Int32} {i : Nat} (h : 32 ≤ i) : bt x i = false := BitVec.getLsbD_of_ge _ _ h
theorem b_255 (i : Nat) : bt 255 i = decide (i < 8) := by
  rcases Nat.lt_or_ge i 32 with h | h
  · exact (by decide +kernel : ∀ i, i < 32 → bt 255 i = decide (i < 8)) i h
  · rw [b_big h, decide_eq_false (by omega)]
theorem b_65535 (i : Nat) : bt 65535 i = decide (i < 16) := by
  rcases Nat.lt_or_ge i 32 with h | h
  · exact (by decide +kernel : ∀ i, i < 32 → bt 65535 i = decide (i < 16)) i h
  · rw [b_big h, decide_eq_false (by omega)]
theorem b_m1 : ∀ i, i < 32 → bt (-1) i = true := by decide +kernel
theorem b_0 (i : Nat) : bt 0 i = false := BitVec.getLsbD_zero
theorem s_l : ∀ n, n < 32 → ((nI n &&& 31).toBitVec.smod 32).toNat = n := by decide +kernel
theorem s_u : ∀ n, n < 32 → (((nI n).toUInt32 &&& Int32.toUInt32 31).toBitVec % 32).toNat = n := by decide +kernel
theorem b_shl (n : Nat) (hn : n < 32) (x : Int32) {i : Nat} (hi : i < 32) : bt (x <<< (nI n &&& 31)) i = (decide (n ≤ i) && bt x (i - n)) := by
  unfold bt
  rw [Int32.toBitVec_shiftLeft]
  show (x.toBitVec <<< ((nI n &&& 31).toBitVec.smod 32).toNat).getLsbD i = _
  rw [s_l n hn, BitVec.getLsbD_shiftLeft]
  rcases Nat.lt_or_ge i n with h | h
  · simp [h, Nat.not_le.mpr h]
  · simp [hi, h, Nat.not_lt.mpr h]
theorem b_ushr (n : Nat) (hn : n < 32) (x : Int32) (i : Nat) : bt ((x.toUInt32 >>> ((nI n).toUInt32 &&& Int32.toUInt32 31)).toInt32) i = bt x (n + i) := by
  show (x.toUInt32 >>> ((nI n).toUInt32 &&& Int32.toUInt32 31)).toBitVec.getLsbD i = x.toUInt32.toBitVec.getLsbD (n + i)
  rw [UInt32.toBitVec_shiftRight]
  show (x.toUInt32.toBitVec >>> (((nI n).toUInt32 &&& Int32.toUInt32 31).toBitVec % 32).toNat).getLsbD i = _
  rw [s_u n hn, BitVec.getLsbD_ushiftRight]
theorem b_sshr (n : Nat) (hn : n < 32) (x : Int32) {i : Nat} (hi : i < 32) : bt (x >>> (nI n &&& 31)) i = if n + i < 32 then bt x (n + i) else bt x 31 := by
  unfold bt
  rw [Int32.toBitVec_shiftRight]
  show (x.toBitVec.sshiftRight ((nI n &&& 31).toBitVec.smod 32).toNat).getLsbD i = _
  rw [s_l n hn, BitVec.getLsbD_sshiftRight, BitVec.msb_eq_getLsbD_last]
  simp [hi]
theorem sh255 {n : Nat} (hn : n ≤ 24) (x : Int32) : (x >>> (nI n &&& 31)) &&& 255 = ((x.toUInt32 >>> ((nI n).toUInt32 &&& Int32.toUInt32 31)).toInt32) &&& 255 := by
  apply b_ext
  intro i hi
  rw [b_and, b_and, b_255, b_sshr n (by omega) x hi, b_ushr n (by omega) x i]
  by_cases h : i < 8
  · rw [if_pos (by omega)]
  · simp [h]
def byt (a : Int32) (i : Nat) : Int32 := ((a.toUInt32 >>> ((nI (24 - 8 * i)).toUInt32 &&& Int32.toUInt32 31)).toInt32) &&& 255
theorem byt_s {a : Int32} {i : Nat} : (a >>> (nI (24 - 8 * i) &&& 31)) &&& 255 = byt a i := sh255 (by omega) a
def PF (f : Nat → Int32) (c : Int) (a : Int32) (i : Nat) (g : Nat → Int32) : Prop := (∀ j : Nat, (j : Int) < c → g j = f j) ∧ ∀ q : Nat, q < i → ∀ j : Nat, (j : Int) = c + q → g j = byt a q
theorem PF_0 {f : Nat → Int32} {c : Int} {a : Int32} : PF f c a 0 f := ⟨fun _ _ => rfl, fun q hq => by omega⟩
theorem PF_s {f g : Nat → Int32} {c : Int} {a x v : Int32} {i : Nat} (h : PF f c a i g) (hx : x.toInt = c + i) (h0 : 0 ≤ c) (hv : v = byt a i) : PF f c a (i + 1) (upd g x.toNatClampNeg v) := by
  have e := pt_clamp (i := x) (by omega)
  refine ⟨fun j hj => ?_, fun q hq j hj => ?_⟩
  · unfold upd
    rw [if_neg (by omega)]
    exact h.1 j hj
  · unfold upd
    by_cases hh : j = x.toNatClampNeg
    · rw [if_pos hh, hv]
      have : q = i := by omega
      rw [this]
    · rw [if_neg hh]
      exact h.2 q (by omega) j hj
theorem PF_eq {f f2 g g2 : Nat → Int32} {c : Int} {a : Int32} (h : PF f c a 4 g) (h2 : PF f2 c a 4 g2) (e : ∀ j : Nat, (j : Int) < c → f j = f2 j) : ∀ j : Nat, (j : Int) < c + 4 → g j = g2 j := by
  intro j hj
  by_cases hc : (j : Int) < c
  · rw [h.1 j hc, h2.1 j hc]
    exact e j hc
  · have q : ∃ q : Nat, q < 4 ∧ (j : Int) = c + q := ⟨((j : Int) - c).toNat, by omega, by omega⟩
    obtain ⟨q, hq, hjq⟩ := q
    rw [h.2 q hq j hjq, h2.2 q hq j hjq]
def PF5 (f : Nat → Int32) (c : Int) (a1 a2 a3 a4 a5 : Int32) (g : Nat → Int32) : Prop := ∃ g1 g2 g3 g4 : Nat → Int32, PF f c a1 4 g1 ∧ PF g1 (c + 4) a2 4 g2 ∧ PF g2 (c + 8) a3 4 g3 ∧ PF g3 (c + 12) a4 4 g4 ∧ PF g4 (c + 16) a5 4 g
theorem PF5_eq {f f2 g g2 : Nat → Int32} {c : Int} {a1 a2 a3 a4 a5 : Int32} (h : PF5 f c a1 a2 a3 a4 a5 g) (h2 : PF5 f2 c a1 a2 a3 a4 a5 g2) (e : ∀ j : Nat, (j : Int) < c → f j = f2 j) : ∀ j : Nat, (j : Int) < c + 20 → g j = g2 j := by
  obtain ⟨_, _, _, _, p1, p2, p3, p4, p5⟩ := h
  obtain ⟨_, _, _, _, q1, q2, q3, q4, q5⟩ := h2
  have e1 := PF_eq p1 q1 e
  have e2 := PF_eq p2 q2 e1
  have e3 := PF_eq p3 q3 (fun j hj => e2 j (by omega))
  have e4 := PF_eq p4 q4 (fun j hj => e3 j (by omega))
  have e5 := PF_eq p5 q5 (fun j hj => e4 j (by omega))
  exact fun j hj => e5 j (by omega)
def TPE (t : bT4) (T : Nat → Int32) : Prop := ∀ j : Nat, (j : Int) < (b4g_count t).toInt → b4g_octets t j = T j
def posL (m : Nat) : Nat := [0, 5, 10, 15, 20, 27, 32, 37, 43, 49, 56].getD m 0
def sln (m : Nat) : Nat := bf_slen.getD m 0
def sbt (m j : Nat) : Int32 := (bf_sbyt.getD m []).getD j 0
def SPL (T : Nat → Int32) (n : Int32) (m : Nat) : Prop := n.toInt = (sln m : Int) ∧ ∀ j : Nat, j < sln m → T j = sbt m j
def NMD (T : Nat → Int32) (n r : Int32) : Prop := (∃ m : Nat, m < 10 ∧ r.toInt = (m : Int) ∧ SPL T n m) ∨ (r.toInt = -1 ∧ ∀ m : Nat, m < 10 → ¬ SPL T n m)
theorem nm_name : ∀ m : Nat, m < 10 → ∀ j : Nat, j < 7 → (j < sln m → nmF56 (posL m + 1 + j) = sbt m j ∧ ¬ sbt m j = 32) ∧ (j = sln m → nmF56 (posL m + 1 + j) = 32) := by decide +kernel
theorem nm_pos : ∀ m : Nat, m < 10 → posL (m + 1) = posL m + 1 + sln m ∧ posL (m + 1) ≤ 56 ∧ posL m < 56 ∧ 0 < sln m ∧ sln m < 7 := by decide +kernel
theorem nm_dist : ∀ m : Nat, m < 10 → ∀ k : Nat, k < 10 → m ≠ k → sln m ≠ sln k ∨ ∃ j : Nat, j < 7 ∧ j < sln m ∧ sbt m j ≠ sbt k j := by decide +kernel
theorem SPL_one {T : Nat → Int32} {n : Int32} {m k : Nat} (hm : m < 10) (hk : k < 10) (h : SPL T n m) (h2 : SPL T n k) : m = k := by
  apply Classical.byContradiction
  intro hne
  have e : sln m = sln k := by
    have a := h.1
    have b := h2.1
    omega
  rcases nm_dist m hm k hk hne with h3 | ⟨j, _, hj, h3⟩
  · exact h3 e
  · exact h3 ((h.2 j hj).symm.trans (h2.2 j (by omega)))
def MDE (T : Nat → Int32) (n r : Int32) : Prop := (∃ m : Nat, m < 4 ∧ r.toInt = (m : Int) ∧ SPL T n (0 + m)) ∨ (r.toInt = -1 ∧ ∀ m : Nat, m < 4 → ¬ SPL T n (0 + m))
def RWE (T : Nat → Int32) (n r : Int32) : Prop := (∃ m : Nat, m < 6 ∧ r.toInt = (m : Int) ∧ SPL T n (4 + m)) ∨ (r.toInt = -1 ∧ ∀ m : Nat, m < 6 → ¬ SPL T n (4 + m))
theorem SPL_eq {t : bT4} {T : Nat → Int32} {n : Int32} (h : TPE t T) (hc : (b4g_count t).toInt = n.toInt) (m : Nat) : SPL (b4g_octets t) (b4g_count t) m ↔ SPL T n m := by
  refine ⟨fun a => ⟨by rw [← hc]; exact a.1, fun j hj => ?_⟩, fun a => ⟨by rw [hc]; exact a.1, fun j hj => ?_⟩⟩
  · rw [← h j (by have := a.1; omega)]
    exact a.2 j hj
  · rw [h j (by have := a.1; omega)]
    exact a.2 j hj
theorem MDE_eq {t : bT4} {T : Nat → Int32} {n r r2 : Int32} (h : TPE t T) (hc : (b4g_count t).toInt = n.toInt) (h1 : MDE (b4g_octets t) (b4g_count t) r) (h2 : MDE T n r2) : r.toInt = r2.toInt := by
  rcases h1 with ⟨m, hm, e, a⟩ | ⟨e, a⟩
  · have a2 := (SPL_eq h hc _).mp a
    rcases h2 with ⟨k, hk, e2, b⟩ | ⟨e2, b⟩
    · have := SPL_one (by omega) (by omega) a2 b
      omega
    · exact absurd a2 (b m hm)
  · rcases h2 with ⟨k, hk, e2, b⟩ | ⟨e2, b⟩
    · exact absurd ((SPL_eq h hc _).mpr b) (a k hk)
    · omega
theorem RWE_eq {t : bT4} {T : Nat → Int32} {n r r2 : Int32} (h : TPE t T) (hc : (b4g_count t).toInt = n.toInt) (h1 : RWE (b4g_octets t) (b4g_count t) r) (h2 : RWE T n r2) : r.toInt = r2.toInt := by
  rcases h1 with ⟨m, hm, e, a⟩ | ⟨e, a⟩
  · have a2 := (SPL_eq h hc _).mp a
    rcases h2 with ⟨k, hk, e2, b⟩ | ⟨e2, b⟩
    · have := SPL_one (by omega) (by omega) a2 b
      omega
    · exact absurd a2 (b m hm)
  · rcases h2 with ⟨k, hk, e2, b⟩ | ⟨e2, b⟩
    · exact absurd ((SPL_eq h hc _).mpr b) (a k hk)
    · omega
theorem TPE_feed {t u : bT4} {T U : Nat → Int32} {n a1 a2 a3 a4 a5 : Int32} (h : TPE t T) (hc : (b4g_count t).toInt = n.toInt) (c2 : (b4g_count t).toInt ≤ 140 → (b4g_count u).toInt = (b4g_count t).toInt + 20) (c3 : (b4g_count t).toInt ≤ 140 → PF5 (b4g_octets t) (b4g_count t).toInt a1 a2 a3 a4 a5 (b4g_octets u)) (c4 : 140 < (b4g_count t).toInt → u = t) (m3 : n.toInt ≤ 140 → PF5 T n.toInt a1 a2 a3 a4 a5 U) (m4 : 140 < n.toInt → U = T) : TPE u U := by
  by_cases g : (b4g_count t).toInt ≤ 140
  · have p := c3 g
    have q := m3 (by omega)
    rw [← hc] at q
    have e := PF5_eq p q h
    intro j hj
    rw [c2 g] at hj
    exact e j hj
  · rw [c4 (by omega), m4 (by omega)]
    exact h
/-! the reference: keys of the filter -/
def M9 (S : bT9) : Prop := K9 S ∧ (b9g_upperNodes S).toInt ≤ (b9g_nodeMany S).toInt
theorem J9z_keys {S : bT9} {v : Nat → Int64} (h : J9 S) (z : (b9g_isLaid S).toInt = 0) : J9 (b9s_keys S v) := ⟨K9s_keys h.1, h.2.1, LD_0 z⟩
theorem J9z_lengths {S : bT9} {v : Nat → Int32} (h : J9 S) (hv : ∀ j : Nat, 0 ≤ (v j).toInt ∧ (v j).toInt ≤ 8) (z : (b9g_isLaid S).toInt = 0) : J9 (b9s_lengths S v) := ⟨K9s_lengths h.1 hv, h.2.1, LD_0 z⟩
theorem J9z_now {S : bT9} {v : Nat → Int32} (h : J9 S) (hv : NW v) (z : (b9g_isLaid S).toInt = 0) : J9 (b9s_now S v) := ⟨K9s_now h.1 hv, h.2.1, LD_0 z⟩
theorem in64 {a : Int32} (h0 : 0 ≤ a.toInt) (h1 : a.toInt ≤ 63) : vp_in ((64 : Int32) + a) 144 := by
  have e : ((64 : Int32) + a).toInt = 64 + a.toInt := by rw [pt_add (by rw [pl_64]; omega) (by rw [pl_64]; omega), pl_64]
  exact pt_in (by omega) (by omega)
theorem fx9_lengthOf {S : bT9} {a1 : Int32} {Q : Int32 → Prop} (h0 : 0 ≤ a1.toInt) (h1 : a1.toInt ≤ 63) (hq : Q (b9g_lengths S (64 + a1.toNatClampNeg))) : wp_X9_lengthOf S a1 Q := by
  unfold wp_X9_lengthOf
  rw [ix64 h0 h1]
  exact ⟨in64 h0 h1, hq⟩
theorem fx9_key {S : bT9} {a1 : Int32} {Q : Int64 → Prop} (h0 : 0 ≤ a1.toInt) (h1 : a1.toInt ≤ 63) (hq : Q (b9g_keys S (64 + a1.toNatClampNeg))) : wp_X9_key S a1 Q := by
  unfold wp_X9_key
  rw [ix64 h0 h1]
  exact ⟨in64 h0 h1, hq⟩
theorem fx9_byteOf {S : bT9} {k : Int64} {i : Int32} {Q : Int32 → Prop} (hq : Q (OCT k i)) : wp_X9_byteOf S k i Q := hq
theorem fx9_alike {S : bT9} (hK : K9 S) {a1 a2 : Int32} {Q : Int32 → Prop} (hp0 : -1 ≤ a1.toInt) (hp1 : a1.toInt ≤ 63) (hp2 : a2.toInt = a1.toInt + 1) (hq : ∀ r : Int32, (0 ≤ a1.toInt → a2.toInt < (b9g_now S 9).toInt → r.toInt = (ALR (fun j => b9g_keys S (64 + j)) (fun j => b9g_lengths S (64 + j)) a1.toNatClampNeg a2.toNatClampNeg : Nat)) → (¬ (0 ≤ a1.toInt ∧ a2.toInt < (b9g_now S 9).toInt) → r.toInt = 0) → 0 ≤ r.toInt → r.toInt ≤ 8 → Q r) : wp_X9_alike S a1 a2 Q := by
  have n9 := (K9g_now hK).2.2.2.1
  have gl := K9g_lengths hK
  unfold wp_X9_alike
  refine ⟨fun c => ?_, fun c => ⟨pt_in (by decide) (by decide), fun d => ?_, fun d => ?_⟩⟩
  · simp only [pn] at c
    exact hq _ (fun h => by omega) (fun _ => rfl) (by decide) (by decide)
  rotate_left
  · simp only [pn] at d
    exact hq _ (fun _ h => by omega) (fun _ => rfl) (by decide) (by decide)
  simp only [pn] at c d
  obtain ⟨F, hF⟩ : ∃ F : Nat → Int64, (fun j => b9g_keys S (64 + j)) = F := ⟨_, rfl⟩
  obtain ⟨G, hG⟩ : ∃ G : Nat → Int32, (fun j => b9g_lengths S (64 + j)) = G := ⟨_, rfl⟩
  have fk : ∀ j : Nat, b9g_keys S (64 + j) = F j := fun j => by rw [← hF]
  have fl : ∀ j : Nat, b9g_lengths S (64 + j) = G j := fun j => by rw [← hG]
  rw [hF, hG] at hq
  have gi := gl (64 + a1.toNatClampNeg)
  have gj := gl (64 + a2.toNatClampNeg)
  rw [fl] at gi gj
  unfold wp_X9_alike_19
  refine ⟨fun n x1 x2 x3 => x1 = a1 ∧ x2 = a2 ∧ 0 ≤ x3.toInt ∧ x3.toInt ≤ (G a1.toNatClampNeg).toInt ∧ x3.toInt ≤ (G a2.toNatClampNeg).toInt ∧ PX (ub (F a1.toNatClampNeg)) x3.toInt.toNat = PX (ub (F a2.toNatClampNeg)) x3.toInt.toNat ∧ n = (8 - x3.toInt).toNat, ⟨_, rfl, rfl, by decide, gi.1, gj.1, by rw [z0, PX_0 (ub_lt _), PX_0 (ub_lt _)], rfl⟩, ?_⟩
  rintro n x1 x2 x3 ⟨e1, e2, h0, hl1, hl2, hp, hn⟩
  have done : (x3.toInt < (G a1.toNatClampNeg).toInt → x3.toInt < (G a2.toNatClampNeg).toInt → PX (ub (F a1.toNatClampNeg)) (x3.toInt.toNat + 1) ≠ PX (ub (F a2.toNatClampNeg)) (x3.toInt.toNat + 1)) → Q x3 := by
    intro ne
    refine hq _ (fun _ _ => ?_) (fun h => by omega) h0 (by omega)
    unfold ALR
    rw [ALK_eq (ub_lt _) (ub_lt _) (r := x3.toInt.toNat) (by omega) (by omega) hp (fun h => ne (by omega) (by omega))]
    omega
  unfold wp_X9_alike_19b
  rw [e1, e2]
  refine fx9_lengthOf (by omega) (by omega) ?_
  rw [fl]
  refine ⟨fun g => done (fun h _ => ?_), fun g => fx9_lengthOf (by omega) (by omega) ?_⟩
  · simp only [pn] at g
    omega
  rw [fl]
  refine ⟨fun k => done (fun _ h => ?_), fun k => fx9_key (by omega) (by omega) (fx9_byteOf (fx9_key (by omega) (by omega) (fx9_byteOf ?_)))⟩
  · simp only [pn] at k
    omega
  rw [fk, fk]
  simp only [pn] at g k
  have x3' : (x3 + 1).toInt = x3.toInt + 1 := by rw [pt_add (by rw [pl_1]; omega) (by rw [pl_1]; omega), pl_1]
  refine ⟨fun o => done (fun _ _ h => o ((OCT_eq h0 (by omega) hp).mpr h)), fun o => ⟨_, ?_, rfl, rfl, by omega, by omega, by omega, ?_, rfl⟩⟩
  · omega
  · rw [x3', show (x3.toInt + 1).toNat = x3.toInt.toNat + 1 by omega]
    exact (OCT_eq h0 (by omega) hp).mp o
def BDS (S : bT9) (rb : Int32) (i : Nat) (u : bT9) : Prop := ub (b9g_lowKey u) = LOV (fun j => b9g_keys S (64 + j)) (fun j => b9g_lengths S (64 + j)) (b9g_now S 9).toInt rb i ∧ (b9g_lowLength u).toInt = (LOL (fun j => b9g_keys S (64 + j)) (fun j => b9g_lengths S (64 + j)) (b9g_now S 9).toInt rb i : Nat) ∧ ub (b9g_highKey u) = HIV (fun j => b9g_keys S (64 + j)) (fun j => b9g_lengths S (64 + j)) (b9g_now S 9).toInt rb i ∧ (b9g_highLength u).toInt = (HIL (fun j => b9g_keys S (64 + j)) (fun j => b9g_lengths S (64 + j)) (b9g_now S 9).toInt i : Nat)
def SR9 (S : bT9) : Prop := SRT (fun j => b9g_keys S (64 + j)) (fun j => b9g_lengths S (64 + j)) (b9g_now S 9).toInt
theorem fx9_cut {S : bT9} {a1 : Int64} {a3 : Int32} {Q : Int64 → Prop} (hq : Q (cutf a1 a3)) : wp_X9_cut S a1 a3 Q := by
  unfold wp_X9_cut
  unfold cutf at hq
  refine ⟨fun c => ?_, fun c => ?_⟩
  · rw [if_neg c] at hq
    exact hq
  · rw [if_pos c] at hq
    exact hq
def NBT (n : Nat → Int32) : Int32 := if n 15 ≤ (1 : Int32) then 0 else n 12
def HBT (n : Nat → Int32) : Int32 := if n 15 - n 15 / (2 : Int32) * (2 : Int32) = (1 : Int32) then n 11 else 0
/-! the leaf at which a key is possible -/
theorem KLT_nlt {a b : Int64} {n m : Int32} {x y p q : Nat} (ha : ub a = x) (hb : ub b = y) (hn : n.toInt = (p : Nat)) (hm : m.toInt = (q : Nat)) : KLT a n b m ↔ NLT x p y q := by
  unfold KLT NLT
  constructor
  · rintro (h | ⟨h, h2⟩)
    · exact Or.inl (by omega)
    · have e := congrArg ub h
      exact Or.inr ⟨by omega, by omega⟩
  · rintro (h | ⟨h, h2⟩)
    · exact Or.inl (by omega)
    · exact Or.inr ⟨ub_inj (by omega), by omega⟩
def LFA (f : Nat → Int64) (g : Nat → Int32) (c : Int) (rb : Int32) (k : Int64) (n : Int32) (r : Int) : Prop := (0 ≤ r ∧ r < c ∧ ∀ i : Nat, (i : Int) = r → ¬ NLT (ub k) n.toInt.toNat (LOV f g c rb i) (LOL f g c rb i) ∧ ¬ NLT (HIV f g c rb i) (HIL f g c i) (ub k) n.toInt.toNat) ∨ (r = -1 ∧ ∀ i : Nat, (i : Int) < c → NLT (ub k) n.toInt.toNat (LOV f g c rb i) (LOL f g c rb i) ∨ NLT (HIV f g c rb i) (HIL f g c i) (ub k) n.toInt.toNat)
theorem LFA_one {f : Nat → Int64} {g : Nat → Int32} {c : Int} (h : SRT f g c) (hc : CLN f g c) {rb : Int32} (h0 : 0 ≤ rb.toInt) (h8 : rb.toInt ≤ 8) {k : Int64} {n : Int32} {r q : Int} (hr : LFA f g c rb k n r) (hq : LFA f g c rb k n q) : r = q := by
  have two : ∀ i j : Nat, i < j → (j : Int) < c → ¬ NLT (HIV f g c rb i) (HIL f g c i) (ub k) n.toInt.toNat → ¬ NLT (ub k) n.toInt.toNat (LOV f g c rb j) (LOL f g c rb j) → False := by
    intro i j hij hj a b
    have d := BND_all h hc h0 h8 (rb := rb) (i := i) j hij hj
    unfold NLT at a b d
    omega
  rcases hr with ⟨a0, a1, a2⟩ | ⟨a0, a1⟩
  · have ai := a2 r.toNat (by omega)
    rcases hq with ⟨b0, b1, b2⟩ | ⟨b0, b1⟩
    · have bi := b2 q.toNat (by omega)
      rcases Int.lt_trichotomy r q with l | l | l
      · exact (two r.toNat q.toNat (by omega) (by omega) ai.2 bi.1).elim
      · exact l
      · exact (two q.toNat r.toNat (by omega) (by omega) bi.2 ai.1).elim
    · rcases b1 r.toNat (by omega) with e | e
      · exact absurd e ai.1
      · exact absurd e ai.2
  · rcases hq with ⟨b0, b1, b2⟩ | ⟨b0, b1⟩
    · have bi := b2 q.toNat (by omega)
      rcases a1 q.toNat (by omega) with e | e
      · exact absurd e bi.1
      · exact absurd e bi.2
    · omega
theorem LFA_own {f : Nat → Int64} {g : Nat → Int32} {c : Int} (h : SRT f g c) (hc : CLN f g c) {rb : Int32} (h0 : 0 ≤ rb.toInt) (h8 : rb.toInt ≤ 8) {i : Nat} (hi : (i : Int) < c) : LFA f g c rb (f i) (g i) (i : Int) := by
  refine Or.inl ⟨by omega, hi, fun j hj => ?_⟩
  have e : j = i := by omega
  rw [e]
  exact OWN_in h hc h0 h8 hi
theorem fx_order2 {a0 a3 : Int64} {a2 a5 : Int32} {Q : Int32 → Prop} (hq : ∀ r : Int32, (0 ≤ a2.toInt → a2.toInt ≤ 8 → 0 ≤ a5.toInt → a5.toInt ≤ 8 → (r.toInt < 1 ↔ ¬ KLT a3 a5 a0 a2)) → Q r) : wp_X8_order a0 a2 a3 a5 Q := by
  by_cases h : 0 ≤ a2.toInt ∧ a2.toInt ≤ 8 ∧ 0 ≤ a5.toInt ∧ a5.toInt ≤ 8
  · exact fx_order ⟨h.1, h.2.1⟩ ⟨h.2.2.1, h.2.2.2⟩ (fun r _ g => hq r (fun _ _ _ _ => g))
  · unfold wp_X8_order
    have no : ∀ r : Int32, Q r := fun r => hq r (fun p q s t => absurd ⟨p, q, s, t⟩ h)
    exact ⟨fun _ => ⟨fun _ => no _, fun _ => no _⟩, fun _ => no _⟩
theorem fx_possibleAt {S : bT1} (hJ : J1 S) {a1 : Int64} {a3 : Int32} {Q : Int32 → Prop} (hq : ∀ r : Int32, (LVS S → SRT (b0g_bytes (b1g_owners S)) (b0g_lengths (b1g_owners S)) (b0g_count (b1g_owners S)).toInt → CLN (b0g_bytes (b1g_owners S)) (b0g_lengths (b1g_owners S)) (b0g_count (b1g_owners S)).toInt → 0 ≤ (b1g_realBits S).toInt → (b1g_realBits S).toInt ≤ 8 → 1 ≤ a3.toInt → a3.toInt ≤ 8 → LFA (b0g_bytes (b1g_owners S)) (b0g_lengths (b1g_owners S)) (b0g_count (b1g_owners S)).toInt (b1g_realBits S) a1 a3 r.toInt) → Q r) : wp_X1_possibleAt S a1 a3 Q := by
  have jl := J0g_count (J1g_lows hJ)
  have jo := J0g_count (J1g_owners hJ)
  unfold wp_X1_possibleAt wp_X0_upTo
  refine fx_counted (J1g_lows hJ) (Or.inr rfl) (fun r1 h0 h1 hC => ?_)
  have em : (r1 - 1).toInt = r1.toInt - 1 := by rw [pt_sub (by rw [pl_1]; omega) (by rw [pl_1]; omega), pl_1]
  obtain ⟨i, hi⟩ : ∃ i : Int32, r1 - 1 = i := ⟨_, rfl⟩
  show ((r1 - 1) < (0 : Int32) → wp_X1_possibleAt_48 S (r1 - 1) Q) ∧ _
  rw [hi] at em ⊢
  have cnt : LVS S → SRT (b0g_bytes (b1g_owners S)) (b0g_lengths (b1g_owners S)) (b0g_count (b1g_owners S)).toInt → CLN (b0g_bytes (b1g_owners S)) (b0g_lengths (b1g_owners S)) (b0g_count (b1g_owners S)).toInt → 0 ≤ (b1g_realBits S).toInt → (b1g_realBits S).toInt ≤ 8 → 1 ≤ a3.toInt → a3.toInt ≤ 8 → (∀ j : Nat, (j : Int) ≤ i.toInt → ¬ NLT (ub a1) a3.toInt.toNat (LOV (b0g_bytes (b1g_owners S)) (b0g_lengths (b1g_owners S)) (b0g_count (b1g_owners S)).toInt (b1g_realBits S) j) (LOL (b0g_bytes (b1g_owners S)) (b0g_lengths (b1g_owners S)) (b0g_count (b1g_owners S)).toInt (b1g_realBits S) j)) ∧ ∀ j : Nat, i.toInt < (j : Int) → (j : Int) < (b0g_count (b1g_owners S)).toInt → NLT (ub a1) a3.toInt.toNat (LOV (b0g_bytes (b1g_owners S)) (b0g_lengths (b1g_owners S)) (b0g_count (b1g_owners S)).toInt (b1g_realBits S) j) (LOL (b0g_bytes (b1g_owners S)) (b0g_lengths (b1g_owners S)) (b0g_count (b1g_owners S)).toInt (b1g_realBits S) j) := by
    intro hv hs hc r0 r8 p1 p8
    obtain ⟨c1, c2⟩ := hC (lows_srt hv hs hc r0 r8).1 ⟨p1, p8⟩
    refine ⟨fun j hj => ?_, fun j hj hlt => ?_⟩
    · have b := (hv.2.2 j (by have := hv.1; omega)).2
      have p := (c1 j (by omega)).2 rfl
      rw [KLT_nlt rfl b.1 (show a3.toInt = (a3.toInt.toNat : Nat) by omega) b.2.1] at p
      exact p
    · have b := (hv.2.2 j hlt).2
      have p := c2 j (by omega) (by have := hv.1; omega)
      apply Classical.byContradiction
      intro hn
      refine p ⟨fun h => absurd h (by decide), fun _ => ?_⟩
      rw [KLT_nlt rfl b.1 (show a3.toInt = (a3.toInt.toNat : Nat) by omega) b.2.1]
      exact hn
  have none : (LVS S → SRT (b0g_bytes (b1g_owners S)) (b0g_lengths (b1g_owners S)) (b0g_count (b1g_owners S)).toInt → CLN (b0g_bytes (b1g_owners S)) (b0g_lengths (b1g_owners S)) (b0g_count (b1g_owners S)).toInt → 0 ≤ (b1g_realBits S).toInt → (b1g_realBits S).toInt ≤ 8 → 1 ≤ a3.toInt → a3.toInt ≤ 8 → ∀ j : Nat, (j : Int) ≤ i.toInt → (j : Int) < (b0g_count (b1g_owners S)).toInt → NLT (HIV (b0g_bytes (b1g_owners S)) (b0g_lengths (b1g_owners S)) (b0g_count (b1g_owners S)).toInt (b1g_realBits S) j) (HIL (b0g_bytes (b1g_owners S)) (b0g_lengths (b1g_owners S)) (b0g_count (b1g_owners S)).toInt j) (ub a1) a3.toInt.toNat) → wp_X1_possibleAt_48 S i Q := by
    intro hh
    unfold wp_X1_possibleAt_48 wp_X1_possibleAt_49
    refine ⟨fun _ => hq _ (fun hv hs hc r0 r8 p1 p8 => Or.inr ⟨rfl, fun j hj => ?_⟩), fun h => absurd rfl h⟩
    by_cases g : (j : Int) ≤ i.toInt
    · exact Or.inr (hh hv hs hc r0 r8 p1 p8 j g hj)
    · exact Or.inl ((cnt hv hs hc r0 r8 p1 p8).2 j (by omega) hj)
  refine ⟨fun c => none (fun hv hs hc r0 r8 p1 p8 j h1 h2 => ?_), fun c => ?_⟩
  · simp only [pn] at c
    omega
  simp only [pn] at c
  have ci := pt_clamp (i := i) (by omega)
  refine fx_bytesAt (J1g_highs hJ) (fun r3 b3 _ => fx_lengthAt (J1g_highs hJ) (fun r5 b5 _ => fx_order2 (fun r7 g7 => ⟨fun d => none (fun hv hs hc r0 r8 p1 p8 j h1 h2 => ?_), fun d => ?_⟩)))
  · obtain ⟨v1, v2, v3⟩ := hv
    have hb := (v3 i.toNatClampNeg (by omega)).2
    have hb4 := hb.2.2.2
    have e3 := b3 i.toNatClampNeg (by omega) (by omega)
    have e5 := b5 i.toNatClampNeg (by omega) (by omega)
    have hl := LOL_f hs (rb := b1g_realBits S) (i := i.toNatClampNeg) (by omega)
    have g := g7 (by omega) p8 (by rw [e5]; omega) (by rw [e5]; omega)
    simp only [pn] at d
    have k : KLT r3 r5 a1 a3 := Classical.byContradiction (fun hn => by have := g.mpr hn; omega)
    rw [e3, e5, KLT_nlt hb.2.2.1 rfl hb.2.2.2 (show a3.toInt = (a3.toInt.toNat : Nat) by omega)] at k
    by_cases e : j = i.toNatClampNeg
    · rw [e]
      exact k
    · have a := BND_all hs hc r0 r8 (i := j) i.toNatClampNeg (by omega) (by omega)
      have b := BND_self hs hc r0 r8 (i := i.toNatClampNeg) (by omega)
      unfold NLT at a b k ⊢
      omega
  · unfold wp_X1_possibleAt_49
    refine ⟨fun h => absurd h (by decide), fun _ => hq _ (fun hv hs hc r0 r8 p1 p8 => ?_)⟩
    have cc := cnt hv hs hc r0 r8 p1 p8
    obtain ⟨v1, v2, v3⟩ := hv
    have hb := (v3 i.toNatClampNeg (by omega)).2
    have hb4 := hb.2.2.2
    have e3 := b3 i.toNatClampNeg (by omega) (by omega)
    have e5 := b5 i.toNatClampNeg (by omega) (by omega)
    have hl := LOL_f hs (rb := b1g_realBits S) (i := i.toNatClampNeg) (by omega)
    have g := g7 (by omega) p8 (by rw [e5]; omega) (by rw [e5]; omega)
    simp only [pn] at d
    have k := g.mp (by omega)
    rw [e3, e5, KLT_nlt hb.2.2.1 rfl hb.2.2.2 (show a3.toInt = (a3.toInt.toNat : Nat) by omega)] at k
    refine Or.inl ⟨by omega, by omega, fun j hj => ?_⟩
    have e : j = i.toNatClampNeg := by omega
    rw [e]
    exact ⟨cc.1 _ (by omega), k⟩
def LWS (x h : Int32) : Int32 := x &&& (((1 : Int32) <<< (h &&& 31)) - (1 : Int32))
def MAY (f : Nat → Int64) (g : Nat → Int32) (c : Int) (rb s h : Int32) (k : Int64) (n : Int32) (r : Int) : Prop := ∃ l : Int, LFA f g c rb k n l ∧ ((r = 1 ∧ 0 ≤ l ∧ ∀ i : Nat, (i : Int) = l → LWS (MIX s k n) h = LWS (MIX s (f i) (g i)) h) ∨ (r = 0 ∧ ∀ i : Nat, (i : Int) = l → LWS (MIX s k n) h ≠ LWS (MIX s (f i) (g i)) h))
theorem MAY_one {f : Nat → Int64} {g : Nat → Int32} {c : Int} (hs : SRT f g c) (hc : CLN f g c) {rb : Int32} (h0 : 0 ≤ rb.toInt) (h8 : rb.toInt ≤ 8) {s h : Int32} {k : Int64} {n : Int32} {r q : Int} (hr : MAY f g c rb s h k n r) (hq : MAY f g c rb s h k n q) : r = q := by
  obtain ⟨l, a, b⟩ := hr
  obtain ⟨m, d, e⟩ := hq
  have lm := LFA_one hs hc h0 h8 a d
  rcases b with ⟨b0, b1, b2⟩ | ⟨b0, b2⟩
  · rcases e with ⟨e0, e1, e2⟩ | ⟨e0, e2⟩
    · omega
    · exact absurd (b2 l.toNat (by omega)) (e2 l.toNat (by omega))
  · rcases e with ⟨e0, e1, e2⟩ | ⟨e0, e2⟩
    · exact absurd (e2 m.toNat (by omega)) (b2 m.toNat (by omega))
    · omega
/-! verdicts -/
def VRD (f : Nat → Int64) (g : Nat → Int32) (c : Int) (rb s h : Int32) (k : Int64) (n : Int32) (v : Int) : Prop := (v = 0 ∧ MAY f g c rb s h k n 0) ∨ (v = 1 ∧ MAY f g c rb s h k n 1 ∧ ∃ j : Nat, (j : Int) < c ∧ f j = k ∧ g j = n) ∨ (v = 2 ∧ MAY f g c rb s h k n 1 ∧ ∀ j : Nat, (j : Int) < c → ¬ (f j = k ∧ g j = n))
theorem VRD_one {f : Nat → Int64} {g : Nat → Int32} {c : Int} (hs : SRT f g c) (hc : CLN f g c) {rb : Int32} (h0 : 0 ≤ rb.toInt) (h8 : rb.toInt ≤ 8) {s h : Int32} {k : Int64} {n : Int32} {r q : Int} (hr : VRD f g c rb s h k n r) (hq : VRD f g c rb s h k n q) : r = q := by
  rcases hr with ⟨a0, a1⟩ | ⟨a0, a1, j, a2, a3⟩ | ⟨a0, a1, a2⟩
  · rcases hq with ⟨b0, b1⟩ | ⟨b0, b1, _⟩ | ⟨b0, b1, _⟩
    · omega
    · have := MAY_one hs hc h0 h8 a1 b1
      omega
    · have := MAY_one hs hc h0 h8 a1 b1
      omega
  · rcases hq with ⟨b0, b1⟩ | ⟨b0, b1, _⟩ | ⟨b0, b1, b2⟩
    · have := MAY_one hs hc h0 h8 a1 b1
      omega
    · omega
    · exact absurd a3 (b2 j a2)
  · rcases hq with ⟨b0, b1⟩ | ⟨b0, b1, j, b2, b3⟩ | ⟨b0, b1, b2⟩
    · have := MAY_one hs hc h0 h8 a1 b1
      omega
    · exact absurd b3 (a2 j b2)
    · omega
theorem fx_verdictOf {S : bT1} (hJ : J1 S) {a1 : Int64} {a3 : Int32} {Q : Int32 → Prop} (hq : ∀ r : Int32, 0 ≤ r.toInt → r.toInt ≤ 2 → (LVS S → SRT (b0g_bytes (b1g_owners S)) (b0g_lengths (b1g_owners S)) (b0g_count (b1g_owners S)).toInt → CLN (b0g_bytes (b1g_owners S)) (b0g_lengths (b1g_owners S)) (b0g_count (b1g_owners S)).toInt → 0 ≤ (b1g_realBits S).toInt → (b1g_realBits S).toInt ≤ 8 → 1 ≤ a3.toInt → a3.toInt ≤ 8 → VRD (b0g_bytes (b1g_owners S)) (b0g_lengths (b1g_owners S)) (b0g_count (b1g_owners S)).toInt (b1g_realBits S) (b1g_salt S) (b1g_hashBits S) a1 a3 r.toInt) → Q r) : wp_X1_verdictOf S a1 a3 Q := by
  have jo := J0g_count (J1g_owners hJ)
  unfold wp_X1_verdictOf
  refine fx_possibleAt hJ (fun r1 hL => ⟨fun c => hq _ (by decide) (by decide) (fun hv hs hc r0 r8 p1 p8 => Or.inl ⟨rfl, -1, ?_, Or.inr ⟨rfl, fun i hi => by omega⟩⟩), fun c => ?_⟩)
  · have := hL hv hs hc r0 r8 p1 p8
    rw [c] at this
    exact this
  refine fx_mixed (fun r3 m3 => ?_)
  unfold wp_X8_lowest wp_X1_hashAt wp_X8_lowest
  refine fx_at64 (fun r7 g7 => ?_)
  have pos : LVS S → SRT (b0g_bytes (b1g_owners S)) (b0g_lengths (b1g_owners S)) (b0g_count (b1g_owners S)).toInt → CLN (b0g_bytes (b1g_owners S)) (b0g_lengths (b1g_owners S)) (b0g_count (b1g_owners S)).toInt → 0 ≤ (b1g_realBits S).toInt → (b1g_realBits S).toInt ≤ 8 → 1 ≤ a3.toInt → a3.toInt ≤ 8 → 0 ≤ r1.toInt ∧ r1.toInt < (b0g_count (b1g_owners S)).toInt ∧ r7 = MIX (b1g_salt S) (b0g_bytes (b1g_owners S) r1.toNatClampNeg) (b0g_lengths (b1g_owners S) r1.toNatClampNeg) := by
    intro hv hs hc r0 r8 p1 p8
    rcases hL hv hs hc r0 r8 p1 p8 with ⟨a0, a1, _⟩ | ⟨a0, _⟩
    · have cx := pt_clamp a0
      refine ⟨a0, a1, ?_⟩
      rw [g7 a0 (by omega)]
      exact (hv.2.2 r1.toNatClampNeg (by omega)).1.2.2.1
    · exact absurd (Int32.toInt_inj.mp (by rw [pl_m1]; exact a0)) c
  refine ⟨fun d => ?_, fun d => hq _ (by decide) (by decide) (fun hv hs hc r0 r8 p1 p8 => Or.inl ⟨rfl, r1.toInt, hL hv hs hc r0 r8 p1 p8, Or.inr ⟨rfl, fun i hi => ?_⟩⟩)⟩
  rotate_left
  · obtain ⟨a0, a1, a2⟩ := pos hv hs hc r0 r8 p1 p8
    have cx := pt_clamp a0
    have e : i = r1.toNatClampNeg := by omega
    rw [e, ← a2, ← m3 p8]
    exact d
  have may : LVS S → SRT (b0g_bytes (b1g_owners S)) (b0g_lengths (b1g_owners S)) (b0g_count (b1g_owners S)).toInt → CLN (b0g_bytes (b1g_owners S)) (b0g_lengths (b1g_owners S)) (b0g_count (b1g_owners S)).toInt → 0 ≤ (b1g_realBits S).toInt → (b1g_realBits S).toInt ≤ 8 → 1 ≤ a3.toInt → a3.toInt ≤ 8 → MAY (b0g_bytes (b1g_owners S)) (b0g_lengths (b1g_owners S)) (b0g_count (b1g_owners S)).toInt (b1g_realBits S) (b1g_salt S) (b1g_hashBits S) a1 a3 1 := by
    intro hv hs hc r0 r8 p1 p8
    obtain ⟨a0, a1, a2⟩ := pos hv hs hc r0 r8 p1 p8
    have cx := pt_clamp a0
    refine ⟨r1.toInt, hL hv hs hc r0 r8 p1 p8, Or.inl ⟨rfl, a0, fun i hi => ?_⟩⟩
    have e : i = r1.toNatClampNeg := by omega
    rw [e, ← a2, ← m3 p8]
    exact d
  have none : (LVS S → SRT (b0g_bytes (b1g_owners S)) (b0g_lengths (b1g_owners S)) (b0g_count (b1g_owners S)).toInt → CLN (b0g_bytes (b1g_owners S)) (b0g_lengths (b1g_owners S)) (b0g_count (b1g_owners S)).toInt → 0 ≤ (b1g_realBits S).toInt → (b1g_realBits S).toInt ≤ 8 → 1 ≤ a3.toInt → a3.toInt ≤ 8 → ¬ (b0g_bytes (b1g_owners S) r1.toNatClampNeg = a1 ∧ b0g_lengths (b1g_owners S) r1.toNatClampNeg = a3)) → Q 2 := by
    intro hno
    refine hq _ (by decide) (by decide) (fun hv hs hc r0 r8 p1 p8 => Or.inr (Or.inr ⟨rfl, may hv hs hc r0 r8 p1 p8, fun j hj he => ?_⟩))
    obtain ⟨a0, _, _⟩ := pos hv hs hc r0 r8 p1 p8
    have cx := pt_clamp a0
    have own := LFA_own hs hc r0 r8 (i := j) hj
    rw [he.1, he.2] at own
    have l := LFA_one hs hc r0 r8 own (hL hv hs hc r0 r8 p1 p8)
    have e : j = r1.toNatClampNeg := by omega
    rw [e] at he
    exact hno hv hs hc r0 r8 p1 p8 he
  refine fx_bytesAt (J1g_owners hJ) (fun r9 b9 _ => ⟨fun ne => none (fun hv hs hc r0 r8 p1 p8 he => ?_), fun eq => fx_lengthAt (J1g_owners hJ) (fun r11 b11 _ => ⟨fun ne => none (fun hv hs hc r0 r8 p1 p8 he => ?_), fun eq2 => ?_⟩)⟩)
  · obtain ⟨a0, a2, _⟩ := pos hv hs hc r0 r8 p1 p8
    have cx := pt_clamp a0
    apply ne
    rw [b9 r1.toNatClampNeg (by omega) (by omega), he.1]
    exact (lg_cmp_eq _ _).mpr rfl
  · obtain ⟨a0, a2, _⟩ := pos hv hs hc r0 r8 p1 p8
    have cx := pt_clamp a0
    exact ne (by rw [b11 r1.toNatClampNeg (by omega) (by omega), he.2])
  · refine hq _ (by decide) (by decide) (fun hv hs hc r0 r8 p1 p8 => Or.inr (Or.inl ⟨rfl, may hv hs hc r0 r8 p1 p8, r1.toNatClampNeg, ?_⟩))
    obtain ⟨a0, a2, _⟩ := pos hv hs hc r0 r8 p1 p8
    have cx := pt_clamp a0
    exact ⟨by omega, by rw [← b9 r1.toNatClampNeg (by omega) (by omega)]; exact (lg_cmp_eq _ _).mp eq, by rw [← b11 r1.toNatClampNeg (by omega) (by omega)]; exact eq2⟩
def LVO (L : bT1) : Prop := LVS L ∧ SRT (b0g_bytes (b1g_owners L)) (b0g_lengths (b1g_owners L)) (b0g_count (b1g_owners L)).toInt ∧ CLN (b0g_bytes (b1g_owners L)) (b0g_lengths (b1g_owners L)) (b0g_count (b1g_owners L)).toInt ∧ 0 ≤ (b1g_realBits L).toInt ∧ (b1g_realBits L).toInt ≤ 8
/-! ranges -/
noncomputable def CTP (P : Nat → Prop) : Nat → Int
  | 0 => 0
  | i + 1 => CTP P i + @ite Int (P i) (Classical.propDecidable _) 1 0
theorem CTP_y {P : Nat → Prop} {i : Nat} (h : P i) : CTP P (i + 1) = CTP P i + 1 := by
  show CTP P i + @ite Int (P i) (Classical.propDecidable _) 1 0 = _
  rw [if_pos h]
theorem CTP_n {P : Nat → Prop} {i : Nat} (h : ¬ P i) : CTP P (i + 1) = CTP P i := by
  show CTP P i + @ite Int (P i) (Classical.propDecidable _) 1 0 = _
  rw [if_neg h]
  omega
theorem CTP_rng (P : Nat → Prop) : ∀ i : Nat, 0 ≤ CTP P i ∧ CTP P i ≤ (i : Int) := by
  intro i
  induction i with
  | zero => exact ⟨Int.le_refl _, Int.le_refl _⟩
  | succ i ih =>
    by_cases h : P i
    · rw [CTP_y h]
      omega
    · rw [CTP_n h]
      omega
theorem CTP_iv {P : Nat → Prop} {a b : Int} (hb : 0 ≤ b) : ∀ c : Nat, (∀ i : Nat, i < c → (P i ↔ b ≤ (i : Int) ∧ (i : Int) < a)) → CTP P c = max (min a (c : Int) - b) 0 := by
  intro c
  induction c with
  | zero =>
    intro _
    show (0 : Int) = _
    omega
  | succ c ih =>
    intro h
    have e := ih (fun i hi => h i (by omega))
    by_cases q : P c
    · have := (h c (by omega)).mp q
      rw [CTP_y q, e]
      omega
    · rw [CTP_n q, e]
      by_cases q1 : b ≤ (c : Int) ∧ (c : Int) < a
      · exact absurd ((h c (by omega)).mpr q1) q
      · omega
theorem CTP_congr {P P2 : Nat → Prop} : ∀ c : Nat, (∀ i : Nat, i < c → (P i ↔ P2 i)) → CTP P c = CTP P2 c := by
  intro c
  induction c with
  | zero => exact fun _ => rfl
  | succ c ih =>
    intro h
    have e := ih (fun i hi => h i (by omega))
    by_cases q : P c
    · rw [CTP_y q, CTP_y ((h c (by omega)).mp q), e]
    · rw [CTP_n q, CTP_n (fun x => q ((h c (by omega)).mpr x)), e]
def MET (f : Nat → Int64) (g : Nat → Int32) (c : Int) (rb : Int32) (k : Int64) (n : Int32) (k2 : Int64) (m : Int32) (i : Nat) : Prop := ¬ NLT (ub k2) m.toInt.toNat (LOV f g c rb i) (LOL f g c rb i) ∧ ¬ NLT (HIV f g c rb i) (HIL f g c i) (ub k) n.toInt.toNat
def SUR (f : Nat → Int64) (g : Nat → Int32) (c : Int) (rb : Int32) (k : Int64) (n : Int32) (k2 : Int64) (m : Int32) (i : Nat) : Prop := ¬ NLT (LOV f g c rb i) (LOL f g c rb i) (ub k) n.toInt.toNat ∧ ¬ NLT (ub k2) m.toInt.toNat (HIV f g c rb i) (HIL f g c i)
def SKF (f : Nat → Int64) (g : Nat → Int32) (c : Int) (rb : Int32) (k : Int64) (n : Int32) (r : Int) : Prop := (0 ≤ r ∧ r < c ∧ (∀ i : Nat, (i : Int) = r → ¬ NLT (HIV f g c rb i) (HIL f g c i) (ub k) n.toInt.toNat) ∧ ∀ i : Nat, (i : Int) < r → NLT (HIV f g c rb i) (HIL f g c i) (ub k) n.toInt.toNat) ∨ (r = -1 ∧ ∀ i : Nat, (i : Int) < c → NLT (HIV f g c rb i) (HIL f g c i) (ub k) n.toInt.toNat)
def SKB (f : Nat → Int64) (g : Nat → Int32) (c : Int) (rb : Int32) (k : Int64) (n : Int32) (r : Int) : Prop := (0 ≤ r ∧ r < c ∧ (∀ i : Nat, (i : Int) = r → ¬ NLT (ub k) n.toInt.toNat (LOV f g c rb i) (LOL f g c rb i)) ∧ ∀ i : Nat, r < (i : Int) → (i : Int) < c → NLT (ub k) n.toInt.toNat (LOV f g c rb i) (LOL f g c rb i)) ∨ (r = -1 ∧ ∀ i : Nat, (i : Int) < c → NLT (ub k) n.toInt.toNat (LOV f g c rb i) (LOL f g c rb i))
theorem SKF_one {f : Nat → Int64} {g : Nat → Int32} {c : Int} {rb : Int32} {k : Int64} {n : Int32} {r q : Int} (hr : SKF f g c rb k n r) (hq : SKF f g c rb k n q) : r = q := by
  rcases hr with ⟨a0, a1, a2, a3⟩ | ⟨a0, a1⟩
  · rcases hq with ⟨b0, b1, b2, b3⟩ | ⟨b0, b1⟩
    · rcases Int.lt_trichotomy r q with l | l | l
      · exact absurd (b3 r.toNat (by omega)) (a2 r.toNat (by omega))
      · exact l
      · exact absurd (a3 q.toNat (by omega)) (b2 q.toNat (by omega))
    · exact absurd (b1 r.toNat (by omega)) (a2 r.toNat (by omega))
  · rcases hq with ⟨b0, b1, b2, b3⟩ | ⟨b0, b1⟩
    · exact absurd (a1 q.toNat (by omega)) (b2 q.toNat (by omega))
    · omega
theorem SKB_one {f : Nat → Int64} {g : Nat → Int32} {c : Int} {rb : Int32} {k : Int64} {n : Int32} {r q : Int} (hr : SKB f g c rb k n r) (hq : SKB f g c rb k n q) : r = q := by
  rcases hr with ⟨a0, a1, a2, a3⟩ | ⟨a0, a1⟩
  · rcases hq with ⟨b0, b1, b2, b3⟩ | ⟨b0, b1⟩
    · rcases Int.lt_trichotomy r q with l | l | l
      · exact absurd (a3 q.toNat (by omega) (by omega)) (b2 q.toNat (by omega))
      · exact l
      · exact absurd (b3 r.toNat (by omega) (by omega)) (a2 r.toNat (by omega))
    · exact absurd (b1 r.toNat (by omega)) (a2 r.toNat (by omega))
  · rcases hq with ⟨b0, b1, b2, b3⟩ | ⟨b0, b1⟩
    · exact absurd (a1 q.toNat (by omega)) (b2 q.toNat (by omega))
    · omega
theorem cnt_lows {L : bT1} (o : LVO L) {k : Int64} {n : Int32} (p1 : 1 ≤ n.toInt) {r : Int32} (l : Int32) (hC : SRT (b0g_bytes (b1g_lows L)) (b0g_lengths (b1g_lows L)) (b0g_count (b1g_lows L)).toInt → 1 ≤ n.toInt ∧ n.toInt ≤ 8 → CNT (b0g_bytes (b1g_lows L)) (b0g_lengths (b1g_lows L)) (b0g_count (b1g_lows L)).toInt k n l r.toInt) (p8 : n.toInt ≤ 8) : ∀ j : Nat, (j : Int) < (b0g_count (b1g_owners L)).toInt → ((j : Int) < r.toInt ↔ ((l = 0 → NLT (LOV (b0g_bytes (b1g_owners L)) (b0g_lengths (b1g_owners L)) (b0g_count (b1g_owners L)).toInt (b1g_realBits L) j) (LOL (b0g_bytes (b1g_owners L)) (b0g_lengths (b1g_owners L)) (b0g_count (b1g_owners L)).toInt (b1g_realBits L) j) (ub k) n.toInt.toNat) ∧ (l = 1 → ¬ NLT (ub k) n.toInt.toNat (LOV (b0g_bytes (b1g_owners L)) (b0g_lengths (b1g_owners L)) (b0g_count (b1g_owners L)).toInt (b1g_realBits L) j) (LOL (b0g_bytes (b1g_owners L)) (b0g_lengths (b1g_owners L)) (b0g_count (b1g_owners L)).toInt (b1g_realBits L) j)))) := by
  obtain ⟨hv, hs, hc, r0, r8⟩ := o
  obtain ⟨c1, c2⟩ := hC (lows_srt hv hs hc r0 r8).1 ⟨p1, p8⟩
  intro j hj
  have b := (hv.2.2 j hj).2
  have p3 : n.toInt = (n.toInt.toNat : Nat) := by omega
  have e1 := KLT_nlt b.1 (rfl : ub k = ub k) b.2.1 p3
  have e2 := KLT_nlt (rfl : ub k = ub k) b.1 p3 b.2.1
  have v1 := hv.1
  rw [← e1, ← e2]
  constructor
  · intro h
    exact c1 j h
  · intro h
    apply Classical.byContradiction
    intro hn
    exact c2 j (by omega) (by omega) h
theorem cnt_highs {L : bT1} (o : LVO L) {k : Int64} {n : Int32} (p1 : 1 ≤ n.toInt) {r : Int32} (l : Int32) (hC : SRT (b0g_bytes (b1g_highs L)) (b0g_lengths (b1g_highs L)) (b0g_count (b1g_highs L)).toInt → 1 ≤ n.toInt ∧ n.toInt ≤ 8 → CNT (b0g_bytes (b1g_highs L)) (b0g_lengths (b1g_highs L)) (b0g_count (b1g_highs L)).toInt k n l r.toInt) (p8 : n.toInt ≤ 8) : ∀ j : Nat, (j : Int) < (b0g_count (b1g_owners L)).toInt → ((j : Int) < r.toInt ↔ ((l = 0 → NLT (HIV (b0g_bytes (b1g_owners L)) (b0g_lengths (b1g_owners L)) (b0g_count (b1g_owners L)).toInt (b1g_realBits L) j) (HIL (b0g_bytes (b1g_owners L)) (b0g_lengths (b1g_owners L)) (b0g_count (b1g_owners L)).toInt j) (ub k) n.toInt.toNat) ∧ (l = 1 → ¬ NLT (ub k) n.toInt.toNat (HIV (b0g_bytes (b1g_owners L)) (b0g_lengths (b1g_owners L)) (b0g_count (b1g_owners L)).toInt (b1g_realBits L) j) (HIL (b0g_bytes (b1g_owners L)) (b0g_lengths (b1g_owners L)) (b0g_count (b1g_owners L)).toInt j)))) := by
  obtain ⟨hv, hs, hc, r0, r8⟩ := o
  obtain ⟨c1, c2⟩ := hC (lows_srt hv hs hc r0 r8).2 ⟨p1, p8⟩
  intro j hj
  have b := (hv.2.2 j hj).2
  have p3 : n.toInt = (n.toInt.toNat : Nat) := by omega
  have e1 := KLT_nlt b.2.2.1 (rfl : ub k = ub k) b.2.2.2 p3
  have e2 := KLT_nlt (rfl : ub k = ub k) b.2.2.1 p3 b.2.2.2
  have v1 := hv.2.1
  rw [← e1, ← e2]
  constructor
  · intro h
    exact c1 j h
  · intro h
    apply Classical.byContradiction
    intro hn
    exact c2 j (by omega) (by omega) h
theorem mx0 {x y : Int32} (h0 : -1000 ≤ x.toInt) (h1 : x.toInt ≤ 1000) (g0 : -1000 ≤ y.toInt) (g1 : y.toInt ≤ 1000) : (if (x - y) < (0 : Int32) then (0 : Int32) else (x - y)).toInt = max (x.toInt - y.toInt) 0 := by
  have e : (x - y).toInt = x.toInt - y.toInt := pt_sub (by omega) (by omega)
  by_cases c : x - y < (0 : Int32)
  · rw [if_pos c]
    simp only [pn] at c
    rw [e] at c
    rw [pl_0]
    omega
  · rw [if_neg c]
    simp only [pn] at c
    rw [e] at c ⊢
    omega
theorem fx_met {S : bT1} (hJ : J1 S) {a1 a4 : Int64} {a3 a6 : Int32} {Q : Int32 → Prop} (hq : ∀ r : Int32, (LVO S → 1 ≤ a3.toInt → a3.toInt ≤ 8 → 1 ≤ a6.toInt → a6.toInt ≤ 8 → r.toInt = CTP (MET (b0g_bytes (b1g_owners S)) (b0g_lengths (b1g_owners S)) (b0g_count (b1g_owners S)).toInt (b1g_realBits S) a1 a3 a4 a6) (b0g_count (b1g_owners S)).toInt.toNat) → Q r) : wp_X1_met S a1 a3 a4 a6 Q := by
  have jl := J0g_count (J1g_lows hJ)
  have jh := J0g_count (J1g_highs hJ)
  have jo := J0g_count (J1g_owners hJ)
  unfold wp_X1_met wp_X0_upTo wp_X0_ahead
  refine fx_counted (J1g_lows hJ) (Or.inr rfl) (fun r1 h0 h1 hC => fx_counted (J1g_highs hJ) (Or.inl rfl) (fun r3 g0 g1 hD => hq _ (fun o p1 p8 q1 q8 => ?_)))
  have A := cnt_lows o q1 1 hC q8
  have B := cnt_highs o p1 0 hD p8
  have v1 := o.1.1
  rw [mx0 (by omega) (by omega) (by omega) (by omega), CTP_iv (a := r1.toInt) (b := r3.toInt) g0 _ (fun i hi => ?_)]
  · omega
  · have a := A i (by omega)
    have b := B i (by omega)
    unfold MET
    constructor
    · intro h
      refine ⟨?_, a.mpr ⟨fun h => absurd h (by decide), fun _ => h.1⟩⟩
      apply Classical.byContradiction
      intro hn
      exact h.2 ((b.mp (by omega)).1 rfl)
    · intro h
      refine ⟨(a.mp h.2).2 rfl, fun hn => ?_⟩
      have := b.mpr ⟨fun _ => hn, fun h => absurd h (by decide)⟩
      omega
theorem fx_held {S : bT1} (hJ : J1 S) {a1 a4 : Int64} {a3 a6 : Int32} {Q : Int32 → Prop} (hq : ∀ r : Int32, (LVO S → 1 ≤ a3.toInt → a3.toInt ≤ 8 → 1 ≤ a6.toInt → a6.toInt ≤ 8 → r.toInt = CTP (SUR (b0g_bytes (b1g_owners S)) (b0g_lengths (b1g_owners S)) (b0g_count (b1g_owners S)).toInt (b1g_realBits S) a1 a3 a4 a6) (b0g_count (b1g_owners S)).toInt.toNat) → Q r) : wp_X1_held S a1 a3 a4 a6 Q := by
  have jl := J0g_count (J1g_lows hJ)
  have jh := J0g_count (J1g_highs hJ)
  have jo := J0g_count (J1g_owners hJ)
  unfold wp_X1_held wp_X0_upTo wp_X0_ahead
  refine fx_counted (J1g_highs hJ) (Or.inr rfl) (fun r1 h0 h1 hC => fx_counted (J1g_lows hJ) (Or.inl rfl) (fun r3 g0 g1 hD => hq _ (fun o p1 p8 q1 q8 => ?_)))
  have A := cnt_highs o q1 1 hC q8
  have B := cnt_lows o p1 0 hD p8
  have v1 := o.1.2.1
  rw [mx0 (by omega) (by omega) (by omega) (by omega), CTP_iv (a := r1.toInt) (b := r3.toInt) g0 _ (fun i hi => ?_)]
  · omega
  · have a := A i (by omega)
    have b := B i (by omega)
    unfold SUR
    constructor
    · intro h
      refine ⟨?_, a.mpr ⟨fun h => absurd h (by decide), fun _ => h.2⟩⟩
      apply Classical.byContradiction
      intro hn
      exact h.1 ((b.mp (by omega)).1 rfl)
    · intro h
      refine ⟨fun hn => ?_, (a.mp h.2).2 rfl⟩
      have := b.mpr ⟨fun _ => hn, fun h => absurd h (by decide)⟩
      omega
theorem fx_seekF {S : bT1} (hJ : J1 S) {a1 : Int64} {a3 : Int32} {Q : Int32 → Prop} (hq : ∀ r : Int32, 0 ≤ r.toInt → r.toInt ≤ 64 → (LVO S → 1 ≤ a3.toInt → a3.toInt ≤ 8 → r.toInt ≤ (b0g_count (b1g_owners S)).toInt ∧ ∀ j : Nat, (j : Int) < (b0g_count (b1g_owners S)).toInt → ((j : Int) < r.toInt ↔ NLT (HIV (b0g_bytes (b1g_owners S)) (b0g_lengths (b1g_owners S)) (b0g_count (b1g_owners S)).toInt (b1g_realBits S) j) (HIL (b0g_bytes (b1g_owners S)) (b0g_lengths (b1g_owners S)) (b0g_count (b1g_owners S)).toInt j) (ub a1) a3.toInt.toNat)) → Q r) : wp_X0_ahead (b1g_highs S) a1 a3 Q := by
  have jh := J0g_count (J1g_highs hJ)
  unfold wp_X0_ahead
  refine fx_counted (J1g_highs hJ) (Or.inl rfl) (fun r3 g0 g1 hD => hq _ g0 (by omega) (fun o p1 p8 => ⟨by have := o.1.2.1; omega, fun j hj => ?_⟩))
  have b := cnt_highs o p1 0 hD p8 j hj
  rw [b]
  exact ⟨fun h => h.1 rfl, fun h => ⟨fun _ => h, fun h => absurd h (by decide)⟩⟩
theorem fx_seekB {S : bT1} (hJ : J1 S) {a1 : Int64} {a3 : Int32} {Q : Int32 → Prop} (hq : ∀ r : Int32, 0 ≤ r.toInt → r.toInt ≤ 64 → (LVO S → 1 ≤ a3.toInt → a3.toInt ≤ 8 → r.toInt ≤ (b0g_count (b1g_owners S)).toInt ∧ ∀ j : Nat, (j : Int) < (b0g_count (b1g_owners S)).toInt → ((j : Int) < r.toInt ↔ ¬ NLT (ub a1) a3.toInt.toNat (LOV (b0g_bytes (b1g_owners S)) (b0g_lengths (b1g_owners S)) (b0g_count (b1g_owners S)).toInt (b1g_realBits S) j) (LOL (b0g_bytes (b1g_owners S)) (b0g_lengths (b1g_owners S)) (b0g_count (b1g_owners S)).toInt (b1g_realBits S) j))) → Q r) : wp_X0_upTo (b1g_lows S) a1 a3 Q := by
  have jh := J0g_count (J1g_lows hJ)
  unfold wp_X0_upTo
  refine fx_counted (J1g_lows hJ) (Or.inr rfl) (fun r3 g0 g1 hD => hq _ g0 (by omega) (fun o p1 p8 => ⟨by have := o.1.1; omega, fun j hj => ?_⟩))
  have b := cnt_lows o p1 1 hD p8 j hj
  rw [b]
  exact ⟨fun h => h.2 rfl, fun h => ⟨fun h => absurd h (by decide), fun _ => h⟩⟩
theorem bl_y {r : Int32} {P : Prop} (h : (r.toInt = 1 ∧ P) ∨ (r.toInt = 0 ∧ ¬ P)) (c : ¬ r = 0) : P := by
  rcases h with h | h
  · exact h.2
  · exact absurd (Int32.toInt_inj.mp (h.1.trans pl_0.symm)) c
theorem bl_n {r : Int32} {P : Prop} (h : (r.toInt = 1 ∧ P) ∨ (r.toInt = 0 ∧ ¬ P)) (c : r = 0) : ¬ P := by
  rcases h with h | h
  · have := h.1
    rw [c, pl_0] at this
    omega
  · exact h.2
def RNG (a : Int32) (f : Nat → Int64) (g : Nat → Int32) (c : Int) (rb : Int32) (k : Int64) (n : Int32) (k2 : Int64) (m : Int32) (i : Nat) : Prop := (a = 0 → MET f g c rb k n k2 m i) ∧ (¬ a = 0 → SUR f g c rb k n k2 m i)
theorem RNG_0 (f : Nat → Int64) (g : Nat → Int32) (c : Int) (rb : Int32) (k : Int64) (n : Int32) (k2 : Int64) (m : Int32) (q : Nat) : CTP (RNG 0 f g c rb k n k2 m) q = CTP (MET f g c rb k n k2 m) q := CTP_congr q (fun i _ => ⟨fun h => h.1 rfl, fun h => ⟨fun _ => h, fun e => absurd rfl e⟩⟩)
theorem RNG_1 (f : Nat → Int64) (g : Nat → Int32) (c : Int) (rb : Int32) (k : Int64) (n : Int32) (k2 : Int64) (m : Int32) (q : Nat) : CTP (RNG 1 f g c rb k n k2 m) q = CTP (SUR f g c rb k n k2 m) q := CTP_congr q (fun i _ => ⟨fun h => h.2 (by decide), fun h => ⟨fun e => absurd e (by decide), fun _ => h⟩⟩)
/-! the account -/
def NTE (A : Nat → Int32) (f : Nat) (m w : Int32) (j : Nat) : Int32 := if j = f then A j + 1 else if j = f + 1 then A j + m else if j = f + 2 then A j + w else A j
theorem NTE_upd (A : Nat → Int32) (f : Nat) (m w : Int32) : upd (upd (upd A f (A f + 1)) (f + 1) (upd A f (A f + 1) (f + 1) + m)) (f + 2) (upd (upd A f (A f + 1)) (f + 1) (upd A f (A f + 1) (f + 1) + m) (f + 2) + w) = NTE A f m w := by
  funext j
  unfold NTE
  by_cases h : j = f + 2
  · rw [h, up_s, up_n (show f + 2 ≠ f + 1 by omega), up_n (show f + 2 ≠ f by omega), if_neg (by omega), if_neg (by omega), if_pos rfl]
  · rw [up_n h]
    by_cases h1 : j = f + 1
    · rw [h1, up_s, up_n (show f + 1 ≠ f by omega), if_neg (by omega), if_pos rfl]
    · rw [up_n h1]
      by_cases h0 : j = f
      · rw [h0, up_s, if_pos rfl]
      · rw [up_n h0, if_neg h0, if_neg h1, if_neg h]
theorem upd0 (A : Nat → Int32) (i : Nat) : upd A i (A i + 0) = A := by
  funext j
  by_cases h : j = i
  · rw [h, up_s, Int32.add_zero]
  · rw [up_n h]
theorem NTE_lt {A : Nat → Int32} {f : Nat} {m w : Int32} {j : Nat} (h : j < f ∨ f + 2 < j) : NTE A f m w j = A j := by
  unfold NTE
  rw [if_neg (by omega), if_neg (by omega), if_neg (by omega)]
theorem NTE_sh {A B : Nat → Int32} (h : ∀ j : Nat, j < 6 → A j = B (17 + j)) (f : Nat) (m w : Int32) : ∀ j : Nat, j < 6 → NTE A f m w j = NTE B (17 + f) m w (17 + j) := by
  intro j hj
  unfold NTE
  by_cases h0 : j = f
  · rw [if_pos h0, if_pos (show 17 + j = 17 + f by omega), h j hj]
  · rw [if_neg h0, if_neg (show ¬ 17 + j = 17 + f by omega)]
    by_cases h1 : j = f + 1
    · rw [if_pos h1, if_pos (show 17 + j = 17 + f + 1 by omega), h j hj]
    · rw [if_neg h1, if_neg (show ¬ 17 + j = 17 + f + 1 by omega)]
      by_cases h2 : j = f + 2
      · rw [if_pos h2, if_pos (show 17 + j = 17 + f + 2 by omega), h j hj]
      · rw [if_neg h2, if_neg (show ¬ 17 + j = 17 + f + 2 by omega), h j hj]
def YN (x : Int32) : Int32 := if x = 0 then 0 else 1
def IS2 (x : Int32) : Int32 := if x = 2 then 1 else 0
theorem YN_y {x : Int32} (h : ¬ x = 0) : YN x = 1 := if_neg h
theorem YN_n {x : Int32} (h : x = 0) : YN x = 0 := if_pos h
/-! keys have noughts behind their bytes -/
def CLK (k : Int64) (n : Int32) : Prop := PX (ub k) n.toInt.toNat * 2 ^ (64 - 8 * n.toInt.toNat) = ub k
theorem CLK_cut (k : Int64) {n : Int32} (h1 : 1 ≤ n.toInt) (h8 : n.toInt ≤ 8) : CLK (cutf k n) n := by
  unfold CLK
  rw [ub_cut k h1 h8, PX_of]
theorem CLK_key (a b : Int32) {n : Int32} (h1 : 1 ≤ n.toInt) (h8 : n.toInt ≤ 8) : CLK (KEY a b n) n := CLK_cut _ h1 h8
theorem CLK_div {k : Int64} {n : Int32} (h : 2 ^ (64 - 8 * n.toInt.toNat) ∣ ub k) : CLK k n := Nat.div_mul_cancel h
theorem shd (x : Int64) (s : Nat) (hs : s ≤ 64) : 2 ^ s ∣ ub (Int64.ofBitVec (x.toBitVec <<< s)) := by
  show 2 ^ s ∣ (x.toBitVec <<< s).toNat
  rw [BitVec.toNat_shiftLeft, Nat.shiftLeft_eq]
  exact (Nat.dvd_mod_iff (Nat.pow_dvd_pow 2 hs)).mpr (Nat.dvd_mul_left _ _)
theorem shl_div (x : Int64) {i : Int32} (h0 : 0 ≤ i.toInt) (h7 : i.toInt ≤ 7) : 2 ^ (56 - 8 * i.toInt.toNat) ∣ ub (x <<< ((((56 : Int32) - ((8 : Int32) * i))).toInt64 &&& 63)) := by
  rcases i07 h0 h7 with rfl | rfl | rfl | rfl | rfl | rfl | rfl | rfl
  · rw [sho_0, z0]; exact shd x 56 (by decide)
  · rw [sho_1, tn_1]; exact shd x 48 (by decide)
  · rw [sho_2, tn_2]; exact shd x 40 (by decide)
  · rw [sho_3, tn_3]; exact shd x 32 (by decide)
  · rw [sho_4, tn_4]; exact shd x 24 (by decide)
  · rw [sho_5, tn_5]; exact shd x 16 (by decide)
  · rw [sho_6, tn_6]; exact shd x 8 (by decide)
  · rw [sho_7, tn_7]; exact shd x 0 (by decide)
theorem or_div {s a b : Nat} (ha : 2 ^ s ∣ a) (hb : 2 ^ s ∣ b) : 2 ^ s ∣ (a ||| b) := by
  apply Nat.dvd_of_mod_eq_zero
  rw [Nat.or_mod_two_pow, Nat.mod_eq_zero_of_dvd ha, Nat.mod_eq_zero_of_dvd hb]
  rfl
theorem step_div {k x : Int64} {n : Nat} (hn : n < 8) (h : 2 ^ (64 - 8 * n) ∣ ub k) : 2 ^ (64 - 8 * (n + 1)) ∣ ub (k ||| (x <<< ((((56 : Int32) - ((8 : Int32) * nI n))).toInt64 &&& 63))) := by
  have e : (nI n).toInt = (n : Int) := nI_toInt (by omega)
  have s := shl_div x (i := nI n) (by omega) (by omega)
  rw [show (nI n).toInt.toNat = n by omega] at s
  rw [ub_or]
  refine or_div (Nat.dvd_trans (Nat.pow_dvd_pow 2 (by omega)) h) ?_
  rw [show 64 - 8 * (n + 1) = 56 - 8 * n by omega]
  exact s
theorem DKY_div (al s : Int32) : ∀ n : Nat, n ≤ 8 → 2 ^ (64 - 8 * n) ∣ ub (DKY al s n) := by
  intro n
  induction n with
  | zero => intro _; exact Nat.dvd_zero _
  | succ n ih => intro h; exact step_div (by omega) (ih (by omega))
theorem TKf_div (T : Nat → Int32) (a : Nat) : ∀ n : Nat, n ≤ 8 → 2 ^ (64 - 8 * n) ∣ ub (TKf T a n) := by
  intro n
  induction n with
  | zero => intro _; exact Nat.dvd_zero _
  | succ n ih => intro h; exact step_div (by omega) (ih (by omega))
theorem CLN_agr {f f2 : Nat → Int64} {g g2 : Nat → Int32} {c : Int} (e : AGR f2 f g2 g c) (h : CLN f g c) : CLN f2 g2 c := by
  intro j hj
  rw [(e j hj).1, (e j hj).2]
  exact h j hj
theorem CLN_ins {f f2 : Nat → Int64} {g g2 : Nat → Int32} {c c2 r : Int} {k : Int64} {n : Int32} (h : CLN f g c) (hk : CLK k n) (hi : INS f g c k n r f2 g2 c2) : CLN f2 g2 c2 := by
  rcases hi with ⟨_, e, a, _⟩ | ⟨_, e, l, _, a, b, d⟩
  · rw [e]
    exact CLN_agr a h
  · rw [e]
    intro j hj
    have l0 := l.1
    have l1 := l.2.1
    by_cases q : (j : Int) < r
    · rw [(a j q).1, (a j q).2]
      exact h j (by omega)
    · by_cases q2 : (j : Int) = r
      · rw [(b j q2).1, (b j q2).2]
        exact hk
      · have z := d (j - 1) (by omega) (by omega)
        rw [show j - 1 + 1 = j by omega] at z
        rw [z.1, z.2]
        exact h (j - 1) (by omega)
theorem CLN_drp {f f2 : Nat → Int64} {g g2 : Nat → Int32} {c c2 a : Int} (h : CLN f g c) (hd : DRP f g c a f2 g2 c2) : CLN f2 g2 c2 := by
  rcases hd with ⟨_, e, d⟩ | ⟨_, _, e, d1, d2⟩
  · rw [e]
    exact CLN_agr d h
  · rw [e]
    intro j hj
    by_cases q : (j : Int) < a
    · rw [(d1 j q).1, (d1 j q).2]
      exact h j (by omega)
    · have z := d2 j (by omega) hj
      rw [z.1, z.2]
      exact h (j + 1) (by omega)
theorem CLN_chn {K : Nat → Int64} {N : Nat → Int32} {f : Nat → Int64} {g : Nat → Int32} {c : Int} (h : CLN f g c) : ∀ (i : Nat) {f2 : Nat → Int64} {g2 : Nat → Int32} {c2 w : Int}, (∀ q : Nat, q < i → CLK (K q) (N q)) → CHN K N i f g c f2 g2 c2 w → CLN f2 g2 c2 := by
  intro i
  induction i with
  | zero =>
    rintro f2 g2 c2 w _ ⟨e, a, _⟩
    rw [e]
    exact CLN_agr a h
  | succ i ih =>
    rintro f2 g2 c2 w hk ⟨f1, g1, c1, r, w1, a1, a2, _⟩
    exact CLN_ins (ih (fun q hq => hk q (by omega)) a1) (hk i (by omega)) a2
theorem CLK_NN {al m s : Int32} (h1 : 1 ≤ m.toInt) (h8 : m.toInt ≤ 8) (i : Nat) : CLK (KN al m s i) (NN m s i) := by
  have r := NN_rng (m := m) (s := s) (i := i) h1 h8
  exact CLK_div (DKY_div _ _ _ (by omega))
theorem CLK_TY {T : Nat → Int32} {n : Int} {p : Nat} (h : WFP T n p) {i : Nat} (hi : i < p) : CLK (TKY T i) (TNY T i) := by
  have r := h.2 i hi
  exact CLK_div (TKf_div _ _ _ (by show (T (POS T i)).toInt.toNat ≤ 8; omega))
def FST (a : Int32) : Int32 := if a = 0 then 4 else if a = 1 then 4 else if a = 4 then 4 else if a = 2 then 9 else if a = 3 then 16 else 0
theorem FST_f (a : Int32) : (a.toInt = 4 → (FST a).toInt = 4) ∧ (a.toInt = 1 → (FST a).toInt = 4) ∧ 0 ≤ (FST a).toInt ∧ (FST a).toInt ≤ 16 := by
  unfold FST
  by_cases h0 : a = 0
  · rw [if_pos h0, pl_4]; omega
  · rw [if_neg h0]
    by_cases h1 : a = 1
    · rw [if_pos h1, pl_4]; omega
    · rw [if_neg h1]
      by_cases h4 : a = 4
      · rw [if_pos h4, pl_4]; omega
      · rw [if_neg h4]
        simp only [pn] at h0 h1 h4
        by_cases h2 : a = 2
        · rw [if_pos h2, show ((9 : Int32)).toInt = 9 from rfl]; omega
        · rw [if_neg h2]
          by_cases h3 : a = 3
          · rw [if_pos h3, show ((16 : Int32)).toInt = 16 from rfl]; omega
          · rw [if_neg h3, pl_0]; omega
def LVX (L : bT1) (P : bT3) : Prop := REQ (b1g_owners L) (b3g_members P) ∧ b1g_hashBits L = HBV P ∧ b1g_realBits L = RBV P ∧ b1g_salt L = b3g_values P 5 ∧ (SRT (b0g_bytes (b1g_owners L)) (b0g_lengths (b1g_owners L)) (b0g_count (b1g_owners L)).toInt → 0 ≤ (b1g_realBits L).toInt → (b1g_realBits L).toInt ≤ 8 → LVS L)
/-! both states -/
def PRL (P : bT3) (n : Nat → Int32) (f : Nat → Int64) (g : Nat → Int32) : Prop := KRL (b3g_members P) f g (n 8) ∧ CLN (b0g_bytes (b3g_members P)) (b0g_lengths (b3g_members P)) (b0g_count (b3g_members P)).toInt ∧ (b3g_values P 0 = n 0 + 4 ∧ b3g_values P 1 = n 1 + 4 ∧ b3g_values P 2 = n 2 + 9 ∧ b3g_values P 3 = n 3 + 16 ∧ b3g_values P 4 = n 4 + 4 ∧ b3g_values P 5 = n 5) ∧ b3g_mode P = n 6 ∧ 0 ≤ (n 6).toInt ∧ (n 6).toInt ≤ 3
def BRL (P : bT3) (n : Nat → Int32) (f : Nat → Int64) (g : Nat → Int32) : Prop := KRL (b3g_members P) f g (n 9) ∧ CLN (b0g_bytes (b3g_members P)) (b0g_lengths (b3g_members P)) (b0g_count (b3g_members P)).toInt ∧ HBV P = HBT n ∧ RBV P = NBT n ∧ b3g_values P 5 = n 16 ∧ ((n 9).toInt = 0 ∨ (b3g_values P 2 + 1 = n 13 ∧ b3g_values P 3 = n 14))
def MRL (M : bT2) (n : Nat → Int32) (ks : Nat → Int64) (ls : Nat → Int32) : Prop := PRL (b2g_told M) n ks ls ∧ BRL (b2g_built M) n (fun j => ks (64 + j)) (fun j => ls (64 + j)) ∧ b2g_draws M = n 7
theorem KRL_agr {K : bT0} {f f2 : Nat → Int64} {g g2 : Nat → Int32} {c : Int32} (h : KRL K f g c) (hc : c.toInt ≤ 64) (e : ∀ j : Nat, j < 64 → f2 j = f j ∧ g2 j = g j) : KRL K f2 g2 c := by
  obtain ⟨a, b, d⟩ := h
  exact ⟨a, fun j hj => ⟨(b j hj).1.trans (e j (by omega)).1.symm, (b j hj).2.trans (e j (by omega)).2.symm⟩, d⟩
theorem PRL_congr {P : bT3} {n n2 : Nat → Int32} {f f2 : Nat → Int64} {g g2 : Nat → Int32} (h : PRL P n f g) (hc : (n 8).toInt ≤ 64) (en : ∀ i : Nat, i < 9 → i ≠ 7 → n2 i = n i) (er : ∀ j : Nat, j < 64 → f2 j = f j ∧ g2 j = g j) : PRL P n2 f2 g2 := by
  obtain ⟨a, b, d, e⟩ := h
  unfold PRL
  rw [en 0 (by decide) (by decide), en 1 (by decide) (by decide), en 2 (by decide) (by decide), en 3 (by decide) (by decide), en 4 (by decide) (by decide), en 5 (by decide) (by decide), en 6 (by decide) (by decide), en 8 (by decide) (by decide)]
  exact ⟨KRL_agr a hc er, b, d, e⟩
theorem BRL_congr {P : bT3} {n n2 : Nat → Int32} {f f2 : Nat → Int64} {g g2 : Nat → Int32} (h : BRL P n f g) (hc : (n 9).toInt ≤ 64) (en : ∀ i : Nat, 9 ≤ i → i ≠ 10 → i < 17 → n2 i = n i) (er : ∀ j : Nat, j < 64 → f2 j = f j ∧ g2 j = g j) : BRL P n2 f2 g2 := by
  obtain ⟨a, b, d, e, e5, e6⟩ := h
  have q1 : HBT n2 = HBT n := by
    unfold HBT
    rw [en 15 (by decide) (by decide) (by decide), en 11 (by decide) (by decide) (by decide)]
  have q2 : NBT n2 = NBT n := by
    unfold NBT
    rw [en 15 (by decide) (by decide) (by decide), en 12 (by decide) (by decide) (by decide)]
  unfold BRL
  rw [q1, q2, en 9 (by decide) (by decide) (by decide), en 16 (by decide) (by decide) (by decide), en 13 (by decide) (by decide) (by decide), en 14 (by decide) (by decide) (by decide)]
  exact ⟨KRL_agr a hc er, b, d, e, e5, e6⟩
theorem MRL_row {M M2 : bT2} {n n2 : Nat → Int32} {ks ks2 : Nat → Int64} {ls ls2 : Nat → Int32} (h : MRL M n ks ls) (h9 : (n 9).toInt ≤ 64) (hk : KRL (b3g_members (b2g_told M2)) ks2 ls2 (n2 8)) (hc : CLN (b0g_bytes (b3g_members (b2g_told M2))) (b0g_lengths (b3g_members (b2g_told M2))) (b0g_count (b3g_members (b2g_told M2))).toInt) (e1 : b3g_values (b2g_told M2) = b3g_values (b2g_told M)) (e2 : b3g_mode (b2g_told M2) = b3g_mode (b2g_told M)) (e3 : b2g_built M2 = b2g_built M) (e4 : b2g_draws M2 = n2 7) (en : ∀ i : Nat, i ≠ 8 → i ≠ 7 → n2 i = n i) (eo : ∀ j : Nat, 64 ≤ j → ks2 j = ks j ∧ ls2 j = ls j) : MRL M2 n2 ks2 ls2 := by
  obtain ⟨⟨a, b, d, e⟩, h2, h3⟩ := h
  refine ⟨⟨hk, hc, ?_⟩, ?_, e4⟩
  · rw [e1, e2, en 0 (by decide) (by decide), en 1 (by decide) (by decide), en 2 (by decide) (by decide), en 3 (by decide) (by decide), en 4 (by decide) (by decide), en 5 (by decide) (by decide), en 6 (by decide) (by decide)]
    exact ⟨d, e⟩
  · rw [e3]
    exact BRL_congr h2 h9 (fun i h1 _ _ => en i (by omega) (by omega)) (fun j hj => eo (64 + j) (by omega))
theorem MRL_same {M M2 : bT2} {n n2 : Nat → Int32} {ks ks2 : Nat → Int64} {ls ls2 : Nat → Int32} (h : MRL M n ks ls) (h8 : (n 8).toInt ≤ 64) (h9 : (n 9).toInt ≤ 64) (e1 : b2g_told M2 = b2g_told M) (e3 : b2g_built M2 = b2g_built M) (e4 : b2g_draws M2 = n2 7) (en : ∀ i : Nat, i < 17 → i ≠ 10 → i ≠ 7 → n2 i = n i) (eo : ∀ j : Nat, j < 128 → ks2 j = ks j ∧ ls2 j = ls j) : MRL M2 n2 ks2 ls2 := by
  obtain ⟨h1, h2, h3⟩ := h
  refine ⟨?_, ?_, e4⟩
  · rw [e1]
    exact PRL_congr h1 h8 (fun i a b => en i (by omega) (by omega) b) (fun j hj => eo j (by omega))
  · rw [e3]
    exact BRL_congr h2 h9 (fun i a b c => en i (by omega) b (by omega)) (fun j hj => eo (64 + j) (by omega))
theorem LOV_agr {f f2 : Nat → Int64} {g g2 : Nat → Int32} {c : Int} (e : ∀ j : Nat, (j : Int) < c → f2 j = f j ∧ g2 j = g j) {rb : Int32} {i : Nat} (hi : (i : Int) < c) : LOV f2 g2 c rb i = LOV f g c rb i ∧ LOL f2 g2 c rb i = LOL f g c rb i ∧ HIV f2 g2 c rb i = HIV f g c rb i ∧ HIL f2 g2 c i = HIL f g c i := by
  unfold LOV LOL HIV HIL
  rw [COM_agr e hi, BEG_agr e hi, (e i hi).1, (e i hi).2]
  exact ⟨rfl, rfl, rfl, rfl⟩
theorem LFA_agr {f f2 : Nat → Int64} {g g2 : Nat → Int32} {c : Int} (e : ∀ j : Nat, (j : Int) < c → f2 j = f j ∧ g2 j = g j) {rb : Int32} {k : Int64} {n : Int32} {r : Int} (h : LFA f g c rb k n r) : LFA f2 g2 c rb k n r := by
  rcases h with ⟨a, b, d⟩ | ⟨a, d⟩
  · refine Or.inl ⟨a, b, fun i hi => ?_⟩
    obtain ⟨q1, q2, q3, q4⟩ := LOV_agr e (rb := rb) (i := i) (by omega)
    rw [q1, q2, q3, q4]
    exact d i hi
  · refine Or.inr ⟨a, fun i hi => ?_⟩
    obtain ⟨q1, q2, q3, q4⟩ := LOV_agr e (rb := rb) (i := i) (by omega)
    rw [q1, q2, q3, q4]
    exact d i hi
theorem MAY_agr {f f2 : Nat → Int64} {g g2 : Nat → Int32} {c : Int} (e : ∀ j : Nat, (j : Int) < c → f2 j = f j ∧ g2 j = g j) {rb s h : Int32} {k : Int64} {n : Int32} {r : Int} (m : MAY f g c rb s h k n r) : MAY f2 g2 c rb s h k n r := by
  obtain ⟨l, a, b⟩ := m
  refine ⟨l, LFA_agr e a, ?_⟩
  have inr : ∀ i : Nat, (i : Int) = l → (i : Int) < c := by
    intro i hi
    rcases a with ⟨_, a1, _⟩ | ⟨a1, _⟩
    · omega
    · omega
  rcases b with ⟨b0, b1, b2⟩ | ⟨b0, b2⟩
  · exact Or.inl ⟨b0, b1, fun i hi => by rw [(e i (inr i hi)).1, (e i (inr i hi)).2]; exact b2 i hi⟩
  · exact Or.inr ⟨b0, fun i hi => by rw [(e i (inr i hi)).1, (e i (inr i hi)).2]; exact b2 i hi⟩
theorem VRD_agr {f f2 : Nat → Int64} {g g2 : Nat → Int32} {c : Int} (e : ∀ j : Nat, (j : Int) < c → f2 j = f j ∧ g2 j = g j) {rb s h : Int32} {k : Int64} {n : Int32} {r : Int} (m : VRD f g c rb s h k n r) : VRD f2 g2 c rb s h k n r := by
  rcases m with ⟨a, b⟩ | ⟨a, b, j, hj, d⟩ | ⟨a, b, d⟩
  · exact Or.inl ⟨a, MAY_agr e b⟩
  · exact Or.inr (Or.inl ⟨a, MAY_agr e b, j, hj, by rw [(e j hj).1, (e j hj).2]; exact d⟩)
  · exact Or.inr (Or.inr ⟨a, MAY_agr e b, fun j hj => by rw [(e j hj).1, (e j hj).2]; exact d j hj⟩)
theorem LFX {X : bT1} {P : bT3} {n : Nat → Int32} {f : Nat → Int64} {g : Nat → Int32} (hx : LVX X P) (hb : BRL P n f g) (h9 : (n 9).toInt ≤ 64) (h12 : 0 ≤ (n 12).toInt ∧ (n 12).toInt ≤ 8) : LVO X ∧ SRT f g (n 9).toInt ∧ CLN f g (n 9).toInt ∧ (b0g_count (b1g_owners X)).toInt = (n 9).toInt ∧ (∀ j : Nat, (j : Int) < (n 9).toInt → f j = b0g_bytes (b1g_owners X) j ∧ g j = b0g_lengths (b1g_owners X) j) ∧ b1g_realBits X = NBT n ∧ b1g_hashBits X = HBT n ∧ b1g_salt X = n 16 ∧ 0 ≤ (NBT n).toInt ∧ (NBT n).toInt ≤ 8 := by
  obtain ⟨x1, x2, x3, x4, x5⟩ := hx
  obtain ⟨b1, b2, b3, b4, b5, _⟩ := hb
  have nb : 0 ≤ (NBT n).toInt ∧ (NBT n).toInt ≤ 8 := by
    unfold NBT
    by_cases c : n 15 ≤ (1 : Int32)
    · rw [if_pos c]
      exact ⟨by decide, by decide⟩
    · rw [if_neg c]
      exact h12
  have ec : (b0g_count (b1g_owners X)).toInt = (n 9).toInt := by
    rw [x1.1]
    exact b1.1
  have ag : ∀ j : Nat, (j : Int) < (n 9).toInt → f j = b0g_bytes (b1g_owners X) j ∧ g j = b0g_lengths (b1g_owners X) j := by
    intro j hj
    have q := x1.2 j (by omega)
    have w := b1.2.1 j hj
    exact ⟨w.1.symm.trans q.1.symm, w.2.symm.trans q.2.symm⟩
  have s1 : SRT f g (n 9).toInt := KRL_s2 b1
  have s2 : SRT (b0g_bytes (b1g_owners X)) (b0g_lengths (b1g_owners X)) (b0g_count (b1g_owners X)).toInt := by
    rw [ec]
    exact SRT_agr ag s1
  have k1 : CLN f g (n 9).toInt := by
    intro j hj
    have w := b1.2.1 j hj
    rw [← w.1, ← w.2]
    exact b2 j (by have := b1.1; omega)
  have k2 : CLN (b0g_bytes (b1g_owners X)) (b0g_lengths (b1g_owners X)) (b0g_count (b1g_owners X)).toInt := by
    rw [ec]
    exact CLN_agr (fun j hj => ⟨(ag j hj).1.symm, (ag j hj).2.symm⟩) k1
  have r1 : b1g_realBits X = NBT n := x3.trans b4
  exact ⟨⟨x5 s2 (by rw [r1]; exact nb.1) (by rw [r1]; exact nb.2), s2, k2, by rw [r1]; exact nb.1, by rw [r1]; exact nb.2⟩, s1, k1, ec, ag, r1, x2.trans b3, x4.trans b5, nb.1, nb.2⟩
theorem m03 {x : Int32} (h0 : 0 ≤ x.toInt) (h3 : x.toInt ≤ 3) : x = 0 ∨ x = 1 ∨ x = 2 ∨ x = 3 := by
  simp only [← Int32.toInt_inj, pl_0, pl_1, pl_2, pl_3]
  omega
theorem REQ_krl {K K2 : bT0} {f f2 : Nat → Int64} {g g2 : Nat → Int32} {c c2 : Int32} (h : KRL K f g c) (hc : c.toInt ≤ 64) (e : REQ K2 K) (er : ∀ j : Nat, (j : Int) < c.toInt → f2 j = f j ∧ g2 j = g j) (ec : c2 = c) : KRL K2 f2 g2 c2 := by
  obtain ⟨a, b, d⟩ := h
  rw [ec]
  refine ⟨by rw [e.1]; exact a, fun j hj => ?_, ?_⟩
  · have q := e.2 j (by omega)
    exact ⟨q.1.trans ((b j hj).1.trans (er j hj).1.symm), q.2.trans ((b j hj).2.trans (er j hj).2.symm)⟩
  · exact SRT_agr (fun j hj => ⟨(e.2 j (by omega)).1.symm, (e.2 j (by omega)).2.symm⟩) d
theorem REQ_cln {K K2 : bT0} (hc : (b0g_count K).toInt ≤ 64) (e : REQ K2 K) (h : CLN (b0g_bytes K) (b0g_lengths K) (b0g_count K).toInt) : CLN (b0g_bytes K2) (b0g_lengths K2) (b0g_count K2).toInt := by
  rw [e.1]
  exact CLN_agr (fun j hj => e.2 j (by omega)) h
theorem PEQ_bits {P P2 : bT3} (e : PEQ P2 P) : HBV P2 = HBV P ∧ RBV P2 = RBV P := by
  unfold HBV RBV
  rw [e.2.2, e.2.1 0 (by decide), e.2.1 1 (by decide)]
  exact ⟨rfl, rfl⟩
theorem MRL_meq {M M2 : bT2} {n n2 : Nat → Int32} {ks ks2 : Nat → Int64} {ls ls2 : Nat → Int32} (h : MRL M n ks ls) (h8 : (n 8).toInt ≤ 64) (h9 : (n 9).toInt ≤ 64) (e : MEQ M2 M) (en : ∀ j : Nat, (j : Int) < 23 → n2 j = n j) (er : ∀ j : Nat, (j : Int) < 144 → ks2 j = ks j ∧ ls2 j = ls j) : MRL M2 n2 ks2 ls2 := by
  obtain ⟨⟨a, b, d, m⟩, ⟨a2, b2, d2, e2, f2, g2⟩, h3⟩ := h
  obtain ⟨p1, p2, _, _, p5⟩ := e
  obtain ⟨q1, q2⟩ := PEQ_bits p2
  have c8 : (b0g_count (b3g_members (b2g_told M))).toInt ≤ 64 := by have := a.1; omega
  have c9 : (b0g_count (b3g_members (b2g_built M))).toInt ≤ 64 := by have := a2.1; omega
  refine ⟨⟨REQ_krl a h8 p1.1 (fun j hj => er j (by omega)) (en 8 (by decide)), REQ_cln c8 p1.1 b, ?_⟩, ⟨REQ_krl a2 h9 p2.1 (fun j hj => er (64 + j) (by omega)) (en 9 (by decide)), REQ_cln c9 p2.1 b2, ?_⟩, ?_⟩
  · rw [p1.2.1 0 (by decide), p1.2.1 1 (by decide), p1.2.1 2 (by decide), p1.2.1 3 (by decide), p1.2.1 4 (by decide), p1.2.1 5 (by decide), p1.2.2, en 0 (by decide), en 1 (by decide), en 2 (by decide), en 3 (by decide), en 4 (by decide), en 5 (by decide), en 6 (by decide)]
    exact ⟨d, m⟩
  · have r1 : HBT n2 = HBT n := by
      unfold HBT
      rw [en 15 (by decide), en 11 (by decide)]
    have r2 : NBT n2 = NBT n := by
      unfold NBT
      rw [en 15 (by decide), en 12 (by decide)]
    rw [q1, q2, r1, r2, p2.2.1 5 (by decide), p2.2.1 2 (by decide), p2.2.1 3 (by decide), en 16 (by decide), en 9 (by decide), en 13 (by decide), en 14 (by decide)]
    exact ⟨d2, e2, f2, g2⟩
  · rw [p5, en 7 (by decide)]
    exact h3
theorem MRL_build {M M2 : bT2} {n n2 : Nat → Int32} {ks ks2 : Nat → Int64} {ls ls2 : Nat → Int32} (h : MRL M n ks ls) (h8 : (n 8).toInt ≤ 64) (e1 : b2g_told M2 = b2g_told M) (e2 : PEQ (b2g_built M2) (b2g_told M)) (e3 : b2g_draws M2 = b2g_draws M) (lo : ∀ j : Nat, j < 64 → ks2 j = ks j ∧ ls2 j = ls j) (hi : ∀ j : Nat, (j : Int) < (n 8).toInt → ks2 (64 + j) = ks j ∧ ls2 (64 + j) = ls j) (n9 : n2 9 = n 8) (nb : n2 11 = n 0 + 4 ∧ n2 12 = n 1 + 4 ∧ n2 13 = n 2 + 9 + 1 ∧ n2 14 = n 3 + 16 ∧ n2 15 = n 6 ∧ n2 16 = n 5) (en : ∀ i : Nat, i < 11 → i ≠ 9 → n2 i = n i) : MRL M2 n2 ks2 ls2 := by
  obtain ⟨⟨a, b, d, m⟩, _, h3⟩ := h
  obtain ⟨b1, b2, b3, b4, b5, b6⟩ := nb
  obtain ⟨v0, v1, v2, v3, v4, v5⟩ := d
  obtain ⟨m1, m2, m3⟩ := m
  have c8 : (b0g_count (b3g_members (b2g_told M))).toInt ≤ 64 := by have := a.1; omega
  refine ⟨?_, ⟨REQ_krl a h8 e2.1 hi n9, REQ_cln c8 e2.1 b, ?_, ?_, ?_, Or.inr ⟨?_, ?_⟩⟩, ?_⟩
  · rw [e1]
    exact PRL_congr ⟨a, b, ⟨v0, v1, v2, v3, v4, v5⟩, m1, m2, m3⟩ h8 (fun i h1 _ => en i (by omega) (by omega)) lo
  · unfold HBV HBT
    rw [e2.2.2, e2.2.1 0 (by decide), m1, b5, b1, v0]
    rcases m03 m2 m3 with q | q | q | q
    · rw [q, if_neg (by decide), if_neg (by decide)]
    · rw [q, if_pos (by decide), if_pos (by decide)]
    · rw [q, if_neg (by decide), if_neg (by decide)]
    · rw [q, if_pos (by decide), if_pos (by decide)]
  · unfold RBV NBT
    rw [e2.2.2, e2.2.1 1 (by decide), m1, b5, b2, v1]
    rcases m03 m2 m3 with q | q | q | q
    · rw [q, if_neg (by decide), if_pos (by decide)]
    · rw [q, if_neg (by decide), if_pos (by decide)]
    · rw [q, if_pos (by decide), if_neg (by decide)]
    · rw [q, if_pos (by decide), if_neg (by decide)]
  · rw [e2.2.1 5 (by decide), b6]
    exact v5
  · rw [e2.2.1 2 (by decide), b3, v2]
  · rw [e2.2.1 3 (by decide), b4, v3]
  · rw [e3, h3, en 7 (by decide) (by decide)]
theorem MRL_set {M M2 : bT2} {n n2 : Nat → Int32} {ks : Nat → Int64} {ls : Nat → Int32} {a1 a2 r q : Int32} {P : Prop} (h : MRL M n ks ls) (h8 : (n 8).toInt ≤ 64) (h9 : (n 9).toInt ≤ 64) (e0 : b3g_members (b2g_told M2) = b3g_members (b2g_told M)) (em : b3g_mode (b2g_told M2) = b3g_mode (b2g_told M)) (eb : b2g_built M2 = b2g_built M) (ed : b2g_draws M2 = b2g_draws M) (hP : P → 0 ≤ a1.toInt ∧ a1.toInt ≤ 5) (c1 : (r.toInt = 1 ∧ P) ∨ (r.toInt = 0 ∧ ¬ P)) (c2 : r.toInt = 1 → b3g_values (b2g_told M2) = upd (b3g_values (b2g_told M)) a1.toNatClampNeg a2) (c3 : r.toInt = 0 → b3g_values (b2g_told M2) = b3g_values (b2g_told M)) (d1 : (q.toInt = 1 ∧ P) ∨ (q.toInt = 0 ∧ ¬ P)) (d2 : ∀ i : Nat, (i : Int) ≠ a1.toInt → n2 i = n i) (d3 : q.toInt = 1 → n2 a1.toNatClampNeg = a2 - FST a1) (d4 : q.toInt = 0 → n2 = n) : MRL M2 n2 ks ls := by
  obtain ⟨⟨a, b, d, m⟩, h2, h3⟩ := h
  rcases c1 with ⟨e, p⟩ | ⟨e, p⟩
  · have q1 : q.toInt = 1 := by
      rcases d1 with z | z
      · exact z.1
      · exact absurd p z.2
    have hp := hP p
    have cl := pt_clamp hp.1
    have v := c2 e
    have w := d3 q1
    have hi : ∀ i : Nat, 6 ≤ i → n2 i = n i := fun i hi => d2 i (by omega)
    have comp : ∀ (i : Nat) (c : Int32), (a1.toNatClampNeg = i → FST a1 = c) → b3g_values (b2g_told M) i = n i + c → b3g_values (b2g_told M2) i = n2 i + c := by
      intro i c hF hv
      rw [v]
      by_cases z : i = a1.toNatClampNeg
      · rw [z, up_s, w, hF z.symm, Int32.sub_add_cancel]
      · rw [up_n z, d2 i (by omega)]
        exact hv
    have lit : ∀ (x : Int32) (i : Nat), x.toInt = (i : Int) → a1.toNatClampNeg = i → a1 = x := fun x i hx hi => Int32.toInt_inj.mp (by omega)
    obtain ⟨v0, v1, v2, v3, v4, v5⟩ := d
    refine ⟨⟨?_, ?_, ⟨comp 0 4 (fun z => by rw [lit 0 0 rfl z]; rfl) v0, comp 1 4 (fun z => by rw [lit 1 1 rfl z]; rfl) v1, comp 2 9 (fun z => by rw [lit 2 2 rfl z]; rfl) v2, comp 3 16 (fun z => by rw [lit 3 3 rfl z]; rfl) v3, comp 4 4 (fun z => by rw [lit 4 4 rfl z]; rfl) v4, ?_⟩, ?_⟩, ?_, ?_⟩
    · rw [e0, hi 8 (by decide)]
      exact a
    · rw [e0]
      exact b
    · have z := comp 5 0 (fun z => by rw [lit 5 5 rfl z]; rfl) (by rw [Int32.add_zero]; exact v5)
      rw [Int32.add_zero] at z
      exact z
    · rw [em, hi 6 (by decide)]
      exact m
    · rw [eb]
      exact BRL_congr h2 h9 (fun i g1 _ _ => hi i (by omega)) (fun j _ => ⟨rfl, rfl⟩)
    · rw [ed, h3, hi 7 (by decide)]
  · have q0 : q.toInt = 0 := by
      rcases d1 with z | z
      · exact absurd z.2 p
      · exact z.1
    rw [d4 q0]
    refine ⟨⟨?_, ?_, ?_, ?_⟩, ?_, ?_⟩
    · rw [e0]
      exact a
    · rw [e0]
      exact b
    · rw [c3 e]
      exact d
    · rw [em]
      exact m
    · rw [eb]
      exact h2
    · rw [ed]
      exact h3
theorem MRL_mode {M M2 : bT2} {n n2 : Nat → Int32} {ks : Nat → Int64} {ls : Nat → Int32} {r q : Int32} (h : MRL M n ks ls) (h8 : (n 8).toInt ≤ 64) (h9 : (n 9).toInt ≤ 64) (e0 : b3g_members (b2g_told M2) = b3g_members (b2g_told M)) (ev : b3g_values (b2g_told M2) = b3g_values (b2g_told M)) (eb : b2g_built M2 = b2g_built M) (ed : b2g_draws M2 = b2g_draws M) (c : (r.toInt = -1 → b3g_mode (b2g_told M2) = b3g_mode (b2g_told M)) ∧ (r.toInt ≠ -1 → b3g_mode (b2g_told M2) = r)) (d : (q.toInt = -1 → n2 6 = n 6) ∧ (q.toInt ≠ -1 → n2 6 = q)) (en : ∀ i : Nat, i ≠ 6 → n2 i = n i) (hr : r.toInt = q.toInt) (hg : r.toInt = -1 ∨ (0 ≤ r.toInt ∧ r.toInt ≤ 3)) : MRL M2 n2 ks ls := by
  obtain ⟨⟨a, b, v, m1, m2, m3⟩, h2, h3⟩ := h
  refine ⟨⟨by rw [e0, en 8 (by decide)]; exact a, by rw [e0]; exact b, ?_, ?_⟩, ?_, by rw [ed, h3, en 7 (by decide)]⟩
  · rw [ev, en 0 (by decide), en 1 (by decide), en 2 (by decide), en 3 (by decide), en 4 (by decide), en 5 (by decide)]
    exact v
  · by_cases z : r.toInt = -1
    · rw [c.1 z, d.1 (by omega)]
      exact ⟨m1, m2, m3⟩
    · rw [c.2 z, d.2 (by omega)]
      have e : r = q := Int32.toInt_inj.mp hr
      rw [← e]
      exact ⟨rfl, by omega, by omega⟩
  · rw [eb]
    exact BRL_congr h2 h9 (fun i g1 _ _ => en i (by omega)) (fun j _ => ⟨rfl, rfl⟩)
def LFP (X : bT1) (n : Nat → Int32) (f : Nat → Int64) (g : Nat → Int32) : Prop := LVO X ∧ SRT f g (n 9).toInt ∧ CLN f g (n 9).toInt ∧ (b0g_count (b1g_owners X)).toInt = (n 9).toInt ∧ (∀ j : Nat, (j : Int) < (n 9).toInt → f j = b0g_bytes (b1g_owners X) j ∧ g j = b0g_lengths (b1g_owners X) j) ∧ b1g_realBits X = NBT n ∧ b1g_hashBits X = HBT n ∧ b1g_salt X = n 16 ∧ 0 ≤ (NBT n).toInt ∧ (NBT n).toInt ≤ 8
theorem C_leaf {X : bT1} {n : Nat → Int32} {f : Nat → Int64} {g : Nat → Int32} {P : Prop} {k : Int64} {m : Int32} {r q : Int} (hx : LFP X n f g) (h : LVO X → (P → LFA (b0g_bytes (b1g_owners X)) (b0g_lengths (b1g_owners X)) (b0g_count (b1g_owners X)).toInt (b1g_realBits X) k m r) ∧ (¬ P → r = -1)) (h2 : SRT f g (n 9).toInt → (P → LFA f g (n 9).toInt (NBT n) k m q) ∧ (¬ P → q = -1)) : r = q := by
  obtain ⟨o, s, cl, ec, ag, rb, _, _, r0, r8⟩ := hx
  by_cases p : P
  · have a := (h o).1 p
    rw [ec, rb] at a
    exact LFA_one s cl r0 r8 (LFA_agr ag a) ((h2 s).1 p)
  · rw [(h o).2 p, (h2 s).2 p]
theorem SKF_agr {f f2 : Nat → Int64} {g g2 : Nat → Int32} {c : Int} (e : ∀ j : Nat, (j : Int) < c → f2 j = f j ∧ g2 j = g j) {rb : Int32} {k : Int64} {n : Int32} {r : Int} (h : SKF f g c rb k n r) : SKF f2 g2 c rb k n r := by
  have q : ∀ i : Nat, (i : Int) < c → HIV f2 g2 c rb i = HIV f g c rb i ∧ HIL f2 g2 c i = HIL f g c i := fun i hi => (LOV_agr e (rb := rb) hi).2.2
  rcases h with ⟨a, b, d, d2⟩ | ⟨a, d⟩
  · exact Or.inl ⟨a, b, fun i hi => by rw [(q i (by omega)).1, (q i (by omega)).2]; exact d i hi, fun i hi => by rw [(q i (by omega)).1, (q i (by omega)).2]; exact d2 i hi⟩
  · exact Or.inr ⟨a, fun i hi => by rw [(q i hi).1, (q i hi).2]; exact d i hi⟩
theorem SKB_agr {f f2 : Nat → Int64} {g g2 : Nat → Int32} {c : Int} (e : ∀ j : Nat, (j : Int) < c → f2 j = f j ∧ g2 j = g j) {rb : Int32} {k : Int64} {n : Int32} {r : Int} (h : SKB f g c rb k n r) : SKB f2 g2 c rb k n r := by
  have q : ∀ i : Nat, (i : Int) < c → LOV f2 g2 c rb i = LOV f g c rb i ∧ LOL f2 g2 c rb i = LOL f g c rb i := fun i hi => ⟨(LOV_agr e (rb := rb) hi).1, (LOV_agr e (rb := rb) hi).2.1⟩
  rcases h with ⟨a, b, d, d2⟩ | ⟨a, d⟩
  · exact Or.inl ⟨a, b, fun i hi => by rw [(q i (by omega)).1, (q i (by omega)).2]; exact d i hi, fun i hi hc => by rw [(q i hc).1, (q i hc).2]; exact d2 i hi hc⟩
  · exact Or.inr ⟨a, fun i hi => by rw [(q i hi).1, (q i hi).2]; exact d i hi⟩
theorem C_seek {X : bT1} {n : Nat → Int32} {f : Nat → Int64} {g : Nat → Int32} {P : Prop} {k : Int64} {m : Int32} {r q : Int} (hx : LFP X n f g) (h : LVO X → (P → SKF (b0g_bytes (b1g_owners X)) (b0g_lengths (b1g_owners X)) (b0g_count (b1g_owners X)).toInt (b1g_realBits X) k m r) ∧ (¬ P → r = -1)) (h2 : SRT f g (n 9).toInt → (P → SKF f g (n 9).toInt (NBT n) k m q) ∧ (¬ P → q = -1)) : r = q := by
  obtain ⟨o, s, cl, ec, ag, rb, _, _, r0, r8⟩ := hx
  by_cases p : P
  · have a := (h o).1 p
    rw [ec, rb] at a
    exact SKF_one (SKF_agr ag a) ((h2 s).1 p)
  · rw [(h o).2 p, (h2 s).2 p]
theorem C_back {X : bT1} {n : Nat → Int32} {f : Nat → Int64} {g : Nat → Int32} {P : Prop} {k : Int64} {m : Int32} {r q : Int} (hx : LFP X n f g) (h : LVO X → (P → SKB (b0g_bytes (b1g_owners X)) (b0g_lengths (b1g_owners X)) (b0g_count (b1g_owners X)).toInt (b1g_realBits X) k m r) ∧ (¬ P → r = -1)) (h2 : SRT f g (n 9).toInt → (P → SKB f g (n 9).toInt (NBT n) k m q) ∧ (¬ P → q = -1)) : r = q := by
  obtain ⟨o, s, cl, ec, ag, rb, _, _, r0, r8⟩ := hx
  by_cases p : P
  · have a := (h o).1 p
    rw [ec, rb] at a
    exact SKB_one (SKB_agr ag a) ((h2 s).1 p)
  · rw [(h o).2 p, (h2 s).2 p]
theorem C_met {X : bT1} {n : Nat → Int32} {f : Nat → Int64} {g : Nat → Int32} {P : Prop} {k k2 : Int64} {m m2 : Int32} {r q : Int} (hx : LFP X n f g) (h : LVO X → (P → r = CTP (MET (b0g_bytes (b1g_owners X)) (b0g_lengths (b1g_owners X)) (b0g_count (b1g_owners X)).toInt (b1g_realBits X) k m k2 m2) (b0g_count (b1g_owners X)).toInt.toNat) ∧ (¬ P → r = -1)) (h2 : SRT f g (n 9).toInt → (P → q = CTP (MET f g (n 9).toInt (NBT n) k m k2 m2) (n 9).toInt.toNat) ∧ (¬ P → q = -1)) : r = q := by
  obtain ⟨o, s, cl, ec, ag, rb, _, _, r0, r8⟩ := hx
  by_cases p : P
  · rw [(h o).1 p, (h2 s).1 p, ec, rb]
    refine CTP_congr _ (fun i hi => ?_)
    obtain ⟨q1, q2, q3, q4⟩ := LOV_agr ag (rb := NBT n) (i := i) (by omega)
    unfold MET
    rw [q1, q2, q3, q4]
  · rw [(h o).2 p, (h2 s).2 p]
theorem C_sur {X : bT1} {n : Nat → Int32} {f : Nat → Int64} {g : Nat → Int32} {P : Prop} {k k2 : Int64} {m m2 : Int32} {r q : Int} (hx : LFP X n f g) (h : LVO X → (P → r = CTP (SUR (b0g_bytes (b1g_owners X)) (b0g_lengths (b1g_owners X)) (b0g_count (b1g_owners X)).toInt (b1g_realBits X) k m k2 m2) (b0g_count (b1g_owners X)).toInt.toNat) ∧ (¬ P → r = -1)) (h2 : SRT f g (n 9).toInt → (P → q = CTP (SUR f g (n 9).toInt (NBT n) k m k2 m2) (n 9).toInt.toNat) ∧ (¬ P → q = -1)) : r = q := by
  obtain ⟨o, s, cl, ec, ag, rb, _, _, r0, r8⟩ := hx
  by_cases p : P
  · rw [(h o).1 p, (h2 s).1 p, ec, rb]
    refine CTP_congr _ (fun i hi => ?_)
    obtain ⟨q1, q2, q3, q4⟩ := LOV_agr ag (rb := NBT n) (i := i) (by omega)
    unfold SUR
    rw [q1, q2, q3, q4]
  · rw [(h o).2 p, (h2 s).2 p]
theorem M_image {X U : bT8} {Y V : bT9} {a : Int32} (hn : MRL (b8g_now X) (b9g_now Y) (b9g_keys Y) (b9g_lengths Y)) (hk : MRL (b8g_kept X) (b9g_images Y) (b9g_keyImages Y) (b9g_lengthImages Y)) (fl : (b8g_isKept X).toInt = (b9g_hasImage Y).toInt) (h8 : (b9g_now Y 8).toInt ≤ 64) (h9 : (b9g_now Y 9).toInt ≤ 64) (g8 : (b9g_images Y 8).toInt ≤ 64) (g9 : (b9g_images Y 9).toInt ≤ 64) (c1 : a.toInt ≠ 0 → MEQ (b8g_kept U) (b8g_now X) ∧ b8g_now U = b8g_now X) (c2 : a.toInt = 0 → (b8g_isKept X).toInt = 0 → b8g_now U = b8g_now X ∧ b8g_kept U = b8g_kept X) (c3 : a.toInt = 0 → (b8g_isKept X).toInt ≠ 0 → MEQ (b8g_now U) (b8g_kept X) ∧ b8g_kept U = b8g_kept X) (m1 : a.toInt ≠ 0 ∨ (b9g_hasImage Y).toInt ≠ 0 → IMG Y V a 23 144) (m2 : a.toInt = 0 → (b9g_hasImage Y).toInt = 0 → b9g_now V = b9g_now Y ∧ b9g_keys V = b9g_keys Y ∧ b9g_lengths V = b9g_lengths Y ∧ b9g_images V = b9g_images Y ∧ b9g_keyImages V = b9g_keyImages Y ∧ b9g_lengthImages V = b9g_lengthImages Y) : MRL (b8g_now U) (b9g_now V) (b9g_keys V) (b9g_lengths V) ∧ MRL (b8g_kept U) (b9g_images V) (b9g_keyImages V) (b9g_lengthImages V) := by
  by_cases ha : a.toInt = 0
  · have a0 : a = 0 := Int32.toInt_inj.mp ha
    by_cases hz : (b8g_isKept X).toInt = 0
    · obtain ⟨p1, p2⟩ := c2 ha hz
      obtain ⟨q1, q2, q3, q4, q5, q6⟩ := m2 ha (by rw [← fl]; exact hz)
      rw [p1, p2, q1, q2, q3, q4, q5, q6]
      exact ⟨hn, hk⟩
    · obtain ⟨p1, p2⟩ := c3 ha hz
      obtain ⟨q1, q2, q3, q4, q5⟩ := (m1 (Or.inr (by rw [← fl]; exact hz))).2 a0
      rw [p2, q1, q2, q3]
      exact ⟨MRL_meq hk g8 g9 p1 q4 q5, hk⟩
  · have a0 : ¬ a = 0 := fun e => ha (by rw [e]; rfl)
    obtain ⟨p1, p2⟩ := c1 ha
    obtain ⟨q1, q2, q3, q4, q5⟩ := (m1 (Or.inl ha)).1 a0
    rw [p2, q1, q2, q3]
    exact ⟨hn, MRL_meq hn h8 h9 p1 q4 q5⟩
theorem M_start : MRL (b8g_now bi8) (b9g_now bi9) (b9g_keys bi9) (b9g_lengths bi9) ∧ MRL (b8g_kept bi8) (b9g_images bi9) (b9g_keyImages bi9) (b9g_lengthImages bi9) := by
  refine ⟨⟨⟨KRL_0 rfl rfl, ?_, ⟨rfl, rfl, rfl, rfl, rfl, rfl⟩, rfl, by decide, by decide⟩, ⟨KRL_0 rfl rfl, ?_, rfl, rfl, rfl, Or.inl rfl⟩, rfl⟩, ⟨⟨KRL_0 rfl rfl, ?_, ⟨rfl, rfl, rfl, rfl, rfl, rfl⟩, rfl, by decide, by decide⟩, ⟨KRL_0 rfl rfl, ?_, rfl, rfl, rfl, Or.inl rfl⟩, rfl⟩⟩
  · intro j hj
    exact absurd hj (by rw [show (b0g_count (b3g_members (b2g_told (b8g_now bi8)))).toInt = 0 from rfl]; omega)
  · intro j hj
    exact absurd hj (by rw [show (b0g_count (b3g_members (b2g_built (b8g_now bi8)))).toInt = 0 from rfl]; omega)
  · intro j hj
    exact absurd hj (by rw [show (b0g_count (b3g_members (b2g_told (b8g_kept bi8)))).toInt = 0 from rfl]; omega)
  · intro j hj
    exact absurd hj (by rw [show (b0g_count (b3g_members (b2g_built (b8g_kept bi8)))).toInt = 0 from rfl]; omega)
theorem C_has {K : bT0} {f F : Nat → Int64} {g G n : Nat → Int32} {c : Int32} {L : bT1} {P z0 z1 : Prop} {k : Int64} {m : Int32} {r q : Int} (hm : KRL K f g c) (hx : LFP L n F G) (h0 : P → z0 → SRT (b0g_bytes K) (b0g_lengths K) (b0g_count K).toInt → NUM (b0g_bytes K) (b0g_lengths K) (b0g_count K).toInt k m r) (h1 : P → z1 → SRT (b0g_bytes (b1g_owners L)) (b0g_lengths (b1g_owners L)) (b0g_count (b1g_owners L)).toInt → NUM (b0g_bytes (b1g_owners L)) (b0g_lengths (b1g_owners L)) (b0g_count (b1g_owners L)).toInt k m r) (h2 : ¬ (P ∧ (z0 ∨ z1)) → r = -1) (k0 : P → z0 → SRT f g c.toInt → NUM f g c.toInt k m q) (k1 : P → z1 → SRT F G (n 9).toInt → NUM F G (n 9).toInt k m q) (k2 : ¬ (P ∧ (z0 ∨ z1)) → q = -1) : r = q := by
  by_cases p : P
  · by_cases a : z0
    · exact KRL_num hm (h0 p a (KRL_s1 hm)) (k0 p a (KRL_s2 hm))
    · by_cases b : z1
      · obtain ⟨o, s, cl, ec, ag, _⟩ := hx
        have x := h1 p b o.2.1
        rw [ec] at x
        exact NUM_one s (NUM_agr (fun j hj => ⟨(ag j hj).1.symm, (ag j hj).2.symm⟩) x) (k1 p b s)
      · rw [h2 (fun h => h.2.elim a b), k2 (fun h => h.2.elim a b)]
  · rw [h2 (fun h => p h.1), k2 (fun h => p h.1)]
theorem VRD_may {f : Nat → Int64} {g : Nat → Int32} {c : Int} {rb s h : Int32} {k : Int64} {n v : Int32} (q : VRD f g c rb s h k n v.toInt) : MAY f g c rb s h k n (YN v).toInt := by
  rcases q with ⟨a, b⟩ | ⟨a, b, _⟩ | ⟨a, b, _⟩
  · rw [YN_n (Int32.toInt_inj.mp (a.trans pl_0.symm)), pl_0]
    exact b
  · rw [YN_y (fun e => by rw [e, pl_0] at a; omega), pl_1]
    exact b
  · rw [YN_y (fun e => by rw [e, pl_0] at a; omega), pl_1]
    exact b
theorem C_may {X : bT1} {n : Nat → Int32} {f : Nat → Int64} {g : Nat → Int32} {P A B : Prop} {C D : Int32 → Prop} {k : Int64} {m r q : Int32} (hx : LFP X n f g) (h : LVO X → (P → ∃ v : Int32, VRD (b0g_bytes (b1g_owners X)) (b0g_lengths (b1g_owners X)) (b0g_count (b1g_owners X)).toInt (b1g_realBits X) (b1g_salt X) (b1g_hashBits X) k m v.toInt ∧ r = YN v ∧ C v) ∧ (¬ P → r.toInt = -1 ∧ A)) (h2 : (P → ∃ v : Int32, (SRT f g (n 9).toInt → VRD f g (n 9).toInt (NBT n) (n 16) (HBT n) k m v.toInt ∧ MAY f g (n 9).toInt (NBT n) (n 16) (HBT n) k m q.toInt) ∧ D v) ∧ (¬ P → q.toInt = -1 ∧ B)) : r.toInt = q.toInt := by
  obtain ⟨o, s, cl, ec, ag, rb, hb, sa, r0, r8⟩ := hx
  by_cases p : P
  · obtain ⟨v, a, e, _⟩ := (h o).1 p
    obtain ⟨w, b, _⟩ := h2.1 p
    rw [ec, rb, hb, sa] at a
    rw [e]
    exact MAY_one s cl r0 r8 (VRD_may (VRD_agr ag a)) (b s).2
  · rw [((h o).2 p).1, (h2.2 p).1]
/-! ranges that are asked -/
def ANY (f : Nat → Int64) (g : Nat → Int32) (c : Int) (k : Int64) (n : Int32) (k2 : Int64) (m : Int32) : Prop := ∃ j : Nat, (j : Int) < c ∧ ¬ KLT (f j) (g j) k n ∧ ¬ KLT k2 m (f j) (g j)
def RVD (f : Nat → Int64) (g : Nat → Int32) (c : Int) (rb : Int32) (k : Int64) (n : Int32) (k2 : Int64) (m : Int32) (v : Int) : Prop := (v = 0 ∧ CTP (MET f g c rb k n k2 m) c.toNat ≤ 0) ∨ (v = 1 ∧ 0 < CTP (MET f g c rb k n k2 m) c.toNat ∧ ANY f g c k n k2 m) ∨ (v = 2 ∧ 0 < CTP (MET f g c rb k n k2 m) c.toNat ∧ ¬ ANY f g c k n k2 m)
theorem RVD_one {f : Nat → Int64} {g : Nat → Int32} {c : Int} {rb : Int32} {k k2 : Int64} {n m : Int32} {r q : Int} (hr : RVD f g c rb k n k2 m r) (hq : RVD f g c rb k n k2 m q) : r = q := by
  rcases hr with ⟨a, b⟩ | ⟨a, b, d⟩ | ⟨a, b, d⟩
  · rcases hq with ⟨x, y⟩ | ⟨x, y, z⟩ | ⟨x, y, z⟩
    · omega
    · omega
    · omega
  · rcases hq with ⟨x, y⟩ | ⟨x, y, z⟩ | ⟨x, y, z⟩
    · omega
    · omega
    · exact absurd d z
  · rcases hq with ⟨x, y⟩ | ⟨x, y, z⟩ | ⟨x, y, z⟩
    · omega
    · exact absurd z d
    · omega
theorem RVD_agr {f f2 : Nat → Int64} {g g2 : Nat → Int32} {c : Int} (e : ∀ j : Nat, (j : Int) < c → f2 j = f j ∧ g2 j = g j) {rb : Int32} {k k2 : Int64} {n m : Int32} {r : Int} (h : RVD f g c rb k n k2 m r) : RVD f2 g2 c rb k n k2 m r := by
  have ec : CTP (MET f2 g2 c rb k n k2 m) c.toNat = CTP (MET f g c rb k n k2 m) c.toNat := by
    refine CTP_congr _ (fun i hi => ?_)
    obtain ⟨q1, q2, q3, q4⟩ := LOV_agr e (rb := rb) (i := i) (by omega)
    unfold MET
    rw [q1, q2, q3, q4]
  have ea : ANY f2 g2 c k n k2 m ↔ ANY f g c k n k2 m := by
    constructor
    · rintro ⟨j, hj, a⟩
      refine ⟨j, hj, ?_⟩
      rw [← (e j hj).1, ← (e j hj).2]
      exact a
    · rintro ⟨j, hj, a⟩
      refine ⟨j, hj, ?_⟩
      rw [(e j hj).1, (e j hj).2]
      exact a
  unfold RVD
  rw [ec, ea]
  exact h
theorem any_cls {f : Nat → Int64} {g : Nat → Int32} {c : Int} {k k2 : Int64} {n m : Int32} {a b : Int} (h0 : 0 ≤ b) (ha : a ≤ c) (A : CNT f g c k2 m 1 a) (B : CNT f g c k n 0 b) : (b < a → ANY f g c k n k2 m) ∧ (a ≤ b → ¬ ANY f g c k n k2 m) := by
  refine ⟨fun h => ?_, fun h => ?_⟩
  · have p := B.2 b.toNat (by omega) (by omega)
    have q := (A.1 b.toNat (by omega)).2 rfl
    refine ⟨b.toNat, by omega, fun hk => p ⟨fun _ => hk, fun e => absurd e (by decide)⟩, q⟩
  · rintro ⟨j, hj, x, y⟩
    by_cases z : (j : Int) < b
    · exact x ((B.1 j z).1 rfl)
    · exact A.2 j (by omega) hj ⟨fun e => absurd e (by decide), fun _ => y⟩
theorem any_ref {f : Nat → Int64} {g : Nat → Int32} {c : Int} (hs : SRT f g c) {k k2 : Int64} {n m : Int32} {r : Int} (hl : LES f g c k n r) : (r < c → (∀ j : Nat, (j : Int) = r → ¬ KLT k2 m (f j) (g j)) → ANY f g c k n k2 m) ∧ ((r = c ∨ ∀ j : Nat, (j : Int) = r → KLT k2 m (f j) (g j)) → ¬ ANY f g c k n k2 m) := by
  obtain ⟨l0, l1, l2, l3⟩ := hl
  refine ⟨fun h q => ⟨r.toNat, by omega, l3 r.toNat (by omega) h, q r.toNat (by omega)⟩, fun h => ?_⟩
  rintro ⟨j, hj, x, y⟩
  by_cases z : (j : Int) < r
  · exact x (l2 j z)
  · rcases h with h | h
    · omega
    · have w := h r.toNat (by omega)
      by_cases e : j = r.toNat
      · rw [← e] at w
        exact y w
      · exact y (KLT_tr w (hs.1 r.toNat j (by omega) hj))
theorem C_range {X : bT1} {n : Nat → Int32} {f : Nat → Int64} {g : Nat → Int32} {P A B : Prop} {C D : Int32 → Prop} {k k2 : Int64} {m m2 r q : Int32} (hx : LFP X n f g) (h : LVO X → (P → ∃ v : Int32, RVD (b0g_bytes (b1g_owners X)) (b0g_lengths (b1g_owners X)) (b0g_count (b1g_owners X)).toInt (b1g_realBits X) k m k2 m2 v.toInt ∧ r = YN v ∧ C v) ∧ (¬ P → r.toInt = -1 ∧ A)) (h2 : (P → ∃ v : Int32, (SRT f g (n 9).toInt → RVD f g (n 9).toInt (NBT n) k m k2 m2 v.toInt ∧ ((q.toInt = 1 ∧ 0 < CTP (MET f g (n 9).toInt (NBT n) k m k2 m2) (n 9).toInt.toNat) ∨ (q.toInt = 0 ∧ CTP (MET f g (n 9).toInt (NBT n) k m k2 m2) (n 9).toInt.toNat ≤ 0))) ∧ D v) ∧ (¬ P → q.toInt = -1 ∧ B)) : r.toInt = q.toInt := by
  obtain ⟨o, s, cl, ec, ag, rb, hb, sa, r0, r8⟩ := hx
  by_cases p : P
  · obtain ⟨v, a, e, _⟩ := (h o).1 p
    obtain ⟨w, b, _⟩ := h2.1 p
    rw [ec, rb] at a
    have a2 := RVD_agr ag a
    have b2 := (b s).2
    rw [e]
    rcases a2 with ⟨x, y⟩ | ⟨x, y, _⟩ | ⟨x, y, _⟩
    · rw [YN_n (Int32.toInt_inj.mp (x.trans pl_0.symm)), pl_0]
      omega
    · rw [YN_y (fun e => by rw [e, pl_0] at x; omega), pl_1]
      omega
    · rw [YN_y (fun e => by rw [e, pl_0] at x; omega), pl_1]
      omega
  · rw [((h o).2 p).1, (h2.2 p).1]
/-! storms -/
def STR (R : Nat → Int32 → Prop) (f : Nat) : Nat → (Nat → Int32) → (Nat → Int32) → Int32 → Prop
  | 0, A, A2, w => A2 = A ∧ w = 0
  | i + 1, A, A2, w => ∃ (A1 : Nat → Int32) (w1 v : Int32), STR R f i A A1 w1 ∧ R i v ∧ A2 = NTE A1 f (YN v) (IS2 v) ∧ w = w1 + IS2 v
theorem STR_w {R R2 : Nat → Int32 → Prop} {f f2 : Nat} (hR : ∀ (i : Nat) (v v2 : Int32), R i v → R2 i v2 → v = v2) : ∀ (i : Nat) {A B A2 B2 : Nat → Int32} {w w2 : Int32}, STR R f i A A2 w → STR R2 f2 i B B2 w2 → w = w2 := by
  intro i
  induction i with
  | zero =>
    rintro A B A2 B2 w w2 ⟨_, a⟩ ⟨_, b⟩
    rw [a, b]
  | succ i ih =>
    rintro A B A2 B2 w w2 ⟨A1, w1, v, a, b, _, d⟩ ⟨B1, x1, v2, a2, b2, _, d2⟩
    rw [d, d2, ih a a2, hR i v v2 b b2]
theorem STR_det {R R2 : Nat → Int32 → Prop} {f : Nat} (hR : ∀ (i : Nat) (v v2 : Int32), R i v → R2 i v2 → v = v2) : ∀ (i : Nat) {A B A2 B2 : Nat → Int32} {w w2 : Int32}, (∀ j : Nat, j < 6 → A j = B j) → STR R f i A A2 w → STR R2 f i B B2 w2 → ∀ j : Nat, j < 6 → A2 j = B2 j := by
  intro i
  induction i with
  | zero =>
    rintro A B A2 B2 w w2 e ⟨a, _⟩ ⟨b, _⟩
    rw [a, b]
    exact e
  | succ i ih =>
    rintro A B A2 B2 w w2 e ⟨A1, w1, v, a, b, c, _⟩ ⟨B1, x1, v2, a2, b2, c2, _⟩
    intro j hj
    have q := ih e a a2 j hj
    rw [c, c2, hR i v v2 b b2]
    unfold NTE
    rw [q]
theorem STR_step {R : Nat → Int32 → Prop} {f : Nat} {x : Int32} {A A1 A2 : Nat → Int32} {w w1 v : Int32} (h0 : 0 ≤ x.toInt) (h1 : x.toInt ≤ 1000) (h : STR R f x.toInt.toNat A A1 w1) (hr : R x.toInt.toNat v) (e : A2 = NTE A1 f (YN v) (IS2 v)) (ew : w = w1 + IS2 v) : STR R f (x + 1).toInt.toNat A A2 w := by
  have x' : (x + 1).toInt = x.toInt + 1 := by rw [pt_add (by rw [pl_1]; omega) (by rw [pl_1]; omega), pl_1]
  rw [x', show (x.toInt + 1).toNat = x.toInt.toNat + 1 by omega]
  exact ⟨A1, w1, v, h, hr, e, ew⟩
theorem NTE_slice (B : Nat → Int32) (f : Nat) (m w : Int32) : (fun j => NTE B (17 + f) m w (17 + j)) = NTE (fun j => B (17 + j)) f m w := by
  funext j
  unfold NTE
  by_cases h0 : j = f
  · rw [if_pos h0, if_pos (show 17 + j = 17 + f by omega)]
  · rw [if_neg h0, if_neg (show ¬ 17 + j = 17 + f by omega)]
    by_cases h1 : j = f + 1
    · rw [if_pos h1, if_pos (show 17 + j = 17 + f + 1 by omega)]
    · rw [if_neg h1, if_neg (show ¬ 17 + j = 17 + f + 1 by omega)]
      by_cases h2 : j = f + 2
      · rw [if_pos h2, if_pos (show 17 + j = 17 + f + 2 by omega)]
      · rw [if_neg h2, if_neg (show ¬ 17 + j = 17 + f + 2 by omega)]
theorem IS2_y {x : Int32} (h : x = 2) : IS2 x = 1 := if_pos h
theorem IS2_n {x : Int32} (h : ¬ x = 2) : IS2 x = 0 := if_neg h
theorem C_storm {X : bT1} {n : Nat → Int32} {f : Nat → Int64} {g : Nat → Int32} {P A B : Prop} {al d a2 r q : Int32} {i : Nat} {E E2 G2 G3 : Nat → Int32} (hx : LFP X n f g) (ea : al = n 4 + 4) (ed : d = n 7) (h : LVO X → (P → STR (fun j v => VRD (b0g_bytes (b1g_owners X)) (b0g_lengths (b1g_owners X)) (b0g_count (b1g_owners X)).toInt (b1g_realBits X) (b1g_salt X) (b1g_hashBits X) (KN al a2 d j) (NN a2 d j) v.toInt) 0 i E E2 r) ∧ (¬ P → r.toInt = -1 ∧ A)) (h2 : SRT f g (n 9).toInt → (P → STR (fun j v => VRD f g (n 9).toInt (NBT n) (n 16) (HBT n) (KN (n 4 + 4) a2 (n 7) j) (NN a2 (n 7) j) v.toInt) 0 i G2 G3 q) ∧ (¬ P → q.toInt = -1 ∧ B)) : r.toInt = q.toInt := by
  obtain ⟨o, s, cl, ec, ag, rb, hb, sa, r0, r8⟩ := hx
  by_cases p : P
  · have a := (h o).1 p
    rw [ec, rb, hb, sa, ea, ed] at a
    refine congrArg Int32.toInt (STR_w ?_ i a ((h2 s).1 p))
    intro j v v2 x y
    exact Int32.toInt_inj.mp (VRD_one s cl r0 r8 (VRD_agr ag x) y)
  · rw [((h o).2 p).1, ((h2 s).2 p).1]
def TOV (x n w : Nat) : Nat := PX x (n - 1) * 2 ^ (64 - 8 * (n - 1)) + min (PX x n % 256 + w) 255 * 2 ^ (64 - 8 * n)
theorem fx_front2 {a0 : Int32} {Q : Int64 → Prop} (hq : ∀ r : Int64, (1 ≤ a0.toInt → a0.toInt ≤ 8 → r = frontf a0) → (a0.toInt ≤ 0 → r = 0) → Q r) : wp_X8_front a0 Q := by
  unfold wp_X8_front
  refine ⟨fun c => ⟨fun d => hq _ (fun _ _ => ?_) (fun h => ?_), fun d => hq _ (fun _ _ => ?_) (fun h => ?_)⟩, fun c => hq _ (fun h _ => ?_) (fun _ => rfl)⟩
  · unfold frontf
    rw [if_pos d]
  · simp only [pn] at c; omega
  · unfold frontf
    rw [if_neg d]
  · simp only [pn] at c; omega
  · exfalso
    apply c
    rw [Int32.lt_iff_toInt_lt, pl_0]
    omega
theorem to_cls {k r9 r11 : Int64} {l w o : Int32} {n : Nat} (h0 : 0 ≤ l.toInt) (h7 : l.toInt ≤ 7) (hn : n = l.toInt.toNat + 1) (w0 : 0 ≤ w.toInt) (w1 : w.toInt ≤ 255) (h9 : 1 ≤ l.toInt → l.toInt ≤ 8 → r9 = frontf l) (h90 : l.toInt ≤ 0 → r9 = 0) (ho : o.toInt = min ((OCT k l).toInt + w.toInt) 255) (h11 : r11 = o.toInt64 <<< ((((56 : Int32) - ((8 : Int32) * l))).toInt64 &&& 63)) : ub ((k &&& r9) ||| r11) = TOV (ub k) n w.toInt.toNat := by
  have oc1 := OCT_n k h0 h7
  have orr := OCT_rng k h0 h7
  have om : o.toInt.toNat = min (PX (ub k) n % 256 + w.toInt.toNat) 255 := by
    rw [hn]
    omega
  have e1 : n - 1 = l.toInt.toNat := by omega
  have e2 : 64 - 8 * n = 56 - 8 * l.toInt.toNat := by omega
  unfold TOV
  rw [e1, e2, ← om, h11]
  by_cases z : l.toInt ≤ 0
  · rw [h90 z]
    have ez : l.toInt.toNat = 0 := by omega
    have kz : k &&& (0 : Int64) = 0 := Int64.and_zero
    rw [kz, ub_or, ub_sho (by omega) (by omega) h0 h7, ez, PX_0 (ub_lt k), Nat.zero_mul, Nat.zero_add]
    show 0 ||| _ = _
    exact Nat.zero_or _
  · rw [h9 (by omega) (by omega), and_front k (by omega) (by omega)]
    exact ub_lo k (by omega) (by omega) (by omega) h7
theorem sh2_1 (x : Int64) : x <<< ((((64 : Int32) - ((8 : Int32) * 1))).toInt64 &&& 63) = Int64.ofBitVec (x.toBitVec <<< 56) := rfl
theorem sh2_2 (x : Int64) : x <<< ((((64 : Int32) - ((8 : Int32) * 2))).toInt64 &&& 63) = Int64.ofBitVec (x.toBitVec <<< 48) := rfl
theorem sh2_3 (x : Int64) : x <<< ((((64 : Int32) - ((8 : Int32) * 3))).toInt64 &&& 63) = Int64.ofBitVec (x.toBitVec <<< 40) := rfl
theorem sh2_4 (x : Int64) : x <<< ((((64 : Int32) - ((8 : Int32) * 4))).toInt64 &&& 63) = Int64.ofBitVec (x.toBitVec <<< 32) := rfl
theorem sh2_5 (x : Int64) : x <<< ((((64 : Int32) - ((8 : Int32) * 5))).toInt64 &&& 63) = Int64.ofBitVec (x.toBitVec <<< 24) := rfl
theorem sh2_6 (x : Int64) : x <<< ((((64 : Int32) - ((8 : Int32) * 6))).toInt64 &&& 63) = Int64.ofBitVec (x.toBitVec <<< 16) := rfl
theorem sh2_7 (x : Int64) : x <<< ((((64 : Int32) - ((8 : Int32) * 7))).toInt64 &&& 63) = Int64.ofBitVec (x.toBitVec <<< 8) := rfl
theorem sh2_8 (x : Int64) : x <<< ((((64 : Int32) - ((8 : Int32) * 8))).toInt64 &&& 63) = Int64.ofBitVec (x.toBitVec <<< 0) := rfl
theorem ub_sh2 {o : Int32} (h0 : 0 ≤ o.toInt) (h255 : o.toInt ≤ 255) {n : Int32} (h1 : 1 ≤ n.toInt) (h8 : n.toInt ≤ 8) : ub (o.toInt64 <<< ((((64 : Int32) - ((8 : Int32) * n))).toInt64 &&& 63)) = o.toInt.toNat * 2 ^ (64 - 8 * n.toInt.toNat) := by
  have e := ub_ext h0
  rcases i18 h1 h8 with rfl | rfl | rfl | rfl | rfl | rfl | rfl | rfl
  · rw [sh2_1, tn_1]; exact shb e (by omega) 56 (by decide)
  · rw [sh2_2, tn_2]; exact shb e (by omega) 48 (by decide)
  · rw [sh2_3, tn_3]; exact shb e (by omega) 40 (by decide)
  · rw [sh2_4, tn_4]; exact shb e (by omega) 32 (by decide)
  · rw [sh2_5, tn_5]; exact shb e (by omega) 24 (by decide)
  · rw [sh2_6, tn_6]; exact shb e (by omega) 16 (by decide)
  · rw [sh2_7, tn_7]; exact shb e (by omega) 8 (by decide)
  · rw [sh2_8, tn_8]; exact shb e (by omega) 0 (by decide)
theorem ub_add {x y : Int64} (h : ub x + ub y < 18446744073709551616) : ub (x + y) = ub x + ub y := by
  show (x.toBitVec + y.toBitVec).toNat = _
  rw [BitVec.toNat_add]
  exact Nat.mod_eq_of_lt h
theorem to_ref {k : Int64} {n w d : Int32} (h1 : 1 ≤ n.toInt) (h8 : n.toInt ≤ 8) (hc : CLK k n) (w0 : 0 ≤ w.toInt) (hd : d.toInt = min w.toInt (255 - ((PX (ub k) n.toInt.toNat % 256 : Nat) : Int))) : ub (k + (d.toInt64 <<< ((((64 : Int32) - ((8 : Int32) * n))).toInt64 &&& 63))) = TOV (ub k) n.toInt.toNat w.toInt.toNat := by
  have ps := PX_s (ub k) (t := n.toInt.toNat - 1) (by omega)
  rw [show n.toInt.toNat - 1 + 1 = n.toInt.toNat by omega] at ps
  have pm : 2 ^ (64 - 8 * (n.toInt.toNat - 1)) = 256 * 2 ^ (64 - 8 * n.toInt.toNat) := by
    rw [pw (show n.toInt.toNat - 1 ≤ 7 by omega), show 56 - 8 * (n.toInt.toNat - 1) = 64 - 8 * n.toInt.toNat by omega]
  have es := ub_sh2 (o := d) (by omega) (by omega) h1 h8
  have ck : ub k = PX (ub k) n.toInt.toNat * 2 ^ (64 - 8 * n.toInt.toNat) := hc.symm
  have dn : d.toInt.toNat + PX (ub k) n.toInt.toNat % 256 = min (PX (ub k) n.toInt.toNat % 256 + w.toInt.toNat) 255 := by omega
  have dm := Nat.div_add_mod (PX (ub k) n.toInt.toNat) 256
  obtain ⟨M, hM⟩ : ∃ M : Nat, 2 ^ (64 - 8 * n.toInt.toNat) = M := ⟨_, rfl⟩
  have key : TOV (ub k) n.toInt.toNat w.toInt.toNat = ub k + d.toInt.toNat * M := by
    unfold TOV
    rw [pm, hM, ← dn, ps, Nat.add_mul, ← Nat.mul_assoc, Nat.add_comm (d.toInt.toNat * M), ← Nat.add_assoc, ← Nat.add_mul, Nat.mul_comm (PX (ub k) n.toInt.toNat / 256) 256, dm, ← hM, ← ck]
  have bound : TOV (ub k) n.toInt.toNat w.toInt.toNat < 18446744073709551616 := by
    have l1 : (PX (ub k) n.toInt.toNat / 256 * 256 + 255 + 1) * M ≤ 18446744073709551616 := by
      have a : PX (ub k) n.toInt.toNat / 256 + 1 ≤ 2 ^ (8 * (n.toInt.toNat - 1)) := by
        have b : PX (ub k) (n.toInt.toNat - 1) < 2 ^ (8 * (n.toInt.toNat - 1)) := by
          unfold PX
          refine Nat.div_lt_of_lt_mul ?_
          rw [← Nat.pow_add, show 64 - 8 * (n.toInt.toNat - 1) + 8 * (n.toInt.toNat - 1) = 64 by omega]
          exact ub_lt k
        rw [ps] at b
        exact b
      have c : (PX (ub k) n.toInt.toNat / 256 + 1) * (256 * M) ≤ 2 ^ (8 * (n.toInt.toNat - 1)) * 2 ^ (64 - 8 * (n.toInt.toNat - 1)) := by
        rw [pm, hM]
        exact Nat.mul_le_mul_right _ a
      rw [← Nat.pow_add, show 8 * (n.toInt.toNat - 1) + (64 - 8 * (n.toInt.toNat - 1)) = 64 by omega, ← Nat.mul_assoc, Nat.add_mul (PX (ub k) n.toInt.toNat / 256) 1 256] at c
      exact c
    have l2 : TOV (ub k) n.toInt.toNat w.toInt.toNat ≤ (PX (ub k) n.toInt.toNat / 256 * 256 + 255) * M := by
      unfold TOV
      rw [pm, hM, ps, ← Nat.mul_assoc, ← Nat.add_mul]
      exact Nat.mul_le_mul_right M (by omega)
    have l3 : (PX (ub k) n.toInt.toNat / 256 * 256 + 255) * M < (PX (ub k) n.toInt.toNat / 256 * 256 + 255 + 1) * M := by
      refine Nat.mul_lt_mul_of_pos_right (by omega) ?_
      rw [← hM]
      exact Nat.two_pow_pos _
    omega
  rw [hM] at es
  rw [ub_add (by rw [es, ← key]; exact bound), es, key]
def STQ (f : Nat → Int64) (g : Nat → Int32) (c : Int) (rb : Int32) (k : Int64) (n w v : Int32) : Prop := ∃ t : Int64, ub t = TOV (ub k) n.toInt.toNat w.toInt.toNat ∧ RVD f g c rb k n t n v.toInt
theorem STQ_one {f : Nat → Int64} {g : Nat → Int32} {c : Int} {rb : Int32} {k : Int64} {n w v v2 : Int32} (h : STQ f g c rb k n w v) (h2 : STQ f g c rb k n w v2) : v = v2 := by
  obtain ⟨t, a, b⟩ := h
  obtain ⟨t2, a2, b2⟩ := h2
  have e : t = t2 := ub_inj (by rw [a, a2])
  rw [← e] at b2
  exact Int32.toInt_inj.mp (RVD_one b b2)
theorem STQ_agr {f f2 : Nat → Int64} {g g2 : Nat → Int32} {c : Int} (e : ∀ j : Nat, (j : Int) < c → f2 j = f j ∧ g2 j = g j) {rb : Int32} {k : Int64} {n w v : Int32} (h : STQ f g c rb k n w v) : STQ f2 g2 c rb k n w v := by
  obtain ⟨t, a, b⟩ := h
  exact ⟨t, a, RVD_agr e b⟩
theorem C_stormR {X : bT1} {n : Nat → Int32} {f : Nat → Int64} {g : Nat → Int32} {P A B : Prop} {al d a2 a3 r q : Int32} {i : Nat} {E E2 G2 G3 : Nat → Int32} (hx : LFP X n f g) (ea : al = n 4 + 4) (ed : d = n 7) (h : LVO X → (P → STR (fun j v => STQ (b0g_bytes (b1g_owners X)) (b0g_lengths (b1g_owners X)) (b0g_count (b1g_owners X)).toInt (b1g_realBits X) (KN al a2 d j) (NN a2 d j) a3 v) 3 i E E2 r) ∧ (¬ P → r.toInt = -1 ∧ A)) (h2 : SRT f g (n 9).toInt → (P → STR (fun j v => STQ f g (n 9).toInt (NBT n) (KN (n 4 + 4) a2 (n 7) j) (NN a2 (n 7) j) a3 v) 3 i G2 G3 q) ∧ (¬ P → q.toInt = -1 ∧ B)) : r.toInt = q.toInt := by
  obtain ⟨o, s, cl, ec, ag, rb, hb, sa, r0, r8⟩ := hx
  by_cases p : P
  · have a := (h o).1 p
    rw [ec, rb, ea, ed] at a
    refine congrArg Int32.toInt (STR_w ?_ i a ((h2 s).1 p))
    intro j v v2 x y
    exact STQ_one (STQ_agr ag x) y
  · rw [((h o).2 p).1, ((h2 s).2 p).1]
/-! the account on both sides -/
def ANW (A n : Nat → Int32) : Prop := ∀ j : Nat, j < 6 → A j = n (17 + j)
theorem ANW_same {A A2 n n2 : Nat → Int32} (h : ANW A n) (e : A2 = A) (en : ∀ i : Nat, 17 ≤ i → n2 i = n i) : ANW A2 n2 := by
  intro j hj
  rw [e, en (17 + j) (by omega)]
  exact h j hj
theorem A_may {X : bT1} {n n2 : Nat → Int32} {f : Nat → Int64} {g : Nat → Int32} {P Z : Prop} {A A2 : Nat → Int32} {k : Int64} {m r q : Int32} (hx : LFP X n f g) (h : LVO X → (P → ∃ v : Int32, VRD (b0g_bytes (b1g_owners X)) (b0g_lengths (b1g_owners X)) (b0g_count (b1g_owners X)).toInt (b1g_realBits X) (b1g_salt X) (b1g_hashBits X) k m v.toInt ∧ r = YN v ∧ A2 = NTE A 0 (YN v) (IS2 v)) ∧ (¬ P → r.toInt = -1 ∧ Z)) (hz : Z → A2 = A) (h2 : (P → ∃ v : Int32, (SRT f g (n 9).toInt → VRD f g (n 9).toInt (NBT n) (n 16) (HBT n) k m v.toInt ∧ MAY f g (n 9).toInt (NBT n) (n 16) (HBT n) k m q.toInt) ∧ n2 = NTE n 17 (YN v) (IS2 v)) ∧ (¬ P → q.toInt = -1 ∧ n2 = n)) (ha : ANW A n) : ANW A2 n2 := by
  obtain ⟨o, s, cl, ec, ag, rb, hb, sa, r0, r8⟩ := hx
  by_cases p : P
  · obtain ⟨v, a, _, e⟩ := (h o).1 p
    obtain ⟨w, b, e2⟩ := h2.1 p
    rw [ec, rb, hb, sa] at a
    have ev : v = w := Int32.toInt_inj.mp (VRD_one s cl r0 r8 (VRD_agr ag a) (b s).1)
    rw [e, e2, ev]
    exact NTE_sh ha 0 (YN w) (IS2 w)
  · rw [hz ((h o).2 p).2, (h2.2 p).2]
    exact ha
theorem A_range {X : bT1} {n n2 : Nat → Int32} {f : Nat → Int64} {g : Nat → Int32} {P Z : Prop} {M : Prop} {A A2 : Nat → Int32} {k k2 : Int64} {m m2 r q : Int32} (hx : LFP X n f g) (h : LVO X → (P → ∃ v : Int32, RVD (b0g_bytes (b1g_owners X)) (b0g_lengths (b1g_owners X)) (b0g_count (b1g_owners X)).toInt (b1g_realBits X) k m k2 m2 v.toInt ∧ r = YN v ∧ A2 = NTE A 3 (YN v) (IS2 v)) ∧ (¬ P → r.toInt = -1 ∧ Z)) (hz : Z → A2 = A) (h2 : (P → ∃ v : Int32, (SRT f g (n 9).toInt → RVD f g (n 9).toInt (NBT n) k m k2 m2 v.toInt ∧ M) ∧ n2 = NTE n 20 (YN v) (IS2 v)) ∧ (¬ P → q.toInt = -1 ∧ n2 = n)) (ha : ANW A n) : ANW A2 n2 := by
  obtain ⟨o, s, cl, ec, ag, rb, hb, sa, r0, r8⟩ := hx
  by_cases p : P
  · obtain ⟨v, a, _, e⟩ := (h o).1 p
    obtain ⟨w, b, e2⟩ := h2.1 p
    rw [ec, rb] at a
    have ev : v = w := Int32.toInt_inj.mp (RVD_one (RVD_agr ag a) (b s).1)
    rw [e, e2, ev]
    exact NTE_sh ha 3 (YN w) (IS2 w)
  · rw [hz ((h o).2 p).2, (h2.2 p).2]
    exact ha
theorem A_storm {X : bT1} {n n2 : Nat → Int32} {f : Nat → Int64} {g : Nat → Int32} {P Z : Prop} {al d a2 r q : Int32} {i : Nat} {A A2 : Nat → Int32} (hx : LFP X n f g) (ea : al = n 4 + 4) (ed : d = n 7) (h : LVO X → (P → STR (fun j v => VRD (b0g_bytes (b1g_owners X)) (b0g_lengths (b1g_owners X)) (b0g_count (b1g_owners X)).toInt (b1g_realBits X) (b1g_salt X) (b1g_hashBits X) (KN al a2 d j) (NN a2 d j) v.toInt) 0 i A A2 r) ∧ (¬ P → r.toInt = -1 ∧ Z)) (hz : Z → A2 = A) (h2 : SRT f g (n 9).toInt → (P → STR (fun j v => VRD f g (n 9).toInt (NBT n) (n 16) (HBT n) (KN (n 4 + 4) a2 (n 7) j) (NN a2 (n 7) j) v.toInt) 0 i (fun j => n (17 + j)) (fun j => n2 (17 + j)) q) ∧ (¬ P → q.toInt = -1 ∧ n2 = n)) (ha : ANW A n) : ANW A2 n2 := by
  obtain ⟨o, s, cl, ec, ag, rb, hb, sa, r0, r8⟩ := hx
  by_cases p : P
  · have a := (h o).1 p
    rw [ec, rb, hb, sa, ea, ed] at a
    refine STR_det ?_ i ha a ((h2 s).1 p)
    intro j v v2 x y
    exact Int32.toInt_inj.mp (VRD_one s cl r0 r8 (VRD_agr ag x) y)
  · rw [hz ((h o).2 p).2, ((h2 s).2 p).2]
    exact ha
theorem A_stormR {X : bT1} {n n2 : Nat → Int32} {f : Nat → Int64} {g : Nat → Int32} {P Z : Prop} {al d a2 a3 r q : Int32} {i : Nat} {A A2 : Nat → Int32} (hx : LFP X n f g) (ea : al = n 4 + 4) (ed : d = n 7) (h : LVO X → (P → STR (fun j v => STQ (b0g_bytes (b1g_owners X)) (b0g_lengths (b1g_owners X)) (b0g_count (b1g_owners X)).toInt (b1g_realBits X) (KN al a2 d j) (NN a2 d j) a3 v) 3 i A A2 r) ∧ (¬ P → r.toInt = -1 ∧ Z)) (hz : Z → A2 = A) (h2 : SRT f g (n 9).toInt → (P → STR (fun j v => STQ f g (n 9).toInt (NBT n) (KN (n 4 + 4) a2 (n 7) j) (NN a2 (n 7) j) a3 v) 3 i (fun j => n (17 + j)) (fun j => n2 (17 + j)) q) ∧ (¬ P → q.toInt = -1 ∧ n2 = n)) (ha : ANW A n) : ANW A2 n2 := by
  obtain ⟨o, s, cl, ec, ag, rb, hb, sa, r0, r8⟩ := hx
  by_cases p : P
  · have a := (h o).1 p
    rw [ec, rb, ea, ed] at a
    refine STR_det ?_ i ha a ((h2 s).1 p)
    intro j v v2 x y
    exact STQ_one (STQ_agr ag x) y
  · rw [hz ((h o).2 p).2, ((h2 s).2 p).2]
    exact ha
theorem A_image {X U : bT8} {Y V : bT9} {a : Int32} (hn : ANW (b2g_answers (b8g_now X)) (b9g_now Y)) (hk : ANW (b2g_answers (b8g_kept X)) (b9g_images Y)) (fl : (b8g_isKept X).toInt = (b9g_hasImage Y).toInt) (c1 : a.toInt ≠ 0 → MEQ (b8g_kept U) (b8g_now X) ∧ b8g_now U = b8g_now X) (c2 : a.toInt = 0 → (b8g_isKept X).toInt = 0 → b8g_now U = b8g_now X ∧ b8g_kept U = b8g_kept X) (c3 : a.toInt = 0 → (b8g_isKept X).toInt ≠ 0 → MEQ (b8g_now U) (b8g_kept X) ∧ b8g_kept U = b8g_kept X) (m1 : a.toInt ≠ 0 ∨ (b9g_hasImage Y).toInt ≠ 0 → IMG Y V a 23 144) (m2 : a.toInt = 0 → (b9g_hasImage Y).toInt = 0 → b9g_now V = b9g_now Y ∧ b9g_keys V = b9g_keys Y ∧ b9g_lengths V = b9g_lengths Y ∧ b9g_images V = b9g_images Y ∧ b9g_keyImages V = b9g_keyImages Y ∧ b9g_lengthImages V = b9g_lengthImages Y) : ANW (b2g_answers (b8g_now U)) (b9g_now V) ∧ ANW (b2g_answers (b8g_kept U)) (b9g_images V) := by
  by_cases ha : a.toInt = 0
  · have a0 : a = 0 := Int32.toInt_inj.mp ha
    by_cases hz : (b8g_isKept X).toInt = 0
    · obtain ⟨p1, p2⟩ := c2 ha hz
      obtain ⟨q1, _, _, q4, _, _⟩ := m2 ha (by rw [← fl]; exact hz)
      rw [p1, p2, q1, q4]
      exact ⟨hn, hk⟩
    · obtain ⟨p1, p2⟩ := c3 ha hz
      obtain ⟨q1, _, _, q4, _⟩ := (m1 (Or.inr (by rw [← fl]; exact hz))).2 a0
      rw [p2, q1]
      refine ⟨fun j hj => ?_, hk⟩
      rw [p1.2.2.2.1 j hj, q4 (17 + j) (by omega)]
      exact hk j hj
  · have a0 : ¬ a = 0 := fun e => ha (by rw [e]; rfl)
    obtain ⟨p1, p2⟩ := c1 ha
    obtain ⟨q1, _, _, q4, _⟩ := (m1 (Or.inl ha)).1 a0
    rw [p2, q1]
    refine ⟨hn, fun j hj => ?_⟩
    rw [p1.2.2.2.1 j hj, q4 (17 + j) (by omega)]
    exact hn j hj
theorem C_acc {A n : Nat → Int32} {a r q : Int32} (ha : ANW A n) (h : (0 ≤ a.toInt ∧ a.toInt ≤ 5 → r = A a.toNatClampNeg) ∧ (¬ (0 ≤ a.toInt ∧ a.toInt ≤ 5) → r.toInt = -1)) (h2 : (0 ≤ a.toInt ∧ a.toInt ≤ 5 → q = n (17 + a.toNatClampNeg)) ∧ (¬ (0 ≤ a.toInt ∧ a.toInt ≤ 5) → q.toInt = -1)) : r.toInt = q.toInt := by
  by_cases p : 0 ≤ a.toInt ∧ a.toInt ≤ 5
  · have c := pt_clamp p.1
    rw [h.1 p, h2.1 p, ha _ (by omega)]
  · rw [h.2 p, h2.2 p]
theorem A_start : ANW (b2g_answers (b8g_now bi8)) (b9g_now bi9) ∧ ANW (b2g_answers (b8g_kept bi8)) (b9g_images bi9) := ⟨fun j _ => rfl, fun j _ => rfl⟩
/-! keys that came since -/
def NIN (f : Nat → Int64) (g : Nat → Int32) (F : Nat → Int64) (G : Nat → Int32) (C : Int) (i : Nat) : Prop := ∀ j : Nat, (j : Int) < C → ¬ (F j = f i ∧ G j = g i)
theorem NIN_num {f F : Nat → Int64} {g G : Nat → Int32} {C r : Int} {i : Nat} {k : Int64} {n : Int32} (ek : k = f i) (en : n = g i) (h : NUM F G C k n r) : (r = -1 ↔ NIN f g F G C i) := by
  rw [ek, en] at h
  rcases h with ⟨a, b, c⟩ | ⟨a, b⟩
  · refine ⟨fun e => by omega, fun q => absurd (c r.toNat (by omega)) (q r.toNat (by omega))⟩
  · exact ⟨fun _ => b, fun _ => a⟩
theorem NIN_agr {f f2 F F2 : Nat → Int64} {g g2 G G2 : Nat → Int32} {c C : Int} (e : ∀ j : Nat, (j : Int) < c → f2 j = f j ∧ g2 j = g j) (e2 : ∀ j : Nat, (j : Int) < C → F2 j = F j ∧ G2 j = G j) {i : Nat} (hi : (i : Int) < c) : NIN f2 g2 F2 G2 C i ↔ NIN f g F G C i := by
  unfold NIN
  rw [(e i hi).1, (e i hi).2]
  constructor
  · intro h j hj q
    exact h j hj (by rw [(e2 j hj).1, (e2 j hj).2]; exact q)
  · intro h j hj q
    rw [(e2 j hj).1, (e2 j hj).2] at q
    exact h j hj q
theorem NBT_rng {n : Nat → Int32} (h : 0 ≤ (n 12).toInt ∧ (n 12).toInt ≤ 8) : 0 ≤ (NBT n).toInt ∧ (NBT n).toInt ≤ 8 := by
  unfold NBT
  by_cases c : n 15 ≤ (1 : Int32)
  · rw [if_pos c]
    exact ⟨by decide, by decide⟩
  · rw [if_neg c]
    exact h
theorem C_since {X : bT1} {n : Nat → Int32} {f : Nat → Int64} {g : Nat → Int32} {K : bT0} {ks : Nat → Int64} {ls : Nat → Int32} {a r q : Int32} (hm : KRL K ks ls (n 8)) (h8 : 0 ≤ (n 8).toInt) (hx : LFP X n f g) (h : LVO X ∧ SRT (b0g_bytes K) (b0g_lengths K) (b0g_count K).toInt → (a.toInt = 0 → r.toInt = CTP (NIN (b0g_bytes K) (b0g_lengths K) (b0g_bytes (b1g_owners X)) (b0g_lengths (b1g_owners X)) (b0g_count (b1g_owners X)).toInt) (b0g_count K).toInt.toNat) ∧ (a.toInt = 1 → r.toInt = CTP (fun i => VRD (b0g_bytes (b1g_owners X)) (b0g_lengths (b1g_owners X)) (b0g_count (b1g_owners X)).toInt (b1g_realBits X) (b1g_salt X) (b1g_hashBits X) (b0g_bytes K i) (b0g_lengths K i) 2) (b0g_count K).toInt.toNat) ∧ (a.toInt = 2 → r.toInt = CTP (NIN (b0g_bytes (b1g_owners X)) (b0g_lengths (b1g_owners X)) (b0g_bytes K) (b0g_lengths K) (b0g_count K).toInt) (b0g_count (b1g_owners X)).toInt.toNat) ∧ (¬ (0 ≤ a.toInt ∧ a.toInt ≤ 2) → r.toInt = -1)) (h2 : SRT ks ls (n 8).toInt ∧ SRT f g (n 9).toInt ∧ CLN f g (n 9).toInt → (a.toInt = 0 → q.toInt = CTP (NIN ks ls f g (n 9).toInt) (n 8).toInt.toNat) ∧ (a.toInt = 1 → q.toInt = CTP (fun i => NIN ks ls f g (n 9).toInt i ∧ MAY f g (n 9).toInt (NBT n) (n 16) (HBT n) (ks i) (ls i) 1) (n 8).toInt.toNat) ∧ (a.toInt = 2 → q.toInt = CTP (NIN f g ks ls (n 8).toInt) (n 9).toInt.toNat) ∧ (¬ (0 ≤ a.toInt ∧ a.toInt ≤ 2) → q.toInt = -1)) : r.toInt = q.toInt := by
  have s1 := KRL_s1 hm
  have s2 := KRL_s2 hm
  obtain ⟨e1, e2, _⟩ := hm
  obtain ⟨o, s, cl, ec, ag, rb, hb, sa, r0, r8⟩ := hx
  have x := h ⟨o, s1⟩
  have y := h2 ⟨s2, s, cl⟩
  have e2' : ∀ j : Nat, (j : Int) < (n 8).toInt → ks j = b0g_bytes K j ∧ ls j = b0g_lengths K j := fun j hj => ⟨(e2 j hj).1.symm, (e2 j hj).2.symm⟩
  by_cases p : 0 ≤ a.toInt ∧ a.toInt ≤ 2
  · have c : a.toInt = 0 ∨ a.toInt = 1 ∨ a.toInt = 2 := by omega
    rcases c with c | c | c
    · rw [x.1 c, y.1 c, e1, ec]
      exact CTP_congr _ (fun i hi => (NIN_agr e2' ag (by omega)).symm)
    · rw [x.2.1 c, y.2.1 c, e1, ec, rb, hb, sa]
      refine CTP_congr _ (fun i hi => ?_)
      have k := e2' i (by omega)
      rw [← k.1, ← k.2]
      constructor
      · intro v
        rcases VRD_agr ag v with ⟨z, _⟩ | ⟨z, _⟩ | ⟨_, z, w⟩
        · omega
        · omega
        · exact ⟨w, z⟩
      · intro v
        exact VRD_agr (fun j hj => ⟨(ag j hj).1.symm, (ag j hj).2.symm⟩) (Or.inr (Or.inr ⟨rfl, v.2, v.1⟩))
    · rw [x.2.2.1 c, y.2.2.1 c, e1, ec]
      exact CTP_congr _ (fun i hi => (NIN_agr ag e2' (by omega)).symm)
  · rw [x.2.2.2 p, y.2.2.2 p]
/-! spread -/
def SPK (k : Int64) (n : Int32) (c : Nat) : Int64 := k ||| ((nI c).toInt64 <<< ((((56 : Int32) - ((8 : Int32) * n))).toInt64 &&& 63))
def LSO (P : Nat → Prop) (r : Int) : Prop := (r = -1 ∧ ∀ c : Nat, c < 256 → ¬ P c) ∨ (0 ≤ r ∧ r < 256 ∧ (∀ c : Nat, (c : Int) = r → P c) ∧ ∀ c : Nat, (c : Int) < r → ¬ P c)
theorem LSO_one {P P2 : Nat → Prop} {r q : Int} (e : ∀ c : Nat, c < 256 → (P c ↔ P2 c)) (h : LSO P r) (h2 : LSO P2 q) : r = q := by
  rcases h with ⟨a, b⟩ | ⟨a, b, c, d⟩
  · rcases h2 with ⟨x, y⟩ | ⟨x, y, z, w⟩
    · omega
    · exact absurd ((e q.toNat (by omega)).mpr (z q.toNat (by omega))) (b q.toNat (by omega))
  · rcases h2 with ⟨x, y⟩ | ⟨x, y, z, w⟩
    · exact absurd ((e r.toNat (by omega)).mp (c r.toNat (by omega))) (y r.toNat (by omega))
    · rcases Int.lt_trichotomy r q with l | l | l
      · exact absurd ((e r.toNat (by omega)).mp (c r.toNat (by omega))) (w r.toNat (by omega))
      · exact l
      · exact absurd ((e q.toNat (by omega)).mpr (z q.toNat (by omega))) (d q.toNat (by omega))
def SPO (P P2 : Nat → Prop) (a r : Int) : Prop := (a = 0 → r = CTP P 256) ∧ (a = 1 → r = CTP P2 256) ∧ (a = 2 → LSO P r)
theorem C_spread {X : bT1} {n : Nat → Int32} {f : Nat → Int64} {g : Nat → Int32} {k : Int64} {m m1 : Int32} {B : Prop} {a r q : Int} (hx : LFP X n f g) (hB : B → 0 ≤ a ∧ a ≤ 2) (h : LVO X → (B → SPO (fun c => MAY (b0g_bytes (b1g_owners X)) (b0g_lengths (b1g_owners X)) (b0g_count (b1g_owners X)).toInt (b1g_realBits X) (b1g_salt X) (b1g_hashBits X) (SPK k m c) m1 1) (fun c => VRD (b0g_bytes (b1g_owners X)) (b0g_lengths (b1g_owners X)) (b0g_count (b1g_owners X)).toInt (b1g_realBits X) (b1g_salt X) (b1g_hashBits X) (SPK k m c) m1 2) a r) ∧ (¬ B → r = -1)) (h2 : SRT f g (n 9).toInt ∧ CLN f g (n 9).toInt → (B → SPO (fun c => MAY f g (n 9).toInt (NBT n) (n 16) (HBT n) (SPK k m c) m1 1) (fun c => VRD f g (n 9).toInt (NBT n) (n 16) (HBT n) (SPK k m c) m1 2) a q) ∧ (¬ B → q = -1)) : r = q := by
  obtain ⟨o, s, cl, ec, ag, rb, hb, sa, r0, r8⟩ := hx
  have ga : ∀ j : Nat, (j : Int) < (n 9).toInt → b0g_bytes (b1g_owners X) j = f j ∧ b0g_lengths (b1g_owners X) j = g j := fun j hj => ⟨(ag j hj).1.symm, (ag j hj).2.symm⟩
  by_cases p : B
  · have x := (h o).1 p
    have y := (h2 ⟨s, cl⟩).1 p
    rw [ec, rb, hb, sa] at x
    have b := hB p
    have c : a = 0 ∨ a = 1 ∨ a = 2 := by omega
    rcases c with c | c | c
    · rw [x.1 c, y.1 c]
      exact CTP_congr _ (fun i _ => ⟨fun z => MAY_agr ag z, fun z => MAY_agr ga z⟩)
    · rw [x.2.1 c, y.2.1 c]
      exact CTP_congr _ (fun i _ => ⟨fun z => VRD_agr ag z, fun z => VRD_agr ga z⟩)
    · exact LSO_one (fun i _ => ⟨fun z => MAY_agr ag z, fun z => MAY_agr ga z⟩) (x.2.2 c) (y.2.2 c)
  · rw [(h o).2 p, (h2 ⟨s, cl⟩).2 p]
/-! how many keys: cover, loose, free -/
def KU (v : Nat) : Int64 := (UInt64.ofNat v).toInt64
theorem KU_ub {x : Int64} {v : Nat} (h : ub x = v) : x = KU v := by
  have l := ub_lt x
  rw [h] at l
  refine ub_inj ?_
  rw [h]
  show v = (BitVec.ofNat 64 v).toNat
  rw [BitVec.toNat_ofNat, Nat.mod_eq_of_lt (by omega)]
theorem nI_ofN {x : Int32} {l : Nat} (h : x.toInt = (l : Int)) : x = nI l := by
  have e := nI_back (x := x) (by omega)
  rw [show x.toInt.toNat = l by omega] at e
  exact e.symm
theorem i64_add0 (x : Int64) : x + 0 = x := by
  first
    | exact Int64.add_zero x
    | simp
def SHK (k : Int64) (m : Int32) : Int64 := ((k).toUInt64 >>> ((((64 : Int32) - ((8 : Int32) * m))).toInt64.toUInt64 &&& Int64.toUInt64 63)).toInt64
def CAH (k : Int64) (n m : Int32) : Int64 := if n.toInt ≤ m.toInt then SHK k m else SHK k m + 1
def CUP (k : Int64) (n m : Int32) : Int64 := if n.toInt < m.toInt then SHK k m else SHK k m + 1
theorem fx_countAhead {a0 : Int64} {a2 a3 : Int32} {Q : Int64 → Prop} (hq : Q (CAH a0 a2 a3)) : wp_X8_countAhead a0 a2 a3 Q := by
  unfold wp_X8_countAhead
  refine ⟨fun c => ?_, fun c => ?_⟩
  · have c' : a2.toInt ≤ a3.toInt := by simp only [pn] at c; omega
    unfold CAH at hq
    rw [if_pos c'] at hq
    rw [i64_add0]
    exact hq
  · have c' : ¬ a2.toInt ≤ a3.toInt := by simp only [pn] at c; omega
    unfold CAH at hq
    rw [if_neg c'] at hq
    exact hq
theorem fx_countUpTo {a0 : Int64} {a2 a3 : Int32} {Q : Int64 → Prop} (hq : Q (CUP a0 a2 a3)) : wp_X8_countUpTo a0 a2 a3 Q := by
  unfold wp_X8_countUpTo
  refine ⟨fun c => ?_, fun c => ?_⟩
  · have c' : a2.toInt < a3.toInt := by simp only [pn] at c; omega
    unfold CUP at hq
    rw [if_pos c'] at hq
    rw [i64_add0]
    exact hq
  · have c' : ¬ a2.toInt < a3.toInt := by simp only [pn] at c; omega
    unfold CUP at hq
    rw [if_neg c'] at hq
    exact hq
theorem fx9_lessKeys {S : bT9} {a1 : Int64} {a3 a4 : Int32} {Q : Int64 → Prop} (hq : ∀ r : Int64, (a4.toInt ≤ 7 → r = CAH a1 a3 a4) → Q r) : wp_X9_lessKeys S a1 a3 a4 Q := by
  unfold wp_X9_lessKeys wp_X9_lessKeys_21
  refine ⟨fun _ => ⟨fun c => hq _ (fun _ => ?_), fun c => hq _ (fun _ => ?_)⟩, fun c => ⟨fun _ => hq _ (fun h => ?_), fun _ => hq _ (fun h => ?_)⟩⟩
  · have c' : a3.toInt ≤ a4.toInt := by simp only [pn] at c; omega
    unfold CAH
    rw [if_pos c']
    rfl
  · have c' : ¬ a3.toInt ≤ a4.toInt := by simp only [pn] at c; omega
    unfold CAH
    rw [if_neg c']
    rfl
  · rw [c] at h
    exact absurd h (by decide)
  · rw [c] at h
    exact absurd h (by decide)
theorem fx9_notMoreKeys {S : bT9} {a1 : Int64} {a3 a4 : Int32} {Q : Int64 → Prop} (hq : ∀ r : Int64, (a4.toInt ≤ 7 → r = CUP a1 a3 a4) → Q r) : wp_X9_notMoreKeys S a1 a3 a4 Q := by
  unfold wp_X9_notMoreKeys
  refine fx9_lessKeys (fun r1 h1 => ⟨fun c => hq _ (fun h => ?_), fun c => hq _ (fun h => ?_)⟩)
  · have ne : a3.toInt ≠ a4.toInt := fun e => c (Int32.toInt_inj.mp e)
    rw [h1 h, i64_add0]
    unfold CAH CUP
    by_cases k : a3.toInt < a4.toInt
    · rw [if_pos k, if_pos (show a3.toInt ≤ a4.toInt by omega)]
    · rw [if_neg k, if_neg (show ¬ a3.toInt ≤ a4.toInt by omega)]
  · have e' := congrArg Int32.toInt c
    rw [h1 h]
    unfold CAH CUP
    rw [if_pos (show a3.toInt ≤ a4.toInt by omega), if_neg (show ¬ a3.toInt < a4.toInt by omega)]
noncomputable def COV (f : Nat → Int64) (g : Nat → Int32) (c : Int) (rb m : Int32) : Nat → Int64
  | 0 => 0
  | i + 1 => COV f g c rb m i + CUP (KU (HIV f g c rb i)) (nI (HIL f g c i)) m - CAH (KU (LOV f g c rb i)) (nI (LOL f g c rb i)) m
theorem COV_agr {f f2 : Nat → Int64} {g g2 : Nat → Int32} {c : Int} (e : ∀ j : Nat, (j : Int) < c → f2 j = f j ∧ g2 j = g j) {rb m : Int32} : ∀ k : Nat, (k : Int) ≤ c → COV f2 g2 c rb m k = COV f g c rb m k := by
  intro k
  induction k with
  | zero => intro _; rfl
  | succ k ih =>
    intro h
    obtain ⟨q1, q2, q3, q4⟩ := LOV_agr e (rb := rb) (i := k) (by omega)
    show COV f2 g2 c rb m k + CUP (KU (HIV f2 g2 c rb k)) (nI (HIL f2 g2 c k)) m - CAH (KU (LOV f2 g2 c rb k)) (nI (LOL f2 g2 c rb k)) m = COV f g c rb m k + CUP (KU (HIV f g c rb k)) (nI (HIL f g c k)) m - CAH (KU (LOV f g c rb k)) (nI (LOL f g c rb k)) m
    rw [q1, q2, q3, q4, ih (by omega)]
theorem COV_s {f : Nat → Int64} {g : Nat → Int32} {c : Int} {rb m : Int32} {i : Nat} {x kh kl : Int64} {nh nl : Int32} (h1 : ub kl = LOV f g c rb i) (h2 : nl.toInt = (LOL f g c rb i : Nat)) (h3 : ub kh = HIV f g c rb i) (h4 : nh.toInt = (HIL f g c i : Nat)) (hx : x = COV f g c rb m i) : x + CUP kh nh m - CAH kl nl m = COV f g c rb m (i + 1) := by
  rw [hx, KU_ub h1, nI_ofN h2, KU_ub h3, nI_ofN h4]
  rfl
theorem lg_same {r q : Int64} (h : r = q) : (lg_cmp r q).toInt = 0 := by
  rw [(lg_cmp_eq r q).mpr h]
  rfl
theorem C_cover {X : bT1} {n : Nat → Int32} {f : Nat → Int64} {g : Nat → Int32} {m : Int32} {B : Prop} {r q : Int64} (hx : LFP X n f g) (h : LVO X → (B → r = COV (b0g_bytes (b1g_owners X)) (b0g_lengths (b1g_owners X)) (b0g_count (b1g_owners X)).toInt (b1g_realBits X) m (b0g_count (b1g_owners X)).toInt.toNat) ∧ (¬ B → r = -1)) (h2 : SRT f g (n 9).toInt → (B → q = COV f g (n 9).toInt (NBT n) m (n 9).toInt.toNat) ∧ (¬ B → q = -1)) (h0 : 0 ≤ (n 9).toInt) : (lg_cmp r q).toInt = 0 := by
  obtain ⟨o, s, cl, ec, ag, rb, hb, sa, r0, r8⟩ := hx
  refine lg_same ?_
  by_cases p : B
  · have x := (h o).1 p
    rw [ec, rb] at x
    rw [x, (h2 s).1 p]
    exact (COV_agr ag _ (by omega)).symm
  · rw [(h o).2 p, (h2 s).2 p]
/-! loose -/
def LSE (x : Int64) (g : Nat → Int32) (m : Int32) : Nat → Int64
  | 0 => x
  | i + 1 => if g i = m then LSE x g m i - 1 else LSE x g m i
theorem LSE_y {x : Int64} {g : Nat → Int32} {m : Int32} {i : Nat} (h : g i = m) : LSE x g m (i + 1) = LSE x g m i - 1 := if_pos h
theorem LSE_n {x : Int64} {g : Nat → Int32} {m : Int32} {i : Nat} (h : ¬ g i = m) : LSE x g m (i + 1) = LSE x g m i := if_neg h
theorem LSE_agr {x : Int64} {g g2 : Nat → Int32} {m : Int32} : ∀ k : Nat, (∀ j : Nat, j < k → g2 j = g j) → LSE x g2 m k = LSE x g m k := by
  intro k
  induction k with
  | zero => intro _; rfl
  | succ k ih =>
    intro h
    by_cases e : g k = m
    · rw [LSE_y e, LSE_y ((h k (by omega)).trans e), ih (fun j hj => h j (by omega))]
    · rw [LSE_n e, LSE_n (fun q => e ((h k (by omega)).symm.trans q)), ih (fun j hj => h j (by omega))]
theorem i64_sub0 (x : Int64) : x - 0 = x := by
  first
    | exact Int64.sub_zero x
    | simp
theorem i64_ss (x a : Int64) : x - (a + 1) = x - a - 1 := by
  refine Int64.toBitVec_inj.mp ?_
  rw [Int64.toBitVec_sub, Int64.toBitVec_sub, Int64.toBitVec_sub, Int64.toBitVec_add]
  bv_omega
theorem i64_up {r : Int32} (h0 : 0 ≤ r.toInt) (h : r.toInt < 2147483647) : (r + 1).toInt64 = r.toInt64 + 1 := by
  have e : (r + 1).toInt = r.toInt + 1 := by rw [pt_add (by rw [pl_1]; omega) (by rw [pl_1]; omega), pl_1]
  refine ub_inj ?_
  have a := ub_ext (o := r + 1) (by omega)
  have b := ub_ext (o := r) h0
  have d : ub (1 : Int64) = 1 := by decide
  rw [a, ub_add (by rw [b, d]; omega), b, d]
  omega
theorem LSE_num {x : Int64} {g : Nat → Int32} {m : Int32} {i : Nat} {r : Int32} (h0 : 0 ≤ r.toInt) (h : r.toInt ≤ (i : Int)) (hi : (i : Int) < 64) (e : x - r.toInt64 = LSE x g m i) (k : g i = m) : x - (r + 1).toInt64 = LSE x g m (i + 1) := by
  rw [LSE_y k, ← e, i64_up h0 (by omega), i64_ss]
theorem C_loose {X : bT1} {n : Nat → Int32} {f : Nat → Int64} {g : Nat → Int32} {m : Int32} {B : Prop} {r q : Int64} (hx : LFP X n f g) (h : LVO X → (B → r = LSE (COV (b0g_bytes (b1g_owners X)) (b0g_lengths (b1g_owners X)) (b0g_count (b1g_owners X)).toInt (b1g_realBits X) m (b0g_count (b1g_owners X)).toInt.toNat) (b0g_lengths (b1g_owners X)) m (b0g_count (b1g_owners X)).toInt.toNat) ∧ (¬ B → r = -1)) (h2 : SRT f g (n 9).toInt → (B → q = LSE (COV f g (n 9).toInt (NBT n) m (n 9).toInt.toNat) g m (n 9).toInt.toNat) ∧ (¬ B → q = -1)) (h0 : 0 ≤ (n 9).toInt) : (lg_cmp r q).toInt = 0 := by
  obtain ⟨o, s, cl, ec, ag, rb, hb, sa, r0, r8⟩ := hx
  refine lg_same ?_
  by_cases p : B
  · have x := (h o).1 p
    rw [ec, rb] at x
    rw [x, (h2 s).1 p, ← COV_agr ag _ (by omega)]
    exact LSE_agr _ (fun j hj => (ag j (by omega)).2.symm)
  · rw [(h o).2 p, (h2 s).2 p]
/-! free -/
noncomputable def FRE (f : Nat → Int64) (g : Nat → Int32) (c : Int) (rb : Int32) (i m : Int32) : Int64 := (if i.toInt = c then (1 : Int64) <<< ((((8 : Int32) * m)).toInt64 &&& 63) else CAH (KU (LOV f g c rb i.toInt.toNat)) (nI (LOL f g c rb i.toInt.toNat)) m) - (if i.toInt = 0 then 0 else CUP (KU (HIV f g c rb (i.toInt.toNat - 1))) (nI (HIL f g c (i.toInt.toNat - 1))) m)
theorem FRE_agr {f f2 : Nat → Int64} {g g2 : Nat → Int32} {c : Int} (e : ∀ j : Nat, (j : Int) < c → f2 j = f j ∧ g2 j = g j) {rb i m : Int32} (h0 : 0 ≤ i.toInt) (h1 : i.toInt ≤ c) : FRE f2 g2 c rb i m = FRE f g c rb i m := by
  unfold FRE
  by_cases a : i.toInt = c
  · rw [if_pos a, if_pos a]
    by_cases b : i.toInt = 0
    · rw [if_pos b, if_pos b]
    · rw [if_neg b, if_neg b]
      obtain ⟨q1, q2, q3, q4⟩ := LOV_agr e (rb := rb) (i := i.toInt.toNat - 1) (by omega)
      rw [q3, q4]
  · rw [if_neg a, if_neg a]
    obtain ⟨w1, w2, w3, w4⟩ := LOV_agr e (rb := rb) (i := i.toInt.toNat) (by omega)
    rw [w1, w2]
    by_cases b : i.toInt = 0
    · rw [if_pos b, if_pos b]
    · rw [if_neg b, if_neg b]
      obtain ⟨q1, q2, q3, q4⟩ := LOV_agr e (rb := rb) (i := i.toInt.toNat - 1) (by omega)
      rw [q3, q4]
theorem FRE_s {f : Nat → Int64} {g : Nat → Int32} {c : Int} {rb i m : Int32} {x y : Int64} (ha : i.toInt = c → x = (1 : Int64) <<< ((((8 : Int32) * m)).toInt64 &&& 63)) (hb : ¬ i.toInt = c → ∃ (k : Int64) (l : Int32), x = CAH k l m ∧ ub k = LOV f g c rb i.toInt.toNat ∧ l.toInt = (LOL f g c rb i.toInt.toNat : Nat)) (hc : i.toInt = 0 → y = 0) (hd : ¬ i.toInt = 0 → ∃ (k : Int64) (l : Int32), y = CUP k l m ∧ ub k = HIV f g c rb (i.toInt.toNat - 1) ∧ l.toInt = (HIL f g c (i.toInt.toNat - 1) : Nat)) : x - y = FRE f g c rb i m := by
  unfold FRE
  have ex : x = (if i.toInt = c then (1 : Int64) <<< ((((8 : Int32) * m)).toInt64 &&& 63) else CAH (KU (LOV f g c rb i.toInt.toNat)) (nI (LOL f g c rb i.toInt.toNat)) m) := by
    by_cases a : i.toInt = c
    · rw [if_pos a]; exact ha a
    · rw [if_neg a]
      obtain ⟨k, l, e, e1, e2⟩ := hb a
      rw [e, ← KU_ub e1, ← nI_ofN e2]
  have ey : y = (if i.toInt = 0 then 0 else CUP (KU (HIV f g c rb (i.toInt.toNat - 1))) (nI (HIL f g c (i.toInt.toNat - 1))) m) := by
    by_cases a : i.toInt = 0
    · rw [if_pos a]; exact hc a
    · rw [if_neg a]
      obtain ⟨k, l, e, e1, e2⟩ := hd a
      rw [e, ← KU_ub e1, ← nI_ofN e2]
  rw [← ex, ← ey]
theorem C_free {X : bT1} {n : Nat → Int32} {f : Nat → Int64} {g : Nat → Int32} {i m : Int32} {r q : Int64} (hx : LFP X n f g) (h : LVO X → (((0 ≤ i.toInt ∧ i.toInt ≤ (b0g_count (b1g_owners X)).toInt) ∧ 1 ≤ m.toInt ∧ m.toInt ≤ 7) → r = FRE (b0g_bytes (b1g_owners X)) (b0g_lengths (b1g_owners X)) (b0g_count (b1g_owners X)).toInt (b1g_realBits X) i m) ∧ (¬ ((0 ≤ i.toInt ∧ i.toInt ≤ (b0g_count (b1g_owners X)).toInt) ∧ 1 ≤ m.toInt ∧ m.toInt ≤ 7) → r = -1)) (h2 : SRT f g (n 9).toInt → (((0 ≤ i.toInt ∧ i.toInt ≤ (n 9).toInt) ∧ 1 ≤ m.toInt ∧ m.toInt ≤ 7) → q = FRE f g (n 9).toInt (NBT n) i m) ∧ (¬ ((0 ≤ i.toInt ∧ i.toInt ≤ (n 9).toInt) ∧ 1 ≤ m.toInt ∧ m.toInt ≤ 7) → q = -1)) : (lg_cmp r q).toInt = 0 := by
  obtain ⟨o, s, cl, ec, ag, rb, hb, sa, r0, r8⟩ := hx
  refine lg_same ?_
  have x := h o
  rw [ec, rb] at x
  by_cases p : (0 ≤ i.toInt ∧ i.toInt ≤ (n 9).toInt) ∧ 1 ≤ m.toInt ∧ m.toInt ≤ 7
  · rw [x.1 p, (h2 s).1 p]
    exact (FRE_agr ag p.1.1 p.1.2).symm
  · rw [x.2 p, (h2 s).2 p]
