def bt (x : Int32) (i : Nat) : Bool := x.toBitVec.getLsbD i
theorem b_ext {x y : Int32} (h : ∀ i, i < 32 → bt x i = bt y i) : x = y := Int32.toBitVec_inj.mp (BitVec.eq_of_getLsbD_eq (fun i hi => h i hi))
theorem b_or (x y : Int32) (i : Nat) : bt (x ||| y) i = (bt x i || bt y i) := by unfold bt; rw [Int32.toBitVec_or, BitVec.getLsbD_or]
theorem b_and (x y : Int32) (i : Nat) : bt (x &&& y) i = (bt x i && bt y i) := by unfold bt; rw [Int32.toBitVec_and, BitVec.getLsbD_and]
theorem b_xor (x y : Int32) (i : Nat) : bt (x ^^^ y) i = (bt x i ^^ bt y i) := by unfold bt; rw [Int32.toBitVec_xor, BitVec.getLsbD_xor]
theorem b_big {x : Int32} {i : Nat} (h : 32 ≤ i) : bt x i = false := BitVec.getLsbD_of_ge _ _ h
theorem b_255 (i : Nat) : bt 255 i = decide (i < 8) := by
  rcases Nat.lt_or_ge i 32 with h | h
  · exact (by decide +kernel : ∀ i, i < 32 → bt 255 i = decide (i < 8)) i h
  · rw [b_big h, decide_eq_false (by omega)]
theorem b_65535 (i : Nat) : bt 65535 i = decide (i < 16) := by
  rcases Nat.lt_or_ge i 32 with h | h
  · exact (by decide +kernel : ∀ i, i < 32 → bt 65535 i = decide (i < 16)) i h
  · rw [b_big h, decide_eq_false (by omega)]
theorem b_m1 : ∀ i, i < 32 → bt (-1) i = true := by decide +kernel
theorem b_0 (i : Nat) : bt 0 i = false := BitVec.getLsbD_zero
theorem s_l : ∀ n, n < 32 → ((nI n &&& 31).toBitVec.smod 32).toNat = n := by decide +kernel
theorem s_u : ∀ n, n < 32 → (((nI n).toUInt32 &&& Int32.toUInt32 31).toBitVec % 32).toNat = n := by decide +kernel
theorem b_shl (n : Nat) (hn : n < 32) (x : Int32) {i : Nat} (hi : i < 32) : bt (x <<< (nI n &&& 31)) i = (decide (n ≤ i) && bt x (i - n)) := by
  unfold bt
  rw [Int32.toBitVec_shiftLeft]
  show (x.toBitVec <<< ((nI n &&& 31).toBitVec.smod 32).toNat).getLsbD i = _
  rw [s_l n hn, BitVec.getLsbD_shiftLeft]
  rcases Nat.lt_or_ge i n with h | h
  · simp [h, Nat.not_le.mpr h]
  · simp [hi, h, Nat.not_lt.mpr h]
theorem b_ushr (n : Nat) (hn : n < 32) (x : Int32) (i : Nat) : bt ((x.toUInt32 >>> ((nI n).toUInt32 &&& Int32.toUInt32 31)).toInt32) i = bt x (n + i) := by
  show (x.toUInt32 >>> ((nI n).toUInt32 &&& Int32.toUInt32 31)).toBitVec.getLsbD i = x.toUInt32.toBitVec.getLsbD (n + i)
  rw [UInt32.toBitVec_shiftRight]
  show (x.toUInt32.toBitVec >>> (((nI n).toUInt32 &&& Int32.toUInt32 31).toBitVec % 32).toNat).getLsbD i = _
  rw [s_u n hn, BitVec.getLsbD_ushiftRight]
theorem b_sshr (n : Nat) (hn : n < 32) (x : Int32) {i : Nat} (hi : i < 32) : bt (x >>> (nI n &&& 31)) i = if n + i < 32 then bt x (n + i) else bt x 31 := by
  unfold bt
  rw [Int32.toBitVec_shiftRight]
  show (x.toBitVec.sshiftRight ((nI n &&& 31).toBitVec.smod 32).toNat).getLsbD i = _
  rw [s_l n hn, BitVec.getLsbD_sshiftRight, BitVec.msb_eq_getLsbD_last]
  simp [hi]
theorem sh255 {n : Nat} (hn : n ≤ 24) (x : Int32) : (x >>> (nI n &&& 31)) &&& 255 = ((x.toUInt32 >>> ((nI n).toUInt32 &&& Int32.toUInt32 31)).toInt32) &&& 255 := by
  apply b_ext
  intro i hi
  rw [b_and, b_and, b_255, b_sshr n (by omega) x hi, b_ushr n (by omega) x i]
  by_cases h : i < 8
  · rw [if_pos (by omega)]
  · simp [h]
def byt (a : Int32) (i : Nat) : Int32 := ((a.toUInt32 >>> ((nI (24 - 8 * i)).toUInt32 &&& Int32.toUInt32 31)).toInt32) &&& 255
theorem byt_s {a : Int32} {i : Nat} : (a >>> (nI (24 - 8 * i) &&& 31)) &&& 255 = byt a i := sh255 (by omega) a
def PF (f : Nat → Int32) (c : Int) (a : Int32) (i : Nat) (g : Nat → Int32) : Prop := (∀ j : Nat, (j : Int) < c → g j = f j) ∧ ∀ q : Nat, q < i → ∀ j : Nat, (j : Int) = c + q → g j = byt a q
theorem PF_0 {f : Nat → Int32} {c : Int} {a : Int32} : PF f c a 0 f := ⟨fun _ _ => rfl, fun q hq => by omega⟩
theorem PF_s {f g : Nat → Int32} {c : Int} {a x v : Int32} {i : Nat} (h : PF f c a i g) (hx : x.toInt = c + i) (h0 : 0 ≤ c) (hv : v = byt a i) : PF f c a (i + 1) (upd g x.toNatClampNeg v) := by
  have e := pt_clamp (i := x) (by omega)
  refine ⟨fun j hj => ?_, fun q hq j hj => ?_⟩
  · unfold upd
    rw [if_neg (by omega)]
    exact h.1 j hj
  · unfold upd
    by_cases hh : j = x.toNatClampNeg
    · rw [if_pos hh, hv]
      have : q = i := by omega
      rw [this]
    · rw [if_neg hh]
      exact h.2 q (by omega) j hj
theorem PF_eq {f f2 g g2 : Nat → Int32} {c : Int} {a : Int32} (h : PF f c a 4 g) (h2 : PF f2 c a 4 g2) (e : ∀ j : Nat, (j : Int) < c → f j = f2 j) : ∀ j : Nat, (j : Int) < c + 4 → g j = g2 j := by
  intro j hj
  by_cases hc : (j : Int) < c
  · rw [h.1 j hc, h2.1 j hc]
    exact e j hc
  · have q : ∃ q : Nat, q < 4 ∧ (j : Int) = c + q := ⟨((j : Int) - c).toNat, by omega, by omega⟩
    obtain ⟨q, hq, hjq⟩ := q
    rw [h.2 q hq j hjq, h2.2 q hq j hjq]
def PF5 (f : Nat → Int32) (c : Int) (a1 a2 a3 a4 a5 : Int32) (g : Nat → Int32) : Prop := ∃ g1 g2 g3 g4 : Nat → Int32, PF f c a1 4 g1 ∧ PF g1 (c + 4) a2 4 g2 ∧ PF g2 (c + 8) a3 4 g3 ∧ PF g3 (c + 12) a4 4 g4 ∧ PF g4 (c + 16) a5 4 g
theorem PF5_eq {f f2 g g2 : Nat → Int32} {c : Int} {a1 a2 a3 a4 a5 : Int32} (h : PF5 f c a1 a2 a3 a4 a5 g) (h2 : PF5 f2 c a1 a2 a3 a4 a5 g2) (e : ∀ j : Nat, (j : Int) < c → f j = f2 j) : ∀ j : Nat, (j : Int) < c + 20 → g j = g2 j := by
  obtain ⟨_, _, _, _, p1, p2, p3, p4, p5⟩ := h
  obtain ⟨_, _, _, _, q1, q2, q3, q4, q5⟩ := h2
  have e1 := PF_eq p1 q1 e
  have e2 := PF_eq p2 q2 e1
  have e3 := PF_eq p3 q3 (fun j hj => e2 j (by omega))
  have e4 := PF_eq p4 q4 (fun j hj => e3 j (by omega))
  have e5 := PF_eq p5 q5 (fun j hj => e4 j (by omega))
  exact fun j hj => e5 j (by omega)
def TPE (t : bT4) (T : Nat → Int32) : Prop := ∀ j : Nat, (j : Int) < (b4g_count t).toInt → b4g_octets t j = T j
def posL (m : Nat) : Nat := [0, 5, 10, 15, 20, 27, 32, 37, 43, 49, 56].getD m 0
def sln (m : Nat) : Nat := bf_slen.getD m 0
def sbt (m j : Nat) : Int32 := (bf_sbyt.getD m []).getD j 0
def SPL (T : Nat → Int32) (n : Int32) (m : Nat) : Prop := n.toInt = (sln m : Int) ∧ ∀ j : Nat, j < sln m → T j = sbt m j
def NMD (T : Nat → Int32) (n r : Int32) : Prop := (∃ m : Nat, m < 10 ∧ r.toInt = (m : Int) ∧ SPL T n m) ∨ (r.toInt = -1 ∧ ∀ m : Nat, m < 10 → ¬ SPL T n m)
theorem nm_name : ∀ m : Nat, m < 10 → ∀ j : Nat, j < 7 → (j < sln m → nmF56 (posL m + 1 + j) = sbt m j ∧ ¬ sbt m j = 32) ∧ (j = sln m → nmF56 (posL m + 1 + j) = 32) := by decide +kernel
theorem nm_pos : ∀ m : Nat, m < 10 → posL (m + 1) = posL m + 1 + sln m ∧ posL (m + 1) ≤ 56 ∧ posL m < 56 ∧ 0 < sln m ∧ sln m < 7 := by decide +kernel
theorem nm_dist : ∀ m : Nat, m < 10 → ∀ k : Nat, k < 10 → m ≠ k → sln m ≠ sln k ∨ ∃ j : Nat, j < 7 ∧ j < sln m ∧ sbt m j ≠ sbt k j := by decide +kernel
theorem SPL_one {T : Nat → Int32} {n : Int32} {m k : Nat} (hm : m < 10) (hk : k < 10) (h : SPL T n m) (h2 : SPL T n k) : m = k := by
  apply Classical.byContradiction
  intro hne
  have e : sln m = sln k := by
    have a := h.1
    have b := h2.1
    omega
  rcases nm_dist m hm k hk hne with h3 | ⟨j, _, hj, h3⟩
  · exact h3 e
  · exact h3 ((h.2 j hj).symm.trans (h2.2 j (by omega)))
def MDE (T : Nat → Int32) (n r : Int32) : Prop := (∃ m : Nat, m < 4 ∧ r.toInt = (m : Int) ∧ SPL T n (0 + m)) ∨ (r.toInt = -1 ∧ ∀ m : Nat, m < 4 → ¬ SPL T n (0 + m))
def RWE (T : Nat → Int32) (n r : Int32) : Prop := (∃ m : Nat, m < 6 ∧ r.toInt = (m : Int) ∧ SPL T n (4 + m)) ∨ (r.toInt = -1 ∧ ∀ m : Nat, m < 6 → ¬ SPL T n (4 + m))
theorem SPL_eq {t : bT4} {T : Nat → Int32} {n : Int32} (h : TPE t T) (hc : (b4g_count t).toInt = n.toInt) (m : Nat) : SPL (b4g_octets t) (b4g_count t) m ↔ SPL T n m := by
  refine ⟨fun a => ⟨by rw [← hc]; exact a.1, fun j hj => ?_⟩, fun a => ⟨by rw [hc]; exact a.1, fun j hj => ?_⟩⟩
  · rw [← h j (by have := a.1; omega)]
    exact a.2 j hj
  · rw [h j (by have := a.1; omega)]
    exact a.2 j hj
theorem MDE_eq {t : bT4} {T : Nat → Int32} {n r r2 : Int32} (h : TPE t T) (hc : (b4g_count t).toInt = n.toInt) (h1 : MDE (b4g_octets t) (b4g_count t) r) (h2 : MDE T n r2) : r.toInt = r2.toInt := by
  rcases h1 with ⟨m, hm, e, a⟩ | ⟨e, a⟩
  · have a2 := (SPL_eq h hc _).mp a
    rcases h2 with ⟨k, hk, e2, b⟩ | ⟨e2, b⟩
    · have := SPL_one (by omega) (by omega) a2 b
      omega
    · exact absurd a2 (b m hm)
  · rcases h2 with ⟨k, hk, e2, b⟩ | ⟨e2, b⟩
    · exact absurd ((SPL_eq h hc _).mpr b) (a k hk)
    · omega
theorem RWE_eq {t : bT4} {T : Nat → Int32} {n r r2 : Int32} (h : TPE t T) (hc : (b4g_count t).toInt = n.toInt) (h1 : RWE (b4g_octets t) (b4g_count t) r) (h2 : RWE T n r2) : r.toInt = r2.toInt := by
  rcases h1 with ⟨m, hm, e, a⟩ | ⟨e, a⟩
  · have a2 := (SPL_eq h hc _).mp a
    rcases h2 with ⟨k, hk, e2, b⟩ | ⟨e2, b⟩
    · have := SPL_one (by omega) (by omega) a2 b
      omega
    · exact absurd a2 (b m hm)
  · rcases h2 with ⟨k, hk, e2, b⟩ | ⟨e2, b⟩
    · exact absurd ((SPL_eq h hc _).mpr b) (a k hk)
    · omega
theorem TPE_feed {t u : bT4} {T U : Nat → Int32} {n a1 a2 a3 a4 a5 : Int32} (h : TPE t T) (hc : (b4g_count t).toInt = n.toInt) (c2 : (b4g_count t).toInt ≤ 140 → (b4g_count u).toInt = (b4g_count t).toInt + 20) (c3 : (b4g_count t).toInt ≤ 140 → PF5 (b4g_octets t) (b4g_count t).toInt a1 a2 a3 a4 a5 (b4g_octets u)) (c4 : 140 < (b4g_count t).toInt → u = t) (m3 : n.toInt ≤ 140 → PF5 T n.toInt a1 a2 a3 a4 a5 U) (m4 : 140 < n.toInt → U = T) : TPE u U := by
  by_cases g : (b4g_count t).toInt ≤ 140
  · have p := c3 g
    have q := m3 (by omega)
    rw [← hc] at q
    have e := PF5_eq p q h
    intro j hj
    rw [c2 g] at hj
    exact e j hj
  · rw [c4 (by omega), m4 (by omega)]
    exact h
