/-! PHASE 2: pure rows for the model's tree: beginnings alike, nodes, places -/
def cutf (k : Int64) (n : Int32) : Int64 := if n = 0 then 0 else ((k.toUInt64 >>> (((64 : Int32) - ((8 : Int32) * n)).toInt64.toUInt64 &&& Int64.toUInt64 63)).toInt64) <<< (((64 : Int32) - ((8 : Int32) * n)).toInt64 &&& 63)
def AK (K : Nat → Int64) (l : Int32) (i j : Nat) : Prop := cutf (K (64 + i)) l = cutf (K (64 + j)) l
theorem AK_refl {K : Nat → Int64} {l : Int32} (i : Nat) : AK K l i i := rfl
theorem AK_symm {K : Nat → Int64} {l : Int32} {i j : Nat} (h : AK K l i j) : AK K l j i := Eq.symm h
theorem AK_trans {K : Nat → Int64} {l : Int32} {i j k : Nat} (h : AK K l i j) (h2 : AK K l j k) : AK K l i k := Eq.trans h h2
theorem sh8 (a : BitVec 64) (s : Nat) : ((a >>> s) <<< s) >>> (s + 8) = a >>> (s + 8) := by
  apply BitVec.eq_of_getLsbD_eq
  intro i hi
  rw [BitVec.getLsbD_ushiftRight, BitVec.getLsbD_ushiftRight, BitVec.getLsbD_shiftLeft, BitVec.getLsbD_ushiftRight]
  have e1 : s + (s + 8 + i - s) = s + 8 + i := by omega
  have e2 : ¬ (s + 8 + i < s) := by omega
  rw [e1]
  by_cases h : s + 8 + i < 64
  · simp [h, e2]
  · have : a.getLsbD (s + 8 + i) = false := BitVec.getLsbD_of_ge a _ (by omega)
    simp [this]
theorem sh8e {a b : BitVec 64} {s : Nat} (h : (a >>> s) <<< s = (b >>> s) <<< s) : (a >>> (s + 8)) <<< (s + 8) = (b >>> (s + 8)) <<< (s + 8) := by
  rw [← sh8 a s, ← sh8 b s, h]
theorem cutf_1 (k : Int64) : cutf k 1 = Int64.ofBitVec ((k.toBitVec >>> 56) <<< 56) := rfl
theorem cutf_2 (k : Int64) : cutf k 2 = Int64.ofBitVec ((k.toBitVec >>> 48) <<< 48) := rfl
theorem cutf_3 (k : Int64) : cutf k 3 = Int64.ofBitVec ((k.toBitVec >>> 40) <<< 40) := rfl
theorem cutf_4 (k : Int64) : cutf k 4 = Int64.ofBitVec ((k.toBitVec >>> 32) <<< 32) := rfl
theorem cutf_5 (k : Int64) : cutf k 5 = Int64.ofBitVec ((k.toBitVec >>> 24) <<< 24) := rfl
theorem cutf_6 (k : Int64) : cutf k 6 = Int64.ofBitVec ((k.toBitVec >>> 16) <<< 16) := rfl
theorem cutf_7 (k : Int64) : cutf k 7 = Int64.ofBitVec ((k.toBitVec >>> 8) <<< 8) := rfl
theorem cutf_8 (k : Int64) : cutf k 8 = Int64.ofBitVec ((k.toBitVec >>> 0) <<< 0) := rfl
theorem bvinj {a b : BitVec 64} (h : Int64.ofBitVec a = Int64.ofBitVec b) : a = b := congrArg Int64.toBitVec h
theorem AK_mono {K : Nat → Int64} {l : Int32} {i j : Nat} (h0 : 0 ≤ l.toInt) (h7 : l.toInt ≤ 7) (h : AK K (l + 1) i j) : AK K l i j := by
  have hl : l = 0 ∨ l = 1 ∨ l = 2 ∨ l = 3 ∨ l = 4 ∨ l = 5 ∨ l = 6 ∨ l = 7 := by
    simp only [← Int32.toInt_inj, pl_0, pl_1, pl_2, pl_3, pl_4, pl_5, pl_6, pl_7]
    omega
  unfold AK at h ⊢
  rcases hl with rfl | rfl | rfl | rfl | rfl | rfl | rfl | rfl
  · rfl
  · rw [show (1 + 1 : Int32) = 2 from rfl, cutf_2, cutf_2] at h
    rw [cutf_1, cutf_1, sh8e (bvinj h)]
  · rw [show (2 + 1 : Int32) = 3 from rfl, cutf_3, cutf_3] at h
    rw [cutf_2, cutf_2, sh8e (bvinj h)]
  · rw [show (3 + 1 : Int32) = 4 from rfl, cutf_4, cutf_4] at h
    rw [cutf_3, cutf_3, sh8e (bvinj h)]
  · rw [show (4 + 1 : Int32) = 5 from rfl, cutf_5, cutf_5] at h
    rw [cutf_4, cutf_4, sh8e (bvinj h)]
  · rw [show (5 + 1 : Int32) = 6 from rfl, cutf_6, cutf_6] at h
    rw [cutf_5, cutf_5, sh8e (bvinj h)]
  · rw [show (6 + 1 : Int32) = 7 from rfl, cutf_7, cutf_7] at h
    rw [cutf_6, cutf_6, sh8e (bvinj h)]
  · rw [show (7 + 1 : Int32) = 8 from rfl, cutf_8, cutf_8] at h
    rw [cutf_7, cutf_7, sh8e (bvinj h)]
theorem ix64 {a : Int32} (h0 : 0 ≤ a.toInt) (h1 : a.toInt ≤ 63) : ((64 : Int32) + a).toNatClampNeg = 64 + a.toNatClampNeg := by
  have e : ((64 : Int32) + a).toInt = 64 + a.toInt := by rw [pt_add (by rw [pl_64]; omega) (by rw [pl_64]; omega), pl_64]
  have e1 := pt_clamp (i := (64 : Int32) + a) (by omega)
  have e2 := pt_clamp h0
  omega
/-! a new node -/
theorem node_new {A : Nat → Nat → Prop} (hr : ∀ i, A i i) (hs : ∀ {i j}, A i j → A j i) (ht : ∀ {i j k}, A i j → A j k → A i k) {beg : Nat → Int} {n L f s : Int} {i : Nat} (hin : (i : Int) < n) (hb : L < beg i) (f0 : 0 ≤ f) (fi : f ≤ i) (hfl : ∀ j : Nat, f ≤ j → j < i → L ≤ beg j ∧ A j i) (s0 : 0 ≤ s) (hst : ∀ e : Nat, (e : Int) = f + s → (e : Int) < n → L ≤ beg e → ¬ A e f.toNat) : (i : Int) < f + s := by
  apply Classical.byContradiction
  intro hn
  have hfA : A f.toNat i := by
    by_cases h : f = (i : Int)
    · rw [h]; exact hr i
    · exact (hfl f.toNat (by omega) (by omega)).2
  by_cases h : f + s = (i : Int)
  · exact hst i h.symm hin (by omega) (hs hfA)
  · have q := hfl (f + s).toNat (by omega) (by omega)
    exact hst (f + s).toNat (by omega) (by omega) q.1 (ht q.2 (hs hfA))
theorem node_apart {A : Nat → Nat → Prop} (hs : ∀ {i j}, A i j → A j i) (ht : ∀ {i j k}, A i j → A j k → A i k) (hr : ∀ i, A i i) {beg : Nat → Int} {n L f f0 s0 : Int} {i : Nat} (hin : (i : Int) < n) (hb : L < beg i) (hf : 0 ≤ f) (hfl : ∀ j : Nat, f ≤ j → j < i → L ≤ beg j ∧ A j i) (h0 : 0 ≤ f0) (h1 : 1 ≤ s0) (hm : ∀ j : Nat, f0 ≤ j → (j : Int) < f0 + s0 → A j f0.toNat) (hst : ∀ e : Nat, (e : Int) = f0 + s0 → (e : Int) < n → L ≤ beg e → ¬ A e f0.toNat) (hbi : f0 + s0 ≤ i) : f0 + s0 ≤ f := by
  apply Classical.byContradiction
  intro hn
  have q1 := hfl (f0 + s0 - 1).toNat (by omega) (by omega)
  have q2 := hm (f0 + s0 - 1).toNat (by omega) (by omega)
  have q3 : L ≤ beg (f0 + s0).toNat ∧ A (f0 + s0).toNat i := by
    by_cases h : f0 + s0 = (i : Int)
    · have : (f0 + s0).toNat = i := by omega
      rw [this]; exact ⟨by omega, hr i⟩
    · exact hfl (f0 + s0).toNat (by omega) (by omega)
  exact hst (f0 + s0).toNat (by omega) (by omega) q3.1 (ht q3.2 (ht (hs q1.2) q2))
/-! nodes: members, to the left as far as they go, complete -/
def NM (K : Nat → Int64) (beg lv lf ls : Nat → Int32) (m : Int) : Prop := ∀ x : Nat, (x : Int) < m → (∀ j : Nat, (lf x).toInt ≤ j → (j : Int) < (lf x).toInt + (ls x).toInt → (lv x).toInt ≤ (beg j).toInt ∧ AK K (lv x) j (lf x).toInt.toNat) ∧ (∀ j : Nat, (j : Int) + 1 = (lf x).toInt → (lv x).toInt ≤ (beg j).toInt → ¬ AK K (lv x) j (j + 1))
def NC (beg lv lf ls : Nat → Int32) (m n L I : Int) : Prop := ∀ (l : Int) (i : Nat), 0 ≤ l → (i : Int) < n → l < (beg i).toInt → (l < L ∨ (l = L ∧ (i : Int) < I)) → ∃ y : Nat, (y : Int) < m ∧ (lv y).toInt = l ∧ (lf y).toInt ≤ i ∧ (i : Int) < (lf y).toInt + (ls y).toInt
theorem ND_lt {lv lf ls : Nat → Int32} {m : Int32} (h : ND lv lf ls m) : ∀ (d x : Nat), ((x + 1 + d : Nat) : Int) < m.toInt → 64 * (lv x).toInt + (lf x).toInt + (ls x).toInt ≤ 64 * (lv (x + 1 + d)).toInt + (lf (x + 1 + d)).toInt := by
  intro d
  induction d with
  | zero => intro x hx; exact (h x (by omega)).2 hx
  | succ d ih =>
    intro x hx
    have a := ih x (by omega)
    have b := (h (x + 1 + d) (by omega)).2 (by omega)
    have c := (h (x + 1 + d) (by omega)).1
    have e : x + 1 + (d + 1) = x + 1 + d + 1 := by omega
    rw [e]
    omega
theorem ND_pos {lv lf ls : Nat → Int32} {m : Int32} (h : ND lv lf ls m) {x y : Nat} (hxy : x < y) (hy : (y : Int) < m.toInt) : 64 * (lv x).toInt + (lf x).toInt + (ls x).toInt ≤ 64 * (lv y).toInt + (lf y).toInt := by
  have := ND_lt h (y - x - 1) x (by omega)
  have e : x + 1 + (y - x - 1) = y := by omega
  rwa [e] at this
/-! the leaves that are placed at a node -/
def PL (beg lv lf ls : Nat → Int32) (m : Int) (x i : Nat) : Prop := ((lf x).toInt = i ∧ (beg i).toInt = (lv x).toInt) ∨ ((lf x).toInt ≤ i ∧ (i : Int) < (lf x).toInt + (ls x).toInt ∧ (beg i).toInt = (lv x).toInt + 1 ∧ ∀ y : Nat, x < y → (y : Int) < m → (lv y).toInt = (lv x).toInt + 1 → (lf y).toInt ≠ i)
theorem PL_once {beg lv lf ls : Nat → Int32} {m : Int32} (h : ND lv lf ls m) {x y i : Nat} (hxy : x < y) (hy : (y : Int) < m.toInt) (hx : PL beg lv lf ls m.toInt x i) (hy2 : PL beg lv lf ls m.toInt y i) : False := by
  have p := ND_pos h hxy hy
  have a := (h x (by omega)).1
  have b := (h y hy).1
  rcases hx with ⟨x1, x2⟩ | ⟨x1, x2, x3, x4⟩
  · rcases hy2 with ⟨y1, y2⟩ | ⟨y1, y2, y3, y4⟩
    · omega
    · omega
  · rcases hy2 with ⟨y1, y2⟩ | ⟨y1, y2, y3, y4⟩
    · exact x4 y hxy hy (by omega) y1
    · omega
theorem PL_branch {K : Nat → Int64} {beg lv lf ls : Nat → Int32} {m : Int32} {n : Int} (h : ND lv lf ls m) (hm : NM K beg lv lf ls m.toInt) (hc : NC beg lv lf ls m.toInt n 8 0) (hb8 : ∀ j : Nat, 0 ≤ (beg j).toInt ∧ (beg j).toInt ≤ 8) {x i : Nat} (hx : (x : Int) < m.toInt) (hin : (i : Int) < n) (h1 : (lf x).toInt ≤ i) (h2 : (i : Int) < (lf x).toInt + (ls x).toInt) (hbr : (lv x).toInt < (beg i).toInt) (hbr2 : (i : Int) = (lf x).toInt ∨ ∃ j : Nat, j + 1 = i ∧ ((beg j).toInt ≤ (lv x).toInt ∨ ¬ AK K (lv x + 1) j i)) (hnc : ∀ y : Nat, x < y → (y : Int) < m.toInt → (lv y).toInt = (lv x).toInt + 1 → (lf y).toInt ≠ i) : PL beg lv lf ls m.toInt x i := by
  refine Or.inr ⟨h1, h2, ?_, hnc⟩
  apply Classical.byContradiction
  intro hne
  have a := (h x hx).1
  have b8 := hb8 i
  obtain ⟨y, y1, y2, y3, y4⟩ := hc ((lv x).toInt + 1) i (by omega) hin (by omega) (Or.inl (by omega))
  have hxy : x < y := by
    apply Classical.byContradiction
    intro hn
    by_cases e : x = y
    · subst e; omega
    · have p := ND_pos h (show y < x by omega) hx
      have c := (h y y1).1
      omega
  have hne2 := hnc y hxy y1 y2
  have ay := (h y y1).1
  have hi1 : (lf y).toInt < i := by omega
  have elv : lv y = lv x + 1 := by
    apply Int32.toInt_inj.mp
    rw [pt_add (by rw [pl_1]; omega) (by rw [pl_1]; omega), pl_1]
    exact y2
  have q1 := (hm y y1).1 (i - 1) (by omega) (by omega)
  have q2 := (hm y y1).1 i (by omega) (by omega)
  have hA : AK K (lv x + 1) (i - 1) i := by
    rw [← elv]
    exact AK_trans q1.2 (AK_symm q2.2)
  rcases hbr2 with e | ⟨j, ej, hj⟩
  · have c := (hm x hx).2 (i - 1) (by omega) (by omega)
    have e2 : i - 1 + 1 = i := by omega
    rw [e2] at c
    exact c (AK_mono a.1 (by omega) hA)
  · have e2 : i - 1 = j := by omega
    rw [e2] at hA q1
    rcases hj with hj | hj
    · omega
    · exact hj hA
/-! counting -/
def cntB (T : Nat → Bool) : Nat → Nat
  | 0 => 0
  | n + 1 => cntB T n + (if T n = true then 1 else 0)
theorem cntB_le (T : Nat → Bool) (n : Nat) : cntB T n ≤ n := by
  induction n with
  | zero => exact Nat.le_refl 0
  | succ n ih =>
    unfold cntB
    split <;> omega
def setB (T : Nat → Bool) (i : Nat) : Nat → Bool := fun j => if j = i then true else T j
theorem cntB_out {T : Nat → Bool} {i n : Nat} (h : n ≤ i) : cntB (setB T i) n = cntB T n := by
  induction n with
  | zero => rfl
  | succ n ih =>
    unfold cntB
    rw [ih (by omega)]
    have : setB T i n = T n := by unfold setB; rw [if_neg (by omega)]
    rw [this]
theorem cntB_set {T : Nat → Bool} {i n : Nat} (h : i < n) (hT : T i = false) : cntB (setB T i) n = cntB T n + 1 := by
  induction n with
  | zero => omega
  | succ n ih =>
    unfold cntB
    by_cases e : n = i
    · subst e
      rw [cntB_out (Nat.le_refl _)]
      have : setB T n n = true := by unfold setB; rw [if_pos rfl]
      rw [this, hT]
      simp
    · rw [ih (by omega)]
      have : setB T i n = T n := by unfold setB; rw [if_neg e]
      rw [this]
      omega
/-! the tape as keys -/
def WFT (t : Nat → Int32) (n : Int32) : Prop := n.toInt ≤ 160 ∧ ∃ P : Nat → Prop, P 0 ∧ ∀ a : Nat, P a → ((a : Int) = n.toInt ∨ ((a : Int) < n.toInt ∧ 1 ≤ (t a).toInt ∧ (t a).toInt ≤ 8 ∧ P (a + 1 + (t a).toInt.toNat)))
theorem WF_step {t : Nat → Int32} {n : Int32} {P : Nat → Prop} (hn : n.toInt ≤ 160) (hP : ∀ a : Nat, P a → ((a : Int) = n.toInt ∨ ((a : Int) < n.toInt ∧ 1 ≤ (t a).toInt ∧ (t a).toInt ≤ 8 ∧ P (a + 1 + (t a).toInt.toNat)))) {x : Int32} (h0 : 0 ≤ x.toInt) (hx : P x.toNatClampNeg) (hlt : x.toInt < n.toInt) : 1 ≤ (t x.toNatClampNeg).toInt ∧ (t x.toNatClampNeg).toInt ≤ 8 ∧ x.toInt + 1 + (t x.toNatClampNeg).toInt ≤ n.toInt ∧ (x + 1 + t x.toNatClampNeg).toInt = x.toInt + 1 + (t x.toNatClampNeg).toInt ∧ P (x + 1 + t x.toNatClampNeg).toNatClampNeg := by
  have e := pt_clamp h0
  rcases hP _ hx with h | ⟨h1, h2, h3, h4⟩
  · omega
  have e1 : (x + 1).toInt = x.toInt + 1 := by rw [pt_add (by rw [pl_1]; omega) (by rw [pl_1]; omega), pl_1]
  have e2 : (x + 1 + t x.toNatClampNeg).toInt = x.toInt + 1 + (t x.toNatClampNeg).toInt := by rw [pt_add (by omega) (by omega), e1]
  have e3 := pt_clamp (i := x + 1 + t x.toNatClampNeg) (by omega)
  have e4 : x.toNatClampNeg + 1 + (t x.toNatClampNeg).toInt.toNat = (x + 1 + t x.toNatClampNeg).toNatClampNeg := by omega
  rw [e4] at h4
  refine ⟨h2, h3, ?_, e2, h4⟩
  rcases hP _ h4 with h | h
  · omega
  · omega
theorem pt_rem {x m : Int32} (h0 : 0 ≤ x.toInt) (h1 : 0 < m.toInt) : 0 ≤ (x - x / m * m).toInt ∧ (x - x / m * m).toInt < m.toInt := by
  have rx := pt_rg x
  have e1 := pt_div h0 h1
  have d0 := Int.ediv_nonneg h0 (Int.le_of_lt h1)
  have hle : x.toInt / m.toInt * m.toInt ≤ x.toInt := Int.ediv_mul_le _ (by omega)
  have hge : 0 ≤ x.toInt / m.toInt * m.toInt := Int.mul_nonneg d0 (Int.le_of_lt h1)
  have e2 : (x / m * m).toInt = x.toInt / m.toInt * m.toInt := by rw [pt_mul (by rw [e1]; omega) (by rw [e1]; omega), e1]
  have e3 : (x - x / m * m).toInt = x.toInt - x.toInt / m.toInt * m.toInt := by rw [pt_sub (by rw [e2]; omega) (by rw [e2]; omega), e2]
  have e4 : x.toInt - x.toInt / m.toInt * m.toInt = x.toInt % m.toInt := by rw [Int.emod_def, Int.mul_comm]
  rw [e3, e4]
  exact ⟨Int.emod_nonneg _ (by omega), Int.emod_lt_of_pos _ h1⟩
theorem pt_ushr8 (y : Int32) : 0 ≤ ((y.toUInt32 >>> ((8 : Int32).toUInt32 &&& Int32.toUInt32 31)).toInt32).toInt := by
  have e : (y.toUInt32 >>> ((8 : Int32).toUInt32 &&& Int32.toUInt32 31)).toInt32.toInt = ((y.toBitVec >>> 8 : BitVec 32)).toInt := rfl
  rw [e]
  have h : (y.toBitVec >>> 8 : BitVec 32).toNat < 2 ^ 24 := by
    rw [BitVec.toNat_ushiftRight, Nat.shiftRight_eq_div_pow]
    have := y.toBitVec.isLt
    omega
  rw [BitVec.toInt_eq_toNat_of_lt (by omega)]
  omega
def BRd (S : bT9) (a1 a2 : Int32) : Prop := (b9g_nodeLevel S a1.toNatClampNeg).toInt < (b9g_beginning S a2.toNatClampNeg).toInt ∧ (a2.toInt = (b9g_nodeLeaf S a1.toNatClampNeg).toInt ∨ ∃ j : Nat, j + 1 = a2.toNatClampNeg ∧ ((b9g_beginning S j).toInt ≤ (b9g_nodeLevel S a1.toNatClampNeg).toInt ∨ ¬ AK (b9g_keys S) (b9g_nodeLevel S a1.toNatClampNeg + 1) j a2.toNatClampNeg))
def NE (lf ls : Nat → Int32) (m n : Int) : Prop := ∀ x : Nat, (x : Int) < m → (lf x).toInt + (ls x).toInt ≤ n
def TR (S : bT9) (L I : Int) : Prop := NM (b9g_keys S) (b9g_beginning S) (b9g_nodeLevel S) (b9g_nodeLeaf S) (b9g_nodeLeaves S) (b9g_nodeMany S).toInt ∧ NC (b9g_beginning S) (b9g_nodeLevel S) (b9g_nodeLeaf S) (b9g_nodeLeaves S) (b9g_nodeMany S).toInt (b9g_now S 9).toInt L I ∧ NE (b9g_nodeLeaf S) (b9g_nodeLeaves S) (b9g_nodeMany S).toInt (b9g_now S 9).toInt ∧ LD (b9g_isLaid S) (b9g_common S) (b9g_beginning S) (b9g_keys S) (b9g_lengths S) (b9g_now S 9)
def PLS (S : bT9) (x i : Nat) : Prop := PL (b9g_beginning S) (b9g_nodeLevel S) (b9g_nodeLeaf S) (b9g_nodeLeaves S) (b9g_nodeMany S).toInt x i
/-! what a new node makes of the tables -/
theorem ND_push {lv lf ls lv2 lf2 ls2 : Nat → Int32} {m m2 : Int32} {L f s : Int} (h : ND lv lf ls m) (m0 : 0 ≤ m.toInt) (em : m2.toInt = m.toInt + 1) (hl : ∀ x : Nat, (x : Int) < m.toInt → lv2 x = lv x ∧ lf2 x = lf x ∧ ls2 x = ls x) (e1 : (lv2 m.toNatClampNeg).toInt = L) (e2 : (lf2 m.toNatClampNeg).toInt = f) (e3 : (ls2 m.toNatClampNeg).toInt = s) (hL : 0 ≤ L ∧ L ≤ 7) (hf : 0 ≤ f ∧ f ≤ 63) (hs : 1 ≤ s ∧ f + s ≤ 64) (hlast : ∀ x : Nat, (x : Int) + 1 = m.toInt → 64 * (lv x).toInt + (lf x).toInt + (ls x).toInt ≤ 64 * L + f) : ND lv2 lf2 ls2 m2 := by
  have ec := pt_clamp m0
  intro x hx
  by_cases e : x = m.toNatClampNeg
  · subst e
    refine ⟨by omega, fun h2 => by omega⟩
  · have hx2 : (x : Int) < m.toInt := by omega
    have a := h x hx2
    obtain ⟨q1, q2, q3⟩ := hl x hx2
    rw [q1, q2, q3]
    refine ⟨a.1, fun h2 => ?_⟩
    by_cases e' : x + 1 = m.toNatClampNeg
    · rw [e', e1, e2]
      exact hlast x (by omega)
    · obtain ⟨p1, p2, p3⟩ := hl (x + 1) (by omega)
      rw [p1, p2]
      exact a.2 (by omega)
theorem NM_push {K : Nat → Int64} {beg lv lf ls lv2 lf2 ls2 : Nat → Int32} {m m2 : Int32} {l f s : Int32} (h : NM K beg lv lf ls m.toInt) (m0 : 0 ≤ m.toInt) (em : m2.toInt = m.toInt + 1) (hl : ∀ x : Nat, (x : Int) < m.toInt → lv2 x = lv x ∧ lf2 x = lf x ∧ ls2 x = ls x) (e1 : lv2 m.toNatClampNeg = l) (e2 : lf2 m.toNatClampNeg = f) (e3 : ls2 m.toNatClampNeg = s) (hm : ∀ j : Nat, f.toInt ≤ j → (j : Int) < f.toInt + s.toInt → l.toInt ≤ (beg j).toInt ∧ AK K l j f.toInt.toNat) (hlm : ∀ j : Nat, (j : Int) + 1 = f.toInt → l.toInt ≤ (beg j).toInt → ¬ AK K l j (j + 1)) : NM K beg lv2 lf2 ls2 m2.toInt := by
  have ec := pt_clamp m0
  intro x hx
  by_cases e : x = m.toNatClampNeg
  · subst e
    rw [e1, e2, e3]
    exact ⟨hm, hlm⟩
  · have hx2 : (x : Int) < m.toInt := by omega
    obtain ⟨q1, q2, q3⟩ := hl x hx2
    rw [q1, q2, q3]
    exact h x hx2
theorem NE_push {lf ls lf2 ls2 : Nat → Int32} {m m2 : Int32} {n : Int} (h : NE lf ls m.toInt n) (m0 : 0 ≤ m.toInt) (em : m2.toInt = m.toInt + 1) (hl : ∀ x : Nat, (x : Int) < m.toInt → lf2 x = lf x ∧ ls2 x = ls x) (he : (lf2 m.toNatClampNeg).toInt + (ls2 m.toNatClampNeg).toInt ≤ n) : NE lf2 ls2 m2.toInt n := by
  have ec := pt_clamp m0
  intro x hx
  by_cases e : x = m.toNatClampNeg
  · subst e
    exact he
  · have hx2 : (x : Int) < m.toInt := by omega
    obtain ⟨q2, q3⟩ := hl x hx2
    rw [q2, q3]
    exact h x hx2
theorem NC_push {beg lv lf ls lv2 lf2 ls2 : Nat → Int32} {m m2 : Int32} {n L I I2 : Int} (h : NC beg lv lf ls m.toInt n L I) (m0 : 0 ≤ m.toInt) (em : m2.toInt = m.toInt + 1) (hl : ∀ x : Nat, (x : Int) < m.toInt → lv2 x = lv x ∧ lf2 x = lf x ∧ ls2 x = ls x) (e1 : (lv2 m.toNatClampNeg).toInt = L) (hI2 : I2 = I + 1) (he : (lf2 m.toNatClampNeg).toInt ≤ I ∧ I < (lf2 m.toNatClampNeg).toInt + (ls2 m.toNatClampNeg).toInt) : NC beg lv2 lf2 ls2 m2.toInt n L I2 := by
  have ec := pt_clamp m0
  intro l i h0 h1 h2 h3
  by_cases e : l = L ∧ (i : Int) = I
  · exact ⟨m.toNatClampNeg, by omega, by omega, by omega, by omega⟩
  · obtain ⟨y, y1, y2, y3, y4⟩ := h l i h0 h1 h2 (by omega)
    obtain ⟨q1, q2, q3⟩ := hl y y1
    exact ⟨y, by omega, by rw [q1]; exact y2, by rw [q2]; exact y3, by rw [q2, q3]; exact y4⟩
theorem cntB_lt {T : Nat → Bool} {i n : Nat} (h : i < n) (hT : T i = false) : cntB T n < n := by
  have a := cntB_set h hT
  have b := cntB_le (setB T i) n
  omega
theorem setB_true {T : Nat → Bool} {i j : Nat} (h : setB T i j = true) : j = i ∨ T j = true := by
  unfold setB at h
  by_cases e : j = i
  · exact Or.inl e
  · rw [if_neg e] at h
    exact Or.inr h
theorem fzero {T : Nat → Bool} (h : ∀ i, T i = false) (n : Nat) : cntB T n = 0 := by
  induction n with
  | zero => rfl
  | succ n ih =>
    unfold cntB
    rw [ih, h n]
    rfl
def LST (V : bT9) (B X C : Int) : Prop := (((B = 0 ∧ ∀ x : Nat, (x : Int) + 1 = (b9g_nodeMany V).toInt → (b9g_nodeLevel V x).toInt < X) ∨ (∃ x : Nat, (x : Int) + 1 = (b9g_nodeMany V).toInt ∧ (b9g_nodeLevel V x).toInt = X ∧ B = (b9g_nodeLeaf V x).toInt + (b9g_nodeLeaves V x).toInt ∧ (b9g_nodeLeaf V x).toInt ≤ C ∧ ∀ e : Nat, (e : Int) = B → (e : Int) < (b9g_now V 9).toInt → X ≤ (b9g_beginning V e).toInt → ¬ AK (b9g_keys V) (b9g_nodeLevel V x) e (b9g_nodeLeaf V x).toInt.toNat)))
/-! draws -/
def lcg (s : Int32) : Int32 := ((1664525 : Int32) * s) + (1013904223 : Int32)
def lcgN : Nat → Int32 → Int32
  | 0, s => s
  | n + 1, s => lcg (lcgN n s)
theorem z0 : ((0 : Int32)).toInt.toNat = 0 := rfl
theorem lcgN0 (s : Int32) : lcgN 0 s = s := rfl
theorem lcgN_s {x s : Int32} (h0 : 0 ≤ x.toInt) (h1 : x.toInt ≤ 2147483646) : lcgN (x + 1).toInt.toNat s = lcg (lcgN x.toInt.toNat s) := by
  have e : (x + 1).toInt = x.toInt + 1 := by rw [pt_add (by rw [pl_1]; omega) (by rw [pl_1]; omega), pl_1]
  have e2 : (x + 1).toInt.toNat = x.toInt.toNat + 1 := by omega
  rw [e2]
  rfl
def drw (s m : Int32) : Int32 := if m.toInt ≤ 0 then 0 else ((s.toUInt32 >>> (((8 : Int32)).toUInt32 &&& Int32.toUInt32 31)).toInt32) - ((s.toUInt32 >>> (((8 : Int32)).toUInt32 &&& Int32.toUInt32 31)).toInt32) / m * m
theorem drw_0 {s m : Int32} (h : m.toInt ≤ 0) : drw s m = 0 := if_pos h
theorem drw_1 {s m : Int32} (h : ¬ m.toInt ≤ 0) : drw s m = ((s.toUInt32 >>> (((8 : Int32)).toUInt32 &&& Int32.toUInt32 31)).toInt32) - ((s.toUInt32 >>> (((8 : Int32)).toUInt32 &&& Int32.toUInt32 31)).toInt32) / m * m := if_neg h
def stp (m s : Int32) : Int32 := lcgN (1 + drw (lcg s) m).toInt.toNat (lcg s)
theorem stp_c (m s : Int32) : lcgN (drw (lcg s) m + 1).toInt.toNat (lcg s) = stp m s := by
  unfold stp
  rw [Int32.add_comm]
def stpN (m : Int32) : Nat → Int32 → Int32
  | 0, s => s
  | n + 1, s => stp m (stpN m n s)
theorem stpN0 (m s : Int32) : stpN m 0 s = s := rfl
theorem stpN_s {m x s : Int32} (h0 : 0 ≤ x.toInt) (h1 : x.toInt ≤ 2147483646) : stpN m (x + 1).toInt.toNat s = stp m (stpN m x.toInt.toNat s) := by
  have e : (x + 1).toInt = x.toInt + 1 := by rw [pt_add (by rw [pl_1]; omega) (by rw [pl_1]; omega), pl_1]
  have e2 : (x + 1).toInt.toNat = x.toInt.toNat + 1 := by omega
  rw [e2]
  rfl
def filS (n m : Int32) (h : Int) (s : Int32) : Int32 := if 1 ≤ n.toInt ∧ n.toInt ≤ h ∧ 1 ≤ m.toInt ∧ m.toInt ≤ 8 then stpN m n.toInt.toNat s else s
theorem filS_0 {n m s : Int32} {h : Int} (c : ¬ (1 ≤ n.toInt ∧ n.toInt ≤ h ∧ 1 ≤ m.toInt ∧ m.toInt ≤ 8)) : filS n m h s = s := if_neg c
theorem filS_1 {n m s : Int32} {h : Int} (c : 1 ≤ n.toInt ∧ n.toInt ≤ h ∧ 1 ≤ m.toInt ∧ m.toInt ≤ 8) : filS n m h s = stpN m n.toInt.toNat s := if_pos c
def filR (n m w s : Int32) : Int32 := if 1 ≤ n.toInt ∧ n.toInt ≤ 200 ∧ 1 ≤ m.toInt ∧ m.toInt ≤ 8 ∧ 0 ≤ w.toInt ∧ w.toInt ≤ 255 then stpN m n.toInt.toNat s else s
theorem filR_0 {n m w s : Int32} (c : ¬ (1 ≤ n.toInt ∧ n.toInt ≤ 200 ∧ 1 ≤ m.toInt ∧ m.toInt ≤ 8 ∧ 0 ≤ w.toInt ∧ w.toInt ≤ 255)) : filR n m w s = s := if_neg c
theorem filR_1 {n m w s : Int32} (c : 1 ≤ n.toInt ∧ n.toInt ≤ 200 ∧ 1 ≤ m.toInt ∧ m.toInt ≤ 8 ∧ 0 ≤ w.toInt ∧ w.toInt ≤ 255) : filR n m w s = stpN m n.toInt.toNat s := if_pos c
