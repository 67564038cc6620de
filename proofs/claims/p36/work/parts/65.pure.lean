/-! PHASE 2: pure rows for the model's tree: beginnings alike, nodes, places -/
def cutf (k : Int64) (n : Int32) : Int64 := if n = 0 then 0 else ((k.toUInt64 >>> (((64 : Int32) - ((8 : Int32) * n)).toInt64.toUInt64 &&& Int64.toUInt64 63)).toInt64) <<< (((64 : Int32) - ((8 : Int32) * n)).toInt64 &&& 63)
def AK (K : Nat → Int64) (l : Int32) (i j : Nat) : Prop := cutf (K (64 + i)) l = cutf (K (64 + j)) l
theorem AK_refl {K : Nat → Int64} {l : Int32} (i : Nat) : AK K l i i := rfl
theorem AK_symm {K : Nat → Int64} {l : Int32} {i j : Nat} (h : AK K l i j) : AK K l j i := Eq.symm h
theorem AK_trans {K : Nat → Int64} {l : Int32} {i j k : Nat} (h : AK K l i j) (h2 : AK K l j k) : AK K l i k := Eq.trans h h2
theorem sh8 (a : BitVec 64) (s : Nat) : ((a >>> s) <<< s) >>> (s + 8) = a >>> (s + 8) := by
  apply BitVec.eq_of_getLsbD_eq
  intro i hi
  rw [BitVec.getLsbD_ushiftRight, BitVec.getLsbD_ushiftRight, BitVec.getLsbD_shiftLeft, BitVec.getLsbD_ushiftRight]
  have e1 : s + (s + 8 + i - s) = s + 8 + i := by omega
  have e2 : ¬ (s + 8 + i < s) := by omega
  rw [e1]
  by_cases h : s + 8 + i < 64
  · simp [h, e2]
  · have : a.getLsbD (s + 8 + i) = false := BitVec.getLsbD_of_ge a _ (by omega)
    simp [this]
theorem sh8e {a b : BitVec 64} {s : Nat} (h : (a >>> s) <<< s = (b >>> s) <<< s) : (a >>> (s + 8)) <<< (s + 8) = (b >>> (s + 8)) <<< (s + 8) := by
  rw [← sh8 a s, ← sh8 b s, h]
theorem cutf_1 (k : Int64) : cutf k 1 = Int64.ofBitVec ((k.toBitVec >>> 56) <<< 56) := rfl
theorem cutf_2 (k : Int64) : cutf k 2 = Int64.ofBitVec ((k.toBitVec >>> 48) <<< 48) := rfl
theorem cutf_3 (k : Int64) : cutf k 3 = Int64.ofBitVec ((k.toBitVec >>> 40) <<< 40) := rfl
theorem cutf_4 (k : Int64) : cutf k 4 = Int64.ofBitVec ((k.toBitVec >>> 32) <<< 32) := rfl
theorem cutf_5 (k : Int64) : cutf k 5 = Int64.ofBitVec ((k.toBitVec >>> 24) <<< 24) := rfl
theorem cutf_6 (k : Int64) : cutf k 6 = Int64.ofBitVec ((k.toBitVec >>> 16) <<< 16) := rfl
theorem cutf_7 (k : Int64) : cutf k 7 = Int64.ofBitVec ((k.toBitVec >>> 8) <<< 8) := rfl
theorem cutf_8 (k : Int64) : cutf k 8 = Int64.ofBitVec ((k.toBitVec >>> 0) <<< 0) := rfl
theorem bvinj {a b : BitVec 64} (h : Int64.ofBitVec a = Int64.ofBitVec b) : a = b := congrArg Int64.toBitVec h
theorem AK_mono {K : Nat → Int64} {l : Int32} {i j : Nat} (h0 : 0 ≤ l.toInt) (h7 : l.toInt ≤ 7) (h : AK K (l + 1) i j) : AK K l i j := by
  have hl : l = 0 ∨ l = 1 ∨ l = 2 ∨ l = 3 ∨ l = 4 ∨ l = 5 ∨ l = 6 ∨ l = 7 := by
    simp only [← Int32.toInt_inj, pl_0, pl_1, pl_2, pl_3, pl_4, pl_5, pl_6, pl_7]
    omega
  unfold AK at h ⊢
  rcases hl with rfl | rfl | rfl | rfl | rfl | rfl | rfl | rfl
  · rfl
  · rw [show (1 + 1 : Int32) = 2 from rfl, cutf_2, cutf_2] at h
    rw [cutf_1, cutf_1, sh8e (bvinj h)]
  · rw [show (2 + 1 : Int32) = 3 from rfl, cutf_3, cutf_3] at h
    rw [cutf_2, cutf_2, sh8e (bvinj h)]
  · rw [show (3 + 1 : Int32) = 4 from rfl, cutf_4, cutf_4] at h
    rw [cutf_3, cutf_3, sh8e (bvinj h)]
  · rw [show (4 + 1 : Int32) = 5 from rfl, cutf_5, cutf_5] at h
    rw [cutf_4, cutf_4, sh8e (bvinj h)]
  · rw [show (5 + 1 : Int32) = 6 from rfl, cutf_6, cutf_6] at h
    rw [cutf_5, cutf_5, sh8e (bvinj h)]
  · rw [show (6 + 1 : Int32) = 7 from rfl, cutf_7, cutf_7] at h
    rw [cutf_6, cutf_6, sh8e (bvinj h)]
  · rw [show (7 + 1 : Int32) = 8 from rfl, cutf_8, cutf_8] at h
    rw [cutf_7, cutf_7, sh8e (bvinj h)]
theorem ix64 {a : Int32} (h0 : 0 ≤ a.toInt) (h1 : a.toInt ≤ 63) : ((64 : Int32) + a).toNatClampNeg = 64 + a.toNatClampNeg := by
  have e : ((64 : Int32) + a).toInt = 64 + a.toInt := by rw [pt_add (by rw [pl_64]; omega) (by rw [pl_64]; omega), pl_64]
  have e1 := pt_clamp (i := (64 : Int32) + a) (by omega)
  have e2 := pt_clamp h0
  omega
/-! a new node -/
theorem node_new {A : Nat → Nat → Prop} (hr : ∀ i, A i i) (hs : ∀ {i j}, A i j → A j i) (ht : ∀ {i j k}, A i j → A j k → A i k) {beg : Nat → Int} {n L f s : Int} {i : Nat} (hin : (i : Int) < n) (hb : L < beg i) (f0 : 0 ≤ f) (fi : f ≤ i) (hfl : ∀ j : Nat, f ≤ j → j < i → L ≤ beg j ∧ A j i) (s0 : 0 ≤ s) (hst : ∀ e : Nat, (e : Int) = f + s → (e : Int) < n → L ≤ beg e → ¬ A e f.toNat) : (i : Int) < f + s := by
  apply Classical.byContradiction
  intro hn
  have hfA : A f.toNat i := by
    by_cases h : f = (i : Int)
    · rw [h]; exact hr i
    · exact (hfl f.toNat (by omega) (by omega)).2
  by_cases h : f + s = (i : Int)
  · exact hst i h.symm hin (by omega) (hs hfA)
  · have q := hfl (f + s).toNat (by omega) (by omega)
    exact hst (f + s).toNat (by omega) (by omega) q.1 (ht q.2 (hs hfA))
theorem node_apart {A : Nat → Nat → Prop} (hs : ∀ {i j}, A i j → A j i) (ht : ∀ {i j k}, A i j → A j k → A i k) (hr : ∀ i, A i i) {beg : Nat → Int} {n L f f0 s0 : Int} {i : Nat} (hin : (i : Int) < n) (hb : L < beg i) (hf : 0 ≤ f) (hfl : ∀ j : Nat, f ≤ j → j < i → L ≤ beg j ∧ A j i) (h0 : 0 ≤ f0) (h1 : 1 ≤ s0) (hm : ∀ j : Nat, f0 ≤ j → (j : Int) < f0 + s0 → A j f0.toNat) (hst : ∀ e : Nat, (e : Int) = f0 + s0 → (e : Int) < n → L ≤ beg e → ¬ A e f0.toNat) (hbi : f0 + s0 ≤ i) : f0 + s0 ≤ f := by
  apply Classical.byContradiction
  intro hn
  have q1 := hfl (f0 + s0 - 1).toNat (by omega) (by omega)
  have q2 := hm (f0 + s0 - 1).toNat (by omega) (by omega)
  have q3 : L ≤ beg (f0 + s0).toNat ∧ A (f0 + s0).toNat i := by
    by_cases h : f0 + s0 = (i : Int)
    · have : (f0 + s0).toNat = i := by omega
      rw [this]; exact ⟨by omega, hr i⟩
    · exact hfl (f0 + s0).toNat (by omega) (by omega)
  exact hst (f0 + s0).toNat (by omega) (by omega) q3.1 (ht q3.2 (ht (hs q1.2) q2))
/-! nodes: members, to the left as far as they go, complete -/
def NM (K : Nat → Int64) (beg lv lf ls : Nat → Int32) (m : Int) : Prop := ∀ x : Nat, (x : Int) < m → (∀ j : Nat, (lf x).toInt ≤ j → (j : Int) < (lf x).toInt + (ls x).toInt → (lv x).toInt ≤ (beg j).toInt ∧ AK K (lv x) j (lf x).toInt.toNat) ∧ (∀ j : Nat, (j : Int) + 1 = (lf x).toInt → (lv x).toInt ≤ (beg j).toInt → ¬ AK K (lv x) j (j + 1))
def NC (beg lv lf ls : Nat → Int32) (m n L I : Int) : Prop := ∀ (l : Int) (i : Nat), 0 ≤ l → (i : Int) < n → l < (beg i).toInt → (l < L ∨ (l = L ∧ (i : Int) < I)) → ∃ y : Nat, (y : Int) < m ∧ (lv y).toInt = l ∧ (lf y).toInt ≤ i ∧ (i : Int) < (lf y).toInt + (ls y).toInt
theorem ND_lt {lv lf ls : Nat → Int32} {m : Int32} (h : ND lv lf ls m) : ∀ (d x : Nat), ((x + 1 + d : Nat) : Int) < m.toInt → 64 * (lv x).toInt + (lf x).toInt + (ls x).toInt ≤ 64 * (lv (x + 1 + d)).toInt + (lf (x + 1 + d)).toInt := by
  intro d
  induction d with
  | zero => intro x hx; exact (h x (by omega)).2 hx
  | succ d ih =>
    intro x hx
    have a := ih x (by omega)
    have b := (h (x + 1 + d) (by omega)).2 (by omega)
    have c := (h (x + 1 + d) (by omega)).1
    have e : x + 1 + (d + 1) = x + 1 + d + 1 := by omega
    rw [e]
    omega
theorem ND_pos {lv lf ls : Nat → Int32} {m : Int32} (h : ND lv lf ls m) {x y : Nat} (hxy : x < y) (hy : (y : Int) < m.toInt) : 64 * (lv x).toInt + (lf x).toInt + (ls x).toInt ≤ 64 * (lv y).toInt + (lf y).toInt := by
  have := ND_lt h (y - x - 1) x (by omega)
  have e : x + 1 + (y - x - 1) = y := by omega
  rwa [e] at this
/-! the leaves that are placed at a node -/
def PL (beg lv lf ls : Nat → Int32) (m : Int) (x i : Nat) : Prop := ((lf x).toInt = i ∧ (beg i).toInt = (lv x).toInt) ∨ ((lf x).toInt ≤ i ∧ (i : Int) < (lf x).toInt + (ls x).toInt ∧ (beg i).toInt = (lv x).toInt + 1 ∧ ∀ y : Nat, x < y → (y : Int) < m → (lv y).toInt = (lv x).toInt + 1 → (lf y).toInt ≠ i)
theorem PL_once {beg lv lf ls : Nat → Int32} {m : Int32} (h : ND lv lf ls m) {x y i : Nat} (hxy : x < y) (hy : (y : Int) < m.toInt) (hx : PL beg lv lf ls m.toInt x i) (hy2 : PL beg lv lf ls m.toInt y i) : False := by
  have p := ND_pos h hxy hy
  have a := (h x (by omega)).1
  have b := (h y hy).1
  rcases hx with ⟨x1, x2⟩ | ⟨x1, x2, x3, x4⟩
  · rcases hy2 with ⟨y1, y2⟩ | ⟨y1, y2, y3, y4⟩
    · omega
    · omega
  · rcases hy2 with ⟨y1, y2⟩ | ⟨y1, y2, y3, y4⟩
    · exact x4 y hxy hy (by omega) y1
    · omega
theorem PL_branch {K : Nat → Int64} {beg lv lf ls : Nat → Int32} {m : Int32} {n : Int} (h : ND lv lf ls m) (hm : NM K beg lv lf ls m.toInt) (hc : NC beg lv lf ls m.toInt n 8 0) (hb8 : ∀ j : Nat, 0 ≤ (beg j).toInt ∧ (beg j).toInt ≤ 8) {x i : Nat} (hx : (x : Int) < m.toInt) (hin : (i : Int) < n) (h1 : (lf x).toInt ≤ i) (h2 : (i : Int) < (lf x).toInt + (ls x).toInt) (hbr : (lv x).toInt < (beg i).toInt) (hbr2 : (i : Int) = (lf x).toInt ∨ ∃ j : Nat, j + 1 = i ∧ ((beg j).toInt ≤ (lv x).toInt ∨ ¬ AK K (lv x + 1) j i)) (hnc : ∀ y : Nat, x < y → (y : Int) < m.toInt → (lv y).toInt = (lv x).toInt + 1 → (lf y).toInt ≠ i) : PL beg lv lf ls m.toInt x i := by
  refine Or.inr ⟨h1, h2, ?_, hnc⟩
  apply Classical.byContradiction
  intro hne
  have a := (h x hx).1
  have b8 := hb8 i
  obtain ⟨y, y1, y2, y3, y4⟩ := hc ((lv x).toInt + 1) i (by omega) hin (by omega) (Or.inl (by omega))
  have hxy : x < y := by
    apply Classical.byContradiction
    intro hn
    by_cases e : x = y
    · subst e; omega
    · have p := ND_pos h (show y < x by omega) hx
      have c := (h y y1).1
      omega
  have hne2 := hnc y hxy y1 y2
  have ay := (h y y1).1
  have hi1 : (lf y).toInt < i := by omega
  have elv : lv y = lv x + 1 := by
    apply Int32.toInt_inj.mp
    rw [pt_add (by rw [pl_1]; omega) (by rw [pl_1]; omega), pl_1]
    exact y2
  have q1 := (hm y y1).1 (i - 1) (by omega) (by omega)
  have q2 := (hm y y1).1 i (by omega) (by omega)
  have hA : AK K (lv x + 1) (i - 1) i := by
    rw [← elv]
    exact AK_trans q1.2 (AK_symm q2.2)
  rcases hbr2 with e | ⟨j, ej, hj⟩
  · have c := (hm x hx).2 (i - 1) (by omega) (by omega)
    have e2 : i - 1 + 1 = i := by omega
    rw [e2] at c
    exact c (AK_mono a.1 (by omega) hA)
  · have e2 : i - 1 = j := by omega
    rw [e2] at hA q1
    rcases hj with hj | hj
    · omega
    · exact hj hA
/-! counting -/
def cntB (T : Nat → Bool) : Nat → Nat
  | 0 => 0
  | n + 1 => cntB T n + (if T n = true then 1 else 0)
theorem cntB_le (T : Nat → Bool) (n : Nat) : cntB T n ≤ n := by
  induction n with
  | zero => exact Nat.le_refl 0
  | succ n ih =>
    unfold cntB
    split <;> omega
def setB (T : Nat → Bool) (i : Nat) : Nat → Bool := fun j => if j = i then true else T j
theorem cntB_out {T : Nat → Bool} {i n : Nat} (h : n ≤ i) : cntB (setB T i) n = cntB T n := by
  induction n with
  | zero => rfl
  | succ n ih =>
    unfold cntB
    rw [ih (by omega)]
    have : setB T i n = T n := by unfold setB; rw [if_neg (by omega)]
    rw [this]
theorem cntB_set {T : Nat → Bool} {i n : Nat} (h : i < n) (hT : T i = false) : cntB (setB T i) n = cntB T n + 1 := by
  induction n with
  | zero => omega
  | succ n ih =>
    unfold cntB
    by_cases e : n = i
    · subst e
      rw [cntB_out (Nat.le_refl _)]
      have : setB T n n = true := by unfold setB; rw [if_pos rfl]
      rw [this, hT]
      simp
    · rw [ih (by omega)]
      have : setB T i n = T n := by unfold setB; rw [if_neg e]
      rw [this]
      omega
/-! the tape as keys -/
def WFT (t : Nat → Int32) (n : Int32) : Prop := n.toInt ≤ 160 ∧ ∃ P : Nat → Prop, P 0 ∧ ∀ a : Nat, P a → ((a : Int) = n.toInt ∨ ((a : Int) < n.toInt ∧ 1 ≤ (t a).toInt ∧ (t a).toInt ≤ 8 ∧ P (a + 1 + (t a).toInt.toNat)))
theorem WF_step {t : Nat → Int32} {n : Int32} {P : Nat → Prop} (hn : n.toInt ≤ 160) (hP : ∀ a : Nat, P a → ((a : Int) = n.toInt ∨ ((a : Int) < n.toInt ∧ 1 ≤ (t a).toInt ∧ (t a).toInt ≤ 8 ∧ P (a + 1 + (t a).toInt.toNat)))) {x : Int32} (h0 : 0 ≤ x.toInt) (hx : P x.toNatClampNeg) (hlt : x.toInt < n.toInt) : 1 ≤ (t x.toNatClampNeg).toInt ∧ (t x.toNatClampNeg).toInt ≤ 8 ∧ x.toInt + 1 + (t x.toNatClampNeg).toInt ≤ n.toInt ∧ (x + 1 + t x.toNatClampNeg).toInt = x.toInt + 1 + (t x.toNatClampNeg).toInt ∧ P (x + 1 + t x.toNatClampNeg).toNatClampNeg := by
  have e := pt_clamp h0
  rcases hP _ hx with h | ⟨h1, h2, h3, h4⟩
  · omega
  have e1 : (x + 1).toInt = x.toInt + 1 := by rw [pt_add (by rw [pl_1]; omega) (by rw [pl_1]; omega), pl_1]
  have e2 : (x + 1 + t x.toNatClampNeg).toInt = x.toInt + 1 + (t x.toNatClampNeg).toInt := by rw [pt_add (by omega) (by omega), e1]
  have e3 := pt_clamp (i := x + 1 + t x.toNatClampNeg) (by omega)
  have e4 : x.toNatClampNeg + 1 + (t x.toNatClampNeg).toInt.toNat = (x + 1 + t x.toNatClampNeg).toNatClampNeg := by omega
  rw [e4] at h4
  refine ⟨h2, h3, ?_, e2, h4⟩
  rcases hP _ h4 with h | h
  · omega
  · omega
theorem pt_rem {x m : Int32} (h0 : 0 ≤ x.toInt) (h1 : 0 < m.toInt) : 0 ≤ (x - x / m * m).toInt ∧ (x - x / m * m).toInt < m.toInt := by
  have rx := pt_rg x
  have e1 := pt_div h0 h1
  have d0 := Int.ediv_nonneg h0 (Int.le_of_lt h1)
  have hle : x.toInt / m.toInt * m.toInt ≤ x.toInt := Int.ediv_mul_le _ (by omega)
  have hge : 0 ≤ x.toInt / m.toInt * m.toInt := Int.mul_nonneg d0 (Int.le_of_lt h1)
  have e2 : (x / m * m).toInt = x.toInt / m.toInt * m.toInt := by rw [pt_mul (by rw [e1]; omega) (by rw [e1]; omega), e1]
  have e3 : (x - x / m * m).toInt = x.toInt - x.toInt / m.toInt * m.toInt := by rw [pt_sub (by rw [e2]; omega) (by rw [e2]; omega), e2]
  have e4 : x.toInt - x.toInt / m.toInt * m.toInt = x.toInt % m.toInt := by rw [Int.emod_def, Int.mul_comm]
  rw [e3, e4]
  exact ⟨Int.emod_nonneg _ (by omega), Int.emod_lt_of_pos _ h1⟩
theorem pt_ushr8 (y : Int32) : 0 ≤ ((y.toUInt32 >>> ((8 : Int32).toUInt32 &&& Int32.toUInt32 31)).toInt32).toInt := by
  have e : (y.toUInt32 >>> ((8 : Int32).toUInt32 &&& Int32.toUInt32 31)).toInt32.toInt = ((y.toBitVec >>> 8 : BitVec 32)).toInt := rfl
  rw [e]
  have h : (y.toBitVec >>> 8 : BitVec 32).toNat < 2 ^ 24 := by
    rw [BitVec.toNat_ushiftRight, Nat.shiftRight_eq_div_pow]
    have := y.toBitVec.isLt
    omega
  rw [BitVec.toInt_eq_toNat_of_lt (by omega)]
  omega
def BRd (S : bT9) (a1 a2 : Int32) : Prop := (b9g_nodeLevel S a1.toNatClampNeg).toInt < (b9g_beginning S a2.toNatClampNeg).toInt ∧ (a2.toInt = (b9g_nodeLeaf S a1.toNatClampNeg).toInt ∨ ∃ j : Nat, j + 1 = a2.toNatClampNeg ∧ ((b9g_beginning S j).toInt ≤ (b9g_nodeLevel S a1.toNatClampNeg).toInt ∨ ¬ AK (b9g_keys S) (b9g_nodeLevel S a1.toNatClampNeg + 1) j a2.toNatClampNeg))
def NE (lf ls : Nat → Int32) (m n : Int) : Prop := ∀ x : Nat, (x : Int) < m → (lf x).toInt + (ls x).toInt ≤ n
def TR (S : bT9) (L I : Int) : Prop := NM (b9g_keys S) (b9g_beginning S) (b9g_nodeLevel S) (b9g_nodeLeaf S) (b9g_nodeLeaves S) (b9g_nodeMany S).toInt ∧ NC (b9g_beginning S) (b9g_nodeLevel S) (b9g_nodeLeaf S) (b9g_nodeLeaves S) (b9g_nodeMany S).toInt (b9g_now S 9).toInt L I ∧ NE (b9g_nodeLeaf S) (b9g_nodeLeaves S) (b9g_nodeMany S).toInt (b9g_now S 9).toInt ∧ LD (b9g_isLaid S) (b9g_common S) (b9g_beginning S) (b9g_keys S) (b9g_lengths S) (b9g_now S 9)
def PLS (S : bT9) (x i : Nat) : Prop := PL (b9g_beginning S) (b9g_nodeLevel S) (b9g_nodeLeaf S) (b9g_nodeLeaves S) (b9g_nodeMany S).toInt x i
/-! what a new node makes of the tables -/
theorem ND_push {lv lf ls lv2 lf2 ls2 : Nat → Int32} {m m2 : Int32} {L f s : Int} (h : ND lv lf ls m) (m0 : 0 ≤ m.toInt) (em : m2.toInt = m.toInt + 1) (hl : ∀ x : Nat, (x : Int) < m.toInt → lv2 x = lv x ∧ lf2 x = lf x ∧ ls2 x = ls x) (e1 : (lv2 m.toNatClampNeg).toInt = L) (e2 : (lf2 m.toNatClampNeg).toInt = f) (e3 : (ls2 m.toNatClampNeg).toInt = s) (hL : 0 ≤ L ∧ L ≤ 7) (hf : 0 ≤ f ∧ f ≤ 63) (hs : 1 ≤ s ∧ f + s ≤ 64) (hlast : ∀ x : Nat, (x : Int) + 1 = m.toInt → 64 * (lv x).toInt + (lf x).toInt + (ls x).toInt ≤ 64 * L + f) : ND lv2 lf2 ls2 m2 := by
  have ec := pt_clamp m0
  intro x hx
  by_cases e : x = m.toNatClampNeg
  · subst e
    refine ⟨by omega, fun h2 => by omega⟩
  · have hx2 : (x : Int) < m.toInt := by omega
    have a := h x hx2
    obtain ⟨q1, q2, q3⟩ := hl x hx2
    rw [q1, q2, q3]
    refine ⟨a.1, fun h2 => ?_⟩
    by_cases e' : x + 1 = m.toNatClampNeg
    · rw [e', e1, e2]
      exact hlast x (by omega)
    · obtain ⟨p1, p2, p3⟩ := hl (x + 1) (by omega)
      rw [p1, p2]
      exact a.2 (by omega)
theorem NM_push {K : Nat → Int64} {beg lv lf ls lv2 lf2 ls2 : Nat → Int32} {m m2 : Int32} {l f s : Int32} (h : NM K beg lv lf ls m.toInt) (m0 : 0 ≤ m.toInt) (em : m2.toInt = m.toInt + 1) (hl : ∀ x : Nat, (x : Int) < m.toInt → lv2 x = lv x ∧ lf2 x = lf x ∧ ls2 x = ls x) (e1 : lv2 m.toNatClampNeg = l) (e2 : lf2 m.toNatClampNeg = f) (e3 : ls2 m.toNatClampNeg = s) (hm : ∀ j : Nat, f.toInt ≤ j → (j : Int) < f.toInt + s.toInt → l.toInt ≤ (beg j).toInt ∧ AK K l j f.toInt.toNat) (hlm : ∀ j : Nat, (j : Int) + 1 = f.toInt → l.toInt ≤ (beg j).toInt → ¬ AK K l j (j + 1)) : NM K beg lv2 lf2 ls2 m2.toInt := by
  have ec := pt_clamp m0
  intro x hx
  by_cases e : x = m.toNatClampNeg
  · subst e
    rw [e1, e2, e3]
    exact ⟨hm, hlm⟩
  · have hx2 : (x : Int) < m.toInt := by omega
    obtain ⟨q1, q2, q3⟩ := hl x hx2
    rw [q1, q2, q3]
    exact h x hx2
theorem NE_push {lf ls lf2 ls2 : Nat → Int32} {m m2 : Int32} {n : Int} (h : NE lf ls m.toInt n) (m0 : 0 ≤ m.toInt) (em : m2.toInt = m.toInt + 1) (hl : ∀ x : Nat, (x : Int) < m.toInt → lf2 x = lf x ∧ ls2 x = ls x) (he : (lf2 m.toNatClampNeg).toInt + (ls2 m.toNatClampNeg).toInt ≤ n) : NE lf2 ls2 m2.toInt n := by
  have ec := pt_clamp m0
  intro x hx
  by_cases e : x = m.toNatClampNeg
  · subst e
    exact he
  · have hx2 : (x : Int) < m.toInt := by omega
    obtain ⟨q2, q3⟩ := hl x hx2
    rw [q2, q3]
    exact h x hx2
theorem NC_push {beg lv lf ls lv2 lf2 ls2 : Nat → Int32} {m m2 : Int32} {n L I I2 : Int} (h : NC beg lv lf ls m.toInt n L I) (m0 : 0 ≤ m.toInt) (em : m2.toInt = m.toInt + 1) (hl : ∀ x : Nat, (x : Int) < m.toInt → lv2 x = lv x ∧ lf2 x = lf x ∧ ls2 x = ls x) (e1 : (lv2 m.toNatClampNeg).toInt = L) (hI2 : I2 = I + 1) (he : (lf2 m.toNatClampNeg).toInt ≤ I ∧ I < (lf2 m.toNatClampNeg).toInt + (ls2 m.toNatClampNeg).toInt) : NC beg lv2 lf2 ls2 m2.toInt n L I2 := by
  have ec := pt_clamp m0
  intro l i h0 h1 h2 h3
  by_cases e : l = L ∧ (i : Int) = I
  · exact ⟨m.toNatClampNeg, by omega, by omega, by omega, by omega⟩
  · obtain ⟨y, y1, y2, y3, y4⟩ := h l i h0 h1 h2 (by omega)
    obtain ⟨q1, q2, q3⟩ := hl y y1
    exact ⟨y, by omega, by rw [q1]; exact y2, by rw [q2]; exact y3, by rw [q2, q3]; exact y4⟩
theorem cntB_lt {T : Nat → Bool} {i n : Nat} (h : i < n) (hT : T i = false) : cntB T n < n := by
  have a := cntB_set h hT
  have b := cntB_le (setB T i) n
  omega
theorem setB_true {T : Nat → Bool} {i j : Nat} (h : setB T i j = true) : j = i ∨ T j = true := by
  unfold setB at h
  by_cases e : j = i
  · exact Or.inl e
  · rw [if_neg e] at h
    exact Or.inr h
theorem fzero {T : Nat → Bool} (h : ∀ i, T i = false) (n : Nat) : cntB T n = 0 := by
  induction n with
  | zero => rfl
  | succ n ih =>
    unfold cntB
    rw [ih, h n]
    rfl
def LST (V : bT9) (B X C : Int) : Prop := (((B = 0 ∧ ∀ x : Nat, (x : Int) + 1 = (b9g_nodeMany V).toInt → (b9g_nodeLevel V x).toInt < X) ∨ (∃ x : Nat, (x : Int) + 1 = (b9g_nodeMany V).toInt ∧ (b9g_nodeLevel V x).toInt = X ∧ B = (b9g_nodeLeaf V x).toInt + (b9g_nodeLeaves V x).toInt ∧ (b9g_nodeLeaf V x).toInt ≤ C ∧ ∀ e : Nat, (e : Int) = B → (e : Int) < (b9g_now V 9).toInt → X ≤ (b9g_beginning V e).toInt → ¬ AK (b9g_keys V) (b9g_nodeLevel V x) e (b9g_nodeLeaf V x).toInt.toNat)))
/-! draws -/
def lcg (s : Int32) : Int32 := ((1664525 : Int32) * s) + (1013904223 : Int32)
def lcgN : Nat → Int32 → Int32
  | 0, s => s
  | n + 1, s => lcg (lcgN n s)
theorem z0 : ((0 : Int32)).toInt.toNat = 0 := rfl
theorem lcgN0 (s : Int32) : lcgN 0 s = s := rfl
theorem lcgN_s {x s : Int32} (h0 : 0 ≤ x.toInt) (h1 : x.toInt ≤ 2147483646) : lcgN (x + 1).toInt.toNat s = lcg (lcgN x.toInt.toNat s) := by
  have e : (x + 1).toInt = x.toInt + 1 := by rw [pt_add (by rw [pl_1]; omega) (by rw [pl_1]; omega), pl_1]
  have e2 : (x + 1).toInt.toNat = x.toInt.toNat + 1 := by omega
  rw [e2]
  rfl
def drw (s m : Int32) : Int32 := if m.toInt ≤ 0 then 0 else ((s.toUInt32 >>> (((8 : Int32)).toUInt32 &&& Int32.toUInt32 31)).toInt32) - ((s.toUInt32 >>> (((8 : Int32)).toUInt32 &&& Int32.toUInt32 31)).toInt32) / m * m
theorem drw_0 {s m : Int32} (h : m.toInt ≤ 0) : drw s m = 0 := if_pos h
theorem drw_1 {s m : Int32} (h : ¬ m.toInt ≤ 0) : drw s m = ((s.toUInt32 >>> (((8 : Int32)).toUInt32 &&& Int32.toUInt32 31)).toInt32) - ((s.toUInt32 >>> (((8 : Int32)).toUInt32 &&& Int32.toUInt32 31)).toInt32) / m * m := if_neg h
def stp (m s : Int32) : Int32 := lcgN (1 + drw (lcg s) m).toInt.toNat (lcg s)
theorem stp_c (m s : Int32) : lcgN (drw (lcg s) m + 1).toInt.toNat (lcg s) = stp m s := by
  unfold stp
  rw [Int32.add_comm]
def stpN (m : Int32) : Nat → Int32 → Int32
  | 0, s => s
  | n + 1, s => stp m (stpN m n s)
theorem stpN0 (m s : Int32) : stpN m 0 s = s := rfl
theorem stpN_s {m x s : Int32} (h0 : 0 ≤ x.toInt) (h1 : x.toInt ≤ 2147483646) : stpN m (x + 1).toInt.toNat s = stp m (stpN m x.toInt.toNat s) := by
  have e : (x + 1).toInt = x.toInt + 1 := by rw [pt_add (by rw [pl_1]; omega) (by rw [pl_1]; omega), pl_1]
  have e2 : (x + 1).toInt.toNat = x.toInt.toNat + 1 := by omega
  rw [e2]
  rfl
def filS (n m : Int32) (h : Int) (s : Int32) : Int32 := if 1 ≤ n.toInt ∧ n.toInt ≤ h ∧ 1 ≤ m.toInt ∧ m.toInt ≤ 8 then stpN m n.toInt.toNat s else s
theorem filS_0 {n m s : Int32} {h : Int} (c : ¬ (1 ≤ n.toInt ∧ n.toInt ≤ h ∧ 1 ≤ m.toInt ∧ m.toInt ≤ 8)) : filS n m h s = s := if_neg c
theorem filS_1 {n m s : Int32} {h : Int} (c : 1 ≤ n.toInt ∧ n.toInt ≤ h ∧ 1 ≤ m.toInt ∧ m.toInt ≤ 8) : filS n m h s = stpN m n.toInt.toNat s := if_pos c
def filR (n m w s : Int32) : Int32 := if 1 ≤ n.toInt ∧ n.toInt ≤ 200 ∧ 1 ≤ m.toInt ∧ m.toInt ≤ 8 ∧ 0 ≤ w.toInt ∧ w.toInt ≤ 255 then stpN m n.toInt.toNat s else s
theorem filR_0 {n m w s : Int32} (c : ¬ (1 ≤ n.toInt ∧ n.toInt ≤ 200 ∧ 1 ≤ m.toInt ∧ m.toInt ≤ 8 ∧ 0 ≤ w.toInt ∧ w.toInt ≤ 255)) : filR n m w s = s := if_neg c
theorem filR_1 {n m w s : Int32} (c : 1 ≤ n.toInt ∧ n.toInt ≤ 200 ∧ 1 ≤ m.toInt ∧ m.toInt ≤ 8 ∧ 0 ≤ w.toInt ∧ w.toInt ≤ 255) : filR n m w s = stpN m n.toInt.toNat s := if_pos c
/-! keys: the order of keys, sorted rows, what is found and put in -/
theorem ub_inj {a b : Int64} (h : ub a = ub b) : a = b := Int64.toBitVec_inj.mp (BitVec.eq_of_toNat_eq h)
def kMin : Int64 := -9223372036854775808
theorem km_nat : kMin.toBitVec.toNat = 2 ^ 63 := by decide +kernel
theorem xmin (x : BitVec 64) : x ^^^ kMin.toBitVec = x + kMin.toBitVec := by
  apply BitVec.eq_of_getLsbD_eq
  intro i hi
  have hc : BitVec.carry i x kMin.toBitVec false = false := by
    unfold BitVec.carry
    rw [km_nat, Nat.mod_eq_zero_of_dvd (Nat.pow_dvd_pow 2 (show i ≤ 63 by omega))]
    have := Nat.mod_lt x.toNat (Nat.two_pow_pos i)
    exact decide_eq_false (by simp; omega)
  rw [BitVec.getLsbD_xor, BitVec.getLsbD_add hi, hc, Bool.xor_false]
theorem am_int (x : BitVec 64) : (x + kMin.toBitVec).toInt = (x.toNat : Int) - 2 ^ 63 := by
  have := x.isLt
  rw [BitVec.toInt_eq_toNat_cond, BitVec.toNat_add, km_nat]
  split <;> omega
theorem sa (a b : Int64) : (0 ≤ lg_cmp (a + kMin) (b + kMin)) ↔ ub b ≤ ub a := by
  rw [lg_cmp_ge, Int64.le_iff_toInt_le]
  show (b.toBitVec + kMin.toBitVec).toInt ≤ (a.toBitVec + kMin.toBitVec).toInt ↔ _
  rw [am_int, am_int]
  unfold ub
  omega
theorem sx (a b : Int64) : (0 ≤ lg_cmp (a ^^^ kMin) (b ^^^ kMin)) ↔ ub b ≤ ub a := by
  have e : ∀ c : Int64, c ^^^ kMin = c + kMin := fun c => Int64.toBitVec_inj.mp (xmin c.toBitVec)
  rw [e, e]
  exact sa a b
def KLT (a : Int64) (n : Int32) (b : Int64) (m : Int32) : Prop := ub a < ub b ∨ (a = b ∧ n.toInt < m.toInt)
theorem KLT_irr {a : Int64} {n : Int32} (h : KLT a n a n) : False := by
  rcases h with h | ⟨_, h⟩
  · omega
  · omega
theorem KLT_tr {a b c : Int64} {n m k : Int32} (h : KLT a n b m) (h2 : KLT b m c k) : KLT a n c k := by
  rcases h with h | ⟨e, h⟩
  · rcases h2 with h2 | ⟨e2, h2⟩
    · exact Or.inl (by omega)
    · rw [← e2]; exact Or.inl h
  · rcases h2 with h2 | ⟨e2, h2⟩
    · rw [e]; exact Or.inl h2
    · exact Or.inr ⟨e.trans e2, by omega⟩
theorem KLT_tri (a : Int64) (n : Int32) (b : Int64) (m : Int32) : KLT a n b m ∨ (a = b ∧ n = m) ∨ KLT b m a n := by
  rcases Nat.lt_trichotomy (ub a) (ub b) with h | h | h
  · exact Or.inl (Or.inl h)
  · have e := ub_inj h
    rcases Int.lt_trichotomy n.toInt m.toInt with g | g | g
    · exact Or.inl (Or.inr ⟨e, g⟩)
    · exact Or.inr (Or.inl ⟨e, Int32.toInt_inj.mp g⟩)
    · exact Or.inr (Or.inr (Or.inr ⟨e.symm, g⟩))
  · exact Or.inr (Or.inr (Or.inl h))
theorem fx_order {a0 a3 : Int64} {a2 a5 : Int32} {Q : Int32 → Prop} (h2 : 0 ≤ a2.toInt ∧ a2.toInt ≤ 8) (h5 : 0 ≤ a5.toInt ∧ a5.toInt ≤ 8) (hq : ∀ r : Int32, (r.toInt < 0 ↔ KLT a0 a2 a3 a5) → (r.toInt < 1 ↔ ¬ KLT a3 a5 a0 a2) → Q r) : wp_X8_order a0 a2 a3 a5 Q := by
  have key : ∀ r : Int32, (r.toInt < 0 ↔ KLT a0 a2 a3 a5) → (r.toInt = 0 ↔ a0 = a3 ∧ a2 = a5) → Q r := by
    intro r g1 g2
    refine hq r g1 ⟨fun h => ?_, fun h => ?_⟩
    · by_cases h0 : r.toInt < 0
      · intro hh
        exact KLT_irr (KLT_tr (g1.mp h0) hh)
      · obtain ⟨e1, e2⟩ := g2.mp (by omega)
        rw [e1, e2]
        exact fun hh => KLT_irr hh
    · rcases KLT_tri a0 a2 a3 a5 with t | t | t
      · have := g1.mpr t
        omega
      · have := g2.mpr t
        omega
      · exact absurd t h
  have sx' := sx a0 a3
  unfold wp_X8_order
  refine ⟨fun c => ⟨fun d => ?_, fun d => ?_⟩, fun c => ?_⟩
  · have ne : ¬ a0 = a3 := fun e => c ((lg_cmp_eq _ _).mpr e)
    have hu : ub a3 ≤ ub a0 := sx'.mp d
    refine key _ ⟨fun h => absurd h (by decide), fun h => ?_⟩ ⟨fun h => absurd h (by decide), fun h => absurd h.1 ne⟩
    rcases h with h | h
    · omega
    · exact absurd h.1 ne
  · have ne : ¬ a0 = a3 := fun e => c ((lg_cmp_eq _ _).mpr e)
    have hu : ¬ ub a3 ≤ ub a0 := fun h => d (sx'.mpr h)
    refine key _ ⟨fun h => Or.inl (by omega), fun h => by decide⟩ ⟨fun h => absurd h (by decide), fun h => absurd h.1 ne⟩
  · have e : a0 = a3 := (lg_cmp_eq _ _).mp c
    have es : (a2 - a5).toInt = a2.toInt - a5.toInt := pt_sub (by omega) (by omega)
    refine key _ ⟨fun h => Or.inr ⟨e, by omega⟩, fun h => ?_⟩ ⟨fun h => ⟨e, Int32.toInt_inj.mp (by omega)⟩, fun h => by rw [h.2] at es; rw [h.2]; omega⟩
    rcases h with h | h
    · rw [e] at h; omega
    · omega
theorem fx_isLess {S : bT9} {a1 a4 : Int64} {a3 a6 : Int32} {Q : Int32 → Prop} (hq : ∀ r : Int32, bf_bool r → (r.toInt = 1 ∧ KLT a1 a3 a4 a6) ∨ (r.toInt = 0 ∧ ¬ KLT a1 a3 a4 a6) → Q r) : wp_X9_isLess S a1 a3 a4 a6 Q := by
  have sa' := sa a1 a4
  unfold wp_X9_isLess
  refine ⟨fun c => ⟨fun d => ⟨rfl, hq _ rfl (Or.inr ⟨rfl, ?_⟩)⟩, fun d => ⟨rfl, hq _ rfl (Or.inl ⟨rfl, Or.inl ?_⟩)⟩⟩, fun c => ⟨fun d => ⟨rfl, hq _ rfl (Or.inr ⟨rfl, ?_⟩)⟩, fun d => ⟨rfl, hq _ rfl (Or.inl ⟨rfl, Or.inr ⟨(lg_cmp_eq _ _).mp c, ?_⟩⟩)⟩⟩⟩
  · have hu := sa'.mp d
    rintro (h | h)
    · omega
    · exact c ((lg_cmp_eq _ _).mpr h.1)
  · have hu : ¬ ub a4 ≤ ub a1 := fun h => d (sa'.mpr h)
    omega
  · have e := (lg_cmp_eq _ _).mp c
    simp only [pn] at d
    rintro (h | h)
    · rw [e] at h; omega
    · omega
  · simp only [pn] at d
    omega
def SRT (f : Nat → Int64) (g : Nat → Int32) (c : Int) : Prop := (∀ i j : Nat, i < j → (j : Int) < c → KLT (f i) (g i) (f j) (g j)) ∧ ∀ j : Nat, (j : Int) < c → 1 ≤ (g j).toInt ∧ (g j).toInt ≤ 8
def PO (f : Nat → Int64) (g : Nat → Int32) (k : Int64) (n : Int32) (l : Int32) (j : Nat) : Prop := (l = 0 → KLT (f j) (g j) k n) ∧ (l = 1 → ¬ KLT k n (f j) (g j))
theorem PO_mono {f : Nat → Int64} {g : Nat → Int32} {c : Int} (h : SRT f g c) {k : Int64} {n l : Int32} {i j : Nat} (hij : i ≤ j) (hj : (j : Int) < c) (hp : PO f g k n l j) : PO f g k n l i := by
  by_cases e : i = j
  · rw [e]; exact hp
  · have t := h.1 i j (by omega) hj
    exact ⟨fun hl => KLT_tr t (hp.1 hl), fun hl hh => hp.2 hl (KLT_tr hh t)⟩
def CNT (f : Nat → Int64) (g : Nat → Int32) (c : Int) (k : Int64) (n l : Int32) (r : Int) : Prop := (∀ j : Nat, (j : Int) < r → PO f g k n l j) ∧ ∀ j : Nat, r ≤ (j : Int) → (j : Int) < c → ¬ PO f g k n l j
theorem fx_counted {S : bT0} (hJ : J0 S) {a1 : Int64} {a3 a4 : Int32} {Q : Int32 → Prop} (hl : a4 = 0 ∨ a4 = 1) (hq : ∀ r : Int32, 0 ≤ r.toInt → r.toInt ≤ (b0g_count S).toInt → (SRT (b0g_bytes S) (b0g_lengths S) (b0g_count S).toInt → 1 ≤ a3.toInt ∧ a3.toInt ≤ 8 → CNT (b0g_bytes S) (b0g_lengths S) (b0g_count S).toInt a1 a3 a4 r.toInt) → Q r) : wp_X0_counted S a1 a3 a4 Q := by
  by_cases hs : SRT (b0g_bytes S) (b0g_lengths S) (b0g_count S).toInt ∧ 1 ≤ a3.toInt ∧ a3.toInt ≤ 8
  rotate_left
  · exact sf_X0_counted hJ (fun r h1 h2 => hq r h1 h2 (fun a b => absurd ⟨a, b⟩ hs))
  obtain ⟨hS, h31, h38⟩ := hs
  unfold wp_X0_counted wp_X0_counted_7
  have hJ2 := hJ
  obtain ⟨j0, j1⟩ := hJ2
  refine ⟨fun n x1 x3 x4 x5 x6 => x1 = a1 ∧ x3 = a3 ∧ x4 = a4 ∧ 0 ≤ x5.toInt ∧ x5.toInt ≤ (b0g_count S).toInt ∧ (∀ j : Nat, (j : Int) < x5.toInt → PO (b0g_bytes S) (b0g_lengths S) a1 a3 a4 j) ∧ ((x6.toInt = 64 ∧ n = 7) ∨ (x6.toInt = 32 ∧ n = 6) ∨ (x6.toInt = 16 ∧ n = 5) ∨ (x6.toInt = 8 ∧ n = 4) ∨ (x6.toInt = 4 ∧ n = 3) ∨ (x6.toInt = 2 ∧ n = 2) ∨ (x6.toInt = 1 ∧ n = 1) ∨ (x6.toInt = 0 ∧ n = 0)) ∧ (∀ j : Nat, (0 < x6.toInt ∧ x5.toInt + 2 * x6.toInt - 1 ≤ (j : Int)) ∨ (x6.toInt = 0 ∧ x5.toInt ≤ (j : Int)) → (j : Int) < (b0g_count S).toInt → ¬ PO (b0g_bytes S) (b0g_lengths S) a1 a3 a4 j), ⟨7, rfl, rfl, rfl, by decide, j0, fun j hj => by rw [pl_0] at hj; omega, Or.inl ⟨rfl, rfl⟩, fun j hj hc => by rw [pl_0, pl_64] at hj; omega⟩, ?_⟩
  rintro n x1 x3 x4 x5 x6 ⟨e1, e3, e4, h1, h2, hP, h6, hN⟩
  have h60 : 0 ≤ x6.toInt ∧ x6.toInt ≤ 64 := by omega
  unfold wp_X0_counted_7b
  rw [e1, e3, e4]
  refine ⟨fun c => ?_, fun c => ?_⟩
  · simp only [pn] at c
    have z : x6.toInt = 0 := by omega
    exact hq _ h1 h2 (fun _ _ => ⟨hP, fun j hj hc => hN j (Or.inr ⟨z, hj⟩) hc⟩)
  simp only [pn] at c
  have e5 : (x5 + x6).toInt = x5.toInt + x6.toInt := pt_add (by omega) (by omega)
  have e51 : (x5 + x6 - 1).toInt = x5.toInt + x6.toInt - 1 := by rw [pt_sub (by rw [e5, pl_1]; omega) (by rw [e5, pl_1]; omega), e5, pl_1]
  have half := pt_half h60.1
  have hnx : (((x6 / 2).toInt = 64 ∧ n - 1 = 7) ∨ ((x6 / 2).toInt = 32 ∧ n - 1 = 6) ∨ ((x6 / 2).toInt = 16 ∧ n - 1 = 5) ∨ ((x6 / 2).toInt = 8 ∧ n - 1 = 4) ∨ ((x6 / 2).toInt = 4 ∧ n - 1 = 3) ∨ ((x6 / 2).toInt = 2 ∧ n - 1 = 2) ∨ ((x6 / 2).toInt = 1 ∧ n - 1 = 1) ∨ ((x6 / 2).toInt = 0 ∧ n - 1 = 0)) := by
    rw [half]
    rcases h6 with ⟨p, q⟩ | ⟨p, q⟩ | ⟨p, q⟩ | ⟨p, q⟩ | ⟨p, q⟩ | ⟨p, q⟩ | ⟨p, q⟩ | ⟨p, q⟩
    · exact Or.inr (Or.inl ⟨by rw [p]; rfl, by rw [q]⟩)
    · exact Or.inr (Or.inr (Or.inl ⟨by rw [p]; rfl, by rw [q]⟩))
    · exact Or.inr (Or.inr (Or.inr (Or.inl ⟨by rw [p]; rfl, by rw [q]⟩)))
    · exact Or.inr (Or.inr (Or.inr (Or.inr (Or.inl ⟨by rw [p]; rfl, by rw [q]⟩))))
    · exact Or.inr (Or.inr (Or.inr (Or.inr (Or.inr (Or.inl ⟨by rw [p]; rfl, by rw [q]⟩)))))
    · exact Or.inr (Or.inr (Or.inr (Or.inr (Or.inr (Or.inr (Or.inl ⟨by rw [p]; rfl, by rw [q]⟩))))))
    · exact Or.inr (Or.inr (Or.inr (Or.inr (Or.inr (Or.inr (Or.inr ⟨by rw [p]; rfl, by rw [q]⟩))))))
    · exact absurd (Int.le_of_eq p) c
  have hq2 : 2 * (x6 / 2).toInt = x6.toInt ∨ (x6.toInt = 1 ∧ (x6 / 2).toInt = 0) := by
    rw [half]
    clear hnx
    rcases h6 with ⟨p, q⟩ | ⟨p, q⟩ | ⟨p, q⟩ | ⟨p, q⟩ | ⟨p, q⟩ | ⟨p, q⟩ | ⟨p, q⟩ | ⟨p, q⟩ <;> rw [p] <;> first | decide | (exfalso; omega)
  have hn1 : n - 1 < n := by clear hnx; omega
  clear h6
  have hend : ∀ y5 : Int32, 0 ≤ y5.toInt → y5.toInt ≤ (b0g_count S).toInt → (∀ j : Nat, (j : Int) < y5.toInt → PO (b0g_bytes S) (b0g_lengths S) a1 a3 a4 j) → (∀ j : Nat, y5.toInt + x6.toInt - 1 ≤ (j : Int) → (j : Int) < (b0g_count S).toInt → ¬ PO (b0g_bytes S) (b0g_lengths S) a1 a3 a4 j) → wp_X0_counted_59 S a1 a3 a4 y5 x6 Q (fun x1 x3 x4 x5 x6 => ∃ n2, n2 < n ∧ x1 = a1 ∧ x3 = a3 ∧ x4 = a4 ∧ 0 ≤ x5.toInt ∧ x5.toInt ≤ (b0g_count S).toInt ∧ (∀ j : Nat, (j : Int) < x5.toInt → PO (b0g_bytes S) (b0g_lengths S) a1 a3 a4 j) ∧ ((x6.toInt = 64 ∧ n2 = 7) ∨ (x6.toInt = 32 ∧ n2 = 6) ∨ (x6.toInt = 16 ∧ n2 = 5) ∨ (x6.toInt = 8 ∧ n2 = 4) ∨ (x6.toInt = 4 ∧ n2 = 3) ∨ (x6.toInt = 2 ∧ n2 = 2) ∨ (x6.toInt = 1 ∧ n2 = 1) ∨ (x6.toInt = 0 ∧ n2 = 0)) ∧ (∀ j : Nat, (0 < x6.toInt ∧ x5.toInt + 2 * x6.toInt - 1 ≤ (j : Int)) ∨ (x6.toInt = 0 ∧ x5.toInt ≤ (j : Int)) → (j : Int) < (b0g_count S).toInt → ¬ PO (b0g_bytes S) (b0g_lengths S) a1 a3 a4 j)) := by
    intro y5 g1 g2 g3 g4
    unfold wp_X0_counted_59
    refine ⟨by decide, n - 1, hn1, rfl, rfl, rfl, g1, g2, g3, hnx, fun j hj hc => g4 j ?_ hc⟩
    clear hnx hP hN
    omega
  clear hnx
  refine ⟨fun d => ?_, fun d => ?_⟩
  · simp only [pn, e51] at d
    exact hend x5 h1 h2 hP (fun j hj hc => by omega)
  · simp only [pn, e51] at d
    have cl := pt_clamp (i := x5 + x6 - 1) (by omega)
    have nb : ¬ (x5 + x6 - 1) < 0 := by simp only [pn, e51]; omega
    have nc : ¬ b0g_count S ≤ (x5 + x6 - 1) := by simp only [pn, e51]; omega
    have vin : vp_in (x5 + x6 - 1) 64 := pt_in (by omega) (by omega)
    have hlen := hS.2 (x5 + x6 - 1).toNatClampNeg (by omega)
    unfold wp_X0_bytesAt
    refine ⟨fun g => absurd g nb, fun _ => ⟨fun g => absurd g nc, fun _ => ⟨vin, ?_⟩⟩⟩
    unfold wp_X0_lengthAt
    refine ⟨fun g => absurd g nb, fun _ => ⟨fun g => absurd g nc, fun _ => ⟨vin, ?_⟩⟩⟩
    refine fx_order ⟨by omega, by omega⟩ ⟨by omega, by omega⟩ (fun r o1 o2 => ?_)
    have po : ¬ a4 ≤ r ↔ PO (b0g_bytes S) (b0g_lengths S) a1 a3 a4 (x5 + x6 - 1).toNatClampNeg := by
      rcases hl with e | e
      · rw [e]
        simp only [pn]
        refine ⟨fun h => ⟨fun _ => o1.mp (by omega), fun h2 => absurd h2 (by decide)⟩, fun h => ?_⟩
        have := o1.mpr (h.1 rfl)
        omega
      · rw [e]
        simp only [pn]
        refine ⟨fun h => ⟨fun h2 => absurd h2 (by decide), fun _ => o2.mp (by omega)⟩, fun h => ?_⟩
        have := o2.mpr (h.2 rfl)
        omega
    refine ⟨fun g => hend x5 h1 h2 hP (fun j hj hc hh => ?_), fun g => hend _ (by omega) (by omega) (fun j hj => ?_) (fun j hj hc => hN j (Or.inl (by omega)) hc)⟩
    · have := po.mpr (PO_mono hS (i := (x5 + x6 - 1).toNatClampNeg) (j := j) (by omega) hc hh)
      exact this g
    · exact PO_mono hS (j := (x5 + x6 - 1).toNatClampNeg) (by omega) (by omega) (po.mp g)
def LES (f : Nat → Int64) (g : Nat → Int32) (c : Int) (k : Int64) (n : Int32) (r : Int) : Prop := 0 ≤ r ∧ r ≤ c ∧ (∀ j : Nat, (j : Int) < r → KLT (f j) (g j) k n) ∧ ∀ j : Nat, (j : Int) = r → r < c → ¬ KLT (f j) (g j) k n
def NUM (f : Nat → Int64) (g : Nat → Int32) (c : Int) (k : Int64) (n : Int32) (r : Int) : Prop := (0 ≤ r ∧ r < c ∧ ∀ j : Nat, (j : Int) = r → f j = k ∧ g j = n) ∨ (r = -1 ∧ ∀ j : Nat, (j : Int) < c → ¬ (f j = k ∧ g j = n))
theorem LES_no {f : Nat → Int64} {g : Nat → Int32} {c : Int} (h : SRT f g c) {k : Int64} {n : Int32} {r : Int} (hl : LES f g c k n r) (hne : ∀ j : Nat, (j : Int) = r → r < c → ¬ (f j = k ∧ g j = n)) : ∀ j : Nat, (j : Int) < c → ¬ (f j = k ∧ g j = n) := by
  intro j hj hh
  by_cases h1 : (j : Int) < r
  · have t := hl.2.2.1 j h1
    rw [hh.1, hh.2] at t
    exact KLT_irr t
  · by_cases h2 : (j : Int) = r
    · exact hne j h2 (by omega) hh
    · have t := h.1 r.toNat j (by have := hl.1; omega) hj
      rw [hh.1, hh.2] at t
      exact hl.2.2.2 r.toNat (by have := hl.1; omega) (by omega) t
theorem NUM_one {f : Nat → Int64} {g : Nat → Int32} {c : Int} (h : SRT f g c) {k : Int64} {n : Int32} {r q : Int} (h1 : NUM f g c k n r) (h2 : NUM f g c k n q) : r = q := by
  rcases h1 with ⟨a0, a1, a2⟩ | ⟨a0, a1⟩
  · rcases h2 with ⟨b0, b1, b2⟩ | ⟨b0, b1⟩
    · have e1 := a2 r.toNat (by omega)
      have e2 := b2 q.toNat (by omega)
      rcases Int.lt_trichotomy r q with t | t | t
      · have l := h.1 r.toNat q.toNat (by omega) (by omega)
        rw [e1.1, e1.2, e2.1, e2.2] at l
        exact (KLT_irr l).elim
      · exact t
      · have l := h.1 q.toNat r.toNat (by omega) (by omega)
        rw [e1.1, e1.2, e2.1, e2.2] at l
        exact (KLT_irr l).elim
    · exact absurd (a2 r.toNat (by omega)) (b1 r.toNat (by omega))
  · rcases h2 with ⟨b0, b1, b2⟩ | ⟨b0, b1⟩
    · exact absurd (b2 q.toNat (by omega)) (a1 q.toNat (by omega))
    · omega
def AGR (f f2 : Nat → Int64) (g g2 : Nat → Int32) (c : Int) : Prop := ∀ j : Nat, (j : Int) < c → f j = f2 j ∧ g j = g2 j
theorem NUM_agr {f f2 : Nat → Int64} {g g2 : Nat → Int32} {c : Int} (e : AGR f f2 g g2 c) {k : Int64} {n : Int32} {r : Int} (h : NUM f g c k n r) : NUM f2 g2 c k n r := by
  rcases h with ⟨a0, a1, a2⟩ | ⟨a0, a1⟩
  · refine Or.inl ⟨a0, a1, fun j hj => ?_⟩
    have := e j (by omega)
    rw [← this.1, ← this.2]
    exact a2 j hj
  · refine Or.inr ⟨a0, fun j hj => ?_⟩
    have := e j hj
    rw [← this.1, ← this.2]
    exact a1 j hj
theorem SRT_agr {f f2 : Nat → Int64} {g g2 : Nat → Int32} {c : Int} (e : AGR f f2 g g2 c) (h : SRT f g c) : SRT f2 g2 c := by
  refine ⟨fun i j hij hj => ?_, fun j hj => ?_⟩
  · have a := e i (by omega)
    have b := e j hj
    rw [← a.1, ← a.2, ← b.1, ← b.2]
    exact h.1 i j hij hj
  · rw [← (e j hj).2]
    exact h.2 j hj
def INS (f : Nat → Int64) (g : Nat → Int32) (c : Int) (k : Int64) (n : Int32) (r : Int) (f2 : Nat → Int64) (g2 : Nat → Int32) (c2 : Int) : Prop :=
  (r = -1 ∧ c2 = c ∧ AGR f2 f g2 g c ∧ (64 ≤ c ∨ ∃ j : Nat, (j : Int) < c ∧ f j = k ∧ g j = n)) ∨
  (c < 64 ∧ c2 = c + 1 ∧ LES f g c k n r ∧ (∀ j : Nat, (j : Int) < c → ¬ (f j = k ∧ g j = n)) ∧ (∀ j : Nat, (j : Int) < r → f2 j = f j ∧ g2 j = g j) ∧ (∀ j : Nat, (j : Int) = r → f2 j = k ∧ g2 j = n) ∧ ∀ j : Nat, r ≤ (j : Int) → (j : Int) < c → f2 (j + 1) = f j ∧ g2 (j + 1) = g j)
theorem INS_srt {f f2 : Nat → Int64} {g g2 : Nat → Int32} {c c2 : Int} (h : SRT f g c) {k : Int64} {n : Int32} {r : Int} (hn : 1 ≤ n.toInt ∧ n.toInt ≤ 8) (hi : INS f g c k n r f2 g2 c2) : SRT f2 g2 c2 := by
  rcases hi with ⟨_, e, a, _⟩ | ⟨hc, e, hl, hne, p1, p2, p3⟩
  · rw [e]
    exact SRT_agr (fun j hj => ⟨(a j hj).1.symm, (a j hj).2.symm⟩) h
  · have r0 := hl.1
    have rc := hl.2.1
    have up : ∀ j : Nat, r ≤ (j : Int) → (j : Int) < c → KLT k n (f j) (g j) := by
      intro j h1 h2
      have nl : ¬ KLT (f j) (g j) k n := by
        intro t
        by_cases hj : (j : Int) = r
        · exact hl.2.2.2 j hj (by omega) t
        · exact hl.2.2.2 r.toNat (by omega) (by omega) (KLT_tr (h.1 r.toNat j (by omega) h2) t)
      rcases KLT_tri (f j) (g j) k n with t | t | t
      · exact absurd t nl
      · exact absurd t (hne j h2)
      · exact t
    have low : ∀ j : Nat, (j : Int) < r → f2 j = f j ∧ g2 j = g j := p1
    have hi : ∀ j : Nat, r < (j : Int) → (j : Int) < c2 → f2 j = f (j - 1) ∧ g2 j = g (j - 1) := by
      intro j h1 h2
      have t := p3 (j - 1) (by omega) (by omega)
      have ej : j - 1 + 1 = j := by omega
      rw [ej] at t
      exact t
    refine ⟨fun i j hij hj => ?_, fun j hj => ?_⟩
    · by_cases h1 : (j : Int) < r
      · rw [(low i (by omega)).1, (low i (by omega)).2, (low j h1).1, (low j h1).2]
        exact h.1 i j hij (by omega)
      · by_cases h2 : (j : Int) = r
        · rw [(low i (by omega)).1, (low i (by omega)).2, (p2 j h2).1, (p2 j h2).2]
          exact hl.2.2.1 i (by omega)
        · rw [(hi j (by omega) hj).1, (hi j (by omega) hj).2]
          by_cases h3 : (i : Int) < r
          · rw [(low i h3).1, (low i h3).2]
            exact h.1 i (j - 1) (by omega) (by omega)
          · by_cases h4 : (i : Int) = r
            · rw [(p2 i h4).1, (p2 i h4).2]
              exact up (j - 1) (by omega) (by omega)
            · rw [(hi i (by omega) (by omega)).1, (hi i (by omega) (by omega)).2]
              exact h.1 (i - 1) (j - 1) (by omega) (by omega)
    · by_cases h1 : (j : Int) < r
      · rw [(low j h1).2]
        exact h.2 j (by omega)
      · by_cases h2 : (j : Int) = r
        · rw [(p2 j h2).2]
          exact hn
        · rw [(hi j (by omega) hj).2]
          exact h.2 (j - 1) (by omega)
theorem LES_one {f f2 : Nat → Int64} {g g2 : Nat → Int32} {c : Int} (e : AGR f f2 g g2 c) {k : Int64} {n : Int32} {r q : Int} (h1 : LES f g c k n r) (h2 : LES f2 g2 c k n q) : r = q := by
  rcases Int.lt_trichotomy r q with t | t | t
  · have l := h2.2.2.1 r.toNat (by have := h1.1; omega)
    have a := e r.toNat (by have := h1.1; have := h2.2.1; omega)
    rw [← a.1, ← a.2] at l
    exact absurd l (h1.2.2.2 r.toNat (by have := h1.1; omega) (by have := h2.2.1; omega))
  · exact t
  · have l := h1.2.2.1 q.toNat (by have := h2.1; omega)
    have a := e q.toNat (by have := h2.1; have := h1.2.1; omega)
    rw [a.1, a.2] at l
    exact absurd l (h2.2.2.2 q.toNat (by have := h2.1; omega) (by have := h1.2.1; omega))
theorem INS_det {f f2 fa fb : Nat → Int64} {g g2 ga gb : Nat → Int32} {c ca cb : Int} (e : AGR f f2 g g2 c) {k : Int64} {n : Int32} {r q : Int} (h1 : INS f g c k n r fa ga ca) (h2 : INS f2 g2 c k n q fb gb cb) : r = q ∧ ca = cb ∧ AGR fa fb ga gb ca := by
  rcases h1 with ⟨a1, a2, a3, a4⟩ | ⟨a1, a2, a3, a4, a5, a6, a7⟩
  · rcases h2 with ⟨b1, b2, b3, b4⟩ | ⟨b1, b2, b3, b4, b5, b6, b7⟩
    · refine ⟨by omega, by omega, fun j hj => ?_⟩
      rw [a2] at hj
      have x := a3 j hj
      have y := b3 j hj
      have z := e j hj
      exact ⟨x.1.trans (z.1.trans y.1.symm), x.2.trans (z.2.trans y.2.symm)⟩
    · exfalso
      rcases a4 with a4 | ⟨j, hj, x, y⟩
      · omega
      · have z := e j hj
        exact b4 j hj ⟨z.1.symm.trans x, z.2.symm.trans y⟩
  · rcases h2 with ⟨b1, b2, b3, b4⟩ | ⟨b1, b2, b3, b4, b5, b6, b7⟩
    · exfalso
      rcases b4 with b4 | ⟨j, hj, x, y⟩
      · omega
      · have z := e j hj
        exact a4 j hj ⟨z.1.trans x, z.2.trans y⟩
    · have er := LES_one e a3 b3
      subst er
      have r0 := a3.1
      have rc := a3.2.1
      refine ⟨rfl, by omega, fun j hj => ?_⟩
      rw [a2] at hj
      by_cases h1 : (j : Int) < r
      · have x := a5 j h1
        have y := b5 j h1
        have z := e j (by omega)
        exact ⟨x.1.trans (z.1.trans y.1.symm), x.2.trans (z.2.trans y.2.symm)⟩
      · by_cases h2 : (j : Int) = r
        · have x := a6 j h2
          have y := b6 j h2
          exact ⟨x.1.trans y.1.symm, x.2.trans y.2.symm⟩
        · have x := a7 (j - 1) (by omega) (by omega)
          have y := b7 (j - 1) (by omega) (by omega)
          have z := e (j - 1) (by omega)
          have ej : j - 1 + 1 = j := by omega
          rw [ej] at x y
          exact ⟨x.1.trans (z.1.trans y.1.symm), x.2.trans (z.2.trans y.2.symm)⟩
def DRP (f : Nat → Int64) (g : Nat → Int32) (c : Int) (a : Int) (f2 : Nat → Int64) (g2 : Nat → Int32) (c2 : Int) : Prop :=
  (¬ (0 ≤ a ∧ a < c) ∧ c2 = c ∧ AGR f2 f g2 g c) ∨ (0 ≤ a ∧ a < c ∧ c2 = c - 1 ∧ (∀ j : Nat, (j : Int) < a → f2 j = f j ∧ g2 j = g j) ∧ ∀ j : Nat, a ≤ (j : Int) → (j : Int) < c - 1 → f2 j = f (j + 1) ∧ g2 j = g (j + 1))
theorem DRP_srt {f f2 : Nat → Int64} {g g2 : Nat → Int32} {c c2 a : Int} (h : SRT f g c) (hd : DRP f g c a f2 g2 c2) : SRT f2 g2 c2 := by
  rcases hd with ⟨_, e, x⟩ | ⟨a0, a1, e, p1, p2⟩
  · rw [e]
    exact SRT_agr (fun j hj => ⟨(x j hj).1.symm, (x j hj).2.symm⟩) h
  · have sh : ∀ j : Nat, (j : Int) < c2 → ∃ i : Nat, f2 j = f i ∧ g2 j = g i ∧ (i : Int) < c ∧ ((j : Int) < a → i = j) ∧ (a ≤ (j : Int) → i = j + 1) := by
      intro j hj
      by_cases h1 : (j : Int) < a
      · exact ⟨j, (p1 j h1).1, (p1 j h1).2, by omega, fun _ => rfl, fun h => by omega⟩
      · exact ⟨j + 1, (p2 j (by omega) (by omega)).1, (p2 j (by omega) (by omega)).2, by omega, fun h => absurd h h1, fun _ => rfl⟩
    refine ⟨fun i j hij hj => ?_, fun j hj => ?_⟩
    · obtain ⟨i2, a1, a2, a3, a4, a5⟩ := sh i (by omega)
      obtain ⟨j2, b1, b2, b3, b4, b5⟩ := sh j hj
      rw [a1, a2, b1, b2]
      refine h.1 i2 j2 ?_ b3
      by_cases h1 : (i : Int) < a
      · have := a4 h1
        by_cases h2 : (j : Int) < a
        · have := b4 h2; omega
        · have := b5 (by omega); omega
      · have := a5 (by omega)
        have := b5 (by omega)
        omega
    · obtain ⟨j2, b1, b2, b3, b4, b5⟩ := sh j hj
      rw [b2]
      exact h.2 j2 b3
theorem DRP_det {f f2 fa fb : Nat → Int64} {g g2 ga gb : Nat → Int32} {c ca cb a : Int} (e : AGR f f2 g g2 c) (h1 : DRP f g c a fa ga ca) (h2 : DRP f2 g2 c a fb gb cb) : ca = cb ∧ AGR fa fb ga gb ca := by
  rcases h1 with ⟨a1, a2, a3⟩ | ⟨a0, a1, a2, a3, a4⟩
  · rcases h2 with ⟨b1, b2, b3⟩ | ⟨b0, b1, b2, b3, b4⟩
    · refine ⟨by omega, fun j hj => ?_⟩
      rw [a2] at hj
      have x := a3 j hj
      have y := b3 j hj
      have z := e j hj
      exact ⟨x.1.trans (z.1.trans y.1.symm), x.2.trans (z.2.trans y.2.symm)⟩
    · exact absurd ⟨b0, b1⟩ a1
  · rcases h2 with ⟨b1, b2, b3⟩ | ⟨b0, b1, b2, b3, b4⟩
    · exact absurd ⟨a0, a1⟩ b1
    · refine ⟨by omega, fun j hj => ?_⟩
      rw [a2] at hj
      by_cases h1 : (j : Int) < a
      · have x := a3 j h1
        have y := b3 j h1
        have z := e j (by omega)
        exact ⟨x.1.trans (z.1.trans y.1.symm), x.2.trans (z.2.trans y.2.symm)⟩
      · have x := a4 j (by omega) hj
        have y := b4 j (by omega) hj
        have z := e (j + 1) (by omega)
        exact ⟨x.1.trans (z.1.trans y.1.symm), x.2.trans (z.2.trans y.2.symm)⟩
theorem sh0 {f : Nat → Int64} : (fun j => f (((0 : Int32)).toNatClampNeg + j)) = f := by
  funext j
  rw [show ((0 : Int32)).toNatClampNeg = 0 from rfl, Nat.zero_add]
theorem sh0' {f : Nat → Int32} : (fun j => f (((0 : Int32)).toNatClampNeg + j)) = f := by
  funext j
  rw [show ((0 : Int32)).toNatClampNeg = 0 from rfl, Nat.zero_add]
theorem fx_bytesAt {S : bT0} (hJ : J0 S) {a1 : Int32} {Q : Int64 → Prop} (hq : ∀ r : Int64, (∀ j : Nat, (j : Int) = a1.toInt → (j : Int) < (b0g_count S).toInt → r = b0g_bytes S j) → (¬ (0 ≤ a1.toInt ∧ a1.toInt < (b0g_count S).toInt) → r = 0) → Q r) : wp_X0_bytesAt S a1 Q := by
  obtain ⟨j0, j1⟩ := hJ
  unfold wp_X0_bytesAt
  refine ⟨fun c => ?_, fun c => ⟨fun d => ?_, fun d => ⟨?_, ?_⟩⟩⟩
  · simp only [pn] at c
    exact hq _ (fun j e h => by omega) (fun _ => rfl)
  · simp only [pn] at c d
    exact hq _ (fun j e h => by omega) (fun _ => rfl)
  · simp only [pn] at c d
    exact pt_in (by omega) (by omega)
  · simp only [pn] at c d
    have e := pt_clamp (i := a1) (by omega)
    exact hq _ (fun j ej h => by rw [show a1.toNatClampNeg = j by omega]) (fun h => by omega)
theorem fx_lengthAt {S : bT0} (hJ : J0 S) {a1 : Int32} {Q : Int32 → Prop} (hq : ∀ r : Int32, (∀ j : Nat, (j : Int) = a1.toInt → (j : Int) < (b0g_count S).toInt → r = b0g_lengths S j) → (¬ (0 ≤ a1.toInt ∧ a1.toInt < (b0g_count S).toInt) → r = 0) → Q r) : wp_X0_lengthAt S a1 Q := by
  obtain ⟨j0, j1⟩ := hJ
  unfold wp_X0_lengthAt
  refine ⟨fun c => ?_, fun c => ⟨fun d => ?_, fun d => ⟨?_, ?_⟩⟩⟩
  · simp only [pn] at c
    exact hq _ (fun j e h => by omega) (fun _ => rfl)
  · simp only [pn] at c d
    exact hq _ (fun j e h => by omega) (fun _ => rfl)
  · simp only [pn] at c d
    exact pt_in (by omega) (by omega)
  · simp only [pn] at c d
    have e := pt_clamp (i := a1) (by omega)
    exact hq _ (fun j ej h => by rw [show a1.toNatClampNeg = j by omega]) (fun h => by omega)
theorem CNT_les {f : Nat → Int64} {g : Nat → Int32} {c : Int} {k : Int64} {n : Int32} {r : Int} (h0 : 0 ≤ r) (h1 : r ≤ c) (h : CNT f g c k n 0 r) : LES f g c k n r := by
  refine ⟨h0, h1, fun j hj => (h.1 j hj).1 rfl, fun j hj hc hh => ?_⟩
  exact h.2 j (by omega) (by omega) ⟨fun _ => hh, fun e => absurd e (by decide)⟩
theorem fx_ahead {S : bT0} (hJ : J0 S) {a1 : Int64} {a3 : Int32} {Q : Int32 → Prop} (hq : ∀ r : Int32, 0 ≤ r.toInt → r.toInt ≤ (b0g_count S).toInt → (SRT (b0g_bytes S) (b0g_lengths S) (b0g_count S).toInt → 1 ≤ a3.toInt ∧ a3.toInt ≤ 8 → LES (b0g_bytes S) (b0g_lengths S) (b0g_count S).toInt a1 a3 r.toInt) → Q r) : wp_X0_ahead S a1 a3 Q :=
  fx_counted hJ (Or.inl rfl) (fun r h0 h1 h => hq r h0 h1 (fun hs hn => CNT_les h0 h1 (h hs hn)))
theorem fx_numberOf {S : bT0} (hJ : J0 S) {a1 : Int64} {a3 : Int32} {Q : Int32 → Prop} (hq : ∀ r : Int32, -1 ≤ r.toInt → r.toInt ≤ (b0g_count S).toInt → (SRT (b0g_bytes S) (b0g_lengths S) (b0g_count S).toInt → 1 ≤ a3.toInt ∧ a3.toInt ≤ 8 → NUM (b0g_bytes S) (b0g_lengths S) (b0g_count S).toInt a1 a3 r.toInt) → Q r) : wp_X0_numberOf S a1 a3 Q := by
  have jc := hJ
  obtain ⟨j0, j1⟩ := jc
  unfold wp_X0_numberOf
  refine fx_ahead hJ (fun r h0 h1 hl => fx_bytesAt hJ (fun b hb hb0 => ⟨fun c => ?_, fun c => fx_lengthAt hJ (fun l hl2 hl0 => ⟨fun d => ?_, fun d => ?_⟩)⟩))
  · refine hq _ (by decide) (by rw [pl_m1]; omega) (fun hs hn => Or.inr ⟨rfl, ?_⟩)
    have t := hl hs hn
    refine LES_no hs t (fun j hj hc hh => ?_)
    have := hb j hj (by omega)
    exact c ((lg_cmp_eq _ _).mpr (this.trans hh.1))
  · refine hq _ (by decide) (by rw [pl_m1]; omega) (fun hs hn => Or.inr ⟨rfl, ?_⟩)
    have t := hl hs hn
    refine LES_no hs t (fun j hj hc hh => ?_)
    have := hl2 j hj (by omega)
    exact d (this.trans hh.2)
  · refine hq _ (by omega) h1 (fun hs hn => ?_)
    have t := hl hs hn
    by_cases hc : r.toInt < (b0g_count S).toInt
    · refine Or.inl ⟨h0, hc, fun j hj => ?_⟩
      have x := hb j hj (by omega)
      have y := hl2 j hj (by omega)
      exact ⟨x.symm.trans ((lg_cmp_eq _ _).mp c), y.symm.trans d⟩
    · have z := hl0 (by omega)
      rw [z] at d
      rw [← d, pl_0] at hn
      omega
/-! keys out of two ints -/
def frontf (n : Int32) : Int64 := if n < (8 : Int32) then (-1 : Int64) <<< ((((64 : Int32) - ((8 : Int32) * n))).toInt64 &&& 63) else (-1 : Int64)
def KEY (a b n : Int32) : Int64 := cutf (((a.toInt64 &&& (4294967295 : Int64)) <<< (((32 : Int32)).toInt64 &&& 63)) ||| (b.toInt64 &&& (4294967295 : Int64))) n
theorem af (K : BitVec 64) (s : Nat) : K &&& (BitVec.allOnes 64 <<< s) = (K >>> s) <<< s := by
  apply BitVec.eq_of_getLsbD_eq
  intro i hi
  rw [BitVec.getLsbD_and, BitVec.getLsbD_shiftLeft, BitVec.getLsbD_shiftLeft, BitVec.getLsbD_ushiftRight, BitVec.getLsbD_allOnes]
  by_cases h : i < s
  · simp [h]
  · have e : s + (i - s) = i := by omega
    rw [e]
    have e2 : i - s < 64 := by omega
    simp [h, hi, e2]
theorem fr_1 : frontf 1 = Int64.ofBitVec (BitVec.allOnes 64 <<< 56) := by decide +kernel
theorem fr_2 : frontf 2 = Int64.ofBitVec (BitVec.allOnes 64 <<< 48) := by decide +kernel
theorem fr_3 : frontf 3 = Int64.ofBitVec (BitVec.allOnes 64 <<< 40) := by decide +kernel
theorem fr_4 : frontf 4 = Int64.ofBitVec (BitVec.allOnes 64 <<< 32) := by decide +kernel
theorem fr_5 : frontf 5 = Int64.ofBitVec (BitVec.allOnes 64 <<< 24) := by decide +kernel
theorem fr_6 : frontf 6 = Int64.ofBitVec (BitVec.allOnes 64 <<< 16) := by decide +kernel
theorem fr_7 : frontf 7 = Int64.ofBitVec (BitVec.allOnes 64 <<< 8) := by decide +kernel
theorem fr_8 : frontf 8 = Int64.ofBitVec (BitVec.allOnes 64 <<< 0) := by decide +kernel
theorem and_front (K : Int64) {n : Int32} (h1 : 1 ≤ n.toInt) (h8 : n.toInt ≤ 8) : K &&& frontf n = cutf K n := by
  have hl : n = 1 ∨ n = 2 ∨ n = 3 ∨ n = 4 ∨ n = 5 ∨ n = 6 ∨ n = 7 ∨ n = 8 := by
    simp only [← Int32.toInt_inj, pl_1, pl_2, pl_3, pl_4, pl_5, pl_6, pl_7, pl_8]
    omega
  rcases hl with rfl | rfl | rfl | rfl | rfl | rfl | rfl | rfl
  · rw [cutf_1, fr_1]; exact Int64.toBitVec_inj.mp (af K.toBitVec 56)
  · rw [cutf_2, fr_2]; exact Int64.toBitVec_inj.mp (af K.toBitVec 48)
  · rw [cutf_3, fr_3]; exact Int64.toBitVec_inj.mp (af K.toBitVec 40)
  · rw [cutf_4, fr_4]; exact Int64.toBitVec_inj.mp (af K.toBitVec 32)
  · rw [cutf_5, fr_5]; exact Int64.toBitVec_inj.mp (af K.toBitVec 24)
  · rw [cutf_6, fr_6]; exact Int64.toBitVec_inj.mp (af K.toBitVec 16)
  · rw [cutf_7, fr_7]; exact Int64.toBitVec_inj.mp (af K.toBitVec 8)
  · rw [cutf_8, fr_8]; exact Int64.toBitVec_inj.mp (af K.toBitVec 0)
theorem sh32 (x : BitVec 64) : x <<< 32 = (x &&& 4294967295#64) <<< 32 := by
  apply BitVec.eq_of_getLsbD_eq
  intro i hi
  rw [BitVec.getLsbD_shiftLeft, BitVec.getLsbD_shiftLeft, BitVec.getLsbD_and]
  by_cases h : i < 32
  · simp [h]
  · have m : (4294967295#64).getLsbD (i - 32) = true := by
      have : ∀ k : Nat, k < 32 → (4294967295#64).getLsbD k = true := by decide +kernel
      exact this (i - 32) (by omega)
    rw [m, Bool.and_true]
theorem key_eq {a b n : Int32} (h1 : 1 ≤ n.toInt) (h8 : n.toInt ≤ 8) : ((a.toInt64 <<< (((32 : Int32)).toInt64 &&& 63)) ||| (b.toInt64 &&& (4294967295 : Int64))) &&& frontf n = KEY a b n := by
  rw [and_front _ h1 h8]
  unfold KEY
  have e : a.toInt64 <<< (((32 : Int32)).toInt64 &&& 63) = (a.toInt64 &&& (4294967295 : Int64)) <<< (((32 : Int32)).toInt64 &&& 63) := Int64.toBitVec_inj.mp (sh32 a.toInt64.toBitVec)
  rw [e]
/-! chains of keys put in one behind another -/
def CHN (K : Nat → Int64) (N : Nat → Int32) : Nat → (Nat → Int64) → (Nat → Int32) → Int → (Nat → Int64) → (Nat → Int32) → Int → Int → Prop
  | 0, f, g, c, f2, g2, c2, w => c2 = c ∧ AGR f2 f g2 g c ∧ w = 0
  | i + 1, f, g, c, f2, g2, c2, w => ∃ (f1 : Nat → Int64) (g1 : Nat → Int32) (c1 r w1 : Int), CHN K N i f g c f1 g1 c1 w1 ∧ INS f1 g1 c1 (K i) (N i) r f2 g2 c2 ∧ w = w1 + (if r = -1 then 0 else 1)
theorem CHN_det {K : Nat → Int64} {N : Nat → Int32} {f fb : Nat → Int64} {g gb : Nat → Int32} {c : Int} (e : AGR f fb g gb c) : ∀ (i : Nat) {f2 f3 : Nat → Int64} {g2 g3 : Nat → Int32} {c2 c3 w w3 : Int}, CHN K N i f g c f2 g2 c2 w → CHN K N i fb gb c f3 g3 c3 w3 → w = w3 ∧ c2 = c3 ∧ AGR f2 f3 g2 g3 c2 := by
  intro i
  induction i with
  | zero =>
    rintro f2 f3 g2 g3 c2 c3 w w3 ⟨a1, a2, a3⟩ ⟨b1, b2, b3⟩
    refine ⟨by omega, by omega, fun j hj => ?_⟩
    rw [a1] at hj
    have x := a2 j hj
    have y := b2 j hj
    have z := e j hj
    exact ⟨x.1.trans (z.1.trans y.1.symm), x.2.trans (z.2.trans y.2.symm)⟩
  | succ i ih =>
    rintro f2 f3 g2 g3 c2 c3 w w3 ⟨f1, g1, c1, r, w1, a1, a2, a3⟩ ⟨f4, g4, c4, r4, w4, b1, b2, b3⟩
    obtain ⟨h1, h2, h3⟩ := ih a1 b1
    subst h2
    obtain ⟨k1, k2, k3⟩ := INS_det h3 a2 b2
    subst k1
    exact ⟨by rw [a3, b3, h1], k2, k3⟩
theorem CHN_srt {K : Nat → Int64} {N : Nat → Int32} {f : Nat → Int64} {g : Nat → Int32} {c : Int} (h : SRT f g c) : ∀ (i : Nat) {f2 : Nat → Int64} {g2 : Nat → Int32} {c2 w : Int}, (∀ q : Nat, q < i → 1 ≤ (N q).toInt ∧ (N q).toInt ≤ 8) → CHN K N i f g c f2 g2 c2 w → SRT f2 g2 c2 := by
  intro i
  induction i with
  | zero =>
    rintro f2 g2 c2 w hn ⟨a1, a2, a3⟩
    rw [a1]
    exact SRT_agr (fun j hj => ⟨(a2 j hj).1.symm, (a2 j hj).2.symm⟩) h
  | succ i ih =>
    rintro f2 g2 c2 w hn ⟨f1, g1, c1, r, w1, a1, a2, a3⟩
    exact INS_srt (ih (fun q hq => hn q (by omega)) a1) (hn i (by omega)) a2
/-! keys that are drawn -/
def DKY (al s : Int32) : Nat → Int64
  | 0 => 0
  | i + 1 => DKY al s i ||| ((drw (lcgN (i + 1) s) al).toInt64 <<< ((((56 : Int32) - ((8 : Int32) * nI i))).toInt64 &&& 63))
def NN (m s : Int32) (i : Nat) : Int32 := 1 + drw (lcg (stpN m i s)) m
def KN (al m s : Int32) (i : Nat) : Int64 := DKY al (lcg (stpN m i s)) (NN m s i).toInt.toNat
/-! copies -/
def REQ (K K2 : bT0) : Prop := b0g_count K = b0g_count K2 ∧ ∀ j : Nat, j < 64 → b0g_bytes K j = b0g_bytes K2 j ∧ b0g_lengths K j = b0g_lengths K2 j
def PEQ (P P2 : bT3) : Prop := REQ (b3g_members P) (b3g_members P2) ∧ (∀ j : Nat, j < 6 → b3g_values P j = b3g_values P2 j) ∧ b3g_mode P = b3g_mode P2
def MEQ (M M2 : bT2) : Prop := PEQ (b2g_told M) (b2g_told M2) ∧ PEQ (b2g_built M) (b2g_built M2) ∧ REQ (b2g_questions M) (b2g_questions M2) ∧ (∀ j : Nat, j < 6 → b2g_answers M j = b2g_answers M2 j) ∧ b2g_draws M = b2g_draws M2
theorem cpy_at {α : Type} {f g : Nat → α} {n : Int32} {k j : Nat} (hn : n.toNatClampNeg = k) (hj : j < k) : va_cpy f g ((0 : Int32)).toNatClampNeg ((0 : Int32)).toNatClampNeg n.toNatClampNeg j = f j := by
  unfold va_cpy
  rw [show ((0 : Int32)).toNatClampNeg = 0 from rfl, hn, if_pos (by omega)]
  congr 1
  omega
theorem at4 {f : Nat → Int32} : atf 6 f 4 = f 4 := by
  unfold atf
  rw [if_neg (by decide), if_neg (by decide)]
  rfl
theorem nI_back {x : Int32} (h : 0 ≤ x.toInt) : nI x.toInt.toNat = x := by
  have := (pt_rg x).2
  exact Int32.toInt_inj.mp (by rw [nI_toInt (by omega)]; omega)
theorem DKY_s {al s x : Int32} (h0 : 0 ≤ x.toInt) (h1 : x.toInt ≤ 100) : DKY al s (x + 1).toInt.toNat = DKY al s x.toInt.toNat ||| ((drw (lcg (lcgN x.toInt.toNat s)) al).toInt64 <<< ((((56 : Int32) - ((8 : Int32) * x))).toInt64 &&& 63)) := by
  have e : (x + 1).toInt = x.toInt + 1 := by rw [pt_add (by rw [pl_1]; omega) (by rw [pl_1]; omega), pl_1]
  have e2 : (x + 1).toInt.toNat = x.toInt.toNat + 1 := by omega
  rw [e2]
  show DKY al s x.toInt.toNat ||| ((drw (lcgN (x.toInt.toNat + 1) s) al).toInt64 <<< ((((56 : Int32) - ((8 : Int32) * nI x.toInt.toNat))).toInt64 &&& 63)) = _
  rw [nI_back h0]
  rfl
theorem drw_rng {s m : Int32} (h : 0 < m.toInt) : 0 ≤ (drw s m).toInt ∧ (drw s m).toInt < m.toInt := by
  rw [drw_1 (by omega)]
  exact pt_rem (pt_ushr8 s) h
theorem NN_rng {m s : Int32} {i : Nat} (h : 1 ≤ m.toInt) (h8 : m.toInt ≤ 8) : 1 ≤ (NN m s i).toInt ∧ (NN m s i).toInt ≤ 8 := by
  have r := drw_rng (s := lcg (stpN m i s)) (m := m) (by omega)
  have e : (1 + drw (lcg (stpN m i s)) m).toInt = 1 + (drw (lcg (stpN m i s)) m).toInt := by rw [pt_add (by rw [pl_1]; omega) (by rw [pl_1]; omega), pl_1]
  unfold NN
  rw [e]
  omega
theorem CHN_step {K : Nat → Int64} {N : Nat → Int32} {x : Int32} {f f1 f2 : Nat → Int64} {g g1 g2 : Nat → Int32} {c c1 c2 r w w2 : Int} (h0 : 0 ≤ x.toInt) (h1 : x.toInt ≤ 1000) (h : CHN K N x.toInt.toNat f g c f1 g1 c1 w) (hi : INS f1 g1 c1 (K x.toInt.toNat) (N x.toInt.toNat) r f2 g2 c2) (hw : w2 = w + (if r = -1 then 0 else 1)) : CHN K N (x + 1).toInt.toNat f g c f2 g2 c2 w2 := by
  have e : (x + 1).toInt = x.toInt + 1 := by rw [pt_add (by rw [pl_1]; omega) (by rw [pl_1]; omega), pl_1]
  have e2 : (x + 1).toInt.toNat = x.toInt.toNat + 1 := by omega
  rw [e2]
  exact ⟨f1, g1, c1, r, w, h, hi, hw⟩
/-! keys on the tape -/
def POS (T : Nat → Int32) : Nat → Nat
  | 0 => 0
  | i + 1 => POS T i + 1 + (T (POS T i)).toInt.toNat
def TKf (T : Nat → Int32) (a : Nat) : Nat → Int64
  | 0 => 0
  | i + 1 => TKf T a i ||| ((T (a + i)).toInt64 <<< ((((56 : Int32) - ((8 : Int32) * nI i))).toInt64 &&& 63))
def TNY (T : Nat → Int32) (i : Nat) : Int32 := T (POS T i)
def TKY (T : Nat → Int32) (i : Nat) : Int64 := TKf T (POS T i + 1) (T (POS T i)).toInt.toNat
def WFP (T : Nat → Int32) (n : Int) (p : Nat) : Prop := (POS T p : Int) = n ∧ ∀ i : Nat, i < p → 1 ≤ (T (POS T i)).toInt ∧ (T (POS T i)).toInt ≤ 8
theorem POS_s (T : Nat → Int32) (i : Nat) : POS T (i + 1) = POS T i + 1 + (T (POS T i)).toInt.toNat := rfl
theorem POS_lt {T : Nat → Int32} {i : Nat} : ∀ {j : Nat}, i < j → POS T i < POS T j := by
  intro j
  induction j with
  | zero => intro h; omega
  | succ j ih =>
    intro h
    rw [POS_s]
    by_cases e : i = j
    · rw [e]; omega
    · have := ih (by omega)
      omega
theorem POS_le {T : Nat → Int32} {i j : Nat} (h : i ≤ j) : POS T i ≤ POS T j := by
  by_cases e : i = j
  · rw [e]; exact Nat.le_refl _
  · have := POS_lt (T := T) (show i < j by omega)
    omega
theorem POS_in {T : Nat → Int32} {n : Int} {p i : Nat} (h : WFP T n p) (hi : (POS T i : Int) < n) : i < p := by
  apply Classical.byContradiction
  intro hh
  have := POS_le (T := T) (show p ≤ i by omega)
  have := h.1
  omega
theorem WFP_one {T : Nat → Int32} {n : Int} {p q : Nat} (h : WFP T n p) (h2 : WFP T n q) : p = q := by
  rcases Nat.lt_trichotomy p q with t | t | t
  · have := POS_lt (T := T) t
    have := h.1
    have := h2.1
    omega
  · exact t
  · have := POS_lt (T := T) t
    have := h.1
    have := h2.1
    omega
theorem POS_agr {T T2 : Nat → Int32} {n : Int} (e : ∀ j : Nat, (j : Int) < n → T j = T2 j) : ∀ i : Nat, (∀ q : Nat, q < i → (POS T q : Int) < n) → POS T i = POS T2 i := by
  intro i
  induction i with
  | zero => intro _; rfl
  | succ i ih =>
    intro h
    have a := ih (fun q hq => h q (by omega))
    rw [POS_s, POS_s, ← a, e _ (h i (by omega))]
def OLD (f : Nat → Int64) (g : Nat → Int32) (c : Int) (K : Nat → Int64) (N : Nat → Int32) (i : Nat) (k : Int64) (n : Int32) : Prop := (∃ j : Nat, (j : Int) < c ∧ f j = k ∧ g j = n) ∨ ∃ q : Nat, q < i ∧ K q = k ∧ N q = n
noncomputable def NWC (f : Nat → Int64) (g : Nat → Int32) (c : Int) (K : Nat → Int64) (N : Nat → Int32) : Nat → Int
  | 0 => 0
  | i + 1 => NWC f g c K N i + @ite Int (OLD f g c K N i (K i) (N i)) (Classical.propDecidable _) 0 1
theorem NWC_o {f : Nat → Int64} {g : Nat → Int32} {c : Int} {K : Nat → Int64} {N : Nat → Int32} {i : Nat} (h : OLD f g c K N i (K i) (N i)) : NWC f g c K N (i + 1) = NWC f g c K N i := by
  show NWC f g c K N i + @ite Int (OLD f g c K N i (K i) (N i)) (Classical.propDecidable _) 0 1 = _
  rw [if_pos h]
  omega
theorem NWC_n {f : Nat → Int64} {g : Nat → Int32} {c : Int} {K : Nat → Int64} {N : Nat → Int32} {i : Nat} (h : ¬ OLD f g c K N i (K i) (N i)) : NWC f g c K N (i + 1) = NWC f g c K N i + 1 := by
  show NWC f g c K N i + @ite Int (OLD f g c K N i (K i) (N i)) (Classical.propDecidable _) 0 1 = _
  rw [if_neg h]
theorem NWC_s {f : Nat → Int64} {g : Nat → Int32} {c : Int} {K : Nat → Int64} {N : Nat → Int32} (i : Nat) : NWC f g c K N i ≤ NWC f g c K N (i + 1) ∧ NWC f g c K N (i + 1) ≤ NWC f g c K N i + 1 := by
  by_cases h : OLD f g c K N i (K i) (N i)
  · have := NWC_o h; omega
  · have := NWC_n h; omega
theorem NWC_le {f : Nat → Int64} {g : Nat → Int32} {c : Int} {K : Nat → Int64} {N : Nat → Int32} {i : Nat} : ∀ {j : Nat}, i ≤ j → NWC f g c K N i ≤ NWC f g c K N j := by
  intro j
  induction j with
  | zero =>
    intro h
    rw [show i = 0 by omega]
    exact Int.le_refl _
  | succ j ih =>
    intro h
    by_cases e : i = j + 1
    · rw [e]; exact Int.le_refl _
    · have a := ih (by omega)
      have b := (NWC_s (f := f) (g := g) (c := c) (K := K) (N := N) j).1
      omega
theorem INS_mem {f f2 : Nat → Int64} {g g2 : Nat → Int32} {c c2 r : Int} {k : Int64} {n : Int32} (h : INS f g c k n r f2 g2 c2) (hd : (∃ j : Nat, (j : Int) < c ∧ f j = k ∧ g j = n) ∨ c < 64) (k2 : Int64) (n2 : Int32) : (∃ j : Nat, (j : Int) < c2 ∧ f2 j = k2 ∧ g2 j = n2) ↔ (∃ j : Nat, (j : Int) < c ∧ f j = k2 ∧ g j = n2) ∨ (k = k2 ∧ n = n2) := by
  rcases h with ⟨_, e, a, b⟩ | ⟨hc, e, hl, hne, p1, p2, p3⟩
  · have dup : ∃ j : Nat, (j : Int) < c ∧ f j = k ∧ g j = n := by
      rcases b with b | b
      · rcases hd with hd | hd
        · exact hd
        · omega
      · exact b
    refine ⟨fun ⟨j, h1, h2, h3⟩ => ?_, fun h => ?_⟩
    · rw [e] at h1
      have x := a j h1
      exact Or.inl ⟨j, h1, x.1.symm.trans h2, x.2.symm.trans h3⟩
    · rcases h with ⟨j, h1, h2, h3⟩ | ⟨h1, h2⟩
      · have x := a j h1
        exact ⟨j, by omega, x.1.trans h2, x.2.trans h3⟩
      · obtain ⟨j, g1, g2', g3⟩ := dup
        have x := a j g1
        exact ⟨j, by omega, x.1.trans (g2'.trans h1), x.2.trans (g3.trans h2)⟩
  · have r0 := hl.1
    have rc := hl.2.1
    refine ⟨fun ⟨j, h1, h2, h3⟩ => ?_, fun h => ?_⟩
    · by_cases j1 : (j : Int) < r
      · have x := p1 j j1
        exact Or.inl ⟨j, by omega, x.1.symm.trans h2, x.2.symm.trans h3⟩
      · by_cases j2 : (j : Int) = r
        · have x := p2 j j2
          exact Or.inr ⟨x.1.symm.trans h2, x.2.symm.trans h3⟩
        · have x := p3 (j - 1) (by omega) (by omega)
          rw [show j - 1 + 1 = j by omega] at x
          exact Or.inl ⟨j - 1, by omega, x.1.symm.trans h2, x.2.symm.trans h3⟩
    · rcases h with ⟨j, h1, h2, h3⟩ | ⟨h1, h2⟩
      · by_cases j1 : (j : Int) < r
        · have x := p1 j j1
          exact ⟨j, by omega, x.1.trans h2, x.2.trans h3⟩
        · have x := p3 j (by omega) h1
          exact ⟨j + 1, by omega, x.1.trans h2, x.2.trans h3⟩
      · have x := p2 r.toNat (by omega)
        exact ⟨r.toNat, by omega, x.1.trans h1, x.2.trans h2⟩
theorem CHN_new {K : Nat → Int64} {N : Nat → Int32} {f : Nat → Int64} {g : Nat → Int32} {c : Int} : ∀ (i : Nat) {f2 : Nat → Int64} {g2 : Nat → Int32} {c2 w : Int}, c + NWC f g c K N i ≤ 64 → CHN K N i f g c f2 g2 c2 w → w = NWC f g c K N i ∧ c2 = c + NWC f g c K N i ∧ ∀ (k : Int64) (n : Int32), (∃ j : Nat, (j : Int) < c2 ∧ f2 j = k ∧ g2 j = n) ↔ OLD f g c K N i k n := by
  intro i
  induction i with
  | zero =>
    rintro f2 g2 c2 w hc ⟨a1, a2, a3⟩
    have z : NWC f g c K N 0 = 0 := rfl
    refine ⟨by omega, by omega, fun k n => ⟨fun ⟨j, h1, h2, h3⟩ => ?_, fun h => ?_⟩⟩
    · rw [a1] at h1
      have x := a2 j h1
      exact Or.inl ⟨j, h1, x.1.symm.trans h2, x.2.symm.trans h3⟩
    · rcases h with ⟨j, h1, h2, h3⟩ | ⟨q, hq, _⟩
      · have x := a2 j h1
        exact ⟨j, by omega, x.1.trans h2, x.2.trans h3⟩
      · omega
  | succ i ih =>
    rintro f2 g2 c2 w hc ⟨f1, g1, c1, r, w1, a1, a2, a3⟩
    have st := NWC_s (f := f) (g := g) (c := c) (K := K) (N := N) i
    obtain ⟨h1, h2, h3⟩ := ih (by omega) a1
    have old : OLD f g c K N (i + 1) = fun k n => OLD f g c K N i k n ∨ (K i = k ∧ N i = n) := by
      funext k n
      apply propext
      unfold OLD
      refine ⟨fun h => ?_, fun h => ?_⟩
      · rcases h with h | ⟨q, hq, x⟩
        · exact Or.inl (Or.inl h)
        · by_cases e : q = i
          · rw [e] at x; exact Or.inr x
          · exact Or.inl (Or.inr ⟨q, by omega, x⟩)
      · rcases h with (h | ⟨q, hq, x⟩) | h
        · exact Or.inl h
        · exact Or.inr ⟨q, by omega, x⟩
        · exact Or.inr ⟨i, by omega, h⟩
    by_cases ho : OLD f g c K N i (K i) (N i)
    · have e := NWC_o ho
      have dup := (h3 (K i) (N i)).mpr ho
      have m := INS_mem a2 (Or.inl dup)
      rcases a2 with ⟨b1, b2, b3, b4⟩ | ⟨b1, b2, b3, b4, b5, b6, b7⟩
      · rw [if_pos b1] at a3
        refine ⟨by omega, by omega, fun k n => ?_⟩
        rw [m k n, h3 k n, old]
      · obtain ⟨j, x, y, z⟩ := dup
        exact absurd ⟨y, z⟩ (b4 j x)
    · have e := NWC_n ho
      have m := INS_mem a2 (Or.inr (by omega))
      rcases a2 with ⟨b1, b2, b3, b4⟩ | ⟨b1, b2, b3, b4, b5, b6, b7⟩
      · exfalso
        rcases b4 with b4 | b4
        · omega
        · exact ho ((h3 (K i) (N i)).mp b4)
      · rw [if_neg (by have := b3.1; omega)] at a3
        refine ⟨by omega, by omega, fun k n => ?_⟩
        rw [m k n, h3 k n, old]
def RDI (T : Nat → Int32) (n : Int) (f : Nat → Int64) (g : Nat → Int32) (c r : Int) (f2 : Nat → Int64) (g2 : Nat → Int32) (c2 : Int) : Prop :=
  (r = 1 ∧ ∃ (p : Nat) (w : Int), WFP T n p ∧ c + NWC f g c (TKY T) (TNY T) p ≤ 64 ∧ CHN (TKY T) (TNY T) p f g c f2 g2 c2 w) ∨ (r = 0 ∧ ∀ p : Nat, WFP T n p → 64 < c + NWC f g c (TKY T) (TNY T) p)
theorem TKf_s {T : Nat → Int32} {a : Nat} {x : Int32} (h0 : 0 ≤ x.toInt) (h1 : x.toInt ≤ 100) : TKf T a (x + 1).toInt.toNat = TKf T a x.toInt.toNat ||| ((T (a + x.toInt.toNat)).toInt64 <<< ((((56 : Int32) - ((8 : Int32) * x))).toInt64 &&& 63)) := by
  have e : (x + 1).toInt = x.toInt + 1 := by rw [pt_add (by rw [pl_1]; omega) (by rw [pl_1]; omega), pl_1]
  have e2 : (x + 1).toInt.toNat = x.toInt.toNat + 1 := by omega
  rw [e2]
  show TKf T a x.toInt.toNat ||| ((T (a + x.toInt.toNat)).toInt64 <<< ((((56 : Int32) - ((8 : Int32) * nI x.toInt.toNat))).toInt64 &&& 63)) = _
  rw [nI_back h0]
theorem atf_in {f : Nat → Int32} {i : Int32} (h0 : 0 ≤ i.toInt) (h1 : i.toInt < 160) : atf 160 f i = f i.toNatClampNeg := by
  unfold atf
  rw [if_neg, if_neg]
  · rw [Int32.le_iff_toInt_le, show (Int32.ofNat 160).toInt = 160 from rfl]
    omega
  · rw [Int32.lt_iff_toInt_lt, pl_0]
    omega
def WFQ (T : Nat → Int32) (n : Int32) : Prop := n.toInt ≤ 160 ∧ ∃ p : Nat, WFP T n.toInt p
theorem OLD_agr {f f2 : Nat → Int64} {g g2 : Nat → Int32} {c : Int} (e : AGR f f2 g g2 c) {K : Nat → Int64} {N : Nat → Int32} {i : Nat} {k : Int64} {n : Int32} (h : OLD f g c K N i k n) : OLD f2 g2 c K N i k n := by
  rcases h with ⟨j, x, y, z⟩ | h
  · have a := e j x
    exact Or.inl ⟨j, x, a.1.symm.trans y, a.2.symm.trans z⟩
  · exact Or.inr h
theorem AGR_symm {f f2 : Nat → Int64} {g g2 : Nat → Int32} {c : Int} (e : AGR f f2 g g2 c) : AGR f2 f g2 g c := fun j hj => ⟨(e j hj).1.symm, (e j hj).2.symm⟩
theorem NWC_agr {f f2 : Nat → Int64} {g g2 : Nat → Int32} {c : Int} (e : AGR f f2 g g2 c) {K : Nat → Int64} {N : Nat → Int32} : ∀ i : Nat, NWC f g c K N i = NWC f2 g2 c K N i := by
  intro i
  induction i with
  | zero => rfl
  | succ i ih =>
    by_cases h : OLD f g c K N i (K i) (N i)
    · rw [NWC_o h, NWC_o (OLD_agr e h), ih]
    · rw [NWC_n h, NWC_n (fun h2 => h (OLD_agr (AGR_symm e) h2)), ih]
theorem INS_start {f fb f2 : Nat → Int64} {g gb g2 : Nat → Int32} {c c2 r : Int} (e : AGR f fb g gb c) {k : Int64} {n : Int32} (h : INS f g c k n r f2 g2 c2) : INS fb gb c k n r f2 g2 c2 := by
  rcases h with ⟨a1, a2, a3, a4⟩ | ⟨a1, a2, a3, a4, a5, a6, a7⟩
  · refine Or.inl ⟨a1, a2, fun j hj => ⟨(a3 j hj).1.trans (e j hj).1, (a3 j hj).2.trans (e j hj).2⟩, ?_⟩
    rcases a4 with a4 | ⟨j, x, y, z⟩
    · exact Or.inl a4
    · exact Or.inr ⟨j, x, (e j x).1.symm.trans y, (e j x).2.symm.trans z⟩
  · have r0 := a3.1
    have rc := a3.2.1
    refine Or.inr ⟨a1, a2, ⟨r0, rc, fun j hj => ?_, fun j hj hc hh => ?_⟩, fun j hj hh => ?_, fun j hj => ?_, a6, fun j h1 h2 => ?_⟩
    · rw [← (e j (by omega)).1, ← (e j (by omega)).2]
      exact a3.2.2.1 j hj
    · rw [← (e j (by omega)).1, ← (e j (by omega)).2] at hh
      exact a3.2.2.2 j hj hc hh
    · rw [← (e j hj).1, ← (e j hj).2] at hh
      exact a4 j hj hh
    · exact ⟨(a5 j hj).1.trans (e j (by omega)).1, (a5 j hj).2.trans (e j (by omega)).2⟩
    · exact ⟨(a7 j h1 h2).1.trans (e j h2).1, (a7 j h1 h2).2.trans (e j h2).2⟩
theorem INS_end {f f2 fb : Nat → Int64} {g g2 gb : Nat → Int32} {c c2 r : Int} {k : Int64} {n : Int32} (h : INS f g c k n r f2 g2 c2) (e : AGR fb f2 gb g2 c2) : INS f g c k n r fb gb c2 := by
  rcases h with ⟨a1, a2, a3, a4⟩ | ⟨a1, a2, a3, a4, a5, a6, a7⟩
  · exact Or.inl ⟨a1, a2, fun j hj => ⟨(e j (by omega)).1.trans (a3 j hj).1, (e j (by omega)).2.trans (a3 j hj).2⟩, a4⟩
  · have r0 := a3.1
    have rc := a3.2.1
    refine Or.inr ⟨a1, a2, a3, a4, fun j hj => ?_, fun j hj => ?_, fun j h1 h2 => ?_⟩
    · exact ⟨(e j (by omega)).1.trans (a5 j hj).1, (e j (by omega)).2.trans (a5 j hj).2⟩
    · exact ⟨(e j (by omega)).1.trans (a6 j hj).1, (e j (by omega)).2.trans (a6 j hj).2⟩
    · exact ⟨(e (j + 1) (by omega)).1.trans (a7 j h1 h2).1, (e (j + 1) (by omega)).2.trans (a7 j h1 h2).2⟩
theorem CHN_start {K : Nat → Int64} {N : Nat → Int32} {f fb : Nat → Int64} {g gb : Nat → Int32} {c : Int} (e : AGR f fb g gb c) : ∀ (i : Nat) {f2 : Nat → Int64} {g2 : Nat → Int32} {c2 w : Int}, CHN K N i f g c f2 g2 c2 w → CHN K N i fb gb c f2 g2 c2 w := by
  intro i
  induction i with
  | zero =>
    rintro f2 g2 c2 w ⟨a1, a2, a3⟩
    exact ⟨a1, fun j hj => ⟨(a2 j hj).1.trans (e j hj).1, (a2 j hj).2.trans (e j hj).2⟩, a3⟩
  | succ i ih =>
    rintro f2 g2 c2 w ⟨f1, g1, c1, r, w1, a1, a2, a3⟩
    exact ⟨f1, g1, c1, r, w1, ih a1, a2, a3⟩
theorem CHN_end {K : Nat → Int64} {N : Nat → Int32} {f : Nat → Int64} {g : Nat → Int32} {c : Int} : ∀ (i : Nat) {f2 fb : Nat → Int64} {g2 gb : Nat → Int32} {c2 cb w : Int}, CHN K N i f g c f2 g2 c2 w → cb = c2 → AGR fb f2 gb g2 c2 → CHN K N i f g c fb gb cb w := by
  intro i
  cases i with
  | zero =>
    rintro f2 fb g2 gb c2 cb w ⟨a1, a2, a3⟩ ec e
    exact ⟨ec.trans a1, fun j hj => ⟨(e j (by omega)).1.trans (a2 j hj).1, (e j (by omega)).2.trans (a2 j hj).2⟩, a3⟩
  | succ i =>
    rintro f2 fb g2 gb c2 cb w ⟨f1, g1, c1, r, w1, a1, a2, a3⟩ ec e
    rw [ec]
    exact ⟨f1, g1, c1, r, w1, a1, INS_end a2 e, a3⟩
/-! rows of both sides -/
def KRL (K : bT0) (f : Nat → Int64) (g : Nat → Int32) (c : Int32) : Prop := (b0g_count K).toInt = c.toInt ∧ AGR (b0g_bytes K) f (b0g_lengths K) g c.toInt ∧ SRT (b0g_bytes K) (b0g_lengths K) c.toInt
theorem KRL_s1 {K : bT0} {f : Nat → Int64} {g : Nat → Int32} {c : Int32} (h : KRL K f g c) : SRT (b0g_bytes K) (b0g_lengths K) (b0g_count K).toInt := by
  rw [h.1]
  exact h.2.2
theorem KRL_s2 {K : bT0} {f : Nat → Int64} {g : Nat → Int32} {c : Int32} (h : KRL K f g c) : SRT f g c.toInt := SRT_agr h.2.1 h.2.2
theorem KRL_ins {K K2 : bT0} {f f2 : Nat → Int64} {g g2 : Nat → Int32} {c c2 : Int32} (h : KRL K f g c) {k : Int64} {n : Int32} {r q : Int} (hn : 1 ≤ n.toInt ∧ n.toInt ≤ 8) (h1 : INS (b0g_bytes K) (b0g_lengths K) (b0g_count K).toInt k n r (b0g_bytes K2) (b0g_lengths K2) (b0g_count K2).toInt) (h2 : INS f g c.toInt k n q f2 g2 c2.toInt) : r = q ∧ KRL K2 f2 g2 c2 := by
  obtain ⟨a, b, s⟩ := h
  rw [a] at h1
  obtain ⟨e1, e2, e3⟩ := INS_det b h1 h2
  have s2 := INS_srt s hn h1
  exact ⟨e1, e2, by rw [← e2]; exact e3, by rw [← e2]; exact s2⟩
theorem KRL_drp {K K2 : bT0} {f f2 : Nat → Int64} {g g2 : Nat → Int32} {c c2 : Int32} (h : KRL K f g c) {r : Int} (h1 : DRP (b0g_bytes K) (b0g_lengths K) (b0g_count K).toInt r (b0g_bytes K2) (b0g_lengths K2) (b0g_count K2).toInt) (h2 : DRP f g c.toInt r f2 g2 c2.toInt) : KRL K2 f2 g2 c2 := by
  obtain ⟨a, b, s⟩ := h
  rw [a] at h1
  obtain ⟨e2, e3⟩ := DRP_det b h1 h2
  have s2 := DRP_srt s h1
  exact ⟨e2, by rw [← e2]; exact e3, by rw [← e2]; exact s2⟩
theorem KRL_num {K : bT0} {f : Nat → Int64} {g : Nat → Int32} {c : Int32} (h : KRL K f g c) {k : Int64} {n : Int32} {r q : Int} (h1 : NUM (b0g_bytes K) (b0g_lengths K) (b0g_count K).toInt k n r) (h2 : NUM f g c.toInt k n q) : r = q := by
  have s := KRL_s2 h
  obtain ⟨a, b, _⟩ := h
  rw [a] at h1
  exact NUM_one s (NUM_agr b h1) h2
theorem KRL_chn {K K2 : bT0} {f f2 : Nat → Int64} {g g2 : Nat → Int32} {c c2 : Int32} (h : KRL K f g c) {KK : Nat → Int64} {N : Nat → Int32} {i : Nat} {w v : Int} (hn : ∀ q : Nat, q < i → 1 ≤ (N q).toInt ∧ (N q).toInt ≤ 8) (h1 : CHN KK N i (b0g_bytes K) (b0g_lengths K) (b0g_count K).toInt (b0g_bytes K2) (b0g_lengths K2) (b0g_count K2).toInt w) (h2 : CHN KK N i f g c.toInt f2 g2 c2.toInt v) : w = v ∧ KRL K2 f2 g2 c2 := by
  obtain ⟨a, b, s⟩ := h
  rw [a] at h1
  obtain ⟨e1, e2, e3⟩ := CHN_det b i h1 h2
  have s2 := CHN_srt s i hn h1
  exact ⟨e1, e2, by rw [← e2]; exact e3, by rw [← e2]; exact s2⟩
theorem KRL_cpy {K K2 : bT0} {f f2 : Nat → Int64} {g g2 : Nat → Int32} {c c2 : Int32} (h : KRL K f g c) (hc : c.toInt ≤ 64) (h1 : REQ K2 K) (h2 : ∀ j : Nat, (j : Int) < 144 → f2 j = f j ∧ g2 j = g j) (h3 : c2 = c) : KRL K2 f2 g2 c2 := by
  obtain ⟨a, b, s⟩ := h
  rw [h3]
  refine ⟨by rw [h1.1]; exact a, fun j hj => ?_, SRT_agr (fun j hj => ?_) s⟩
  · have x := h1.2 j (by omega)
    have y := h2 j (by omega)
    have z := b j hj
    exact ⟨x.1.trans (z.1.trans y.1.symm), x.2.trans (z.2.trans y.2.symm)⟩
  · have x := h1.2 j (by omega)
    exact ⟨x.1.symm, x.2.symm⟩
/-! what the law needs of each pair of calls -/
theorem K_add {K K2 : bT0} {f f2 : Nat → Int64} {g g2 : Nat → Int32} {c c2 : Int32} {P : Prop} {k : Int64} {n : Int32} {r q : Int} (hP : P → 1 ≤ n.toInt ∧ n.toInt ≤ 8) (h : KRL K f g c) (h1 : SRT (b0g_bytes K) (b0g_lengths K) (b0g_count K).toInt → (P → INS (b0g_bytes K) (b0g_lengths K) (b0g_count K).toInt k n r (b0g_bytes K2) (b0g_lengths K2) (b0g_count K2).toInt) ∧ (¬ P → r = -1 ∧ K2 = K)) (h2 : SRT f g c.toInt → (P → INS f g c.toInt k n q f2 g2 c2.toInt) ∧ (¬ P → q = -1 ∧ f2 = f ∧ g2 = g ∧ c2 = c)) : r = q ∧ KRL K2 f2 g2 c2 := by
  have a := h1 (KRL_s1 h)
  have b := h2 (KRL_s2 h)
  by_cases p : P
  · exact KRL_ins h (hP p) (a.1 p) (b.1 p)
  · obtain ⟨a1, a2⟩ := a.2 p
    obtain ⟨b1, b2, b3, b4⟩ := b.2 p
    refine ⟨a1.trans b1.symm, ?_⟩
    rw [a2, b2, b3, b4]
    exact h
theorem K_rem {K K2 : bT0} {f f2 : Nat → Int64} {g g2 : Nat → Int32} {c c2 : Int32} {P : Prop} {k : Int64} {n : Int32} {r q : Int} (h : KRL K f g c) (h1 : SRT (b0g_bytes K) (b0g_lengths K) (b0g_count K).toInt → (P → NUM (b0g_bytes K) (b0g_lengths K) (b0g_count K).toInt k n r) ∧ (¬ P → r = -1)) (d1 : DRP (b0g_bytes K) (b0g_lengths K) (b0g_count K).toInt r (b0g_bytes K2) (b0g_lengths K2) (b0g_count K2).toInt) (h2 : SRT f g c.toInt → (P → NUM f g c.toInt k n q) ∧ (¬ P → q = -1)) (d2 : DRP f g c.toInt q f2 g2 c2.toInt) : r = q ∧ KRL K2 f2 g2 c2 := by
  have a := h1 (KRL_s1 h)
  have b := h2 (KRL_s2 h)
  have e : r = q := by
    by_cases p : P
    · exact KRL_num h (a.1 p) (b.1 p)
    · exact (a.2 p).trans (b.2 p).symm
  subst e
  exact ⟨rfl, KRL_drp h d1 d2⟩
theorem K_fill {K K2 : bT0} {f f2 : Nat → Int64} {g g2 : Nat → Int32} {c c2 v v2 d d2 a1 a2 : Int32} {r q : Int} (h : KRL K f g c) (ev : v = v2) (ed : d = d2) (h1 : SRT (b0g_bytes K) (b0g_lengths K) (b0g_count K).toInt → (1 ≤ a1.toInt ∧ a1.toInt ≤ 64 ∧ 1 ≤ a2.toInt ∧ a2.toInt ≤ 8 → CHN (KN v a2 d) (NN a2 d) a1.toInt.toNat (b0g_bytes K) (b0g_lengths K) (b0g_count K).toInt (b0g_bytes K2) (b0g_lengths K2) (b0g_count K2).toInt r) ∧ (¬ (1 ≤ a1.toInt ∧ a1.toInt ≤ 64 ∧ 1 ≤ a2.toInt ∧ a2.toInt ≤ 8) → r = -1 ∧ K2 = K)) (h2 : SRT f g c.toInt → (1 ≤ a1.toInt ∧ a1.toInt ≤ 64 ∧ 1 ≤ a2.toInt ∧ a2.toInt ≤ 8 → CHN (KN v2 a2 d2) (NN a2 d2) a1.toInt.toNat f g c.toInt f2 g2 c2.toInt q) ∧ (¬ (1 ≤ a1.toInt ∧ a1.toInt ≤ 64 ∧ 1 ≤ a2.toInt ∧ a2.toInt ≤ 8) → q = -1 ∧ f2 = f ∧ g2 = g ∧ c2 = c)) : r = q ∧ KRL K2 f2 g2 c2 := by
  subst ev
  subst ed
  have a := h1 (KRL_s1 h)
  have b := h2 (KRL_s2 h)
  by_cases p : 1 ≤ a1.toInt ∧ a1.toInt ≤ 64 ∧ 1 ≤ a2.toInt ∧ a2.toInt ≤ 8
  · exact KRL_chn h (fun q hq => NN_rng p.2.2.1 p.2.2.2) (a.1 p) (b.1 p)
  · obtain ⟨a1, a2⟩ := a.2 p
    obtain ⟨b1, b2, b3, b4⟩ := b.2 p
    refine ⟨a1.trans b1.symm, ?_⟩
    rw [a2, b2, b3, b4]
    exact h
theorem TKf_agr {T T2 : Nat → Int32} {n : Int} (e : ∀ j : Nat, (j : Int) < n → T j = T2 j) {a : Nat} : ∀ m : Nat, ((a + m : Nat) : Int) ≤ n → TKf T a m = TKf T2 a m := by
  intro m
  induction m with
  | zero => intro _; rfl
  | succ m ih =>
    intro h
    show TKf T a m ||| ((T (a + m)).toInt64 <<< ((((56 : Int32) - ((8 : Int32) * nI m))).toInt64 &&& 63)) = TKf T2 a m ||| ((T2 (a + m)).toInt64 <<< ((((56 : Int32) - ((8 : Int32) * nI m))).toInt64 &&& 63))
    rw [ih (by omega), e (a + m) (by omega)]
theorem WFP_agr {T T2 : Nat → Int32} {n : Int} (e : ∀ j : Nat, (j : Int) < n → T j = T2 j) {p : Nat} (h : WFP T n p) : WFP T2 n p ∧ ∀ i : Nat, i < p → TKY T i = TKY T2 i ∧ TNY T i = TNY T2 i := by
  have lt : ∀ q : Nat, q < p → (POS T q : Int) < n := by
    intro q hq
    have := POS_lt (T := T) hq
    have := h.1
    omega
  have ps : ∀ i : Nat, i ≤ p → POS T i = POS T2 i := fun i hi => POS_agr e i (fun q hq => lt q (by omega))
  refine ⟨⟨by rw [← ps p (Nat.le_refl _)]; exact h.1, fun i hi => ?_⟩, fun i hi => ?_⟩
  · rw [← ps i (by omega), ← e _ (lt i hi)]
    exact h.2 i hi
  · have t := e _ (lt i hi)
    have nx := POS_le (T := T) (show i + 1 ≤ p by omega)
    have s := POS_s T i
    have n1 := h.1
    have l := h.2 i hi
    unfold TKY TNY
    rw [← ps i (by omega), ← t]
    exact ⟨TKf_agr e _ (by omega), rfl⟩
theorem CHN_fun {K K2 : Nat → Int64} {N N2 : Nat → Int32} {f : Nat → Int64} {g : Nat → Int32} {c : Int} : ∀ (i : Nat) {f2 : Nat → Int64} {g2 : Nat → Int32} {c2 w : Int}, (∀ q : Nat, q < i → K q = K2 q ∧ N q = N2 q) → CHN K N i f g c f2 g2 c2 w → CHN K2 N2 i f g c f2 g2 c2 w := by
  intro i
  induction i with
  | zero => exact fun _ h => h
  | succ i ih =>
    rintro f2 g2 c2 w hq ⟨f1, g1, c1, r, w1, a1, a2, a3⟩
    have e := hq i (by omega)
    rw [e.1, e.2] at a2
    exact ⟨f1, g1, c1, r, w1, ih (fun q h => hq q (by omega)) a1, a2, a3⟩
theorem NWC_fun {f : Nat → Int64} {g : Nat → Int32} {c : Int} {K K2 : Nat → Int64} {N N2 : Nat → Int32} : ∀ i : Nat, (∀ q : Nat, q < i → K q = K2 q ∧ N q = N2 q) → NWC f g c K N i = NWC f g c K2 N2 i := by
  intro i
  induction i with
  | zero => intro _; rfl
  | succ i ih =>
    intro hq
    have e := hq i (by omega)
    have io : OLD f g c K N i (K i) (N i) ↔ OLD f g c K2 N2 i (K2 i) (N2 i) := by
      unfold OLD
      rw [e.1, e.2]
      refine ⟨fun h => ?_, fun h => ?_⟩
      · rcases h with h | ⟨q, x, y, z⟩
        · exact Or.inl h
        · have e2 := hq q (by omega)
          exact Or.inr ⟨q, x, e2.1.symm.trans y, e2.2.symm.trans z⟩
      · rcases h with h | ⟨q, x, y, z⟩
        · exact Or.inl h
        · have e2 := hq q (by omega)
          exact Or.inr ⟨q, x, e2.1.trans y, e2.2.trans z⟩
    by_cases h : OLD f g c K N i (K i) (N i)
    · rw [NWC_o h, NWC_o (io.mp h), ih (fun q h => hq q (by omega))]
    · rw [NWC_n h, NWC_n (fun h2 => h (io.mpr h2)), ih (fun q h => hq q (by omega))]
theorem K_keys {K K2 : bT0} {f f2 : Nat → Int64} {g g2 : Nat → Int32} {c c2 : Int32} {T T2 : Nat → Int32} {n n2 r q : Int} (h : KRL K f g c) (en : n = n2) (e : ∀ j : Nat, (j : Int) < n → T j = T2 j) (h1 : SRT (b0g_bytes K) (b0g_lengths K) (b0g_count K).toInt → (∃ p : Nat, WFP T n p ∧ (b0g_count K).toInt + NWC (b0g_bytes K) (b0g_lengths K) (b0g_count K).toInt (TKY T) (TNY T) p ≤ 64 ∧ CHN (TKY T) (TNY T) p (b0g_bytes K) (b0g_lengths K) (b0g_count K).toInt (b0g_bytes K2) (b0g_lengths K2) (b0g_count K2).toInt r) ∨ (r = -1 ∧ (∀ p : Nat, WFP T n p → 64 < (b0g_count K).toInt + NWC (b0g_bytes K) (b0g_lengths K) (b0g_count K).toInt (TKY T) (TNY T) p) ∧ K2 = K)) (h2 : SRT f g c.toInt → (∃ p : Nat, WFP T2 n2 p ∧ c.toInt + NWC f g c.toInt (TKY T2) (TNY T2) p ≤ 64 ∧ CHN (TKY T2) (TNY T2) p f g c.toInt f2 g2 c2.toInt q) ∨ (q = -1 ∧ (∀ p : Nat, WFP T2 n2 p → 64 < c.toInt + NWC f g c.toInt (TKY T2) (TNY T2) p) ∧ f2 = f ∧ g2 = g ∧ c2 = c)) : r = q ∧ KRL K2 f2 g2 c2 := by
  subst en
  have nw : ∀ p : Nat, WFP T n p → (b0g_count K).toInt + NWC (b0g_bytes K) (b0g_lengths K) (b0g_count K).toInt (TKY T) (TNY T) p = c.toInt + NWC f g c.toInt (TKY T2) (TNY T2) p := by
    intro p hp
    rw [h.1, NWC_agr h.2.1, NWC_fun p (WFP_agr e hp).2]
  have back : ∀ p : Nat, WFP T2 n p → WFP T n p := fun p hp => (WFP_agr (fun j hj => (e j hj).symm) hp).1
  rcases h1 (KRL_s1 h) with ⟨p, a1, a2, a3⟩ | ⟨a1, a2, a3⟩
  · rcases h2 (KRL_s2 h) with ⟨p2, b1, b2, b3⟩ | ⟨b1, b2, b3, b4, b5⟩
    · have ep := WFP_one (back p2 b1) a1
      rw [ep] at b3
      exact KRL_chn h (fun q hq => (WFP_agr e a1).1.2 q hq) (CHN_fun p (WFP_agr e a1).2 a3) b3
    · have := b2 p (WFP_agr e a1).1
      rw [nw p a1] at a2
      omega
  · rcases h2 (KRL_s2 h) with ⟨p2, b1, b2, b3⟩ | ⟨b1, b2, b3, b4, b5⟩
    · have := a2 p2 (back p2 b1)
      rw [nw p2 (back p2 b1)] at this
      omega
    · refine ⟨a1.trans b1.symm, ?_⟩
      rw [a3, b3, b4, b5]
      exact h
def KREL (m : bT0) (v d : Int32) (k : bT2) (ks : Nat → Int64) (ls : Nat → Int32) (n8 n4 n7 : Int32) (im : Nat → Int32) (ki : Nat → Int64) (li : Nat → Int32) : Prop :=
  KRL m ks ls n8 ∧ KRL (b3g_members (b2g_told k)) ki li (im 8) ∧ v = n4 + 4 ∧ b3g_values (b2g_told k) 4 = im 4 + 4 ∧ d = n7 ∧ b2g_draws k = im 7
theorem KREL_row {m m2 : bT0} {v d : Int32} {k : bT2} {ks ks2 : Nat → Int64} {ls ls2 : Nat → Int32} {n8 m8 n4 n7 : Int32} {im : Nat → Int32} {ki : Nat → Int64} {li : Nat → Int32} (h : KREL m v d k ks ls n8 n4 n7 im ki li) (h2 : KRL m2 ks2 ls2 m8) : KREL m2 v d k ks2 ls2 m8 n4 n7 im ki li := ⟨h2, h.2⟩
theorem KREL_keys {m : bT0} {v d : Int32} {k : bT2} {ks ks2 : Nat → Int64} {ls ls2 : Nat → Int32} {n8 n4 n7 : Int32} {im : Nat → Int32} {ki : Nat → Int64} {li : Nat → Int32} (h : KREL m v d k ks ls n8 n4 n7 im ki li) (hc : n8.toInt ≤ 64) (h2 : ∀ j : Nat, j < 64 → ks2 j = ks j ∧ ls2 j = ls j) : KREL m v d k ks2 ls2 n8 n4 n7 im ki li := by
  obtain ⟨⟨a, b, s⟩, r⟩ := h
  exact ⟨⟨a, fun j hj => ⟨(b j hj).1.trans (h2 j (by omega)).1.symm, (b j hj).2.trans (h2 j (by omega)).2.symm⟩, s⟩, r⟩
theorem KREL_draws {m : bT0} {v d d2 : Int32} {k : bT2} {ks : Nat → Int64} {ls : Nat → Int32} {n8 n4 n7 m7 : Int32} {im : Nat → Int32} {ki : Nat → Int64} {li : Nat → Int32} (h : KREL m v d k ks ls n8 n4 n7 im ki li) (h2 : d2 = m7) : KREL m v d2 k ks ls n8 n4 m7 im ki li := ⟨h.1, h.2.1, h.2.2.1, h.2.2.2.1, h2, h.2.2.2.2.2⟩
theorem KREL_val {m : bT0} {v v2 d : Int32} {k : bT2} {ks : Nat → Int64} {ls : Nat → Int32} {n8 n4 m4 n7 : Int32} {im : Nat → Int32} {ki : Nat → Int64} {li : Nat → Int32} (h : KREL m v d k ks ls n8 n4 n7 im ki li) (h2 : v2 = m4 + 4) : KREL m v2 d k ks ls n8 m4 n7 im ki li := ⟨h.1, h.2.1, h2, h.2.2.2.1, h.2.2.2.2.1, h.2.2.2.2.2⟩
theorem KREL_take {M K2 : bT2} {k : bT2} {ks ki ki2 : Nat → Int64} {ls li li2 now im im2 : Nat → Int32} (hc : (now 8).toInt ≤ 64) (h : KREL (b3g_members (b2g_told M)) (b3g_values (b2g_told M) 4) (b2g_draws M) k ks ls (now 8) (now 4) (now 7) im ki li) (h1 : MEQ K2 M) (h2 : ∀ j : Nat, (j : Int) < 23 → im2 j = now j) (h3 : ∀ j : Nat, (j : Int) < 144 → ki2 j = ks j ∧ li2 j = ls j) : KREL (b3g_members (b2g_told M)) (b3g_values (b2g_told M) 4) (b2g_draws M) K2 ks ls (now 8) (now 4) (now 7) im2 ki2 li2 := by
  obtain ⟨a1, a2, a3, a4, a5, a6⟩ := h
  refine ⟨a1, KRL_cpy a1 hc h1.1.1 h3 (h2 8 (by decide)), a3, ?_, a5, ?_⟩
  · rw [h1.1.2.1 4 (by decide), h2 4 (by decide)]
    exact a3
  · rw [h1.2.2.2.2, h2 7 (by decide)]
    exact a5
theorem KREL_give {M k : bT2} {m : bT0} {v d n8 n4 n7 : Int32} {ks ks2 ki : Nat → Int64} {ls ls2 li now im : Nat → Int32} (hc : (im 8).toInt ≤ 64) (h : KREL m v d k ks ls n8 n4 n7 im ki li) (h1 : MEQ M k) (h2 : ∀ j : Nat, (j : Int) < 23 → now j = im j) (h3 : ∀ j : Nat, (j : Int) < 144 → ks2 j = ki j ∧ ls2 j = li j) : KREL (b3g_members (b2g_told M)) (b3g_values (b2g_told M) 4) (b2g_draws M) k ks2 ls2 (now 8) (now 4) (now 7) im ki li := by
  obtain ⟨a1, a2, a3, a4, a5, a6⟩ := h
  refine ⟨KRL_cpy a2 hc h1.1.1 h3 (h2 8 (by decide)), a2, ?_, a4, ?_, a6⟩
  · rw [h1.1.2.1 4 (by decide), h2 4 (by decide)]
    exact a4
  · rw [h1.2.2.2.2, h2 7 (by decide)]
    exact a6
theorem K_set {vs vu : Nat → Int32} {n4 m4 a1 a2 r q : Int32} {P : Prop} (hP : P → 0 ≤ a1.toInt) (h : vs 4 = n4 + 4) (c1 : (r.toInt = 1 ∧ P) ∨ (r.toInt = 0 ∧ ¬ P)) (c2 : r.toInt = 1 → vu = upd vs a1.toNatClampNeg a2) (c3 : r.toInt = 0 → vu = vs) (d1 : (q.toInt = 1 ∧ P) ∨ (q.toInt = 0 ∧ ¬ P)) (d2 : q.toInt = 1 → a1.toInt = 4 → m4 = a2 - 4) (d3 : q.toInt = 0 ∨ a1.toInt ≠ 4 → m4 = n4) : vu 4 = m4 + 4 := by
  rcases c1 with ⟨e, p⟩ | ⟨e, p⟩
  · have q1 : q.toInt = 1 := by
      rcases d1 with d | d
      · exact d.1
      · exact absurd p d.2
    have cl := pt_clamp (hP p)
    rw [c2 e]
    unfold upd
    by_cases h4 : a1.toInt = 4
    · rw [if_pos (by omega), d2 q1 h4, Int32.sub_add_cancel]
    · rw [if_neg (by omega), d3 (Or.inr h4)]
      exact h
  · have q0 : q.toInt = 0 := by
      rcases d1 with d | d
      · exact absurd d.2 p
      · exact d.1
    rw [c3 e, d3 (Or.inl q0)]
    exact h
def IMG (S T : bT9) (a : Int32) (x y : Int) : Prop := (¬ a = 0 → b9g_now T = b9g_now S ∧ b9g_keys T = b9g_keys S ∧ b9g_lengths T = b9g_lengths S ∧ (∀ j : Nat, (j : Int) < x → b9g_images T j = b9g_now S j) ∧ ∀ j : Nat, (j : Int) < y → b9g_keyImages T j = b9g_keys S j ∧ b9g_lengthImages T j = b9g_lengths S j) ∧ (a = 0 → b9g_images T = b9g_images S ∧ b9g_keyImages T = b9g_keyImages S ∧ b9g_lengthImages T = b9g_lengthImages S ∧ (∀ j : Nat, (j : Int) < x → b9g_now T j = b9g_images S j) ∧ ∀ j : Nat, (j : Int) < y → b9g_keys T j = b9g_keyImages S j ∧ b9g_lengths T j = b9g_lengthImages S j)
theorem im_step {f g : Nat → Int32} {x : Int32} (h0 : 0 ≤ x.toInt) (h1 : x.toInt < 23) (h : ∀ j : Nat, (j : Int) < x.toInt → f j = g j) : ∀ j : Nat, (j : Int) < (x + 1).toInt → upd f x.toNatClampNeg (g x.toNatClampNeg) j = g j := by
  intro j hj
  have c := pt_clamp h0
  have e : (x + 1).toInt = x.toInt + 1 := by rw [pt_add (by rw [pl_1]; omega) (by rw [pl_1]; omega), pl_1]
  unfold upd
  split
  · rename_i hh
    rw [hh]
  · exact h j (by omega)
theorem im_stepK {f g : Nat → Int64} {f2 g2 : Nat → Int32} {x : Int32} (h0 : 0 ≤ x.toInt) (h1 : x.toInt < 144) (h : ∀ j : Nat, (j : Int) < x.toInt → f j = g j ∧ f2 j = g2 j) : ∀ j : Nat, (j : Int) < (x + 1).toInt → vp_updL f x.toNatClampNeg (g x.toNatClampNeg) j = g j ∧ upd f2 x.toNatClampNeg (g2 x.toNatClampNeg) j = g2 j := by
  intro j hj
  have c := pt_clamp h0
  have e : (x + 1).toInt = x.toInt + 1 := by rw [pt_add (by rw [pl_1]; omega) (by rw [pl_1]; omega), pl_1]
  unfold vp_updL upd
  by_cases hh : j = x.toNatClampNeg
  · rw [if_pos hh, if_pos hh, hh]
    exact ⟨rfl, rfl⟩
  · rw [if_neg hh, if_neg hh]
    exact h j (by omega)
theorem K_image {X U : bT8} {Y V : bT9} {a : Int32} (h : KREL (b3g_members (b2g_told (b8g_now X))) (b3g_values (b2g_told (b8g_now X)) 4) (b2g_draws (b8g_now X)) (b8g_kept X) (b9g_keys Y) (b9g_lengths Y) (b9g_now Y 8) (b9g_now Y 4) (b9g_now Y 7) (b9g_images Y) (b9g_keyImages Y) (b9g_lengthImages Y)) (fl : (b8g_isKept X).toInt = (b9g_hasImage Y).toInt) (hc : (b9g_now Y 8).toInt ≤ 64) (hd : (b9g_images Y 8).toInt ≤ 64) (c1 : a.toInt ≠ 0 → MEQ (b8g_kept U) (b8g_now X) ∧ b8g_now U = b8g_now X) (c2 : a.toInt = 0 → (b8g_isKept X).toInt = 0 → b8g_now U = b8g_now X ∧ b8g_kept U = b8g_kept X) (c3 : a.toInt = 0 → (b8g_isKept X).toInt ≠ 0 → MEQ (b8g_now U) (b8g_kept X) ∧ b8g_kept U = b8g_kept X) (m1 : a.toInt ≠ 0 ∨ (b9g_hasImage Y).toInt ≠ 0 → IMG Y V a 23 144) (m2 : a.toInt = 0 → (b9g_hasImage Y).toInt = 0 → b9g_now V = b9g_now Y ∧ b9g_keys V = b9g_keys Y ∧ b9g_lengths V = b9g_lengths Y ∧ b9g_images V = b9g_images Y ∧ b9g_keyImages V = b9g_keyImages Y ∧ b9g_lengthImages V = b9g_lengthImages Y) : KREL (b3g_members (b2g_told (b8g_now U))) (b3g_values (b2g_told (b8g_now U)) 4) (b2g_draws (b8g_now U)) (b8g_kept U) (b9g_keys V) (b9g_lengths V) (b9g_now V 8) (b9g_now V 4) (b9g_now V 7) (b9g_images V) (b9g_keyImages V) (b9g_lengthImages V) := by
  by_cases ha : a.toInt = 0
  · have a0 : a = 0 := Int32.toInt_inj.mp ha
    by_cases hk : (b8g_isKept X).toInt = 0
    · obtain ⟨p1, p2⟩ := c2 ha hk
      obtain ⟨q1, q2, q3, q4, q5, q6⟩ := m2 ha (by rw [← fl]; exact hk)
      rw [p1, p2, q1, q2, q3, q4, q5, q6]
      exact h
    · obtain ⟨p1, p2⟩ := c3 ha hk
      obtain ⟨q1, q2, q3, q4, q5⟩ := (m1 (Or.inr (by rw [← fl]; exact hk))).2 a0
      rw [p2, q1, q2, q3]
      exact KREL_give hd h p1 q4 q5
  · have a0 : ¬ a = 0 := fun e => ha (by rw [e]; rfl)
    obtain ⟨p1, p2⟩ := c1 ha
    obtain ⟨q1, q2, q3, q4, q5⟩ := (m1 (Or.inl ha)).1 a0
    rw [p2, q1, q2, q3]
    exact KREL_take hc h p1 q4 q5
theorem KRL_0 {K : bT0} {f : Nat → Int64} {g : Nat → Int32} {c : Int32} (h1 : (b0g_count K).toInt = 0) (h2 : c.toInt = 0) : KRL K f g c := ⟨by omega, fun j hj => by omega, fun i j hij hj => by omega, fun j hj => by omega⟩
theorem K_start : KREL (b3g_members (b2g_told (b8g_now bi8))) (b3g_values (b2g_told (b8g_now bi8)) 4) (b2g_draws (b8g_now bi8)) (b8g_kept bi8) (b9g_keys bi9) (b9g_lengths bi9) (b9g_now bi9 8) (b9g_now bi9 4) (b9g_now bi9 7) (b9g_images bi9) (b9g_keyImages bi9) (b9g_lengthImages bi9) := ⟨KRL_0 rfl rfl, KRL_0 rfl rfl, rfl, rfl, rfl, rfl⟩
theorem sh64 {f : Nat → Int64} : (fun j => f (((64 : Int32)).toNatClampNeg + j)) = fun j => f (64 + j) := by
  funext j
  rw [show ((64 : Int32)).toNatClampNeg = 64 from rfl]
theorem sh64' {f : Nat → Int32} : (fun j => f (((64 : Int32)).toNatClampNeg + j)) = fun j => f (64 + j) := by
  funext j
  rw [show ((64 : Int32)).toNatClampNeg = 64 from rfl]
