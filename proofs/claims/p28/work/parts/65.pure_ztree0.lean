/-! the tree as counts on a grid of levels and leaves -/
theorem CTP_le {P : Nat → Prop} {a : Nat} : ∀ b : Nat, a ≤ b → CTP P a ≤ CTP P b := by
  intro b
  induction b with
  | zero => intro h; rw [show a = 0 by omega]; exact Int.le_refl _
  | succ b ih =>
    intro h
    by_cases e : a = b + 1
    · rw [e]; exact Int.le_refl _
    · have i := ih (by omega)
      by_cases q : P b
      · rw [CTP_y q]; omega
      · rw [CTP_n q]; exact i
theorem CTP_st {P : Nat → Prop} {a : Nat} : ∀ b : Nat, a ≤ b → (∀ w, a ≤ w → w < b → ¬ P w) → CTP P b = CTP P a := by
  intro b
  induction b with
  | zero => intro h _; rw [show a = 0 by omega]
  | succ b ih =>
    intro h k
    by_cases e : a = b + 1
    · rw [e]
    · rw [CTP_n (k b (by omega) (by omega))]
      exact ih (by omega) (fun w p q => k w p (by omega))
theorem CTP_lt {P : Nat → Prop} {a b : Nat} (h : a < b) (p : P a) : CTP P a < CTP P b := by
  have := CTP_le (P := P) b (show a + 1 ≤ b by omega)
  rw [CTP_y p] at this
  omega
theorem CTP_inj {P : Nat → Prop} {a b : Nat} (p : P a) (q : P b) (h : CTP P a = CTP P b) : a = b := by
  by_cases x : a < b
  · have := CTP_lt x p
    omega
  · by_cases y : b < a
    · have := CTP_lt y q
      omega
    · omega
theorem CTP_inv {P : Nat → Prop} {e : Int} (h0 : 0 ≤ e) : ∀ n : Nat, e < CTP P n → ∃ w, w < n ∧ P w ∧ CTP P w = e := by
  intro n
  induction n with
  | zero =>
    intro h
    have h2 : e < 0 := h
    omega
  | succ n ih =>
    intro h
    by_cases q : P n
    · rw [CTP_y q] at h
      by_cases x : e < CTP P n
      · obtain ⟨w, a, b, c⟩ := ih x
        exact ⟨w, by omega, b, c⟩
      · exact ⟨n, by omega, q, by omega⟩
    · rw [CTP_n q] at h
      obtain ⟨w, a, b, c⟩ := ih h
      exact ⟨w, by omega, b, c⟩
theorem CTP_sub {P R : Nat → Prop} (s : ∀ w, R w → P w) {a b : Nat} (h : a ≤ b) (e : CTP P a = CTP P b) : CTP R a = CTP R b := by
  refine (CTP_st b h (fun w p q r => ?_)).symm
  have h1 := CTP_le (P := P) w p
  have h2 := CTP_lt q (s w r)
  omega
theorem CTP_sub2 {P R : Nat → Prop} (s : ∀ w, R w → P w) {a b : Nat} (e : CTP P a = CTP P b) : CTP R a = CTP R b := by
  by_cases h : a ≤ b
  · exact CTP_sub s h e
  · exact (CTP_sub s (by omega) e.symm).symm
theorem CTP_or {P R : Nat → Prop} : ∀ n : Nat, CTP (fun w => P w ∨ R w) n ≤ CTP P n + CTP R n := by
  intro n
  induction n with
  | zero => exact Int.le_refl _
  | succ n ih =>
    by_cases p : P n
    · rw [CTP_y (P := fun w => P w ∨ R w) (Or.inl p), CTP_y p]
      by_cases r : R n
      · rw [CTP_y r]; omega
      · rw [CTP_n r]; omega
    · by_cases r : R n
      · rw [CTP_y (P := fun w => P w ∨ R w) (Or.inr r), CTP_n p, CTP_y r]; omega
      · rw [CTP_n (P := fun w => P w ∨ R w) (fun h => h.elim p r), CTP_n p, CTP_n r]; exact ih
theorem CTP_one {P : Nat → Prop} {a : Nat} (h : ¬ P a) : ∀ n : Nat, CTP (fun w => P w ∨ w = a) n = CTP P n + (if a < n then 1 else 0) := by
  intro n
  induction n with
  | zero => rfl
  | succ n ih =>
    by_cases e : n = a
    · rw [CTP_y (P := fun w => P w ∨ w = a) (Or.inr e), ih, CTP_n (by rw [e]; exact h), if_neg (show ¬ a < n by omega), if_pos (show a < n + 1 by omega)]
      omega
    · by_cases p : P n
      · rw [CTP_y (P := fun w => P w ∨ w = a) (Or.inl p), CTP_y p, ih]
        by_cases q : a < n
        · rw [if_pos q, if_pos (show a < n + 1 by omega)]
        · rw [if_neg q, if_neg (show ¬ a < n + 1 by omega)]; omega
      · rw [CTP_n (P := fun w => P w ∨ w = a) (fun x => x.elim p e), CTP_n p, ih]
        by_cases q : a < n
        · rw [if_pos q, if_pos (show a < n + 1 by omega)]
        · rw [if_neg q, if_neg (show ¬ a < n + 1 by omega)]
theorem CTP_enu {P : Nat → Prop} {a : Nat → Nat} {m N : Nat} (h1 : ∀ x, x < m → a x < N ∧ P (a x)) (h2 : ∀ x y, x < y → y < m → a x < a y) (h3 : ∀ w, w < N → P w → ∃ x, x < m ∧ a x = w) : (∀ x : Nat, x < m → CTP P (a x) = (x : Int)) ∧ CTP P N = (m : Int) := by
  have mono : ∀ x y, y < m → a x < a y → x < m → x < y := by
    intro x y hy h hx
    by_cases e : x = y
    · rw [e] at h; omega
    · by_cases g : y < x
      · have := h2 y x g hx
        omega
      · omega
  have A : ∀ x : Nat, x < m → CTP P (a x) = (x : Int) := by
    intro x
    induction x with
    | zero =>
      intro h
      refine CTP_st (P := P) (a := 0) (a 0) (by omega) (fun w _ q r => ?_)
      obtain ⟨y, y1, y2⟩ := h3 w (by have := (h1 0 h).1; omega) r
      have := mono y 0 h (by omega) y1
      omega
    | succ x ih =>
      intro h
      have i := ih (by omega)
      have l := h2 x (x + 1) (by omega) h
      have e : CTP P (a (x + 1)) = CTP P (a x + 1) := by
        refine CTP_st (P := P) (a := a x + 1) (a (x + 1)) (by omega) (fun w p q r => ?_)
        obtain ⟨y, y1, y2⟩ := h3 w (by have := (h1 (x + 1) h).1; omega) r
        have k1 := mono y (x + 1) h (by omega) y1
        have k2 := mono x y y1 (by omega) (by omega)
        omega
      rw [e, CTP_y (h1 x (by omega)).2, i]
      omega
  refine ⟨A, ?_⟩
  by_cases hm : m = 0
  · have e : CTP P N = CTP P 0 := by
      refine CTP_st (P := P) (a := 0) N (by omega) (fun w _ q r => ?_)
      obtain ⟨y, y1, _⟩ := h3 w q r
      omega
    rw [e, hm]
    rfl
  · have i := A (m - 1) (by omega)
    have b := h1 (m - 1) (by omega)
    have e : CTP P N = CTP P (a (m - 1) + 1) := by
      refine CTP_st (P := P) (a := a (m - 1) + 1) N (by omega) (fun w p q r => ?_)
      obtain ⟨y, y1, y2⟩ := h3 w q r
      have k2 := mono (m - 1) y y1 (by omega) (by omega)
      omega
    rw [e, CTP_y b.2, i]
    omega
def NST (n : Nat) (C : Nat → Nat) (P : Nat → Nat → Nat) (l i : Nat) : Prop := i < n ∧ l ≤ C i ∧ (i = 0 ∨ ¬ (l ≤ C (i - 1) ∧ P l (i - 1) = P l i))
def EST (n : Nat) (C : Nat → Nat) (P : Nat → Nat → Nat) (l i : Nat) : Prop := i < n ∧ (C i = l ∨ NST n C P (l + 1) i)
def IsN (n : Nat) (C : Nat → Nat) (P : Nat → Nat → Nat) (w : Nat) : Prop := NST n C P (w / 64) (w % 64)
def IsE (n : Nat) (C : Nat → Nat) (P : Nat → Nat → Nat) (w : Nat) : Prop := EST n C P (w / 64) (w % 64)
def IsL (n : Nat) (C : Nat → Nat) (w : Nat) : Prop := w % 64 < n ∧ C (w % 64) = w / 64
noncomputable def NB (n : Nat) (C : Nat → Nat) (P : Nat → Nat → Nat) (w : Nat) : Int := CTP (IsN n C P) w
noncomputable def EB (n : Nat) (C : Nat → Nat) (P : Nat → Nat → Nat) (w : Nat) : Int := CTP (IsE n C P) w
noncomputable def LB (n : Nat) (C : Nat → Nat) (w : Nat) : Int := CTP (IsL n C) w
def GRD (n : Nat) (C L : Nat → Nat) (P : Nat → Nat → Nat) : Prop :=
  n ≤ 64 ∧ (∀ i, i < n → C i ≤ L i ∧ 1 ≤ L i ∧ L i ≤ 8 ∧ C i ≤ 7) ∧ (∀ l i j, l < 8 → P (l + 1) i = P (l + 1) j → P l i = P l j) ∧ (∀ l i j, i ≤ j → j < n → P l i ≤ P l j) ∧
  (∀ l i j, l ≤ 8 → i < j → j < n → l ≤ L i → l ≤ L j → P l i = P l j → ∀ k, i ≤ k → k ≤ j → l ≤ C k ∧ P l k = P l i) ∧
  (∀ l i, i < n → 1 ≤ l → l ≤ C i → (1 ≤ i ∧ l ≤ L (i - 1) ∧ P l (i - 1) = P l i) ∨ (i + 1 < n ∧ l ≤ L (i + 1) ∧ P l (i + 1) = P l i)) ∧
  (∀ l i j, i < j → j < n → l = L j → l ≤ L i → P l i ≠ P l j) ∧ ∀ i j, P 0 i = P 0 j
theorem gd1 (l : Nat) {i : Nat} (h : i < 64) : (64 * l + i) / 64 = l := by omega
theorem gd2 (l : Nat) {i : Nat} (h : i < 64) : (64 * l + i) % 64 = i := by omega
theorem IsN_at {n : Nat} {C : Nat → Nat} {P : Nat → Nat → Nat} {l i : Nat} (h : i < 64) : IsN n C P (64 * l + i) ↔ NST n C P l i := by
  unfold IsN
  rw [gd1 l h, gd2 l h]
theorem IsE_at {n : Nat} {C : Nat → Nat} {P : Nat → Nat → Nat} {l i : Nat} (h : i < 64) : IsE n C P (64 * l + i) ↔ EST n C P l i := by
  unfold IsE
  rw [gd1 l h, gd2 l h]
theorem IsL_at {n : Nat} {C : Nat → Nat} {l i : Nat} (h : i < 64) : IsL n C (64 * l + i) ↔ (i < n ∧ C i = l) := by
  unfold IsL
  rw [gd1 l h, gd2 l h]
theorem EST_c {n : Nat} {C : Nat → Nat} {P : Nat → Nat → Nat} {l i : Nat} (h : EST n C P l i) : i < n ∧ l ≤ C i := by
  rcases h.2 with e | e
  · exact ⟨h.1, by omega⟩
  · exact ⟨h.1, by have := e.2.1; omega⟩
theorem IsL_E {n : Nat} {C : Nat → Nat} {P : Nat → Nat → Nat} {w : Nat} (h : IsL n C w) : IsE n C P w := ⟨h.1, Or.inl h.2⟩
theorem GRP_st {n : Nat} {C : Nat → Nat} {P : Nat → Nat → Nat} (hn : n ≤ 64) {l : Nat} : ∀ i : Nat, i < n → l ≤ C i → ∃ s, s ≤ i ∧ NST n C P l s ∧ NB n C P (64 * l + i + 1) = NB n C P (64 * l + s) + 1 ∧ ∀ k, s ≤ k → k ≤ i → l ≤ C k ∧ P l k = P l s := by
  intro i
  induction i with
  | zero =>
    intro h c
    have hs : NST n C P l 0 := ⟨h, c, Or.inl rfl⟩
    refine ⟨0, Nat.le_refl _, hs, CTP_y ((IsN_at (by omega)).mpr hs), fun k _ k2 => ?_⟩
    rw [show k = 0 by omega]
    exact ⟨c, rfl⟩
  | succ i ih =>
    intro h c
    by_cases hs : NST n C P l (i + 1)
    · refine ⟨i + 1, Nat.le_refl _, hs, CTP_y ((IsN_at (by omega)).mpr hs), fun k k1 k2 => ?_⟩
      rw [show k = i + 1 by omega]
      exact ⟨c, rfl⟩
    · have q : l ≤ C i ∧ P l i = P l (i + 1) := by
        apply Classical.byContradiction
        intro z
        exact hs ⟨h, c, Or.inr z⟩
      obtain ⟨s, s1, s2, s3, s4⟩ := ih (by omega) q.1
      refine ⟨s, by omega, s2, ?_, fun k k1 k2 => ?_⟩
      · rw [← s3]
        exact CTP_n (fun z => hs ((IsN_at (l := l) (by omega)).mp z))
      · by_cases e : k = i + 1
        · rw [e]
          exact ⟨c, by rw [← q.2]; exact (s4 i s1 (Nat.le_refl _)).2⟩
        · exact s4 k k1 (by omega)
theorem NST_one {n : Nat} {C : Nat → Nat} {P : Nat → Nat → Nat} {l s t i : Nat} (h : NST n C P l s) (h2 : NST n C P l t) (p : s ≤ i) (q : t ≤ i) (a : ∀ k, s ≤ k → k ≤ i → l ≤ C k ∧ P l k = P l s) (b : ∀ k, t ≤ k → k ≤ i → l ≤ C k ∧ P l k = P l t) : s = t := by
  by_cases x : s < t
  · exfalso
    have a1 := a (t - 1) (by omega) (by omega)
    have a2 := a t (by omega) q
    rcases h2.2.2 with e | e
    · omega
    · exact e ⟨a1.1, by rw [a1.2, a2.2]⟩
  · by_cases y : t < s
    · exfalso
      have b1 := b (s - 1) (by omega) (by omega)
      have b2 := b s (by omega) p
      rcases h.2.2 with e | e
      · omega
      · exact e ⟨b1.1, by rw [b1.2, b2.2]⟩
    · omega
def GRQ (n : Nat) (C : Nat → Nat) (P : Nat → Nat → Nat) (l s e m : Nat) : Prop := s < e ∧ e ≤ n ∧ (∀ k, s ≤ k → k < e → l ≤ C k ∧ P l k = P l s) ∧ (e < m → ¬ (l ≤ C e ∧ P l e = P l s))
theorem GRQ_one {n : Nat} {C : Nat → Nat} {P : Nat → Nat → Nat} {l s e e2 : Nat} (h : GRQ n C P l s e n) (h2 : GRQ n C P l s e2 n) : e = e2 := by
  by_cases x : e < e2
  · exact absurd (h2.2.2.1 e (by have := h.1; omega) x) (h.2.2.2 (by have := h2.2.1; omega))
  · by_cases y : e2 < e
    · exact absurd (h.2.2.1 e2 (by have := h2.1; omega) y) (h2.2.2.2 (by have := h.2.1; omega))
    · omega
/-! behind a group of leaves, up to the next node, nothing begins -/
theorem GAP {n : Nat} {C : Nat → Nat} {P : Nat → Nat → Nat} (hn : n ≤ 64) {l e b : Nat} (he : e ≤ 64) (hc : e < n → l ≤ C e → NST n C P l e) (hN : ∀ w, 64 * l + e ≤ w → w < b → ¬ IsN n C P w) {m k : Nat} (h1 : 64 * l + e ≤ 64 * m + k) (h2 : 64 * m + k < b) (hk : k < n) (hm : m ≤ C k) : False := by
  obtain ⟨s, s1, s2, _, s4⟩ := GRP_st (P := P) hn k hk hm
  by_cases x : 64 * l + e ≤ 64 * m + s
  · exact hN (64 * m + s) x (by omega) ((IsN_at (by omega)).mpr s2)
  · have em : m = l := by omega
    subst em
    have q := s4 e (by omega) (by omega)
    have q1 := s4 (e - 1) (by omega) (by omega)
    rcases (hc (by omega) q.1).2.2 with z | z
    · omega
    · exact z ⟨q1.1, by rw [q1.2, q.2]⟩
theorem EB_gap {n : Nat} {C : Nat → Nat} {P : Nat → Nat → Nat} (hn : n ≤ 64) {l e b : Nat} (he : e ≤ 64) (hc : e < n → l ≤ C e → NST n C P l e) (hb : 64 * l + e ≤ b) (hN : ∀ w, 64 * l + e ≤ w → w < b → ¬ IsN n C P w) : EB n C P b = EB n C P (64 * l + e) := by
  refine CTP_st b hb (fun w p q r => ?_)
  have c := EST_c r
  have d : 64 * (w / 64) + w % 64 = w := by omega
  exact GAP hn he hc hN (m := w / 64) (k := w % 64) (by omega) (by omega) c.1 c.2
theorem GRQ_cl {n : Nat} {C : Nat → Nat} {P : Nat → Nat → Nat} {l s e : Nat} (h : GRQ n C P l s e n) : e < n → l ≤ C e → NST n C P l e := by
  intro h1 h2
  refine ⟨h1, h2, Or.inr (fun z => ?_)⟩
  have a := h.1
  have q := h.2.2.1 (e - 1) (by omega) (by omega)
  exact h.2.2.2 h1 ⟨h2, by rw [← z.2, q.2]⟩
/-! what a node of a level from the first on needs: two leaves -/
theorem NST_two {n : Nat} {C L : Nat → Nat} {P : Nat → Nat → Nat} (G : GRD n C L P) {l s : Nat} (hl : 1 ≤ l) (h : NST n C P l s) : s + 1 < n ∧ l ≤ C (s + 1) ∧ P l (s + 1) = P l s := by
  obtain ⟨_, a, _, _, r, b, _⟩ := G
  have c := a s h.1
  have nb : ∀ i j : Nat, i < j → j < n → l ≤ L i → l ≤ L j → P l i = P l j → (l ≤ C i ∧ P l i = P l i) ∧ l ≤ C j ∧ P l j = P l i := by
    intro i j x y z t u
    have e8 : l ≤ 8 := by have := h.2.1; omega
    exact ⟨r l i j e8 x y z t u i (Nat.le_refl _) (by omega), r l i j e8 x y z t u j (by omega) (Nat.le_refl _)⟩
  rcases b l s h.1 hl h.2.1 with ⟨b1, b2, b3⟩ | ⟨b1, b2, b3⟩
  · exfalso
    have q := nb (s - 1) s (by omega) h.1 b2 (by have := h.2.1; omega) b3
    rcases h.2.2 with e | e
    · omega
    · exact e ⟨q.1.1, b3⟩
  · have q := nb s (s + 1) (by omega) b1 (by have := h.2.1; omega) b2 b3.symm
    exact ⟨b1, q.2.1, b3⟩
theorem NST_adj {n : Nat} {C L : Nat → Nat} {P : Nat → Nat → Nat} (G : GRD n C L P) {l s : Nat} (hl : 1 ≤ l) (h : NST n C P l s) : ¬ NST n C P l (s + 1) := by
  intro h2
  have q := NST_two G hl h
  rcases h2.2.2 with e | e
  · omega
  · exact e ⟨h.2.1, q.2.2.symm⟩
theorem half {Q : Nat → Prop} (h : ∀ i, Q i → ¬ Q (i + 1)) : ∀ i : Nat, 2 * CTP Q i ≤ (i : Int) + 1 ∧ 2 * CTP Q (i + 1) ≤ (i : Int) + 2 := by
  intro i
  induction i with
  | zero =>
    have z : CTP Q 0 = 0 := rfl
    by_cases q : Q 0
    · rw [CTP_y q]; omega
    · rw [CTP_n q]; omega
  | succ i ih =>
    refine ⟨by omega, ?_⟩
    by_cases q : Q (i + 1)
    · have q0 : ¬ Q i := fun x => h i x q
      rw [CTP_y q, CTP_n q0]
      omega
    · rw [CTP_n q]
      omega
theorem NB_row {n : Nat} {C : Nat → Nat} {P : Nat → Nat → Nat} {l : Nat} : ∀ i : Nat, i ≤ 64 → NB n C P (64 * l + i) = NB n C P (64 * l) + CTP (NST n C P l) i := by
  intro i
  induction i with
  | zero => intro _; exact (Int.add_zero _).symm
  | succ i ih =>
    intro h
    have e := ih (by omega)
    by_cases q : NST n C P l i
    · rw [CTP_y q, show NB n C P (64 * l + (i + 1)) = NB n C P (64 * l + i) + 1 from CTP_y ((IsN_at (by omega)).mpr q), e]
      omega
    · rw [CTP_n q, show NB n C P (64 * l + (i + 1)) = NB n C P (64 * l + i) from CTP_n (fun z => q ((IsN_at (by omega)).mp z)), e]
theorem NST_root {n : Nat} {C L : Nat → Nat} {P : Nat → Nat → Nat} (G : GRD n C L P) {i : Nat} (h : NST n C P 0 i) : i = 0 := by
  rcases h.2.2 with e | e
  · exact e
  · exact absurd ⟨Nat.zero_le _, G.2.2.2.2.2.2.2 _ _⟩ e
theorem NB_lev {n : Nat} {C L : Nat → Nat} {P : Nat → Nat → Nat} (G : GRD n C L P) : ∀ l : Nat, NB n C P (64 * l) ≤ 32 * (l : Int) ∧ (1 ≤ l → NB n C P (64 * l) ≤ 32 * (l : Int) - 31) := by
  intro l
  induction l with
  | zero => exact ⟨Int.le_refl _, fun h => by omega⟩
  | succ l ih =>
    have e := NB_row (n := n) (C := C) (P := P) (l := l) 64 (Nat.le_refl _)
    rw [show 64 * (l + 1) = 64 * l + 64 by omega, e]
    by_cases z : l = 0
    · subst z
      have k : CTP (NST n C P 0) 64 = CTP (NST n C P 0) 1 := CTP_st 64 (by omega) (fun w p _ r => by have := NST_root G r; omega)
      have k2 := CTP_rng (NST n C P 0) 1
      have k3 : NB n C P (64 * 0) = 0 := rfl
      omega
    · have k := (half (fun i h => NST_adj G (show 1 ≤ l by omega) h) 64).1
      have k2 := ih.2 (by omega)
      omega
theorem NB_le {n : Nat} {C L : Nat → Nat} {P : Nat → Nat → Nat} (G : GRD n C L P) {l i : Nat} (hl : l ≤ 7) (hi : i ≤ 64) : 0 ≤ NB n C P (64 * l + i) ∧ NB n C P (64 * l + i) ≤ 225 := by
  have e := NB_row (n := n) (C := C) (P := P) (l := l) 64 (Nat.le_refl _)
  have m : NB n C P (64 * l + i) ≤ NB n C P (64 * l + 64) := CTP_le _ (by omega)
  have m2 : NB n C P (64 * l + 64) ≤ NB n C P (64 * 8) := CTP_le _ (by omega)
  have k := (NB_lev G 8).2 (by omega)
  exact ⟨(CTP_rng _ _).1, by omega⟩
/-! each leaf ends once -/
theorem LB_all {C : Nat → Nat} : ∀ n : Nat, n ≤ 64 → (∀ i, i < n → C i ≤ 7) → LB n C 512 = (n : Int) := by
  intro n
  induction n with
  | zero =>
    intro _ _
    exact CTP_st (P := IsL 0 C) (a := 0) 512 (by omega) (fun w _ _ r => by have := r.1; omega)
  | succ n ih =>
    intro h c
    have e := ih (by omega) (fun i hi => c i (by omega))
    have k : LB (n + 1) C 512 = CTP (fun w => IsL n C w ∨ w = 64 * C n + n) 512 := by
      refine CTP_congr 512 (fun w hw => ⟨fun q => ?_, fun q => ?_⟩)
      · by_cases x : w % 64 = n
        · refine Or.inr ?_
          have := q.2
          rw [x] at this
          omega
        · exact Or.inl ⟨by have := q.1; omega, q.2⟩
      · rcases q with q | q
        · exact ⟨by have := q.1; omega, q.2⟩
        · have a1 : w % 64 = n := by omega
          have a2 : w / 64 = C n := by omega
          exact ⟨by omega, by rw [a1, a2]⟩
    have c1 := c n (by omega)
    rw [k, CTP_one (P := IsL n C) (a := 64 * C n + n) (fun z => by have := z.1; omega) 512, if_pos (show 64 * C n + n < 512 by omega)]
    have e2 : CTP (IsL n C) 512 = (n : Int) := e
    omega
theorem EB_le {n : Nat} {C L : Nat → Nat} {P : Nat → Nat → Nat} (G : GRD n C L P) {w : Nat} (hw : w ≤ 512) : 0 ≤ EB n C P w ∧ EB n C P w ≤ 289 := by
  refine ⟨(CTP_rng _ _).1, ?_⟩
  have h1 : EB n C P w ≤ EB n C P 512 := CTP_le _ hw
  have h2 : EB n C P 512 = CTP (fun v => IsL n C v ∨ IsN n C P (v + 64)) 512 := by
    refine CTP_congr 512 (fun v _ => ⟨fun q => ?_, fun q => ?_⟩)
    · rcases q.2 with z | z
      · exact Or.inl ⟨q.1, z⟩
      · refine Or.inr ?_
        unfold IsN
        rw [show (v + 64) / 64 = v / 64 + 1 by omega, show (v + 64) % 64 = v % 64 by omega]
        exact z
    · rcases q with z | z
      · exact IsL_E z
      · unfold IsN at z
        rw [show (v + 64) / 64 = v / 64 + 1 by omega, show (v + 64) % 64 = v % 64 by omega] at z
        exact ⟨z.1, Or.inr z⟩
  have h3 := CTP_or (P := IsL n C) (R := fun v => IsN n C P (v + 64)) 512
  have h4 : CTP (IsL n C) 512 = (n : Int) := LB_all n G.1 (fun i hi => (G.2.1 i hi).2.2.2)
  have sh : ∀ v : Nat, CTP (fun v => IsN n C P (v + 64)) v = NB n C P (v + 64) - NB n C P 64 := by
    intro v
    induction v with
    | zero => rw [show NB n C P (0 + 64) = NB n C P 64 from rfl]; show (0 : Int) = _; omega
    | succ v ih =>
      by_cases q : IsN n C P (v + 64)
      · rw [CTP_y (P := fun v => IsN n C P (v + 64)) q, ih, show NB n C P (v + 1 + 64) = NB n C P (v + 64) + 1 from by rw [show v + 1 + 64 = (v + 64) + 1 by omega]; exact CTP_y q]
        omega
      · rw [CTP_n (P := fun v => IsN n C P (v + 64)) q, ih, show NB n C P (v + 1 + 64) = NB n C P (v + 64) from by rw [show v + 1 + 64 = (v + 64) + 1 by omega]; exact CTP_n q]
  have h5 := sh 512
  have h6 : NB n C P (512 + 64) = NB n C P 512 := CTP_st _ (by omega) (fun v p q r => by
    have a := r.1
    have b := r.2.1
    have c := (G.2.1 _ a).2.2.2
    omega)
  have h7 := NB_le G (l := 7) (i := 64) (by omega) (by omega)
  have h8 : NB n C P (64 * 7 + 64) = NB n C P 512 := rfl
  have h9 : 0 ≤ NB n C P 64 := (CTP_rng _ _).1
  have g := G.1
  omega
/-! the grid of sorted keys -/
theorem cl_up {x t l : Nat} (h : PX x t * 2 ^ (64 - 8 * t) = x) (htl : t ≤ l) : PX x l * 2 ^ (64 - 8 * l) = x := by
  have d : 2 ^ (64 - 8 * l) ∣ 2 ^ (64 - 8 * t) := Nat.pow_dvd_pow 2 (by omega)
  have d2 : 2 ^ (64 - 8 * t) ∣ x := ⟨PX x t, by rw [Nat.mul_comm]; exact h.symm⟩
  exact Nat.div_mul_cancel (Nat.dvd_trans d d2)
theorem KLT_ub {a b : Int64} {n m : Int32} (h : KLT a n b m) : ub a ≤ ub b := by
  rcases h with h | ⟨h, _⟩
  · omega
  · rw [h]; exact Nat.le_refl _
theorem SRT_ub {f : Nat → Int64} {g : Nat → Int32} {c : Int} (h : SRT f g c) {i j : Nat} (hij : i ≤ j) (hj : (j : Int) < c) : ub (f i) ≤ ub (f j) := by
  by_cases e : i = j
  · rw [e]; exact Nat.le_refl _
  · exact KLT_ub (h.1 i j (by omega) hj)
/-- a key between two that have l bytes alike has l bytes -/
theorem SRT_len {f : Nat → Int64} {g : Nat → Int32} {c : Int} (h : SRT f g c) (hc : CLN f g c) {l i k : Nat} (hik : i < k) (hk : (k : Int) < c) (hl : l ≤ (g i).toInt.toNat) (he : PX (ub (f i)) l = PX (ub (f k)) l) : l < (g k).toInt.toNat := by
  apply Classical.byContradiction
  intro hn
  have c1 := cl_up (hc k hk) (show (g k).toInt.toNat ≤ l by omega)
  rw [← he] at c1
  have c2 := PX_mul (ub (f i)) l
  rcases h.1 i k hik hk with q | ⟨q, q2⟩
  · omega
  · have r := h.2 k hk
    omega
theorem GRD_of {f : Nat → Int64} {g : Nat → Int32} {c : Int} (h : SRT f g c) (hc : CLN f g c) (h64 : c ≤ 64) : GRD c.toNat (COM f g c) (fun i => (g i).toInt.toNat) (fun l i => PX (ub (f i)) l) := by
  have nbr : ∀ l i : Nat, (i : Int) < c → 1 ≤ l → l ≤ COM f g c i → (1 ≤ i ∧ l ≤ (g (i - 1)).toInt.toNat ∧ PX (ub (f (i - 1))) l = PX (ub (f i)) l) ∨ (((i + 1 : Nat) : Int) < c ∧ l ≤ (g (i + 1)).toInt.toNat ∧ PX (ub (f (i + 1))) l = PX (ub (f i)) l) := by
    intro l i hi h1 hC
    have use : ∀ j : Nat, (j : Int) < c → l ≤ ALR f g i j → l ≤ (g j).toInt.toNat ∧ PX (ub (f j)) l = PX (ub (f i)) l := by
      intro j hj hA
      have s := ALR_spec f g i j
      have b := h.2 i hi
      refine ⟨by omega, (PX_dn hA (by omega) s.2.1).symm⟩
    unfold COM at hC
    by_cases z : i = 0
    · rw [if_pos z] at hC
      by_cases y : ((i + 1 : Nat) : Int) < c
      · rw [if_pos y] at hC
        exact Or.inr ⟨y, use (i + 1) y (by omega)⟩
      · rw [if_neg y] at hC
        omega
    · rw [if_neg z] at hC
      by_cases x : l ≤ ALR f g i (i - 1)
      · exact Or.inl ⟨by omega, use (i - 1) (by omega) x⟩
      · by_cases y : ((i + 1 : Nat) : Int) < c
        · rw [if_pos y] at hC
          exact Or.inr ⟨y, use (i + 1) y (by omega)⟩
        · rw [if_neg y] at hC
          omega
  have fst : ∀ l i j : Nat, i < j → (j : Int) < c → l = (g j).toInt.toNat → l ≤ (g i).toInt.toNat → PX (ub (f i)) l ≠ PX (ub (f j)) l := by
    intro l i j hij hj hl hli he
    have := SRT_len h hc hij hj hli he
    omega
  have run : ∀ l i j : Nat, l ≤ 8 → i < j → (j : Int) < c → l ≤ (g i).toInt.toNat → l ≤ (g j).toInt.toNat → PX (ub (f i)) l = PX (ub (f j)) l → ∀ k, i ≤ k → k ≤ j → l ≤ COM f g c k ∧ PX (ub (f k)) l = PX (ub (f i)) l := by
    intro l i j h8 hij hj hli hlj he
    have same : ∀ k, i ≤ k → k ≤ j → PX (ub (f k)) l = PX (ub (f i)) l ∧ l ≤ (g k).toInt.toNat := by
      intro k k1 k2
      have a := PX_le l (SRT_ub h k1 (by omega))
      have b := PX_le l (SRT_ub h k2 hj)
      refine ⟨by omega, ?_⟩
      by_cases e : i = k
      · rw [← e]; exact hli
      · have := SRT_len h hc (show i < k by omega) (by omega) hli (by omega)
        omega
    have up : ∀ k, i ≤ k → k + 1 ≤ j → l ≤ ALR f g k (k + 1) := by
      intro k k1 k2
      have a := same k k1 (by omega)
      have b := same (k + 1) (by omega) k2
      exact (ALR_spec f g k (k + 1)).2.2 l (by omega) (by rw [a.1, b.1])
    intro k k1 k2
    refine ⟨?_, (same k k1 k2).1⟩
    by_cases e : k = j
    · have q := up (k - 1) (by omega) (by omega)
      have q2 := COM_dn (f := f) (g := g) (c := c) (i := k - 1)
      rw [show k - 1 + 1 = k by omega] at q q2
      omega
    · have q := up k k1 (by omega)
      have q2 := COM_up (f := f) (g := g) (c := c) (i := k) (by omega)
      omega
  refine ⟨by omega, fun i hi => ?_, fun l i j hl he => PX_dn (show l ≤ l + 1 by omega) (by omega) he, fun l i j hij hj => PX_le l (SRT_ub h hij (by omega)), fun l i j h8 hij hj a b e => run l i j h8 hij (by omega) a b e, fun l i hi h1 hC => ?_, fun l i j hij hj hl hli => fst l i j hij (by omega) hl hli, fun i j => ?_⟩
  · have b := h.2 i (by omega)
    have c1 := COM_le f g c i
    refine ⟨c1, by show 1 ≤ (g i).toInt.toNat; omega, by show (g i).toInt.toNat ≤ 8; omega, ?_⟩
    apply Classical.byContradiction
    intro hn
    have e8 : (g i).toInt = 8 := by omega
    have cont : ∀ x y : Nat, x < y → (y : Int) < c → 8 ≤ (g x).toInt.toNat → 8 ≤ (g y).toInt.toNat → PX (ub (f x)) 8 = PX (ub (f y)) 8 → False := by
      intro x y hxy hy a b e
      have bx := h.2 x (by omega)
      have bz := h.2 y hy
      rw [PX_8, PX_8] at e
      rcases h.1 x y hxy hy with q | ⟨_, q⟩
      · omega
      · omega
    rcases nbr 8 i (by omega) (by omega) (by omega) with ⟨n1, n2, n3⟩ | ⟨n1, n2, n3⟩
    · exact cont (i - 1) i (by omega) (by omega) n2 (by omega) n3
    · exact cont i (i + 1) (by omega) n1 (by omega) n2 n3.symm
  · rcases nbr l i (by omega) h1 hC with ⟨n1, n2, n3⟩ | ⟨n1, n2, n3⟩
    · exact Or.inl ⟨n1, n2, n3⟩
    · exact Or.inr ⟨by omega, n2, n3⟩
  · show PX (ub (f i)) 0 = PX (ub (f j)) 0
    rw [PX_0 (ub_lt _), PX_0 (ub_lt _)]
/-! where a branch begins -/
theorem EST_iff {n : Nat} {C L : Nat → Nat} {P : Nat → Nat → Nat} (G : GRD n C L P) {l s i : Nat} (hs : NST n C P l s) (hg : ∀ k, s ≤ k → k ≤ i → l ≤ C k ∧ P l k = P l s) (hsi : s ≤ i) (hin : i < n) : EST n C P l i ↔ (L i = l ∨ i = s ∨ L (i - 1) = l ∨ P (l + 1) (i - 1) ≠ P (l + 1) i) := by
  obtain ⟨_, a, dn, _, run, _, _, _⟩ := G
  have ai := a i hin
  have gi := (hg i hsi (Nat.le_refl _)).1
  constructor
  · intro h
    apply Classical.byContradiction
    intro hn
    have n1 : ¬ L i = l := fun z => hn (Or.inl z)
    have n2 : ¬ i = s := fun z => hn (Or.inr (Or.inl z))
    have n3 : ¬ L (i - 1) = l := fun z => hn (Or.inr (Or.inr (Or.inl z)))
    have n4 : P (l + 1) (i - 1) = P (l + 1) i := Classical.byContradiction (fun z => hn (Or.inr (Or.inr (Or.inr z))))
    have gp := (hg (i - 1) (by omega) (by omega)).1
    have ap := a (i - 1) (by omega)
    have r1 := (run (l + 1) (i - 1) i (by omega) (by omega) hin (by omega) (by omega) n4 (i - 1) (Nat.le_refl _) (by omega)).1
    have r2 := (run (l + 1) (i - 1) i (by omega) (by omega) hin (by omega) (by omega) n4 i (by omega) (Nat.le_refl _)).1
    rcases h.2 with e | e
    · omega
    · rcases e.2.2 with z | z
      · omega
      · exact z ⟨r1, n4⟩
  · intro h
    refine ⟨hin, ?_⟩
    by_cases e : C i = l
    · exact Or.inl e
    · refine Or.inr ⟨hin, by omega, ?_⟩
      by_cases z : i = 0
      · exact Or.inl z
      · refine Or.inr (fun q => ?_)
        rcases h with h | h | h | h
        · omega
        · subst h
          rcases hs.2.2 with y | y
          · exact z y
          · exact y ⟨by omega, dn l (i - 1) i (by omega) q.2⟩
        · have ap := a (i - 1) (by omega)
          omega
        · exact h q.2
theorem END_first {n : Nat} {C L : Nat → Nat} {P : Nat → Nat → Nat} (G : GRD n C L P) {l s i : Nat} (hg : ∀ k, s ≤ k → k ≤ i → l ≤ C k ∧ P l k = P l s) (hsi : s ≤ i) (hin : i < n) (hL : L i = l) : i = s := by
  by_cases e : i = s
  · exact e
  · have as := G.2.1 s (by omega)
    have gs := (hg s (Nat.le_refl _) hsi).1
    exact absurd (hg i hsi (Nat.le_refl _)).2.symm (G.2.2.2.2.2.2.1 l s i (by omega) hin hL.symm (by omega))
/-! the nodes, as they are found -/
def NOD (n : Nat) (C : Nat → Nat) (P : Nat → Nat → Nat) (lv lf ls : Nat → Int32) (l i : Nat) : Prop := ∀ w x : Nat, w < 64 * l + i → IsN n C P w → (x : Int) = NB n C P w → (lv x).toInt = ((w / 64 : Nat) : Int) ∧ (lf x).toInt = ((w % 64 : Nat) : Int) ∧ ∃ e : Nat, (ls x).toInt = (e : Int) - ((w % 64 : Nat) : Int) ∧ GRQ n C P (w / 64) (w % 64) e (if w / 64 = l then i else n) ∧ (w / 64 = l → e ≤ i)
theorem NOD_skip {n : Nat} {C : Nat → Nat} {P : Nat → Nat → Nat} {lv lf ls : Nat → Int32} {l i : Nat} (h : NOD n C P lv lf ls l i) (hi : i < 64) (hc : C i < l) : NOD n C P lv lf ls l (i + 1) := by
  intro w x hw hN hx
  by_cases e : w = 64 * l + i
  · exfalso
    rw [e, IsN_at hi] at hN
    have := hN.2.1
    omega
  · obtain ⟨a, b, g, g1, g2, g3⟩ := h w x (by omega) hN hx
    refine ⟨a, b, g, g1, ?_, fun z => by have := g3 z; omega⟩
    by_cases z : w / 64 = l
    · rw [if_pos z] at g2 ⊢
      refine ⟨g2.1, g2.2.1, g2.2.2.1, fun q r => ?_⟩
      by_cases y : g < i
      · exact g2.2.2.2 y r
      · have k : g = i := by omega
        rw [k, z] at r
        omega
    · rw [if_neg z] at g2 ⊢
      exact g2
theorem NOD_new {n : Nat} {C : Nat → Nat} {P : Nat → Nat → Nat} {lv lf ls lv2 lf2 ls2 : Nat → Int32} {l i m : Nat} (h : NOD n C P lv lf ls l i) (hi : i < 64) (hs : NST n C P l i) (hm : (m : Int) = NB n C P (64 * l + i)) (old : ∀ x : Nat, x < m → lv2 x = lv x ∧ lf2 x = lf x ∧ ls2 x = ls x) (e1 : (lv2 m).toInt = (l : Int)) (e2 : (lf2 m).toInt = (i : Int)) (e3 : (ls2 m).toInt = 1) : NOD n C P lv2 lf2 ls2 l (i + 1) := by
  intro w x hw hN hx
  by_cases e : w = 64 * l + i
  · have ex : x = m := by rw [e] at hx; omega
    rw [e, ex, gd1 l hi, gd2 l hi]
    refine ⟨e1, e2, i + 1, by rw [e3]; omega, ?_, fun _ => Nat.le_refl _⟩
    rw [if_pos rfl]
    refine ⟨by omega, hs.1, fun k k1 k2 => ?_, fun q => by omega⟩
    rw [show k = i by omega]
    exact ⟨hs.2.1, rfl⟩
  · have lt : NB n C P w < NB n C P (64 * l + i) := CTP_lt (by omega) hN
    obtain ⟨o1, o2, o3⟩ := old x (by omega)
    obtain ⟨a, b, g, g1, g2, g3⟩ := h w x (by omega) hN hx
    rw [o1, o2, o3]
    refine ⟨a, b, g, g1, ?_, fun z => by have := g3 z; omega⟩
    by_cases z : w / 64 = l
    · rw [if_pos z] at g2 ⊢
      refine ⟨g2.1, g2.2.1, g2.2.2.1, fun q r => ?_⟩
      by_cases y : g < i
      · exact g2.2.2.2 y r
      · have k : g = i := by omega
        have g4 := g2.1
        have u := g2.2.2.1 (i - 1) (by omega) (by omega)
        rw [k] at r
        rw [z] at r u
        rcases hs.2.2 with t | t
        · omega
        · exact t ⟨u.1, by rw [u.2, r.2]⟩
    · rw [if_neg z] at g2 ⊢
      exact g2
theorem NOD_old {n : Nat} {C : Nat → Nat} {P : Nat → Nat → Nat} {lv lf ls ls2 : Nat → Int32} {l i m : Nat} (h : NOD n C P lv lf ls l i) (h64 : n ≤ 64) (hin : i < n) (hn : ¬ NST n C P l i) (hc : l ≤ C i) (hm : (m : Int) + 1 = NB n C P (64 * l + i)) (old : ∀ x : Nat, x ≠ m → ls2 x = ls x) (e3 : (ls2 m).toInt = (ls m).toInt + 1) : NOD n C P lv lf ls2 l (i + 1) := by
  have q0 : ¬ i = 0 := fun z => hn ⟨hin, hc, Or.inl z⟩
  have q : l ≤ C (i - 1) ∧ P l (i - 1) = P l i := Classical.byContradiction (fun z => hn ⟨hin, hc, Or.inr z⟩)
  obtain ⟨s, s1, s2, s3, s4⟩ := GRP_st (P := P) h64 (i - 1) (by omega) q.1
  rw [show 64 * l + (i - 1) + 1 = 64 * l + i by omega] at s3
  intro w x hw hN hx
  have ne : w ≠ 64 * l + i := by
    intro z
    rw [z, IsN_at (by omega)] at hN
    exact hn hN
  obtain ⟨a, b, g, g1, g2, g3⟩ := h w x (by omega) hN hx
  by_cases e : w = 64 * l + s
  · have ex : x = m := by rw [e] at hx; omega
    have w1 : w / 64 = l := by omega
    have w2 : w % 64 = s := by omega
    rw [w1] at a g2 g3
    rw [w2] at b g1 g2
    rw [w1, w2]
    rw [if_pos rfl] at g2
    have ge : g = i := by
      have h3 := g3 rfl
      by_cases y : g < i
      · have h1 := g2.1
        exact absurd (s4 g (by omega) (by omega)) (g2.2.2.2 y)
      · omega
    refine ⟨a, b, i + 1, by rw [ex, e3, ← ex, g1, ge]; omega, ?_, fun _ => Nat.le_refl _⟩
    rw [if_pos rfl]
    refine ⟨by omega, hin, fun k k1 k2 => ?_, fun z => by omega⟩
    by_cases y : k = i
    · rw [y]
      exact ⟨hc, by rw [← q.2]; exact (s4 (i - 1) s1 (Nat.le_refl _)).2⟩
    · exact s4 k k1 (by omega)
  · have nx : x ≠ m := by
      intro z
      refine e (CTP_inj (P := IsN n C P) hN ((IsN_at (by omega)).mpr s2) ?_)
      have t : NB n C P w = NB n C P (64 * l + s) := by omega
      exact t
    rw [old x nx]
    refine ⟨a, b, g, g1, ?_, fun z => by have := g3 z; omega⟩
    by_cases z : w / 64 = l
    · rw [if_pos z] at g2 ⊢
      refine ⟨g2.1, g2.2.1, g2.2.2.1, fun r t => ?_⟩
      by_cases y : g < i
      · exact g2.2.2.2 y t
      · have k : g = i := by have := g3 z; omega
        rw [k] at g2
        rw [z] at g2
        have hN2 : NST n C P l (w % 64) := by rw [← z]; exact hN
        have g4 := g2.1
        have one := NST_one hN2 s2 (i := i - 1) (by omega) s1 (fun t t1 t2 => g2.2.2.1 t t1 (by omega)) s4
        omega
    · rw [if_neg z] at g2 ⊢
      exact g2
theorem NB_end {n : Nat} {C : Nat → Nat} {P : Nat → Nat → Nat} (h : n ≤ 64) (l : Nat) : NB n C P (64 * (l + 1)) = NB n C P (64 * l + n) := CTP_st _ (by omega) (fun w p q r => by
  have := r.1
  omega)
theorem EB_end {n : Nat} {C : Nat → Nat} {P : Nat → Nat → Nat} (h : n ≤ 64) (l : Nat) : EB n C P (64 * (l + 1)) = EB n C P (64 * l + n) := CTP_st _ (by omega) (fun w p q r => by
  have := r.1
  omega)
theorem NOD_lev {n : Nat} {C : Nat → Nat} {P : Nat → Nat → Nat} {lv lf ls : Nat → Int32} {l : Nat} (h : NOD n C P lv lf ls l n) : NOD n C P lv lf ls (l + 1) 0 := by
  intro w x hw hN hx
  have b := hN.1
  obtain ⟨a, b, g, g1, g2, g3⟩ := h w x (by omega) hN hx
  refine ⟨a, b, g, g1, ?_, fun z => by omega⟩
  rw [if_neg (show ¬ w / 64 = l + 1 by omega)]
  by_cases z : w / 64 = l
  · rw [if_pos z] at g2
    exact g2
  · rw [if_neg z] at g2
    exact g2
/-! the leaves, read -/
def tn (X : bT1) : Nat := (b0g_count (b1g_owners X)).toInt.toNat
def tC (X : bT1) : Nat → Nat := COM (b0g_bytes (b1g_owners X)) (b0g_lengths (b1g_owners X)) (b0g_count (b1g_owners X)).toInt
def tL (X : bT1) : Nat → Nat := fun i => (b0g_lengths (b1g_owners X) i).toInt.toNat
def tP (X : bT1) : Nat → Nat → Nat := fun l i => PX (ub (b0g_bytes (b1g_owners X) i)) l
theorem tG {X : bT1} (o : LVO X) (j : J1 X) : GRD (tn X) (tC X) (tL X) (tP X) := GRD_of o.2.1 o.2.2.1 (J0g_count (J1g_owners j)).2
theorem tnn {X : bT1} (j : J1 X) : ((tn X : Nat) : Int) = (b0g_count (b1g_owners X)).toInt := by
  have := (J0g_count (J1g_owners j)).1
  unfold tn
  omega
theorem fx_lenAt {X : bT1} (o : LVO X) (j : J1 X) {a : Int32} {i : Nat} {Q : Int32 → Prop} (h0 : a.toInt = (i : Int)) (h1 : i < tn X) (hq : ∀ r : Int32, r.toInt = ((min (tC X i + 1) (tL X i) : Nat) : Int) → Q r) : wp_X1_lengthAt X a Q := by
  have jo := J0g_count (J1g_owners j)
  have t := tnn j
  have e : a.toInt.toNat = i := by omega
  unfold wp_X1_lengthAt
  refine fx_at64 (fun r p => hq r ?_)
  rw [p (by omega) (by omega)]
  have k := (o.1.2.2 i (by omega)).1.2.1
  show (b1g_lengths X a.toInt.toNat).toInt = _
  rw [e]
  exact k
theorem fx_endAt {X : bT1} (o : LVO X) (j : J1 X) {a : Int32} {i : Nat} {Q : Int32 → Prop} (h0 : a.toInt = (i : Int)) (h1 : i < tn X) (hq : ∀ r : Int32, (r = 0 ↔ ¬ tC X i = tL X i) → Q r) : wp_X1_isEnded X a Q := by
  have t := tnn j
  have ei : a.toInt.toNat = i := by omega
  refine fx_isEnded j (fun r _ p => hq r ?_)
  have e := (o.1.2.2 i (by omega)).1.1
  have b := o.2.1.2 i (by omega)
  rw [p (by omega) (by omega)]
  have k : b1g_commons X a.toNatClampNeg = b0g_lengths (b1g_owners X) a.toNatClampNeg ↔ tC X i = tL X i := by
    rw [← Int32.toInt_inj]
    show (b1g_commons X a.toInt.toNat).toInt = (b0g_lengths (b1g_owners X) a.toInt.toNat).toInt ↔ _
    rw [ei, e]
    unfold tC tL
    constructor
    · intro h
      show COM _ _ _ i = (b0g_lengths (b1g_owners X) i).toInt.toNat
      omega
    · intro h
      have h' : COM (b0g_bytes (b1g_owners X)) (b0g_lengths (b1g_owners X)) (b0g_count (b1g_owners X)).toInt i = (b0g_lengths (b1g_owners X) i).toInt.toNat := h
      omega
  rw [k]
